/-! J7_fill_53178 -/
def m_J7_fill_53178 (c0 : Int) (n0 : Nat) (x1 : Int) (σ : Mem) : Mem := fun c i => if c = c0 ∧ 0 ≤ i ∧ i < n0 then x1 else σ c i
def pre_J7_fill_53178 (M : Nat) (c0 : Int) (n0 : Nat) (x1 : Int) (σ : Mem) : Prop := n0 < 2147483648
def inv_J7_fill_53178_5 (M : Nat) (c0 : Int) (n0 : Nat) (x1 : Int) (σ : Mem) (w2 w3 : Int) (τ : Mem) : Prop := w3 = n0 ∧ 0 ≤ w2 ∧ w2 ≤ n0 ∧ τ = m_J7_fill_53178 c0 w2.toNat x1 σ
def mu_J7_fill_53178_5 (c0 : Int) (n0 : Nat) (x1 : Int) (w2 w3 : Int) (τ : Mem) : Nat := (n0 - w2).toNat
def VC_J7_fill_53178_0 (M : Nat) (K5 : Int → Int → Mem → Prop) (post : Mem → Prop) (c0 : Int) (n0 : Nat) (x1 : Int) (σ : Mem) : Prop :=
  K5 0 n0 σ
set_option maxRecDepth 20000 in
set_option maxHeartbeats 4000000 in
theorem seg_J7_fill_53178_0 {G : GG} {X : XX} {post : Mem → Prop} (C : CX G X cJ7_fill_53178 RJ7 4 none 0) {c0 : Int} {n0 : Nat} (hc0 : IsIA G c0 n0) (x1 : Int) (σ : Mem) (vc : VC_J7_fill_53178_0 (gM G) (fun w2 w3 σ => RW G X 4 (QV G X post) 5 [(0, pR c0), (1, pI x1), (2, pI w2), (3, pI w3)] [] σ) post c0 n0 x1 σ) : RW G X 4 (QV G X post) 0 [(0, pR c0), (1, pI x1)] [] σ := by
  unfold VC_J7_fill_53178_0 at vc
  refine w_iconst C dJ7_fill_53178_0 ?_
  refine w_istore_n C [(2, pI 0), (0, pR c0), (1, pI x1)] dJ7_fill_53178_1 (by decide) rfl ?_
  refine w_aload_n C 1 dJ7_fill_53178_2 rfl ?_
  refine w_alen C dJ7_fill_53178_3 hc0 ?_
  refine w_istore_n C [(3, pI n0), (2, pI 0), (0, pR c0), (1, pI x1)] dJ7_fill_53178_4 (by decide) rfl ?_
  exact w_sub _ [2, 3, 1, 0] rfl vc
def VC_J7_fill_53178_5 (M : Nat) (K5 : Int → Int → Mem → Prop) (post : Mem → Prop) (c0 : Int) (n0 : Nat) (x1 : Int) (w2 : Int) (w3 : Int) (σ : Mem) : Prop :=
 (inR w2 ∧ inR w3) ∧ ((w3 ≤ w2 → post σ) ∧ (w2 < w3 → (0 ≤ w2 ∧ w2 < n0) ∧ ∀ s6 : Mem, s6 = up σ c0 w2 x1 → K5 (w2 + 1) w3 s6))
set_option maxRecDepth 20000 in
set_option maxHeartbeats 4000000 in
theorem seg_J7_fill_53178_5 {G : GG} {X : XX} {post : Mem → Prop} (C : CX G X cJ7_fill_53178 RJ7 4 none 0) {c0 : Int} {n0 : Nat} (hc0 : IsIA G c0 n0) (x1 : Int) (w2 : Int) (w3 : Int) (σ : Mem) (vc : VC_J7_fill_53178_5 (gM G) (fun w2 w3 σ => RW G X 4 (QV G X post) 5 [(0, pR c0), (1, pI x1), (2, pI w2), (3, pI w3)] [] σ) post c0 n0 x1 w2 w3 σ) : RW G X 4 (QV G X post) 5 [(0, pR c0), (1, pI x1), (2, pI w2), (3, pI w3)] [] σ := by
  unfold VC_J7_fill_53178_5 at vc
  refine w_iload_n C 2 dJ7_fill_53178_5 rfl ?_
  refine w_iload_n C 3 dJ7_fill_53178_6 rfl ?_
  obtain ⟨⟨sc1, sc2⟩, vc⟩ := vc
  refine w_icmp_ge C 20 dJ7_fill_53178_7 (by decide) sc1 sc2 (fun h3 => ?_) (fun h3 => ?_)
  · have vc := vc.1 h3
    exact w_vreturn C dJ7_fill_53178_20 vc
  · have vc := vc.2 h3
    refine w_aload_n C 0 dJ7_fill_53178_10 rfl ?_
    refine w_iload_n C 2 dJ7_fill_53178_11 rfl ?_
    refine w_iload_n C 1 dJ7_fill_53178_12 rfl ?_
    obtain ⟨⟨sc4, sc5⟩, vc⟩ := vc
    refine w_iast C dJ7_fill_53178_13 hc0 sc4 sc5 ?_
    refine w_mem (fun s6 hs6 => ?_)
    have vc := vc s6 hs6
    refine w_iinc C 2 [(2, pI (w2 + 1)), (0, pR c0), (1, pI x1), (3, pI w3)] dJ7_fill_53178_14 rfl (by decide) rfl ?_
    refine w_goto C 5 dJ7_fill_53178_17 (by decide) ?_
    exact w_sub _ [1, 2, 0, 3] rfl vc
set_option maxHeartbeats 1000000 in
theorem ok_J7_fill_53178_0 {M : Nat} {c0 : Int} {n0 : Nat} {x1 : Int} {σ : Mem} {K5 : Int → Int → Mem → Prop} (h : pre_J7_fill_53178 M c0 n0 x1 σ) (hK5 : ∀ (y2 y3 : Int) (τ' : Mem), inv_J7_fill_53178_5 M c0 n0 x1 σ y2 y3 τ' → K5 y2 y3 τ') : VC_J7_fill_53178_0 M K5 (fun σ' => σ' = m_J7_fill_53178 c0 n0 x1 σ) c0 n0 x1 σ := by
  refine hK5 0 n0 σ ⟨rfl, by omega, by omega, ?_⟩
  funext c i
  simp only [m_J7_fill_53178]
  grind
set_option maxHeartbeats 1000000 in
theorem ok_J7_fill_53178_5 {M : Nat} {c0 : Int} {n0 : Nat} {x1 : Int} {σ : Mem} {w2 w3 : Int} {τ : Mem} {K5 : Int → Int → Mem → Prop} (h : pre_J7_fill_53178 M c0 n0 x1 σ) (hinv : inv_J7_fill_53178_5 M c0 n0 x1 σ w2 w3 τ) (hK5 : ∀ (y2 y3 : Int) (τ' : Mem), inv_J7_fill_53178_5 M c0 n0 x1 σ y2 y3 τ' → mu_J7_fill_53178_5 c0 n0 x1 y2 y3 τ' < mu_J7_fill_53178_5 c0 n0 x1 w2 w3 τ → K5 y2 y3 τ') : VC_J7_fill_53178_5 M K5 (fun σ' => σ' = m_J7_fill_53178 c0 n0 x1 σ) c0 n0 x1 w2 w3 τ := by
  obtain ⟨rfl, h0, h1, rfl⟩ := hinv
  unfold pre_J7_fill_53178 at h
  refine ⟨⟨⟨by omega, by omega⟩, ⟨by omega, by omega⟩⟩, fun g => ?_, fun g => ⟨⟨h0, g⟩, fun s6 e => hK5 _ _ _ ⟨rfl, by omega, by omega, ?_⟩ ?_⟩⟩
  · rw [show w2.toNat = n0 by omega]
  · subst e
    funext c i
    simp only [m_J7_fill_53178, up]
    grind
  · unfold mu_J7_fill_53178_5
    omega
theorem c_J7_fill_53178 {G : GG} (hG : GI G) (l : Launch) (c0 : Int) (n0 : Nat) (x1 : Int) (σ : Mem) (hc0 : IsIA G c0 n0) (h : pre_J7_fill_53178 (gM G) c0 n0 x1 σ) : CtV G l yJ7_fill_53178 cJ7_fill_53178 4 none 0 [pR c0, pI x1] σ (fun σ' => σ' = m_J7_fill_53178 c0 n0 x1 σ) := by
  refine CtV.of hG (by decide) (Nat.le_of_ble_eq_true rfl) (fun X hl C => ?_)
  show RW G X 4 (QV G X _) 0 [(0, pR c0), (1, pI x1)] [] σ
  have key : ∀ n : Nat, (∀ (w2 w3 : Int) (τ : Mem), inv_J7_fill_53178_5 (gM G) c0 n0 x1 σ w2 w3 τ → mu_J7_fill_53178_5 c0 n0 x1 w2 w3 τ < n → RW G X 4 (QV G X (fun σ' => σ' = m_J7_fill_53178 c0 n0 x1 σ)) 5 [(0, pR c0), (1, pI x1), (2, pI w2), (3, pI w3)] [] τ) := by
    intro n
    induction n with
    | zero => exact fun w2 w3 τ _ h0 => absurd h0 (Nat.not_lt_zero _)
    | succ n ih =>
      exact (fun w2 w3 τ hinv h0 => seg_J7_fill_53178_5 C hc0 x1 w2 w3 τ (ok_J7_fill_53178_5 h hinv (fun y2 y3 τ' hi hm => ih y2 y3 τ' hi (Nat.lt_of_lt_of_le hm (Nat.le_of_lt_succ h0)))))
  exact seg_J7_fill_53178_0 C hc0 x1 σ (ok_J7_fill_53178_0 h (fun y2 y3 τ' hi => (key _) y2 y3 τ' hi (Nat.lt_succ_self _)))

/-! X3_hasMachine -/
def P_X3_hasMachine (x1 : Int) (σ : Mem) : Prop := 0 ≤ x1 ∧ x1 < σ 1 0
def pre_X3_hasMachine (M : Nat) (x1 : Int) (σ : Mem) : Prop := SB M σ ∧ inR x1
def VC_X3_hasMachine_0 (M : Nat) (post : Int → Mem → Prop) (x1 : Int) (σ : Mem) : Prop :=
 (inR x1) ∧ ((x1 < 0 → post 0 σ) ∧ (0 ≤ x1 → (inR x1 ∧ inR (σ 1 0)) ∧ (((σ 1 0) ≤ x1 → post 0 σ) ∧ (x1 < (σ 1 0) → post 1 σ))))
set_option maxRecDepth 20000 in
set_option maxHeartbeats 4000000 in
theorem seg_X3_hasMachine_0 {G : GG} {X : XX} {post : Int → Mem → Prop} (C : CX G X cX3_hasMachine RX3 2 (some .boolean) 0)   (x1 : Int) (σ : Mem) (vc : VC_X3_hasMachine_0 (gM G)  post  x1 σ) : RW G X 2 (QI G X post) 0 [(0, pR 1), (1, pI x1)] [] σ := by
  unfold VC_X3_hasMachine_0 at vc
  refine w_iload_n C 1 dX3_hasMachine_0 rfl ?_
  obtain ⟨sc1, vc⟩ := vc
  refine w_if_lt C 16 dX3_hasMachine_1 (by decide) sc1 (fun h2 => ?_) (fun h2 => ?_)
  · have vc := vc.1 h2
    refine w_iconst C dX3_hasMachine_16 ?_
    exact w_zreturn C dX3_hasMachine_17 (Or.inl rfl) vc
  · have vc := vc.2 h2
    refine w_iload_n C 1 dX3_hasMachine_4 rfl ?_
    refine w_aload_n C 0 dX3_hasMachine_5 rfl ?_
    refine w_getI C 0 dX3_hasMachine_6 gf_X3_44 ob_1 rfl rfl ?_
    obtain ⟨⟨sc3, sc4⟩, vc⟩ := vc
    refine w_icmp_ge C 16 dX3_hasMachine_9 (by decide) sc3 sc4 (fun h5 => ?_) (fun h5 => ?_)
    · have vc := vc.1 h5
      refine w_iconst C dX3_hasMachine_16 ?_
      exact w_zreturn C dX3_hasMachine_17 (Or.inl rfl) vc
    · have vc := vc.2 h5
      refine w_iconst C dX3_hasMachine_12 ?_
      refine w_goto C 17 dX3_hasMachine_13 (by decide) ?_
      exact w_zreturn C dX3_hasMachine_17 (Or.inr rfl) vc
set_option maxHeartbeats 1000000 in
theorem ok_X3_hasMachine_0 {M : Nat} {x1 : Int} {σ : Mem} (h : pre_X3_hasMachine M x1 σ) : VC_X3_hasMachine_0 M (fun z σ' => σ' = σ ∧ (P_X3_hasMachine x1 σ ∧ z = 1 ∨ ¬ P_X3_hasMachine x1 σ ∧ z = 0)) x1 σ := by
  obtain ⟨⟨a1, a2, a3, a4, a5, a6⟩, b⟩ := h
  refine ⟨b, fun g => ⟨rfl, Or.inr ⟨fun q => ?_, rfl⟩⟩, fun g => ⟨⟨b, by omega, by omega⟩, fun g2 => ⟨rfl, Or.inr ⟨fun q => ?_, rfl⟩⟩, fun g2 => ⟨rfl, Or.inl ⟨⟨g, g2⟩, rfl⟩⟩⟩⟩
  · have := q.1; omega
  · have := q.2; omega
theorem c_X3_hasMachine {G : GG} (hG : GI G) (l : Launch) (x1 : Int) (σ : Mem) (h : pre_X3_hasMachine (gM G) x1 σ) : CtI G l yX3_hasMachine cX3_hasMachine 2 (some .boolean) 0 [pR 1, pI x1] σ (fun z σ' => σ' = σ ∧ (P_X3_hasMachine x1 σ ∧ z = 1 ∨ ¬ P_X3_hasMachine x1 σ ∧ z = 0)) := by
  refine CtI.of hG (by decide) (Nat.le_of_ble_eq_true rfl) (fun X hl C => ?_)
  show RW G X 2 (QI G X _) 0 [(0, pR 1), (1, pI x1)] [] σ
  exact seg_X3_hasMachine_0 C x1 σ (ok_X3_hasMachine_0 h)

/-! X3_hasJob -/
def P_X3_hasJob (x1 : Int) (σ : Mem) : Prop := 0 ≤ x1 ∧ x1 < σ 1 1
def pre_X3_hasJob (M : Nat) (x1 : Int) (σ : Mem) : Prop := SB M σ ∧ inR x1
def VC_X3_hasJob_0 (M : Nat) (post : Int → Mem → Prop) (x1 : Int) (σ : Mem) : Prop :=
 (inR x1) ∧ ((x1 < 0 → post 0 σ) ∧ (0 ≤ x1 → (inR x1 ∧ inR (σ 1 1)) ∧ (((σ 1 1) ≤ x1 → post 0 σ) ∧ (x1 < (σ 1 1) → post 1 σ))))
set_option maxRecDepth 20000 in
set_option maxHeartbeats 4000000 in
theorem seg_X3_hasJob_0 {G : GG} {X : XX} {post : Int → Mem → Prop} (C : CX G X cX3_hasJob RX3 2 (some .boolean) 0)   (x1 : Int) (σ : Mem) (vc : VC_X3_hasJob_0 (gM G)  post  x1 σ) : RW G X 2 (QI G X post) 0 [(0, pR 1), (1, pI x1)] [] σ := by
  unfold VC_X3_hasJob_0 at vc
  refine w_iload_n C 1 dX3_hasJob_0 rfl ?_
  obtain ⟨sc1, vc⟩ := vc
  refine w_if_lt C 16 dX3_hasJob_1 (by decide) sc1 (fun h2 => ?_) (fun h2 => ?_)
  · have vc := vc.1 h2
    refine w_iconst C dX3_hasJob_16 ?_
    exact w_zreturn C dX3_hasJob_17 (Or.inl rfl) vc
  · have vc := vc.2 h2
    refine w_iload_n C 1 dX3_hasJob_4 rfl ?_
    refine w_aload_n C 0 dX3_hasJob_5 rfl ?_
    refine w_getI C 1 dX3_hasJob_6 gf_X3_9 ob_1 rfl rfl ?_
    obtain ⟨⟨sc3, sc4⟩, vc⟩ := vc
    refine w_icmp_ge C 16 dX3_hasJob_9 (by decide) sc3 sc4 (fun h5 => ?_) (fun h5 => ?_)
    · have vc := vc.1 h5
      refine w_iconst C dX3_hasJob_16 ?_
      exact w_zreturn C dX3_hasJob_17 (Or.inl rfl) vc
    · have vc := vc.2 h5
      refine w_iconst C dX3_hasJob_12 ?_
      refine w_goto C 17 dX3_hasJob_13 (by decide) ?_
      exact w_zreturn C dX3_hasJob_17 (Or.inr rfl) vc
set_option maxHeartbeats 1000000 in
theorem ok_X3_hasJob_0 {M : Nat} {x1 : Int} {σ : Mem} (h : pre_X3_hasJob M x1 σ) : VC_X3_hasJob_0 M (fun z σ' => σ' = σ ∧ (P_X3_hasJob x1 σ ∧ z = 1 ∨ ¬ P_X3_hasJob x1 σ ∧ z = 0)) x1 σ := by
  obtain ⟨⟨a1, a2, a3, a4, a5, a6⟩, b⟩ := h
  refine ⟨b, fun g => ⟨rfl, Or.inr ⟨fun q => ?_, rfl⟩⟩, fun g => ⟨⟨b, by omega, by omega⟩, fun g2 => ⟨rfl, Or.inr ⟨fun q => ?_, rfl⟩⟩, fun g2 => ⟨rfl, Or.inl ⟨⟨g, g2⟩, rfl⟩⟩⟩⟩
  · have := q.1; omega
  · have := q.2; omega
theorem c_X3_hasJob {G : GG} (hG : GI G) (l : Launch) (x1 : Int) (σ : Mem) (h : pre_X3_hasJob (gM G) x1 σ) : CtI G l yX3_hasJob cX3_hasJob 2 (some .boolean) 0 [pR 1, pI x1] σ (fun z σ' => σ' = σ ∧ (P_X3_hasJob x1 σ ∧ z = 1 ∨ ¬ P_X3_hasJob x1 σ ∧ z = 0)) := by
  refine CtI.of hG (by decide) (Nat.le_of_ble_eq_true rfl) (fun X hl C => ?_)
  show RW G X 2 (QI G X _) 0 [(0, pR 1), (1, pI x1)] [] σ
  exact seg_X3_hasJob_0 C x1 σ (ok_X3_hasJob_0 h)

/-! X3_hasStep -/
def P_X3_hasStep (x1 : Int) (σ : Mem) : Prop := 0 ≤ x1 ∧ x1 / 10 < σ 1 1 ∧ x1 % 10 < σ 5 (x1 / 10)
def pre_X3_hasStep (M : Nat) (x1 : Int) (σ : Mem) : Prop := SB M σ ∧ inR x1
def VC_X3_hasStep_0 (M : Nat) (post : Int → Mem → Prop) (x1 : Int) (σ : Mem) : Prop :=
 (inR x1) ∧ ((x1 < 0 → post 0 σ) ∧ (0 ≤ x1 → (0 ≤ x1 ∧ inR x1) ∧ (pre_X3_hasJob M (x1 / 10) σ) ∧ ((P_X3_hasJob (x1 / 10) σ → (0 ≤ x1 ∧ inR x1) ∧ (0 ≤ x1 ∧ inR x1) ∧ (0 ≤ (x1 / 10) ∧ (x1 / 10) < 8) ∧ (inR (x1 % 10) ∧ inR (σ 5 (x1 / 10))) ∧ (((σ 5 (x1 / 10)) ≤ (x1 % 10) → post 0 σ) ∧ ((x1 % 10) < (σ 5 (x1 / 10)) → post 1 σ))) ∧ (¬ P_X3_hasJob (x1 / 10) σ → post 0 σ))))
set_option maxRecDepth 20000 in
set_option maxHeartbeats 4000000 in
theorem seg_X3_hasStep_0 {G : GG} {X : XX} {post : Int → Mem → Prop} (C : CX G X cX3_hasStep RX3 2 (some .boolean) 1)   (x1 : Int) (σ : Mem) (vc : VC_X3_hasStep_0 (gM G)  post  x1 σ) : RW G X 2 (QI G X post) 0 [(0, pR 1), (1, pI x1)] [] σ := by
  unfold VC_X3_hasStep_0 at vc
  refine w_iload_n C 1 dX3_hasStep_0 rfl ?_
  obtain ⟨sc1, vc⟩ := vc
  refine w_if_lt C 35 dX3_hasStep_1 (by decide) sc1 (fun h2 => ?_) (fun h2 => ?_)
  · have vc := vc.1 h2
    refine w_iconst C dX3_hasStep_35 ?_
    exact w_zreturn C dX3_hasStep_36 (Or.inl rfl) vc
  · have vc := vc.2 h2
    refine w_aload_n C 0 dX3_hasStep_4 rfl ?_
    refine w_iload_n C 1 dX3_hasStep_5 rfl ?_
    refine w_bipush C dX3_hasStep_6 (by decide) ?_
    obtain ⟨⟨sc3, sc4⟩, vc⟩ := vc
    refine w_idivN C dX3_hasStep_8 sc3 sc4 ⟨by omega, by omega⟩ (by omega) ?_
    obtain ⟨sc5, vc⟩ := vc
    refine w_callVI C [pI (x1 / 10)] [] rfl dX3_hasStep_9 (c_X3_hasJob C.gi (xL X) (x1 / 10) σ sc5) oc_1 mw_X3_hasJob ml_X3_58 im_X3_hasJob se_X3_hasJob (by decide) (Nat.le_of_ble_eq_true rfl) (fun z σ' hz => ?_)
    obtain ⟨hz2, hz⟩ := hz
    have hz2 := hz2.symm
    subst hz2
    rcases hz with ⟨h6, rfl⟩ | ⟨h6, rfl⟩
    · have vc := vc.1 h6
      refine w_if_eq C 35 dX3_hasStep_12 (by decide) ⟨by omega, by omega⟩ (fun q => absurd q (by decide)) (fun _ => ?_)
      refine w_iload_n C 1 dX3_hasStep_15 rfl ?_
      refine w_bipush C dX3_hasStep_16 (by decide) ?_
      obtain ⟨⟨sc7, sc8⟩, vc⟩ := vc
      refine w_iremN C dX3_hasStep_18 sc7 sc8 ⟨by omega, by omega⟩ (by omega) ?_
      refine w_aload_n C 0 dX3_hasStep_19 rfl ?_
      refine w_getR C dX3_hasStep_20 gf_X3_31 ob_1 rfl ?_
      refine w_iload_n C 1 dX3_hasStep_23 rfl ?_
      refine w_bipush C dX3_hasStep_24 (by decide) ?_
      obtain ⟨⟨sc9, sc10⟩, vc⟩ := vc
      refine w_idivN C dX3_hasStep_26 sc9 sc10 ⟨by omega, by omega⟩ (by omega) ?_
      obtain ⟨⟨sc11, sc12⟩, vc⟩ := vc
      refine w_iald C dX3_hasStep_27 ia_5 sc11 sc12 ?_
      obtain ⟨⟨sc13, sc14⟩, vc⟩ := vc
      refine w_icmp_ge C 35 dX3_hasStep_28 (by decide) sc13 sc14 (fun h15 => ?_) (fun h15 => ?_)
      · have vc := vc.1 h15
        refine w_iconst C dX3_hasStep_35 ?_
        exact w_zreturn C dX3_hasStep_36 (Or.inl rfl) vc
      · have vc := vc.2 h15
        refine w_iconst C dX3_hasStep_31 ?_
        refine w_goto C 36 dX3_hasStep_32 (by decide) ?_
        exact w_zreturn C dX3_hasStep_36 (Or.inr rfl) vc
    · have vc := vc.2 h6
      refine w_if_eq C 35 dX3_hasStep_12 (by decide) ⟨by omega, by omega⟩ (fun _ => ?_) (fun q => absurd q (by decide))
      refine w_iconst C dX3_hasStep_35 ?_
      exact w_zreturn C dX3_hasStep_36 (Or.inl rfl) vc
set_option maxHeartbeats 1000000 in
theorem ok_X3_hasStep_0 {M : Nat} {x1 : Int} {σ : Mem} (h : pre_X3_hasStep M x1 σ) : VC_X3_hasStep_0 M (fun z σ' => σ' = σ ∧ (P_X3_hasStep x1 σ ∧ z = 1 ∨ ¬ P_X3_hasStep x1 σ ∧ z = 0)) x1 σ := by
  have h' := h
  obtain ⟨⟨a1, a2, a3, a4, a5, a6⟩, b⟩ := h'
  have b' := b
  unfold inR at b'
  refine ⟨b, fun g => ⟨rfl, Or.inr ⟨fun q => ?_, rfl⟩⟩, fun g => ⟨⟨g, b⟩, ⟨h.1, by omega, by omega⟩, fun g2 => ?_, fun g2 => ⟨rfl, Or.inr ⟨fun q => g2 ⟨by omega, q.2.1⟩, rfl⟩⟩⟩⟩
  · have := q.1; omega
  · have g3 : x1 / 10 < σ 1 1 := g2.2
    have := a5 (x1 / 10) (by omega) (by omega)
    refine ⟨⟨g, b⟩, ⟨g, b⟩, ⟨by omega, by omega⟩, ⟨⟨by omega, by omega⟩, ⟨by omega, by omega⟩⟩, fun g4 => ⟨rfl, Or.inr ⟨fun q => ?_, rfl⟩⟩, fun g4 => ⟨rfl, Or.inl ⟨⟨g, g3, g4⟩, rfl⟩⟩⟩
    have := q.2.2; omega
theorem c_X3_hasStep {G : GG} (hG : GI G) (l : Launch) (x1 : Int) (σ : Mem) (h : pre_X3_hasStep (gM G) x1 σ) : CtI G l yX3_hasStep cX3_hasStep 2 (some .boolean) 1 [pR 1, pI x1] σ (fun z σ' => σ' = σ ∧ (P_X3_hasStep x1 σ ∧ z = 1 ∨ ¬ P_X3_hasStep x1 σ ∧ z = 0)) := by
  refine CtI.of hG (by decide) (Nat.le_of_ble_eq_true rfl) (fun X hl C => ?_)
  show RW G X 2 (QI G X _) 0 [(0, pR 1), (1, pI x1)] [] σ
  exact seg_X3_hasStep_0 C x1 σ (ok_X3_hasStep_0 h)

/-! X3_hasNeighbours -/
def P_X3_hasNeighbours (x1 x2 : Int) (σ : Mem) : Prop := (0 ≤ x1 ∧ x1 < σ 1 0) ∧ 0 ≤ x2 ∧ x2 < σ 10 x1 - 1
def pre_X3_hasNeighbours (M : Nat) (x1 x2 : Int) (σ : Mem) : Prop := SB M σ ∧ inR x1 ∧ inR x2
def VC_X3_hasNeighbours_0 (M : Nat) (post : Int → Mem → Prop) (x1 : Int) (x2 : Int) (σ : Mem) : Prop :=
 (pre_X3_hasMachine M x1 σ) ∧ ((P_X3_hasMachine x1 σ → (inR x2) ∧ ((x2 < 0 → post 0 σ) ∧ (0 ≤ x2 → (0 ≤ x1 ∧ x1 < M) ∧ (inR x2 ∧ inR ((σ 10 x1) - 1)) ∧ ((((σ 10 x1) - 1) ≤ x2 → post 0 σ) ∧ (x2 < ((σ 10 x1) - 1) → post 1 σ))))) ∧ (¬ P_X3_hasMachine x1 σ → post 0 σ))
set_option maxRecDepth 20000 in
set_option maxHeartbeats 4000000 in
theorem seg_X3_hasNeighbours_0 {G : GG} {X : XX} {post : Int → Mem → Prop} (C : CX G X cX3_hasNeighbours RX3 3 (some .boolean) 1)   (x1 : Int) (x2 : Int) (σ : Mem) (vc : VC_X3_hasNeighbours_0 (gM G)  post  x1 x2 σ) : RW G X 3 (QI G X post) 0 [(0, pR 1), (1, pI x1), (2, pI x2)] [] σ := by
  unfold VC_X3_hasNeighbours_0 at vc
  refine w_aload_n C 0 dX3_hasNeighbours_0 rfl ?_
  refine w_iload_n C 1 dX3_hasNeighbours_1 rfl ?_
  obtain ⟨sc1, vc⟩ := vc
  refine w_callVI C [pI x1] [] rfl dX3_hasNeighbours_2 (c_X3_hasMachine C.gi (xL X) x1 σ sc1) oc_1 mw_X3_hasMachine ml_X3_62 im_X3_hasMachine se_X3_hasMachine (by decide) (Nat.le_of_ble_eq_true rfl) (fun z σ' hz => ?_)
  obtain ⟨hz2, hz⟩ := hz
  have hz2 := hz2.symm
  subst hz2
  rcases hz with ⟨h2, rfl⟩ | ⟨h2, rfl⟩
  · have vc := vc.1 h2
    refine w_if_eq C 28 dX3_hasNeighbours_5 (by decide) ⟨by omega, by omega⟩ (fun q => absurd q (by decide)) (fun _ => ?_)
    refine w_iload_n C 2 dX3_hasNeighbours_8 rfl ?_
    obtain ⟨sc3, vc⟩ := vc
    refine w_if_lt C 28 dX3_hasNeighbours_9 (by decide) sc3 (fun h4 => ?_) (fun h4 => ?_)
    · have vc := vc.1 h4
      refine w_iconst C dX3_hasNeighbours_28 ?_
      exact w_zreturn C dX3_hasNeighbours_29 (Or.inl rfl) vc
    · have vc := vc.2 h4
      refine w_iload_n C 2 dX3_hasNeighbours_12 rfl ?_
      refine w_aload_n C 0 dX3_hasNeighbours_13 rfl ?_
      refine w_getR C dX3_hasNeighbours_14 gf_X3_52 ob_1 rfl ?_
      refine w_iload_n C 1 dX3_hasNeighbours_17 rfl ?_
      obtain ⟨⟨sc5, sc6⟩, vc⟩ := vc
      refine w_iald C dX3_hasNeighbours_18 (ia_10 C.gi) sc5 sc6 ?_
      refine w_iconst C dX3_hasNeighbours_19 ?_
      refine w_isub C dX3_hasNeighbours_20 ?_
      obtain ⟨⟨sc7, sc8⟩, vc⟩ := vc
      refine w_icmp_ge C 28 dX3_hasNeighbours_21 (by decide) sc7 sc8 (fun h9 => ?_) (fun h9 => ?_)
      · have vc := vc.1 h9
        refine w_iconst C dX3_hasNeighbours_28 ?_
        exact w_zreturn C dX3_hasNeighbours_29 (Or.inl rfl) vc
      · have vc := vc.2 h9
        refine w_iconst C dX3_hasNeighbours_24 ?_
        refine w_goto C 29 dX3_hasNeighbours_25 (by decide) ?_
        exact w_zreturn C dX3_hasNeighbours_29 (Or.inr rfl) vc
  · have vc := vc.2 h2
    refine w_if_eq C 28 dX3_hasNeighbours_5 (by decide) ⟨by omega, by omega⟩ (fun _ => ?_) (fun q => absurd q (by decide))
    refine w_iconst C dX3_hasNeighbours_28 ?_
    exact w_zreturn C dX3_hasNeighbours_29 (Or.inl rfl) vc
set_option maxHeartbeats 1000000 in
theorem ok_X3_hasNeighbours_0 {M : Nat} {x1 : Int} {x2 : Int} {σ : Mem} (h : pre_X3_hasNeighbours M x1 x2 σ) : VC_X3_hasNeighbours_0 M (fun z σ' => σ' = σ ∧ (P_X3_hasNeighbours x1 x2 σ ∧ z = 1 ∨ ¬ P_X3_hasNeighbours x1 x2 σ ∧ z = 0)) x1 x2 σ := by
  have h' := h
  obtain ⟨⟨a1, a2, a3, a4, a5, a6⟩, b, b2⟩ := h'
  refine ⟨⟨h.1, b⟩, fun g => ⟨b2, fun g2 => ⟨rfl, Or.inr ⟨fun q => ?_, rfl⟩⟩, fun g2 => ?_⟩, fun g => ⟨rfl, Or.inr ⟨fun q => g q.1, rfl⟩⟩⟩
  · have := q.2.1; omega
  · obtain ⟨g3, g4⟩ := g
    have := a6 x1 g3 (by omega)
    refine ⟨⟨g3, by omega⟩, ⟨b2, by omega, by omega⟩, fun g5 => ⟨rfl, Or.inr ⟨fun q => ?_, rfl⟩⟩, fun g5 => ⟨rfl, Or.inl ⟨⟨⟨g3, g4⟩, g2, g5⟩, rfl⟩⟩⟩
    have := q.2.2; omega
theorem c_X3_hasNeighbours {G : GG} (hG : GI G) (l : Launch) (x1 : Int) (x2 : Int) (σ : Mem) (h : pre_X3_hasNeighbours (gM G) x1 x2 σ) : CtI G l yX3_hasNeighbours cX3_hasNeighbours 3 (some .boolean) 1 [pR 1, pI x1, pI x2] σ (fun z σ' => σ' = σ ∧ (P_X3_hasNeighbours x1 x2 σ ∧ z = 1 ∨ ¬ P_X3_hasNeighbours x1 x2 σ ∧ z = 0)) := by
  refine CtI.of hG (by decide) (Nat.le_of_ble_eq_true rfl) (fun X hl C => ?_)
  show RW G X 3 (QI G X _) 0 [(0, pR 1), (1, pI x1), (2, pI x2)] [] σ
  exact seg_X3_hasNeighbours_0 C x1 x2 σ (ok_X3_hasNeighbours_0 h)

/-! X3_timeOf -/
def f_X3_timeOf (x1 x2 x3 : Int) (σ : Mem) : Int := sumI (fun p => σ 7 (10 * x1 + p)) x2 x3
def pre_X3_timeOf (M : Nat) (x1 x2 x3 : Int) (σ : Mem) : Prop := 0 ≤ x1 ∧ x1 < 8 ∧ 0 ≤ x2 ∧ x2 ≤ 10 ∧ 0 ≤ x3 ∧ x3 ≤ 10
def inv_X3_timeOf_6 (M : Nat) (x1 x2 x3 : Int) (σ : Mem) (w4 w5 : Int) (τ : Mem) : Prop := τ = σ ∧ x2 ≤ w5 ∧ (w5 ≤ x3 ∨ w5 = x2) ∧ w4 = sumI (fun p => σ 7 (10 * x1 + p)) x2 w5
def mu_X3_timeOf_6 (x1 x2 x3 : Int) (w4 w5 : Int) (τ : Mem) : Nat := (x3 - w5).toNat
def VC_X3_timeOf_0 (M : Nat) (K6 : Int → Int → Mem → Prop) (post : Int → Mem → Prop) (x1 : Int) (x2 : Int) (x3 : Int) (σ : Mem) : Prop :=
  K6 0 x2 σ
set_option maxRecDepth 20000 in
set_option maxHeartbeats 4000000 in
theorem seg_X3_timeOf_0 {G : GG} {X : XX} {post : Int → Mem → Prop} (C : CX G X cX3_timeOf RX3 6 (some .int) 0)   (x1 : Int) (x2 : Int) (x3 : Int) (σ : Mem) (vc : VC_X3_timeOf_0 (gM G) (fun w4 w5 σ => RW G X 6 (QI G X post) 6 [(0, pR 1), (1, pI x1), (2, pI x2), (3, pI x3), (4, pI w4), (5, pI w5)] [] σ) post  x1 x2 x3 σ) : RW G X 6 (QI G X post) 0 [(0, pR 1), (1, pI x1), (2, pI x2), (3, pI x3)] [] σ := by
  unfold VC_X3_timeOf_0 at vc
  refine w_iconst C dX3_timeOf_0 ?_
  refine w_istore C [(4, pI 0), (0, pR 1), (1, pI x1), (2, pI x2), (3, pI x3)] dX3_timeOf_1 (by decide) rfl ?_
  refine w_iload_n C 3 dX3_timeOf_3 rfl ?_
  refine w_istore C [(5, pI x2), (4, pI 0), (0, pR 1), (1, pI x1), (2, pI x2), (3, pI x3)] dX3_timeOf_4 (by decide) rfl ?_
  exact w_sub _ [2, 3, 4, 5, 1, 0] rfl vc
def VC_X3_timeOf_6 (M : Nat) (K6 : Int → Int → Mem → Prop) (post : Int → Mem → Prop) (x1 : Int) (x2 : Int) (x3 : Int) (w4 : Int) (w5 : Int) (σ : Mem) : Prop :=
 (inR w5 ∧ inR x3) ∧ ((x3 ≤ w5 → post w4 σ) ∧ (w5 < x3 → (0 ≤ ((10 * x1) + w5) ∧ ((10 * x1) + w5) < 80) ∧ ∀ v6 : Int, v6 = w4 + (σ 7 ((10 * x1) + w5)) → K6 v6 (w5 + 1) σ))
set_option maxRecDepth 20000 in
set_option maxHeartbeats 4000000 in
theorem seg_X3_timeOf_6 {G : GG} {X : XX} {post : Int → Mem → Prop} (C : CX G X cX3_timeOf RX3 6 (some .int) 0)   (x1 : Int) (x2 : Int) (x3 : Int) (w4 : Int) (w5 : Int) (σ : Mem) (vc : VC_X3_timeOf_6 (gM G) (fun w4 w5 σ => RW G X 6 (QI G X post) 6 [(0, pR 1), (1, pI x1), (2, pI x2), (3, pI x3), (4, pI w4), (5, pI w5)] [] σ) post  x1 x2 x3 w4 w5 σ) : RW G X 6 (QI G X post) 6 [(0, pR 1), (1, pI x1), (2, pI x2), (3, pI x3), (4, pI w4), (5, pI w5)] [] σ := by
  unfold VC_X3_timeOf_6 at vc
  refine w_iload C 5 dX3_timeOf_6 rfl ?_
  refine w_iload_n C 3 dX3_timeOf_8 rfl ?_
  obtain ⟨⟨sc1, sc2⟩, vc⟩ := vc
  refine w_icmp_ge C 35 dX3_timeOf_9 (by decide) sc1 sc2 (fun h3 => ?_) (fun h3 => ?_)
  · have vc := vc.1 h3
    refine w_iload C 4 dX3_timeOf_35 rfl ?_
    exact w_ireturn C dX3_timeOf_37 vc
  · have vc := vc.2 h3
    refine w_iload C 4 dX3_timeOf_12 rfl ?_
    refine w_aload_n C 0 dX3_timeOf_14 rfl ?_
    refine w_getR C dX3_timeOf_15 gf_X3_37 ob_1 rfl ?_
    refine w_bipush C dX3_timeOf_18 (by decide) ?_
    refine w_iload_n C 1 dX3_timeOf_20 rfl ?_
    refine w_imul C dX3_timeOf_21 ?_
    refine w_iload C 5 dX3_timeOf_22 rfl ?_
    refine w_iadd C dX3_timeOf_24 ?_
    obtain ⟨⟨sc4, sc5⟩, vc⟩ := vc
    refine w_iald C dX3_timeOf_25 ia_7 sc4 sc5 ?_
    refine w_iadd C dX3_timeOf_26 ?_
    refine w_top (fun v6 hv6 => ?_)
    have vc := vc v6 hv6
    refine w_istore C [(4, pI v6), (0, pR 1), (1, pI x1), (2, pI x2), (3, pI x3), (5, pI w5)] dX3_timeOf_27 (by decide) rfl ?_
    refine w_iinc C 5 [(5, pI (w5 + 1)), (4, pI v6), (0, pR 1), (1, pI x1), (2, pI x2), (3, pI x3)] dX3_timeOf_29 rfl (by decide) rfl ?_
    refine w_goto C 6 dX3_timeOf_32 (by decide) ?_
    exact w_sub _ [2, 3, 4, 5, 1, 0] rfl vc
set_option maxHeartbeats 1000000 in
theorem ok_X3_timeOf_0 {M : Nat} {x1 : Int} {x2 : Int} {x3 : Int} {σ : Mem} {K6 : Int → Int → Mem → Prop} (h : pre_X3_timeOf M x1 x2 x3 σ) (hK6 : ∀ (y4 y5 : Int) (τ' : Mem), inv_X3_timeOf_6 M x1 x2 x3 σ y4 y5 τ' → K6 y4 y5 τ') : VC_X3_timeOf_0 M K6 (fun z σ' => z = f_X3_timeOf x1 x2 x3 σ ∧ σ' = σ) x1 x2 x3 σ := by
  exact hK6 _ _ _ ⟨rfl, by omega, Or.inr rfl, by rw [sumI_0 _ (by omega)]⟩
set_option maxHeartbeats 1000000 in
theorem ok_X3_timeOf_6 {M : Nat} {x1 : Int} {x2 : Int} {x3 : Int} {σ : Mem} {w4 w5 : Int} {τ : Mem} {K6 : Int → Int → Mem → Prop} (h : pre_X3_timeOf M x1 x2 x3 σ) (hinv : inv_X3_timeOf_6 M x1 x2 x3 σ w4 w5 τ) (hK6 : ∀ (y4 y5 : Int) (τ' : Mem), inv_X3_timeOf_6 M x1 x2 x3 σ y4 y5 τ' → mu_X3_timeOf_6 x1 x2 x3 y4 y5 τ' < mu_X3_timeOf_6 x1 x2 x3 w4 w5 τ → K6 y4 y5 τ') : VC_X3_timeOf_6 M K6 (fun z σ' => z = f_X3_timeOf x1 x2 x3 σ ∧ σ' = σ) x1 x2 x3 w4 w5 τ := by
  obtain ⟨rfl, h1, h2, rfl⟩ := hinv
  obtain ⟨a1, a2, a3, a4, a5, a6⟩ := h
  refine ⟨⟨⟨by omega, by omega⟩, ⟨by omega, by omega⟩⟩, fun g => ⟨?_, rfl⟩, fun g => ⟨⟨by omega, by omega⟩, fun v e => hK6 _ _ _ ⟨rfl, by omega, Or.inl (by omega), ?_⟩ ?_⟩⟩
  · unfold f_X3_timeOf
    rcases h2 with h2 | h2
    · rw [show w5 = x3 by omega]
    · rw [h2, sumI_0 _ (by omega), sumI_0 _ (by omega)]
  · rw [e, sumI_s _ h1]
  · unfold mu_X3_timeOf_6
    omega
theorem c_X3_timeOf {G : GG} (hG : GI G) (l : Launch) (x1 : Int) (x2 : Int) (x3 : Int) (σ : Mem) (h : pre_X3_timeOf (gM G) x1 x2 x3 σ) : CtI G l yX3_timeOf cX3_timeOf 6 (some .int) 0 [pR 1, pI x1, pI x2, pI x3] σ (fun z σ' => z = f_X3_timeOf x1 x2 x3 σ ∧ σ' = σ) := by
  refine CtI.of hG (by decide) (Nat.le_of_ble_eq_true rfl) (fun X hl C => ?_)
  show RW G X 6 (QI G X _) 0 [(0, pR 1), (1, pI x1), (2, pI x2), (3, pI x3)] [] σ
  have key : ∀ n : Nat, (∀ (w4 w5 : Int) (τ : Mem), inv_X3_timeOf_6 (gM G) x1 x2 x3 σ w4 w5 τ → mu_X3_timeOf_6 x1 x2 x3 w4 w5 τ < n → RW G X 6 (QI G X (fun z σ' => z = f_X3_timeOf x1 x2 x3 σ ∧ σ' = σ)) 6 [(0, pR 1), (1, pI x1), (2, pI x2), (3, pI x3), (4, pI w4), (5, pI w5)] [] τ) := by
    intro n
    induction n with
    | zero => exact fun w4 w5 τ _ h0 => absurd h0 (Nat.not_lt_zero _)
    | succ n ih =>
      exact (fun w4 w5 τ hinv h0 => seg_X3_timeOf_6 C x1 x2 x3 w4 w5 τ (ok_X3_timeOf_6 h hinv (fun y4 y5 τ' hi hm => ih y4 y5 τ' hi (Nat.lt_of_lt_of_le hm (Nat.le_of_lt_succ h0)))))
  exact seg_X3_timeOf_0 C x1 x2 x3 σ (ok_X3_timeOf_0 h (fun y4 y5 τ' hi => (key _) y4 y5 τ' hi (Nat.lt_succ_self _)))

/-! X3_headOf -/
def f_X3_headOf (x1 : Int) (σ : Mem) : Int := σ 2 (x1 / 10) + f_X3_timeOf (x1 / 10) 0 (x1 % 10) σ
def pre_X3_headOf (M : Nat) (x1 : Int) (σ : Mem) : Prop := 0 ≤ x1 ∧ x1 < 80
def VC_X3_headOf_0 (M : Nat) (post : Int → Mem → Prop) (x1 : Int) (σ : Mem) : Prop :=
 (0 ≤ x1 ∧ inR x1) ∧ ∀ v3 : Int, v3 = x1 / 10 → (0 ≤ v3 ∧ v3 < 8) ∧ (0 ≤ x1 ∧ inR x1) ∧ (pre_X3_timeOf M v3 0 (x1 % 10) σ) ∧ post ((σ 2 v3) + (f_X3_timeOf v3 0 (x1 % 10) σ)) σ
set_option maxRecDepth 20000 in
set_option maxHeartbeats 4000000 in
theorem seg_X3_headOf_0 {G : GG} {X : XX} {post : Int → Mem → Prop} (C : CX G X cX3_headOf RX3 3 (some .int) 1)   (x1 : Int) (σ : Mem) (vc : VC_X3_headOf_0 (gM G)  post  x1 σ) : RW G X 3 (QI G X post) 0 [(0, pR 1), (1, pI x1)] [] σ := by
  unfold VC_X3_headOf_0 at vc
  refine w_iload_n C 1 dX3_headOf_0 rfl ?_
  refine w_bipush C dX3_headOf_1 (by decide) ?_
  obtain ⟨⟨sc1, sc2⟩, vc⟩ := vc
  refine w_idivN C dX3_headOf_3 sc1 sc2 ⟨by omega, by omega⟩ (by omega) ?_
  refine w_top (fun v3 hv3 => ?_)
  have vc := vc v3 hv3
  refine w_istore_n C [(2, pI v3), (0, pR 1), (1, pI x1)] dX3_headOf_4 (by decide) rfl ?_
  refine w_aload_n C 1 dX3_headOf_5 rfl ?_
  refine w_getR C dX3_headOf_6 gf_X3_21 ob_1 rfl ?_
  refine w_iload_n C 0 dX3_headOf_9 rfl ?_
  obtain ⟨⟨sc4, sc5⟩, vc⟩ := vc
  refine w_iald C dX3_headOf_10 ia_2 sc4 sc5 ?_
  refine w_aload_n C 1 dX3_headOf_11 rfl ?_
  refine w_iload_n C 0 dX3_headOf_12 rfl ?_
  refine w_iconst C dX3_headOf_13 ?_
  refine w_iload_n C 2 dX3_headOf_14 rfl ?_
  refine w_bipush C dX3_headOf_15 (by decide) ?_
  obtain ⟨⟨sc6, sc7⟩, vc⟩ := vc
  refine w_iremN C dX3_headOf_17 sc6 sc7 ⟨by omega, by omega⟩ (by omega) ?_
  obtain ⟨sc8, vc⟩ := vc
  refine w_callVI C [pI v3, pI 0, pI (x1 % 10)] [pI (σ 2 v3)] rfl dX3_headOf_18 (c_X3_timeOf C.gi (xL X) v3 0 (x1 % 10) σ sc8) oc_1 mw_X3_timeOf ml_X3_71 im_X3_timeOf se_X3_timeOf (by decide) (Nat.le_of_ble_eq_true rfl) (fun z σ' hz => ?_)
  obtain ⟨rfl, hz2⟩ := hz
  have hz2 := hz2.symm
  subst hz2
  refine w_iadd C dX3_headOf_21 ?_
  exact w_ireturn C dX3_headOf_22 vc
set_option maxHeartbeats 1000000 in
theorem ok_X3_headOf_0 {M : Nat} {x1 : Int} {σ : Mem} (h : pre_X3_headOf M x1 σ) : VC_X3_headOf_0 M (fun z σ' => z = f_X3_headOf x1 σ ∧ σ' = σ) x1 σ := by
  obtain ⟨a1, a2⟩ := h
  exact ⟨⟨a1, by omega, by omega⟩, fun v e => by subst e; exact ⟨⟨by omega, by omega⟩, ⟨a1, by omega, by omega⟩, ⟨by omega, by omega, by omega, by omega, by omega, by omega⟩, rfl, rfl⟩⟩
theorem c_X3_headOf {G : GG} (hG : GI G) (l : Launch) (x1 : Int) (σ : Mem) (h : pre_X3_headOf (gM G) x1 σ) : CtI G l yX3_headOf cX3_headOf 3 (some .int) 1 [pR 1, pI x1] σ (fun z σ' => z = f_X3_headOf x1 σ ∧ σ' = σ) := by
  refine CtI.of hG (by decide) (Nat.le_of_ble_eq_true rfl) (fun X hl C => ?_)
  show RW G X 3 (QI G X _) 0 [(0, pR 1), (1, pI x1)] [] σ
  exact seg_X3_headOf_0 C x1 σ (ok_X3_headOf_0 h)

/-! X3_tailOf -/
def f_X3_tailOf (x1 : Int) (σ : Mem) : Int := f_X3_timeOf (x1 / 10) (x1 % 10 + 1) (σ 5 (x1 / 10)) σ
def pre_X3_tailOf (M : Nat) (x1 : Int) (σ : Mem) : Prop := SB M σ ∧ 0 ≤ x1 ∧ x1 < 80
def VC_X3_tailOf_0 (M : Nat) (post : Int → Mem → Prop) (x1 : Int) (σ : Mem) : Prop :=
 (0 ≤ x1 ∧ inR x1) ∧ ∀ v3 : Int, v3 = x1 / 10 → (0 ≤ x1 ∧ inR x1) ∧ (0 ≤ v3 ∧ v3 < 8) ∧ (pre_X3_timeOf M v3 ((x1 % 10) + 1) (σ 5 v3) σ) ∧ post (f_X3_timeOf v3 ((x1 % 10) + 1) (σ 5 v3) σ) σ
set_option maxRecDepth 20000 in
set_option maxHeartbeats 4000000 in
theorem seg_X3_tailOf_0 {G : GG} {X : XX} {post : Int → Mem → Prop} (C : CX G X cX3_tailOf RX3 3 (some .int) 1)   (x1 : Int) (σ : Mem) (vc : VC_X3_tailOf_0 (gM G)  post  x1 σ) : RW G X 3 (QI G X post) 0 [(0, pR 1), (1, pI x1)] [] σ := by
  unfold VC_X3_tailOf_0 at vc
  refine w_iload_n C 1 dX3_tailOf_0 rfl ?_
  refine w_bipush C dX3_tailOf_1 (by decide) ?_
  obtain ⟨⟨sc1, sc2⟩, vc⟩ := vc
  refine w_idivN C dX3_tailOf_3 sc1 sc2 ⟨by omega, by omega⟩ (by omega) ?_
  refine w_top (fun v3 hv3 => ?_)
  have vc := vc v3 hv3
  refine w_istore_n C [(2, pI v3), (0, pR 1), (1, pI x1)] dX3_tailOf_4 (by decide) rfl ?_
  refine w_aload_n C 1 dX3_tailOf_5 rfl ?_
  refine w_iload_n C 0 dX3_tailOf_6 rfl ?_
  refine w_iload_n C 2 dX3_tailOf_7 rfl ?_
  refine w_bipush C dX3_tailOf_8 (by decide) ?_
  obtain ⟨⟨sc4, sc5⟩, vc⟩ := vc
  refine w_iremN C dX3_tailOf_10 sc4 sc5 ⟨by omega, by omega⟩ (by omega) ?_
  refine w_iconst C dX3_tailOf_11 ?_
  refine w_iadd C dX3_tailOf_12 ?_
  refine w_aload_n C 1 dX3_tailOf_13 rfl ?_
  refine w_getR C dX3_tailOf_14 gf_X3_31 ob_1 rfl ?_
  refine w_iload_n C 0 dX3_tailOf_17 rfl ?_
  obtain ⟨⟨sc6, sc7⟩, vc⟩ := vc
  refine w_iald C dX3_tailOf_18 ia_5 sc6 sc7 ?_
  obtain ⟨sc8, vc⟩ := vc
  refine w_callVI C [pI v3, pI ((x1 % 10) + 1), pI (σ 5 v3)] [] rfl dX3_tailOf_19 (c_X3_timeOf C.gi (xL X) v3 ((x1 % 10) + 1) (σ 5 v3) σ sc8) oc_1 mw_X3_timeOf ml_X3_71 im_X3_timeOf se_X3_timeOf (by decide) (Nat.le_of_ble_eq_true rfl) (fun z σ' hz => ?_)
  obtain ⟨rfl, hz2⟩ := hz
  have hz2 := hz2.symm
  subst hz2
  exact w_ireturn C dX3_tailOf_22 vc
set_option maxHeartbeats 1000000 in
theorem ok_X3_tailOf_0 {M : Nat} {x1 : Int} {σ : Mem} (h : pre_X3_tailOf M x1 σ) : VC_X3_tailOf_0 M (fun z σ' => z = f_X3_tailOf x1 σ ∧ σ' = σ) x1 σ := by
  obtain ⟨⟨a1, a2, a3, a4, a5, a6⟩, b1, b2⟩ := h
  have := a5 (x1 / 10) (by omega) (by omega)
  exact ⟨⟨b1, by omega, by omega⟩, fun v e => by subst e; exact ⟨⟨b1, by omega, by omega⟩, ⟨by omega, by omega⟩, ⟨by omega, by omega, by omega, by omega, by omega, by omega⟩, rfl, rfl⟩⟩
theorem c_X3_tailOf {G : GG} (hG : GI G) (l : Launch) (x1 : Int) (σ : Mem) (h : pre_X3_tailOf (gM G) x1 σ) : CtI G l yX3_tailOf cX3_tailOf 3 (some .int) 1 [pR 1, pI x1] σ (fun z σ' => z = f_X3_tailOf x1 σ ∧ σ' = σ) := by
  refine CtI.of hG (by decide) (Nat.le_of_ble_eq_true rfl) (fun X hl C => ?_)
  show RW G X 3 (QI G X _) 0 [(0, pR 1), (1, pI x1)] [] σ
  exact seg_X3_tailOf_0 C x1 σ (ok_X3_tailOf_0 h)

/-! X3_changeBetween -/
def f_X3_changeBetween (x1 x2 x3 : Int) (σ : Mem) : Int := σ 11 ((x1 * 8 + x2) * 8 + x3)
def pre_X3_changeBetween (M : Nat) (x1 x2 x3 : Int) (σ : Mem) : Prop := 0 ≤ x1 ∧ x1 < M ∧ 0 ≤ x2 ∧ x2 < 8 ∧ 0 ≤ x3 ∧ x3 < 8
def VC_X3_changeBetween_0 (M : Nat) (post : Int → Mem → Prop) (x1 : Int) (x2 : Int) (x3 : Int) (σ : Mem) : Prop :=
 (0 ≤ ((((x1 * 8) + x2) * 8) + x3) ∧ ((((x1 * 8) + x2) * 8) + x3) < ((64 * M : Nat) : Int)) ∧ post (σ 11 ((((x1 * 8) + x2) * 8) + x3)) σ
set_option maxRecDepth 20000 in
set_option maxHeartbeats 4000000 in
theorem seg_X3_changeBetween_0 {G : GG} {X : XX} {post : Int → Mem → Prop} (C : CX G X cX3_changeBetween RX3 4 (some .int) 0)   (x1 : Int) (x2 : Int) (x3 : Int) (σ : Mem) (vc : VC_X3_changeBetween_0 (gM G)  post  x1 x2 x3 σ) : RW G X 4 (QI G X post) 0 [(0, pR 1), (1, pI x1), (2, pI x2), (3, pI x3)] [] σ := by
  unfold VC_X3_changeBetween_0 at vc
  refine w_aload_n C 0 dX3_changeBetween_0 rfl ?_
  refine w_getR C dX3_changeBetween_1 gf_X3_55 ob_1 rfl ?_
  refine w_iload_n C 1 dX3_changeBetween_4 rfl ?_
  refine w_bipush C dX3_changeBetween_5 (by decide) ?_
  refine w_imul C dX3_changeBetween_7 ?_
  refine w_iload_n C 2 dX3_changeBetween_8 rfl ?_
  refine w_iadd C dX3_changeBetween_9 ?_
  refine w_bipush C dX3_changeBetween_10 (by decide) ?_
  refine w_imul C dX3_changeBetween_12 ?_
  refine w_iload_n C 3 dX3_changeBetween_13 rfl ?_
  refine w_iadd C dX3_changeBetween_14 ?_
  obtain ⟨⟨sc1, sc2⟩, vc⟩ := vc
  refine w_iald C dX3_changeBetween_15 (ia_11 C.gi) sc1 sc2 ?_
  exact w_ireturn C dX3_changeBetween_16 vc
set_option maxHeartbeats 1000000 in
theorem ok_X3_changeBetween_0 {M : Nat} {x1 : Int} {x2 : Int} {x3 : Int} {σ : Mem} (h : pre_X3_changeBetween M x1 x2 x3 σ) : VC_X3_changeBetween_0 M (fun z σ' => z = f_X3_changeBetween x1 x2 x3 σ ∧ σ' = σ) x1 x2 x3 σ := by
  obtain ⟨a1, a2, a3, a4, a5, a6⟩ := h
  exact ⟨⟨by omega, by omega⟩, rfl, rfl⟩
theorem c_X3_changeBetween {G : GG} (hG : GI G) (l : Launch) (x1 : Int) (x2 : Int) (x3 : Int) (σ : Mem) (h : pre_X3_changeBetween (gM G) x1 x2 x3 σ) : CtI G l yX3_changeBetween cX3_changeBetween 4 (some .int) 0 [pR 1, pI x1, pI x2, pI x3] σ (fun z σ' => z = f_X3_changeBetween x1 x2 x3 σ ∧ σ' = σ) := by
  refine CtI.of hG (by decide) (Nat.le_of_ble_eq_true rfl) (fun X hl C => ?_)
  show RW G X 4 (QI G X _) 0 [(0, pR 1), (1, pI x1), (2, pI x2), (3, pI x3)] [] σ
  exact seg_X3_changeBetween_0 C x1 x2 x3 σ (ok_X3_changeBetween_0 h)

/-! X3_setChange -/
def m_X3_setChange (x1 x2 x3 x4 : Int) (σ : Mem) : Mem := up σ 11 ((x1 * 8 + x2) * 8 + x3) x4
def pre_X3_setChange (M : Nat) (x1 x2 x3 x4 : Int) (σ : Mem) : Prop := 0 ≤ x1 ∧ x1 < M ∧ 0 ≤ x2 ∧ x2 < 8 ∧ 0 ≤ x3 ∧ x3 < 8
def VC_X3_setChange_0 (M : Nat) (post : Mem → Prop) (x1 : Int) (x2 : Int) (x3 : Int) (x4 : Int) (σ : Mem) : Prop :=
 (0 ≤ ((((x1 * 8) + x2) * 8) + x3) ∧ ((((x1 * 8) + x2) * 8) + x3) < ((64 * M : Nat) : Int)) ∧ ∀ s3 : Mem, s3 = up σ 11 ((((x1 * 8) + x2) * 8) + x3) x4 → post s3
set_option maxRecDepth 20000 in
set_option maxHeartbeats 4000000 in
theorem seg_X3_setChange_0 {G : GG} {X : XX} {post : Mem → Prop} (C : CX G X cX3_setChange RX3 5 none 0)   (x1 : Int) (x2 : Int) (x3 : Int) (x4 : Int) (σ : Mem) (vc : VC_X3_setChange_0 (gM G)  post  x1 x2 x3 x4 σ) : RW G X 5 (QV G X post) 0 [(0, pR 1), (1, pI x1), (2, pI x2), (3, pI x3), (4, pI x4)] [] σ := by
  unfold VC_X3_setChange_0 at vc
  refine w_aload_n C 0 dX3_setChange_0 rfl ?_
  refine w_getR C dX3_setChange_1 gf_X3_55 ob_1 rfl ?_
  refine w_iload_n C 1 dX3_setChange_4 rfl ?_
  refine w_bipush C dX3_setChange_5 (by decide) ?_
  refine w_imul C dX3_setChange_7 ?_
  refine w_iload_n C 2 dX3_setChange_8 rfl ?_
  refine w_iadd C dX3_setChange_9 ?_
  refine w_bipush C dX3_setChange_10 (by decide) ?_
  refine w_imul C dX3_setChange_12 ?_
  refine w_iload_n C 3 dX3_setChange_13 rfl ?_
  refine w_iadd C dX3_setChange_14 ?_
  refine w_iload C 4 dX3_setChange_15 rfl ?_
  obtain ⟨⟨sc1, sc2⟩, vc⟩ := vc
  refine w_iast C dX3_setChange_17 (ia_11 C.gi) sc1 sc2 ?_
  refine w_mem (fun s3 hs3 => ?_)
  have vc := vc s3 hs3
  exact w_vreturn C dX3_setChange_18 vc
set_option maxHeartbeats 1000000 in
theorem ok_X3_setChange_0 {M : Nat} {x1 : Int} {x2 : Int} {x3 : Int} {x4 : Int} {σ : Mem} (h : pre_X3_setChange M x1 x2 x3 x4 σ) : VC_X3_setChange_0 M (fun σ' => σ' = m_X3_setChange x1 x2 x3 x4 σ) x1 x2 x3 x4 σ := by
  obtain ⟨a1, a2, a3, a4, a5, a6⟩ := h
  exact ⟨⟨by omega, by omega⟩, fun s e => e⟩
theorem c_X3_setChange {G : GG} (hG : GI G) (l : Launch) (x1 : Int) (x2 : Int) (x3 : Int) (x4 : Int) (σ : Mem) (h : pre_X3_setChange (gM G) x1 x2 x3 x4 σ) : CtV G l yX3_setChange cX3_setChange 5 none 0 [pR 1, pI x1, pI x2, pI x3, pI x4] σ (fun σ' => σ' = m_X3_setChange x1 x2 x3 x4 σ) := by
  refine CtV.of hG (by decide) (Nat.le_of_ble_eq_true rfl) (fun X hl C => ?_)
  show RW G X 5 (QV G X _) 0 [(0, pR 1), (1, pI x1), (2, pI x2), (3, pI x3), (4, pI x4)] [] σ
  exact seg_X3_setChange_0 C x1 x2 x3 x4 σ (ok_X3_setChange_0 h)

/-! X3_addJob -/
def m_addJob (x1 x2 x3 : Int) (σ : Mem) : Mem := up (up (up (up σ 2 (σ 1 1) x1) 3 (σ 1 1) x2) 4 (σ 1 1) x3) 1 1 (σ 1 1 + 1)
def pre_X3_addJob (M : Nat) (x1 x2 x3 : Int) (σ : Mem) : Prop := 0 ≤ σ 1 1 ∧ σ 1 1 < 8
def post_X3_addJob (M : Nat) (x1 x2 x3 : Int) (σ : Mem) (z : Int) (σ' : Mem) : Prop := z = σ 1 1 ∧ σ' = m_addJob x1 x2 x3 σ
def VC_X3_addJob_0 (M : Nat) (post : Int → Mem → Prop) (x1 : Int) (x2 : Int) (x3 : Int) (σ : Mem) : Prop :=
 (0 ≤ (σ 1 1) ∧ (σ 1 1) < 8) ∧ ∀ s3 : Mem, s3 = up σ 2 (σ 1 1) x1 → (0 ≤ (s3 1 1) ∧ (s3 1 1) < 8) ∧ ∀ s6 : Mem, s6 = up s3 3 (s3 1 1) x2 → (0 ≤ (s6 1 1) ∧ (s6 1 1) < 8) ∧ ∀ s9 : Mem, s9 = up s6 4 (s6 1 1) x3 → ∀ s10 : Mem, s10 = up s9 1 1 ((s9 1 1) + 1) → post (s9 1 1) s10
set_option maxRecDepth 20000 in
set_option maxHeartbeats 4000000 in
theorem seg_X3_addJob_0 {G : GG} {X : XX} {post : Int → Mem → Prop} (C : CX G X cX3_addJob RX3 4 (some .int) 0)   (x1 : Int) (x2 : Int) (x3 : Int) (σ : Mem) (vc : VC_X3_addJob_0 (gM G)  post  x1 x2 x3 σ) : RW G X 4 (QI G X post) 0 [(0, pR 1), (1, pI x1), (2, pI x2), (3, pI x3)] [] σ := by
  unfold VC_X3_addJob_0 at vc
  refine w_aload_n C 0 dX3_addJob_0 rfl ?_
  refine w_getR C dX3_addJob_1 gf_X3_21 ob_1 rfl ?_
  refine w_aload_n C 0 dX3_addJob_4 rfl ?_
  refine w_getI C 1 dX3_addJob_5 gf_X3_9 ob_1 rfl rfl ?_
  refine w_iload_n C 1 dX3_addJob_8 rfl ?_
  obtain ⟨⟨sc1, sc2⟩, vc⟩ := vc
  refine w_iast C dX3_addJob_9 ia_2 sc1 sc2 ?_
  refine w_mem (fun s3 hs3 => ?_)
  have vc := vc s3 hs3
  refine w_aload_n C 0 dX3_addJob_10 rfl ?_
  refine w_getR C dX3_addJob_11 gf_X3_25 ob_1 rfl ?_
  refine w_aload_n C 0 dX3_addJob_14 rfl ?_
  refine w_getI C 1 dX3_addJob_15 gf_X3_9 ob_1 rfl rfl ?_
  refine w_iload_n C 2 dX3_addJob_18 rfl ?_
  obtain ⟨⟨sc4, sc5⟩, vc⟩ := vc
  refine w_iast C dX3_addJob_19 ia_3 sc4 sc5 ?_
  refine w_mem (fun s6 hs6 => ?_)
  have vc := vc s6 hs6
  refine w_aload_n C 0 dX3_addJob_20 rfl ?_
  refine w_getR C dX3_addJob_21 gf_X3_28 ob_1 rfl ?_
  refine w_aload_n C 0 dX3_addJob_24 rfl ?_
  refine w_getI C 1 dX3_addJob_25 gf_X3_9 ob_1 rfl rfl ?_
  refine w_iload_n C 3 dX3_addJob_28 rfl ?_
  obtain ⟨⟨sc7, sc8⟩, vc⟩ := vc
  refine w_iast C dX3_addJob_29 ia_4 sc7 sc8 ?_
  refine w_mem (fun s9 hs9 => ?_)
  have vc := vc s9 hs9
  refine w_aload_n C 0 dX3_addJob_30 rfl ?_
  refine w_dup C dX3_addJob_31 rfl ?_
  refine w_getI C 1 dX3_addJob_32 gf_X3_9 ob_1 rfl rfl ?_
  refine w_dup_x1 C dX3_addJob_35 rfl rfl ?_
  refine w_iconst C dX3_addJob_36 ?_
  refine w_iadd C dX3_addJob_37 ?_
  refine w_putI C 1 dX3_addJob_38 pf_X3_9 ob_1 rfl rfl ?_
  refine w_mem (fun s10 hs10 => ?_)
  have vc := vc s10 hs10
  exact w_ireturn C dX3_addJob_41 vc
set_option maxHeartbeats 1000000 in
theorem ok_X3_addJob_0 {M : Nat} {x1 : Int} {x2 : Int} {x3 : Int} {σ : Mem} (h : pre_X3_addJob M x1 x2 x3 σ) : VC_X3_addJob_0 M (post_X3_addJob M x1 x2 x3 σ) x1 x2 x3 σ := by
  obtain ⟨a1, a2⟩ := h
  refine ⟨⟨a1, a2⟩, fun s3 e3 => ?_⟩
  have q3 : s3 1 1 = σ 1 1 := by rw [e3]; simp [up]
  refine ⟨⟨by omega, by omega⟩, fun s6 e6 => ?_⟩
  have q6 : s6 1 1 = σ 1 1 := by rw [e6]; simp [up, q3]
  refine ⟨⟨by omega, by omega⟩, fun s9 e9 => ?_⟩
  have q9 : s9 1 1 = σ 1 1 := by rw [e9]; simp [up, q6]
  intro s10 e10
  refine ⟨q9, ?_⟩
  rw [e10, q9, e9, q6, e6, q3, e3]
  rfl
theorem c_X3_addJob {G : GG} (hG : GI G) (l : Launch) (x1 : Int) (x2 : Int) (x3 : Int) (σ : Mem) (h : pre_X3_addJob (gM G) x1 x2 x3 σ) : CtI G l yX3_addJob cX3_addJob 4 (some .int) 0 [pR 1, pI x1, pI x2, pI x3] σ (post_X3_addJob (gM G) x1 x2 x3 σ) := by
  refine CtI.of hG (by decide) (Nat.le_of_ble_eq_true rfl) (fun X hl C => ?_)
  show RW G X 4 (QI G X _) 0 [(0, pR 1), (1, pI x1), (2, pI x2), (3, pI x3)] [] σ
  exact seg_X3_addJob_0 C x1 x2 x3 σ (ok_X3_addJob_0 h)

/-! X3_addStep -/
def m_addStep (x1 x2 x3 : Int) (σ : Mem) : Mem := up (up (up (up σ 6 (10 * x1 + σ 5 x1) x2) 7 (10 * x1 + σ 5 x1) x3) 1 2 (σ 1 2 + 1)) 5 x1 (σ 5 x1 + 1)
def pre_X3_addStep (M : Nat) (x1 x2 x3 : Int) (σ : Mem) : Prop := SB M σ ∧ 0 ≤ x1 ∧ x1 < 8
def post_X3_addStep (M : Nat) (x1 x2 x3 : Int) (σ : Mem) (z : Int) (σ' : Mem) : Prop := z = σ 5 x1 + 1 ∧ σ' = m_addStep x1 x2 x3 σ
def VC_X3_addStep_0 (M : Nat) (post : Int → Mem → Prop) (x1 : Int) (x2 : Int) (x3 : Int) (σ : Mem) : Prop :=
 (0 ≤ x1 ∧ x1 < 8) ∧ ∀ v3 : Int, v3 = (10 * x1) + (σ 5 x1) → (0 ≤ v3 ∧ v3 < 80) ∧ ∀ s6 : Mem, s6 = up σ 6 v3 x2 → (0 ≤ v3 ∧ v3 < 80) ∧ ∀ s9 : Mem, s9 = up s6 7 v3 x3 → ∀ s10 : Mem, s10 = up s9 1 2 ((s9 1 2) + 1) → (0 ≤ x1 ∧ x1 < 8) ∧ (0 ≤ x1 ∧ x1 < 8) ∧ ∀ s15 : Mem, s15 = up s10 5 x1 ((s10 5 x1) + 1) → post ((s10 5 x1) + 1) s15
set_option maxRecDepth 20000 in
set_option maxHeartbeats 4000000 in
theorem seg_X3_addStep_0 {G : GG} {X : XX} {post : Int → Mem → Prop} (C : CX G X cX3_addStep RX3 5 (some .int) 0)   (x1 : Int) (x2 : Int) (x3 : Int) (σ : Mem) (vc : VC_X3_addStep_0 (gM G)  post  x1 x2 x3 σ) : RW G X 5 (QI G X post) 0 [(0, pR 1), (1, pI x1), (2, pI x2), (3, pI x3)] [] σ := by
  unfold VC_X3_addStep_0 at vc
  refine w_bipush C dX3_addStep_0 (by decide) ?_
  refine w_iload_n C 1 dX3_addStep_2 rfl ?_
  refine w_imul C dX3_addStep_3 ?_
  refine w_aload_n C 0 dX3_addStep_4 rfl ?_
  refine w_getR C dX3_addStep_5 gf_X3_31 ob_1 rfl ?_
  refine w_iload_n C 1 dX3_addStep_8 rfl ?_
  obtain ⟨⟨sc1, sc2⟩, vc⟩ := vc
  refine w_iald C dX3_addStep_9 ia_5 sc1 sc2 ?_
  refine w_iadd C dX3_addStep_10 ?_
  refine w_top (fun v3 hv3 => ?_)
  have vc := vc v3 hv3
  refine w_istore C [(4, pI v3), (0, pR 1), (1, pI x1), (2, pI x2), (3, pI x3)] dX3_addStep_11 (by decide) rfl ?_
  refine w_aload_n C 1 dX3_addStep_13 rfl ?_
  refine w_getR C dX3_addStep_14 gf_X3_34 ob_1 rfl ?_
  refine w_iload C 0 dX3_addStep_17 rfl ?_
  refine w_iload_n C 3 dX3_addStep_19 rfl ?_
  obtain ⟨⟨sc4, sc5⟩, vc⟩ := vc
  refine w_iast C dX3_addStep_20 ia_6 sc4 sc5 ?_
  refine w_mem (fun s6 hs6 => ?_)
  have vc := vc s6 hs6
  refine w_aload_n C 1 dX3_addStep_21 rfl ?_
  refine w_getR C dX3_addStep_22 gf_X3_37 ob_1 rfl ?_
  refine w_iload C 0 dX3_addStep_25 rfl ?_
  refine w_iload_n C 4 dX3_addStep_27 rfl ?_
  obtain ⟨⟨sc7, sc8⟩, vc⟩ := vc
  refine w_iast C dX3_addStep_28 ia_7 sc7 sc8 ?_
  refine w_mem (fun s9 hs9 => ?_)
  have vc := vc s9 hs9
  refine w_aload_n C 1 dX3_addStep_29 rfl ?_
  refine w_dup C dX3_addStep_30 rfl ?_
  refine w_getI C 2 dX3_addStep_31 gf_X3_15 ob_1 rfl rfl ?_
  refine w_iconst C dX3_addStep_34 ?_
  refine w_iadd C dX3_addStep_35 ?_
  refine w_putI C 2 dX3_addStep_36 pf_X3_15 ob_1 rfl rfl ?_
  refine w_mem (fun s10 hs10 => ?_)
  have vc := vc s10 hs10
  refine w_aload_n C 1 dX3_addStep_39 rfl ?_
  refine w_getR C dX3_addStep_40 gf_X3_31 ob_1 rfl ?_
  refine w_iload_n C 2 dX3_addStep_43 rfl ?_
  refine w_dup2 C dX3_addStep_44 rfl rfl ?_
  obtain ⟨⟨sc11, sc12⟩, vc⟩ := vc
  refine w_iald C dX3_addStep_45 ia_5 sc11 sc12 ?_
  refine w_iconst C dX3_addStep_46 ?_
  refine w_iadd C dX3_addStep_47 ?_
  refine w_dup_x2 C dX3_addStep_48 rfl rfl rfl ?_
  obtain ⟨⟨sc13, sc14⟩, vc⟩ := vc
  refine w_iast C dX3_addStep_49 ia_5 sc13 sc14 ?_
  refine w_mem (fun s15 hs15 => ?_)
  have vc := vc s15 hs15
  exact w_ireturn C dX3_addStep_50 vc
set_option maxHeartbeats 1000000 in
theorem ok_X3_addStep_0 {M : Nat} {x1 : Int} {x2 : Int} {x3 : Int} {σ : Mem} (h : pre_X3_addStep M x1 x2 x3 σ) : VC_X3_addStep_0 M (post_X3_addStep M x1 x2 x3 σ) x1 x2 x3 σ := by
  obtain ⟨⟨a1, a2, a3, a4, a5, a6⟩, b1, b2⟩ := h
  have := a5 x1 b1 b2
  refine ⟨⟨b1, b2⟩, fun v e => ⟨⟨by omega, by omega⟩, fun s6 e6 => ⟨⟨by omega, by omega⟩, fun s9 e9 s10 e10 => ⟨⟨b1, b2⟩, ⟨b1, b2⟩, fun s15 e15 => ?_⟩⟩⟩⟩
  have q9 : s9 1 2 = σ 1 2 := by rw [e9, e6]; simp [up]
  have q10 : s10 5 x1 = σ 5 x1 := by rw [e10, e9, e6]; simp [up]
  refine ⟨by rw [q10], ?_⟩
  rw [e15, q10, e10, q9, e9, e6, e]
  rfl
theorem c_X3_addStep {G : GG} (hG : GI G) (l : Launch) (x1 : Int) (x2 : Int) (x3 : Int) (σ : Mem) (h : pre_X3_addStep (gM G) x1 x2 x3 σ) : CtI G l yX3_addStep cX3_addStep 5 (some .int) 0 [pR 1, pI x1, pI x2, pI x3] σ (post_X3_addStep (gM G) x1 x2 x3 σ) := by
  refine CtI.of hG (by decide) (Nat.le_of_ble_eq_true rfl) (fun X hl C => ?_)
  show RW G X 5 (QI G X _) 0 [(0, pR 1), (1, pI x1), (2, pI x2), (3, pI x3)] [] σ
  exact seg_X3_addStep_0 C x1 x2 x3 σ (ok_X3_addStep_0 h)

/-! X3_exchange -/
def m_X3_exchange (x1 x2 : Int) (σ : Mem) : Mem := up (up σ (57 + x1) x2 (σ (57 + x1) (x2 + 1))) (57 + x1) (x2 + 1) (σ (57 + x1) x2)
def pre_X3_exchange (M : Nat) (x1 x2 : Int) (σ : Mem) : Prop := 0 ≤ x1 ∧ x1 < M ∧ 0 ≤ x2 ∧ x2 < 47
def VC_X3_exchange_0 (M : Nat) (post : Mem → Prop) (x1 : Int) (x2 : Int) (σ : Mem) : Prop :=
 (0 ≤ x1 ∧ x1 < M) ∧ (0 ≤ x2 ∧ x2 < 48) ∧ ∀ v5 : Int, v5 = σ (57 + x1) x2 → (0 ≤ (x2 + 1) ∧ (x2 + 1) < 48) ∧ (0 ≤ x2 ∧ x2 < 48) ∧ ∀ s10 : Mem, s10 = up σ (57 + x1) x2 (σ (57 + x1) (x2 + 1)) → (0 ≤ (x2 + 1) ∧ (x2 + 1) < 48) ∧ ∀ s13 : Mem, s13 = up s10 (57 + x1) (x2 + 1) v5 → post s13
set_option maxRecDepth 20000 in
set_option maxHeartbeats 4000000 in
theorem seg_X3_exchange_0 {G : GG} {X : XX} {post : Mem → Prop} (C : CX G X cX3_exchange RX3 5 none 0)   (x1 : Int) (x2 : Int) (σ : Mem) (vc : VC_X3_exchange_0 (gM G)  post  x1 x2 σ) : RW G X 5 (QV G X post) 0 [(0, pR 1), (1, pI x1), (2, pI x2)] [] σ := by
  unfold VC_X3_exchange_0 at vc
  refine w_aload_n C 0 dX3_exchange_0 rfl ?_
  refine w_getR C dX3_exchange_1 gf_X3_49 ob_1 rfl ?_
  refine w_iload_n C 1 dX3_exchange_4 rfl ?_
  obtain ⟨⟨sc1, sc2⟩, vc⟩ := vc
  refine w_aald C dX3_exchange_5 (ra_9 C.gi) sc1 sc2 ?_
  refine w_astore_n C [(3, pR (57 + x1)), (0, pR 1), (1, pI x1), (2, pI x2)] dX3_exchange_6 (by decide) rfl ?_
  refine w_aload_n C 0 dX3_exchange_7 rfl ?_
  refine w_iload_n C 3 dX3_exchange_8 rfl ?_
  obtain ⟨⟨sc3, sc4⟩, vc⟩ := vc
  refine w_iald C dX3_exchange_9 (ia_row sc1 sc2) sc3 sc4 ?_
  refine w_top (fun v5 hv5 => ?_)
  have vc := vc v5 hv5
  refine w_istore C [(4, pI v5), (3, pR (57 + x1)), (0, pR 1), (1, pI x1), (2, pI x2)] dX3_exchange_10 (by decide) rfl ?_
  refine w_aload_n C 1 dX3_exchange_12 rfl ?_
  refine w_iload_n C 4 dX3_exchange_13 rfl ?_
  refine w_aload_n C 1 dX3_exchange_14 rfl ?_
  refine w_iload_n C 4 dX3_exchange_15 rfl ?_
  refine w_iconst C dX3_exchange_16 ?_
  refine w_iadd C dX3_exchange_17 ?_
  obtain ⟨⟨sc6, sc7⟩, vc⟩ := vc
  refine w_iald C dX3_exchange_18 (ia_row sc1 sc2) sc6 sc7 ?_
  obtain ⟨⟨sc8, sc9⟩, vc⟩ := vc
  refine w_iast C dX3_exchange_19 (ia_row sc1 sc2) sc8 sc9 ?_
  refine w_mem (fun s10 hs10 => ?_)
  have vc := vc s10 hs10
  refine w_aload_n C 1 dX3_exchange_20 rfl ?_
  refine w_iload_n C 4 dX3_exchange_21 rfl ?_
  refine w_iconst C dX3_exchange_22 ?_
  refine w_iadd C dX3_exchange_23 ?_
  refine w_iload C 0 dX3_exchange_24 rfl ?_
  obtain ⟨⟨sc11, sc12⟩, vc⟩ := vc
  refine w_iast C dX3_exchange_26 (ia_row sc1 sc2) sc11 sc12 ?_
  refine w_mem (fun s13 hs13 => ?_)
  have vc := vc s13 hs13
  exact w_vreturn C dX3_exchange_27 vc
set_option maxHeartbeats 1000000 in
theorem ok_X3_exchange_0 {M : Nat} {x1 : Int} {x2 : Int} {σ : Mem} (h : pre_X3_exchange M x1 x2 σ) : VC_X3_exchange_0 M (fun σ' => σ' = m_X3_exchange x1 x2 σ) x1 x2 σ := by
  obtain ⟨a1, a2, a3, a4⟩ := h
  exact ⟨⟨a1, a2⟩, ⟨a3, by omega⟩, fun v e => ⟨⟨by omega, by omega⟩, ⟨a3, by omega⟩, fun s e2 => ⟨⟨by omega, by omega⟩, fun s13 e3 => by rw [e3, e2, e]; rfl⟩⟩⟩
theorem c_X3_exchange {G : GG} (hG : GI G) (l : Launch) (x1 : Int) (x2 : Int) (σ : Mem) (h : pre_X3_exchange (gM G) x1 x2 σ) : CtV G l yX3_exchange cX3_exchange 5 none 0 [pR 1, pI x1, pI x2] σ (fun σ' => σ' = m_X3_exchange x1 x2 σ) := by
  refine CtV.of hG (by decide) (Nat.le_of_ble_eq_true rfl) (fun X hl C => ?_)
  show RW G X 5 (QV G X _) 0 [(0, pR 1), (1, pI x1), (2, pI x2)] [] σ
  exact seg_X3_exchange_0 C x1 x2 σ (ok_X3_exchange_0 h)

/-! X3_insert -/
def m_X3_insert (x1 x2 : Int) (σ : Mem) : Mem := fun c i =>
  if c = 57 + σ 6 x1 then (if i = x2 then x1 else if x2 < i ∧ i ≤ σ 10 (σ 6 x1) then σ c (i - 1) else σ c i)
  else if c = 10 ∧ i = σ 6 x1 then σ c i + 1 else if c = 8 ∧ i = x1 then 1 else if c = 1 ∧ i = 3 then σ 1 3 + 1 else σ c i
def pre_X3_insert (M : Nat) (x1 x2 : Int) (σ : Mem) : Prop := 0 ≤ x1 ∧ x1 < 80 ∧ 0 ≤ σ 6 x1 ∧ σ 6 x1 < M ∧ 0 ≤ x2 ∧ x2 ≤ σ 10 (σ 6 x1) ∧ σ 10 (σ 6 x1) < 48
def inv_X3_insert_23 (M : Nat) (x1 x2 : Int) (σ : Mem) (w3 w5 : Int) (τ : Mem) : Prop := w3 = σ 6 x1 ∧ x2 ≤ w5 ∧ w5 ≤ σ 10 (σ 6 x1) ∧ τ = fun c i => if c = 57 + σ 6 x1 ∧ w5 < i ∧ i ≤ σ 10 (σ 6 x1) then σ c (i - 1) else σ c i
def mu_X3_insert_23 (x1 x2 : Int) (w3 w5 : Int) (τ : Mem) : Nat := (w5 - x2).toNat
def VC_X3_insert_0 (M : Nat) (K23 : Int → Int → Mem → Prop) (post : Mem → Prop) (x1 : Int) (x2 : Int) (σ : Mem) : Prop :=
 (0 ≤ x1 ∧ x1 < 80) ∧ ∀ v3 : Int, v3 = σ 6 x1 → (0 ≤ v3 ∧ v3 < M) ∧ (0 ≤ v3 ∧ v3 < M) ∧ ∀ v8 : Int, v8 = σ 10 v3 → K23 v3 v8 σ
set_option maxRecDepth 20000 in
set_option maxHeartbeats 4000000 in
theorem seg_X3_insert_0 {G : GG} {X : XX} {post : Mem → Prop} (C : CX G X cX3_insert RX3 6 none 0)   (x1 : Int) (x2 : Int) (σ : Mem) (vc : VC_X3_insert_0 (gM G) (fun w3 w5 σ => RW G X 6 (QV G X post) 23 [(0, pR 1), (1, pI x1), (2, pI x2), (3, pI w3), (4, pR (57 + w3)), (5, pI w5)] [] σ) post  x1 x2 σ) : RW G X 6 (QV G X post) 0 [(0, pR 1), (1, pI x1), (2, pI x2)] [] σ := by
  unfold VC_X3_insert_0 at vc
  refine w_aload_n C 0 dX3_insert_0 rfl ?_
  refine w_getR C dX3_insert_1 gf_X3_34 ob_1 rfl ?_
  refine w_iload_n C 1 dX3_insert_4 rfl ?_
  obtain ⟨⟨sc1, sc2⟩, vc⟩ := vc
  refine w_iald C dX3_insert_5 ia_6 sc1 sc2 ?_
  refine w_top (fun v3 hv3 => ?_)
  have vc := vc v3 hv3
  refine w_istore_n C [(3, pI v3), (0, pR 1), (1, pI x1), (2, pI x2)] dX3_insert_6 (by decide) rfl ?_
  refine w_aload_n C 1 dX3_insert_7 rfl ?_
  refine w_getR C dX3_insert_8 gf_X3_49 ob_1 rfl ?_
  refine w_iload_n C 0 dX3_insert_11 rfl ?_
  obtain ⟨⟨sc4, sc5⟩, vc⟩ := vc
  refine w_aald C dX3_insert_12 (ra_9 C.gi) sc4 sc5 ?_
  refine w_astore C [(4, pR (57 + v3)), (3, pI v3), (0, pR 1), (1, pI x1), (2, pI x2)] dX3_insert_13 (by decide) rfl ?_
  refine w_aload_n C 2 dX3_insert_15 rfl ?_
  refine w_getR C dX3_insert_16 gf_X3_52 ob_1 rfl ?_
  refine w_iload_n C 1 dX3_insert_19 rfl ?_
  obtain ⟨⟨sc6, sc7⟩, vc⟩ := vc
  refine w_iald C dX3_insert_20 (ia_10 C.gi) sc6 sc7 ?_
  refine w_top (fun v8 hv8 => ?_)
  have vc := vc v8 hv8
  refine w_istore C [(5, pI v8), (4, pR (57 + v3)), (3, pI v3), (0, pR 1), (1, pI x1), (2, pI x2)] dX3_insert_21 (by decide) rfl ?_
  exact w_sub _ [3, 4, 5, 2, 1, 0] rfl vc
def VC_X3_insert_23 (M : Nat) (K23 : Int → Int → Mem → Prop) (post : Mem → Prop) (x1 : Int) (x2 : Int) (w3 : Int) (w5 : Int) (σ : Mem) : Prop :=
 (0 ≤ w3 ∧ w3 < M) ∧ (inR w5 ∧ inR x2) ∧ ((w5 ≤ x2 → (0 ≤ x2 ∧ x2 < 48) ∧ ∀ s6 : Mem, s6 = up σ (57 + w3) x2 x1 → (0 ≤ w3 ∧ w3 < M) ∧ (0 ≤ w3 ∧ w3 < M) ∧ ∀ s11 : Mem, s11 = up s6 10 w3 ((s6 10 w3) + 1) → (0 ≤ x1 ∧ x1 < 80) ∧ ∀ s14 : Mem, s14 = up s11 8 x1 1 → ∀ s15 : Mem, s15 = up s14 1 3 ((s14 1 3) + 1) → post s15) ∧ (x2 < w5 → (0 ≤ (w5 - 1) ∧ (w5 - 1) < 48) ∧ (0 ≤ w5 ∧ w5 < 48) ∧ ∀ s20 : Mem, s20 = up σ (57 + w3) w5 (σ (57 + w3) (w5 - 1)) → K23 w3 (w5 + (-1)) s20))
set_option maxRecDepth 20000 in
set_option maxHeartbeats 4000000 in
theorem seg_X3_insert_23 {G : GG} {X : XX} {post : Mem → Prop} (C : CX G X cX3_insert RX3 6 none 0)   (x1 : Int) (x2 : Int) (w3 : Int) (w5 : Int) (σ : Mem) (vc : VC_X3_insert_23 (gM G) (fun w3 w5 σ => RW G X 6 (QV G X post) 23 [(0, pR 1), (1, pI x1), (2, pI x2), (3, pI w3), (4, pR (57 + w3)), (5, pI w5)] [] σ) post  x1 x2 w3 w5 σ) : RW G X 6 (QV G X post) 23 [(0, pR 1), (1, pI x1), (2, pI x2), (3, pI w3), (4, pR (57 + w3)), (5, pI w5)] [] σ := by
  unfold VC_X3_insert_23 at vc
  obtain ⟨⟨r4a, r4b⟩, vc⟩ := vc
  refine w_iload C 5 dX3_insert_23 rfl ?_
  refine w_iload_n C 2 dX3_insert_25 rfl ?_
  obtain ⟨⟨sc1, sc2⟩, vc⟩ := vc
  refine w_icmp_le C 47 dX3_insert_26 (by decide) sc1 sc2 (fun h3 => ?_) (fun h3 => ?_)
  · have vc := vc.1 h3
    refine w_aload C 4 dX3_insert_47 rfl ?_
    refine w_iload_n C 2 dX3_insert_49 rfl ?_
    refine w_iload_n C 1 dX3_insert_50 rfl ?_
    obtain ⟨⟨sc4, sc5⟩, vc⟩ := vc
    refine w_iast C dX3_insert_51 (ia_row r4a r4b) sc4 sc5 ?_
    refine w_mem (fun s6 hs6 => ?_)
    have vc := vc s6 hs6
    refine w_aload_n C 0 dX3_insert_52 rfl ?_
    refine w_getR C dX3_insert_53 gf_X3_52 ob_1 rfl ?_
    refine w_iload_n C 3 dX3_insert_56 rfl ?_
    refine w_dup2 C dX3_insert_57 rfl rfl ?_
    obtain ⟨⟨sc7, sc8⟩, vc⟩ := vc
    refine w_iald C dX3_insert_58 (ia_10 C.gi) sc7 sc8 ?_
    refine w_iconst C dX3_insert_59 ?_
    refine w_iadd C dX3_insert_60 ?_
    obtain ⟨⟨sc9, sc10⟩, vc⟩ := vc
    refine w_iast C dX3_insert_61 (ia_10 C.gi) sc9 sc10 ?_
    refine w_mem (fun s11 hs11 => ?_)
    have vc := vc s11 hs11
    refine w_aload_n C 0 dX3_insert_62 rfl ?_
    refine w_getR C dX3_insert_63 gf_X3_40 ob_1 rfl ?_
    refine w_iload_n C 1 dX3_insert_66 rfl ?_
    refine w_iconst C dX3_insert_67 ?_
    obtain ⟨⟨sc12, sc13⟩, vc⟩ := vc
    refine w_bast C dX3_insert_68 ba_8 sc12 sc13 (Or.inr rfl) ?_
    refine w_mem (fun s14 hs14 => ?_)
    have vc := vc s14 hs14
    refine w_aload_n C 0 dX3_insert_69 rfl ?_
    refine w_dup C dX3_insert_70 rfl ?_
    refine w_getI C 3 dX3_insert_71 gf_X3_18 ob_1 rfl rfl ?_
    refine w_iconst C dX3_insert_74 ?_
    refine w_iadd C dX3_insert_75 ?_
    refine w_putI C 3 dX3_insert_76 pf_X3_18 ob_1 rfl rfl ?_
    refine w_mem (fun s15 hs15 => ?_)
    have vc := vc s15 hs15
    exact w_vreturn C dX3_insert_79 vc
  · have vc := vc.2 h3
    refine w_aload C 4 dX3_insert_29 rfl ?_
    refine w_iload C 5 dX3_insert_31 rfl ?_
    refine w_aload C 4 dX3_insert_33 rfl ?_
    refine w_iload C 5 dX3_insert_35 rfl ?_
    refine w_iconst C dX3_insert_37 ?_
    refine w_isub C dX3_insert_38 ?_
    obtain ⟨⟨sc16, sc17⟩, vc⟩ := vc
    refine w_iald C dX3_insert_39 (ia_row r4a r4b) sc16 sc17 ?_
    obtain ⟨⟨sc18, sc19⟩, vc⟩ := vc
    refine w_iast C dX3_insert_40 (ia_row r4a r4b) sc18 sc19 ?_
    refine w_mem (fun s20 hs20 => ?_)
    have vc := vc s20 hs20
    refine w_iinc C 5 [(5, pI (w5 + (-1))), (0, pR 1), (1, pI x1), (2, pI x2), (3, pI w3), (4, pR (57 + w3))] dX3_insert_41 rfl (by decide) rfl ?_
    refine w_goto C 23 dX3_insert_44 (by decide) ?_
    exact w_sub _ [1, 2, 3, 4, 5, 0] rfl vc
set_option maxHeartbeats 1000000 in
theorem ok_X3_insert_0 {M : Nat} {x1 : Int} {x2 : Int} {σ : Mem} {K23 : Int → Int → Mem → Prop} (h : pre_X3_insert M x1 x2 σ) (hK23 : ∀ (y3 y5 : Int) (τ' : Mem), inv_X3_insert_23 M x1 x2 σ y3 y5 τ' → K23 y3 y5 τ') : VC_X3_insert_0 M K23 (fun σ' => σ' = m_X3_insert x1 x2 σ) x1 x2 σ := by
  obtain ⟨a1, a2, a3, a4, a5, a6, a7⟩ := h
  refine ⟨⟨a1, a2⟩, fun v e => ?_⟩
  subst e
  refine ⟨⟨a3, a4⟩, ⟨a3, a4⟩, fun v e => ?_⟩
  subst e
  refine hK23 _ _ _ ⟨rfl, a6, by omega, ?_⟩
  funext c i
  rw [if_neg (by omega)]
set_option maxHeartbeats 1000000 in
theorem ok_X3_insert_23 {M : Nat} {x1 : Int} {x2 : Int} {σ : Mem} {w3 w5 : Int} {τ : Mem} {K23 : Int → Int → Mem → Prop} (h : pre_X3_insert M x1 x2 σ) (hinv : inv_X3_insert_23 M x1 x2 σ w3 w5 τ) (hK23 : ∀ (y3 y5 : Int) (τ' : Mem), inv_X3_insert_23 M x1 x2 σ y3 y5 τ' → mu_X3_insert_23 x1 x2 y3 y5 τ' < mu_X3_insert_23 x1 x2 w3 w5 τ → K23 y3 y5 τ') : VC_X3_insert_23 M K23 (fun σ' => σ' = m_X3_insert x1 x2 σ) x1 x2 w3 w5 τ := by
  obtain ⟨a1, a2, a3, a4, a5, a6, a7⟩ := h
  obtain ⟨rfl, b1, b2, rfl⟩ := hinv
  refine ⟨⟨a3, a4⟩, ⟨⟨by omega, by omega⟩, ⟨by omega, by omega⟩⟩, fun g => ⟨⟨a5, by omega⟩, fun s6 e6 => ⟨⟨a3, a4⟩, ⟨a3, a4⟩, fun s11 e11 => ⟨⟨a1, a2⟩, fun s14 e14 s15 e15 => ?_⟩⟩⟩, fun g => ⟨⟨by omega, by omega⟩, ⟨by omega, by omega⟩, fun s20 e20 => hK23 _ _ _ ⟨rfl, by omega, by omega, ?_⟩ ?_⟩⟩
  · have e5 : w5 = x2 := by omega
    subst e5
    rw [e15, e14, e11, e6]
    funext c i
    simp only [m_X3_insert, up]
    by_cases hc : c = 57 + σ 6 x1
    · subst hc
      have n1 : ¬ (57 + σ 6 x1 = 1) := by omega
      have n2 : ¬ (57 + σ 6 x1 = 8) := by omega
      have n3 : ¬ (57 + σ 6 x1 = 10) := by omega
      simp [n1, n2, n3]
    · by_cases h1 : c = 1
      · subst h1
        by_cases hi : i = 3
        · subst hi
          have n1 : ¬ (1 = 57 + σ 6 x1) := by omega
          simp [n1]
        · have n1 : ¬ (1 = 57 + σ 6 x1) := by omega
          simp [hi, n1]
      · by_cases h8 : c = 8
        · subst h8
          have n1 : ¬ (8 = 57 + σ 6 x1) := by omega
          simp [n1]
        · by_cases h10 : c = 10
          · subst h10
            have n1 : ¬ (10 = 57 + σ 6 x1) := by omega
            by_cases hi : i = σ 6 x1
            · subst hi; simp [n1]
            · simp [n1, hi]
          · simp [hc, h1, h8, h10]
  · rw [e20]
    funext c i
    simp only [up]
    by_cases hc : c = 57 + σ 6 x1
    · subst hc
      by_cases hi : i = w5
      · subst hi
        rw [if_pos ⟨rfl, rfl⟩, if_neg (by omega), if_pos ⟨rfl, by omega, by omega⟩]
      · rw [if_neg (by omega)]
        by_cases h3 : w5 < i ∧ i ≤ σ 10 (σ 6 x1)
        · rw [if_pos ⟨rfl, h3⟩, if_pos ⟨rfl, by omega, by omega⟩]
        · rw [if_neg (by omega), if_neg (by omega)]
    · rw [if_neg (by simp [hc]), if_neg (by simp [hc]), if_neg (by simp [hc])]
  · unfold mu_X3_insert_23
    omega
theorem c_X3_insert {G : GG} (hG : GI G) (l : Launch) (x1 : Int) (x2 : Int) (σ : Mem) (h : pre_X3_insert (gM G) x1 x2 σ) : CtV G l yX3_insert cX3_insert 6 none 0 [pR 1, pI x1, pI x2] σ (fun σ' => σ' = m_X3_insert x1 x2 σ) := by
  refine CtV.of hG (by decide) (Nat.le_of_ble_eq_true rfl) (fun X hl C => ?_)
  show RW G X 6 (QV G X _) 0 [(0, pR 1), (1, pI x1), (2, pI x2)] [] σ
  have key : ∀ n : Nat, (∀ (w3 w5 : Int) (τ : Mem), inv_X3_insert_23 (gM G) x1 x2 σ w3 w5 τ → mu_X3_insert_23 x1 x2 w3 w5 τ < n → RW G X 6 (QV G X (fun σ' => σ' = m_X3_insert x1 x2 σ)) 23 [(0, pR 1), (1, pI x1), (2, pI x2), (3, pI w3), (4, pR (57 + w3)), (5, pI w5)] [] τ) := by
    intro n
    induction n with
    | zero => exact fun w3 w5 τ _ h0 => absurd h0 (Nat.not_lt_zero _)
    | succ n ih =>
      exact (fun w3 w5 τ hinv h0 => seg_X3_insert_23 C x1 x2 w3 w5 τ (ok_X3_insert_23 h hinv (fun y3 y5 τ' hi hm => ih y3 y5 τ' hi (Nat.lt_of_lt_of_le hm (Nat.le_of_lt_succ h0)))))
  exact seg_X3_insert_0 C x1 x2 σ (ok_X3_insert_0 h (fun y3 y5 τ' hi => (key _) y3 y5 τ' hi (Nat.lt_succ_self _)))

/-! X3_emptyOrders -/
def m_X3_emptyOrders (σ : Mem) : Mem := fun c i => if c = 10 ∧ 0 ≤ i ∧ i < σ 1 0 then 0 else if c = 8 ∧ 0 ≤ i ∧ i < 80 then 0 else if c = 1 ∧ i = 3 then 0 else σ c i
def pre_X3_emptyOrders (M : Nat) (σ : Mem) : Prop := σ 1 0 = M ∧ M ≤ 5
def inv_X3_emptyOrders_10 (M : Nat) (σ : Mem) (w1 : Int) (τ : Mem) : Prop := 0 ≤ w1 ∧ w1 ≤ 80 ∧ τ = fun c i => if c = 10 ∧ 0 ≤ i ∧ i < σ 1 0 then 0 else if c = 8 ∧ 0 ≤ i ∧ i < w1 then 0 else σ c i
def mu_X3_emptyOrders_10 (w1 : Int) (τ : Mem) : Nat := (80 - w1).toNat
def VC_X3_emptyOrders_0 (M : Nat) (K10 : Int → Mem → Prop) (post : Mem → Prop)  (σ : Mem) : Prop :=
 (pre_J7_fill_53178 M 10 M 0 σ) ∧ ∀ s2 : Mem, s2 = m_J7_fill_53178 10 M 0 σ → K10 0 s2
set_option maxRecDepth 20000 in
set_option maxHeartbeats 4000000 in
theorem seg_X3_emptyOrders_0 {G : GG} {X : XX} {post : Mem → Prop} (C : CX G X cX3_emptyOrders RX3 2 none 1)    (σ : Mem) (vc : VC_X3_emptyOrders_0 (gM G) (fun w1 σ => RW G X 2 (QV G X post) 10 [(0, pR 1), (1, pI w1)] [] σ) post   σ) : RW G X 2 (QV G X post) 0 [(0, pR 1)] [] σ := by
  unfold VC_X3_emptyOrders_0 at vc
  refine w_aload_n C 0 dX3_emptyOrders_0 rfl ?_
  refine w_getR C dX3_emptyOrders_1 gf_X3_52 ob_1 rfl ?_
  refine w_iconst C dX3_emptyOrders_4 ?_
  obtain ⟨sc1, vc⟩ := vc
  refine w_callSV C [pR 10, pI 0] [] rfl dX3_emptyOrders_5 (c_J7_fill_53178 C.gi (xL X) 10 (gM G) 0 σ (ia_10 C.gi) sc1) mw_J7_fill_53178 ml_X3_65 ss_J7_fill_53178 (by decide) (Nat.le_of_ble_eq_true rfl) (fun s2 hs2 => ?_)
  have vc := vc s2 hs2
  refine w_iconst C dX3_emptyOrders_8 ?_
  refine w_istore_n C [(1, pI 0), (0, pR 1)] dX3_emptyOrders_9 (by decide) rfl ?_
  exact w_sub _ [1, 0] rfl vc
def VC_X3_emptyOrders_10 (M : Nat) (K10 : Int → Mem → Prop) (post : Mem → Prop) (w1 : Int) (σ : Mem) : Prop :=
 (inR w1) ∧ ((80 ≤ w1 → ∀ s3 : Mem, s3 = up σ 1 3 0 → post s3) ∧ (w1 < 80 → (0 ≤ w1 ∧ w1 < 80) ∧ ∀ s6 : Mem, s6 = up σ 8 w1 0 → K10 (w1 + 1) s6))
set_option maxRecDepth 20000 in
set_option maxHeartbeats 4000000 in
theorem seg_X3_emptyOrders_10 {G : GG} {X : XX} {post : Mem → Prop} (C : CX G X cX3_emptyOrders RX3 2 none 1)   (w1 : Int) (σ : Mem) (vc : VC_X3_emptyOrders_10 (gM G) (fun w1 σ => RW G X 2 (QV G X post) 10 [(0, pR 1), (1, pI w1)] [] σ) post  w1 σ) : RW G X 2 (QV G X post) 10 [(0, pR 1), (1, pI w1)] [] σ := by
  unfold VC_X3_emptyOrders_10 at vc
  refine w_iload_n C 1 dX3_emptyOrders_10 rfl ?_
  refine w_bipush C dX3_emptyOrders_11 (by decide) ?_
  obtain ⟨sc1, vc⟩ := vc
  refine w_icmp_ge C 29 dX3_emptyOrders_13 (by decide) sc1 ⟨by omega, by omega⟩ (fun h2 => ?_) (fun h2 => ?_)
  · have vc := vc.1 h2
    refine w_aload_n C 0 dX3_emptyOrders_29 rfl ?_
    refine w_iconst C dX3_emptyOrders_30 ?_
    refine w_putI C 3 dX3_emptyOrders_31 pf_X3_18 ob_1 rfl rfl ?_
    refine w_mem (fun s3 hs3 => ?_)
    have vc := vc s3 hs3
    exact w_vreturn C dX3_emptyOrders_34 vc
  · have vc := vc.2 h2
    refine w_aload_n C 0 dX3_emptyOrders_16 rfl ?_
    refine w_getR C dX3_emptyOrders_17 gf_X3_40 ob_1 rfl ?_
    refine w_iload_n C 1 dX3_emptyOrders_20 rfl ?_
    refine w_iconst C dX3_emptyOrders_21 ?_
    obtain ⟨⟨sc4, sc5⟩, vc⟩ := vc
    refine w_bast C dX3_emptyOrders_22 ba_8 sc4 sc5 (Or.inl rfl) ?_
    refine w_mem (fun s6 hs6 => ?_)
    have vc := vc s6 hs6
    refine w_iinc C 1 [(1, pI (w1 + 1)), (0, pR 1)] dX3_emptyOrders_23 rfl (by decide) rfl ?_
    refine w_goto C 10 dX3_emptyOrders_26 (by decide) ?_
    exact w_sub _ [1, 0] rfl vc
set_option maxHeartbeats 1000000 in
theorem ok_X3_emptyOrders_0 {M : Nat} {σ : Mem} {K10 : Int → Mem → Prop} (h : pre_X3_emptyOrders M σ) (hK10 : ∀ (y1 : Int) (τ' : Mem), inv_X3_emptyOrders_10 M σ y1 τ' → K10 y1 τ') : VC_X3_emptyOrders_0 M K10 (fun σ' => σ' = m_X3_emptyOrders σ) σ := by
  obtain ⟨a1, a2⟩ := h
  refine ⟨by unfold pre_J7_fill_53178; omega, fun s2 e2 => hK10 _ _ ⟨by omega, by omega, ?_⟩⟩
  rw [e2]
  funext c i
  simp only [m_J7_fill_53178]
  grind
set_option maxHeartbeats 1000000 in
theorem ok_X3_emptyOrders_10 {M : Nat} {σ : Mem} {w1 : Int} {τ : Mem} {K10 : Int → Mem → Prop} (h : pre_X3_emptyOrders M σ) (hinv : inv_X3_emptyOrders_10 M σ w1 τ) (hK10 : ∀ (y1 : Int) (τ' : Mem), inv_X3_emptyOrders_10 M σ y1 τ' → mu_X3_emptyOrders_10 y1 τ' < mu_X3_emptyOrders_10 w1 τ → K10 y1 τ') : VC_X3_emptyOrders_10 M K10 (fun σ' => σ' = m_X3_emptyOrders σ) w1 τ := by
  obtain ⟨a1, a2⟩ := h
  obtain ⟨b1, b2, rfl⟩ := hinv
  refine ⟨⟨by omega, by omega⟩, fun g s3 e3 => ?_, fun g => ⟨⟨b1, g⟩, fun s6 e6 => hK10 _ _ ⟨by omega, by omega, ?_⟩ ?_⟩⟩
  · rw [e3]
    funext c i
    simp only [m_X3_emptyOrders, up]
    grind
  · rw [e6]
    funext c i
    simp only [up]
    grind
  · unfold mu_X3_emptyOrders_10
    omega
theorem c_X3_emptyOrders {G : GG} (hG : GI G) (l : Launch) (σ : Mem) (h : pre_X3_emptyOrders (gM G) σ) : CtV G l yX3_emptyOrders cX3_emptyOrders 2 none 1 [pR 1] σ (fun σ' => σ' = m_X3_emptyOrders σ) := by
  refine CtV.of hG (by decide) (Nat.le_of_ble_eq_true rfl) (fun X hl C => ?_)
  show RW G X 2 (QV G X _) 0 [(0, pR 1)] [] σ
  have key : ∀ n : Nat, (∀ (w1 : Int) (τ : Mem), inv_X3_emptyOrders_10 (gM G) σ w1 τ → mu_X3_emptyOrders_10 w1 τ < n → RW G X 2 (QV G X (fun σ' => σ' = m_X3_emptyOrders σ)) 10 [(0, pR 1), (1, pI w1)] [] τ) := by
    intro n
    induction n with
    | zero => exact fun w1 τ _ h0 => absurd h0 (Nat.not_lt_zero _)
    | succ n ih =>
      exact (fun w1 τ hinv h0 => seg_X3_emptyOrders_10 C w1 τ (ok_X3_emptyOrders_10 h hinv (fun y1 τ' hi hm => ih y1 τ' hi (Nat.lt_of_lt_of_le hm (Nat.le_of_lt_succ h0)))))
  exact seg_X3_emptyOrders_0 C σ (ok_X3_emptyOrders_0 h (fun y1 τ' hi => (key _) y1 τ' hi (Nat.lt_succ_self _)))

/-! X3_remove -/
def m_remove (x1 z : Int) (σ : Mem) : Mem := fun c i =>
  if c = 57 + σ 6 x1 then (if z ≤ i ∧ i < σ 10 (σ 6 x1) - 1 then σ c (i + 1) else σ c i)
  else if c = 10 ∧ i = σ 6 x1 then σ c i - 1 else if c = 8 ∧ i = x1 then 0 else if c = 1 ∧ i = 3 then σ 1 3 - 1 else σ c i
def pre_X3_remove (M : Nat) (x1 : Int) (σ : Mem) : Prop := 0 ≤ x1 ∧ x1 < 80 ∧ 0 ≤ σ 6 x1 ∧ σ 6 x1 < M ∧ 0 ≤ σ 10 (σ 6 x1) ∧ σ 10 (σ 6 x1) ≤ 48 ∧ (∀ i, 0 ≤ i → i < σ 10 (σ 6 x1) → 0 ≤ σ (57 + σ 6 x1) i ∧ σ (57 + σ 6 x1) i < 80) ∧ ∃ i, 0 ≤ i ∧ i < σ 10 (σ 6 x1) ∧ σ (57 + σ 6 x1) i = x1
def post_X3_remove (M : Nat) (x1 : Int) (σ : Mem) (z : Int) (σ' : Mem) : Prop := 0 ≤ z ∧ z < σ 10 (σ 6 x1) ∧ σ (57 + σ 6 x1) z = x1 ∧ σ' = m_remove x1 z σ
def inv_X3_remove_27 (M : Nat) (x1 : Int) (σ : Mem) (w2 w4 w5 : Int) (τ : Mem) : Prop := τ = σ ∧ w2 = σ 6 x1 ∧ w4 = σ 10 (σ 6 x1) - 1 ∧ 0 ≤ w5 ∧ w5 ≤ w4 ∧ ∀ i, 0 ≤ i → i < w5 → σ (57 + σ 6 x1) i ≠ x1
def mu_X3_remove_27 (x1 : Int) (w2 w4 w5 : Int) (τ : Mem) : Nat := 100 + (w4 - w5).toNat
def inv_X3_remove_52 (M : Nat) (x1 : Int) (σ : Mem) (w2 w4 w5 w6 : Int) (τ : Mem) : Prop := w2 = σ 6 x1 ∧ w4 = σ 10 (σ 6 x1) - 1 ∧ 0 ≤ w5 ∧ w5 ≤ w6 ∧ w6 ≤ w4 ∧ σ (57 + σ 6 x1) w5 = x1 ∧ τ = fun c i => if c = 57 + σ 6 x1 ∧ w5 ≤ i ∧ i < w6 then σ c (i + 1) else σ c i
def mu_X3_remove_52 (x1 : Int) (w2 w4 w5 w6 : Int) (τ : Mem) : Nat := (w4 - w6).toNat
def VC_X3_remove_0 (M : Nat) (K27 : Int → Int → Int → Mem → Prop) (post : Int → Mem → Prop) (x1 : Int) (σ : Mem) : Prop :=
 (0 ≤ x1 ∧ x1 < 80) ∧ ∀ v3 : Int, v3 = σ 6 x1 → (0 ≤ v3 ∧ v3 < M) ∧ (0 ≤ v3 ∧ v3 < M) ∧ ∀ v8 : Int, v8 = (σ 10 v3) - 1 → K27 v3 v8 0 σ
set_option maxRecDepth 20000 in
set_option maxHeartbeats 4000000 in
theorem seg_X3_remove_0 {G : GG} {X : XX} {post : Int → Mem → Prop} (C : CX G X cX3_remove RX3 7 (some .int) 0)   (x1 : Int) (σ : Mem) (vc : VC_X3_remove_0 (gM G) (fun w2 w4 w5 σ => RW G X 7 (QI G X post) 27 [(0, pR 1), (1, pI x1), (2, pI w2), (3, pR (57 + w2)), (4, pI w4), (5, pI w5)] [] σ) post  x1 σ) : RW G X 7 (QI G X post) 0 [(0, pR 1), (1, pI x1)] [] σ := by
  unfold VC_X3_remove_0 at vc
  refine w_aload_n C 0 dX3_remove_0 rfl ?_
  refine w_getR C dX3_remove_1 gf_X3_34 ob_1 rfl ?_
  refine w_iload_n C 1 dX3_remove_4 rfl ?_
  obtain ⟨⟨sc1, sc2⟩, vc⟩ := vc
  refine w_iald C dX3_remove_5 ia_6 sc1 sc2 ?_
  refine w_top (fun v3 hv3 => ?_)
  have vc := vc v3 hv3
  refine w_istore_n C [(2, pI v3), (0, pR 1), (1, pI x1)] dX3_remove_6 (by decide) rfl ?_
  refine w_aload_n C 1 dX3_remove_7 rfl ?_
  refine w_getR C dX3_remove_8 gf_X3_49 ob_1 rfl ?_
  refine w_iload_n C 0 dX3_remove_11 rfl ?_
  obtain ⟨⟨sc4, sc5⟩, vc⟩ := vc
  refine w_aald C dX3_remove_12 (ra_9 C.gi) sc4 sc5 ?_
  refine w_astore_n C [(3, pR (57 + v3)), (2, pI v3), (0, pR 1), (1, pI x1)] dX3_remove_13 (by decide) rfl ?_
  refine w_aload_n C 2 dX3_remove_14 rfl ?_
  refine w_getR C dX3_remove_15 gf_X3_52 ob_1 rfl ?_
  refine w_iload_n C 1 dX3_remove_18 rfl ?_
  obtain ⟨⟨sc6, sc7⟩, vc⟩ := vc
  refine w_iald C dX3_remove_19 (ia_10 C.gi) sc6 sc7 ?_
  refine w_iconst C dX3_remove_20 ?_
  refine w_isub C dX3_remove_21 ?_
  refine w_top (fun v8 hv8 => ?_)
  have vc := vc v8 hv8
  refine w_istore C [(4, pI v8), (3, pR (57 + v3)), (2, pI v3), (0, pR 1), (1, pI x1)] dX3_remove_22 (by decide) rfl ?_
  refine w_iconst C dX3_remove_24 ?_
  refine w_istore C [(5, pI 0), (4, pI v8), (3, pR (57 + v3)), (2, pI v3), (0, pR 1), (1, pI x1)] dX3_remove_25 (by decide) rfl ?_
  exact w_sub _ [4, 5, 3, 2, 1, 0] rfl vc
def VC_X3_remove_27 (M : Nat) (K27 : Int → Int → Int → Mem → Prop) (K52 : Int → Int → Int → Int → Mem → Prop) (post : Int → Mem → Prop) (x1 : Int) (w2 : Int) (w4 : Int) (w5 : Int) (σ : Mem) : Prop :=
 (0 ≤ w2 ∧ w2 < M) ∧ (inR w5 ∧ inR w4) ∧ ((w4 ≤ w5 → K52 w2 w4 w5 w5 σ) ∧ (w5 < w4 → (0 ≤ w5 ∧ w5 < 48) ∧ (inR (σ (57 + w2) w5) ∧ inR x1) ∧ (((σ (57 + w2) w5) = x1 → K52 w2 w4 w5 w5 σ) ∧ (¬ (σ (57 + w2) w5) = x1 → K27 w2 w4 (w5 + 1) σ))))
set_option maxRecDepth 20000 in
set_option maxHeartbeats 4000000 in
theorem seg_X3_remove_27 {G : GG} {X : XX} {post : Int → Mem → Prop} (C : CX G X cX3_remove RX3 7 (some .int) 0)   (x1 : Int) (w2 : Int) (w4 : Int) (w5 : Int) (σ : Mem) (vc : VC_X3_remove_27 (gM G) (fun w2 w4 w5 σ => RW G X 7 (QI G X post) 27 [(0, pR 1), (1, pI x1), (2, pI w2), (3, pR (57 + w2)), (4, pI w4), (5, pI w5)] [] σ) (fun w2 w4 w5 w6 σ => RW G X 7 (QI G X post) 52 [(0, pR 1), (1, pI x1), (2, pI w2), (3, pR (57 + w2)), (4, pI w4), (5, pI w5), (6, pI w6)] [] σ) post  x1 w2 w4 w5 σ) : RW G X 7 (QI G X post) 27 [(0, pR 1), (1, pI x1), (2, pI w2), (3, pR (57 + w2)), (4, pI w4), (5, pI w5)] [] σ := by
  unfold VC_X3_remove_27 at vc
  obtain ⟨⟨r3a, r3b⟩, vc⟩ := vc
  refine w_iload C 5 dX3_remove_27 rfl ?_
  refine w_iload C 4 dX3_remove_29 rfl ?_
  obtain ⟨⟨sc1, sc2⟩, vc⟩ := vc
  refine w_icmp_ge C 48 dX3_remove_31 (by decide) sc1 sc2 (fun h3 => ?_) (fun h3 => ?_)
  · have vc := vc.1 h3
    refine w_iload C 5 dX3_remove_48 rfl ?_
    refine w_istore C [(6, pI w5), (0, pR 1), (1, pI x1), (2, pI w2), (3, pR (57 + w2)), (4, pI w4), (5, pI w5)] dX3_remove_50 (by decide) rfl ?_
    exact w_sub _ [1, 2, 3, 4, 5, 6, 0] rfl vc
  · have vc := vc.2 h3
    refine w_aload_n C 3 dX3_remove_34 rfl ?_
    refine w_iload C 5 dX3_remove_35 rfl ?_
    obtain ⟨⟨sc4, sc5⟩, vc⟩ := vc
    refine w_iald C dX3_remove_37 (ia_row r3a r3b) sc4 sc5 ?_
    refine w_iload_n C 1 dX3_remove_38 rfl ?_
    obtain ⟨⟨sc6, sc7⟩, vc⟩ := vc
    refine w_icmp_eq C 48 dX3_remove_39 (by decide) sc6 sc7 (fun h8 => ?_) (fun h8 => ?_)
    · have vc := vc.1 h8
      refine w_iload C 5 dX3_remove_48 rfl ?_
      refine w_istore C [(6, pI w5), (0, pR 1), (1, pI x1), (2, pI w2), (3, pR (57 + w2)), (4, pI w4), (5, pI w5)] dX3_remove_50 (by decide) rfl ?_
      exact w_sub _ [1, 2, 3, 4, 5, 6, 0] rfl vc
    · have vc := vc.2 h8
      refine w_iinc C 5 [(5, pI (w5 + 1)), (0, pR 1), (1, pI x1), (2, pI w2), (3, pR (57 + w2)), (4, pI w4)] dX3_remove_42 rfl (by decide) rfl ?_
      refine w_goto C 27 dX3_remove_45 (by decide) ?_
      exact w_sub _ [1, 2, 3, 4, 5, 0] rfl vc
def VC_X3_remove_52 (M : Nat) (K52 : Int → Int → Int → Int → Mem → Prop) (post : Int → Mem → Prop) (x1 : Int) (w2 : Int) (w4 : Int) (w5 : Int) (w6 : Int) (σ : Mem) : Prop :=
 (0 ≤ w2 ∧ w2 < M) ∧ (inR w6 ∧ inR w4) ∧ ((w4 ≤ w6 → (0 ≤ w2 ∧ w2 < M) ∧ ∀ s6 : Mem, s6 = up σ 10 w2 w4 → (0 ≤ x1 ∧ x1 < 80) ∧ ∀ s9 : Mem, s9 = up s6 8 x1 0 → ∀ s10 : Mem, s10 = up s9 1 3 ((s9 1 3) - 1) → post w5 s10) ∧ (w6 < w4 → (0 ≤ (w6 + 1) ∧ (w6 + 1) < 48) ∧ (0 ≤ w6 ∧ w6 < 48) ∧ ∀ s15 : Mem, s15 = up σ (57 + w2) w6 (σ (57 + w2) (w6 + 1)) → K52 w2 w4 w5 (w6 + 1) s15))
set_option maxRecDepth 20000 in
set_option maxHeartbeats 4000000 in
theorem seg_X3_remove_52 {G : GG} {X : XX} {post : Int → Mem → Prop} (C : CX G X cX3_remove RX3 7 (some .int) 0)   (x1 : Int) (w2 : Int) (w4 : Int) (w5 : Int) (w6 : Int) (σ : Mem) (vc : VC_X3_remove_52 (gM G) (fun w2 w4 w5 w6 σ => RW G X 7 (QI G X post) 52 [(0, pR 1), (1, pI x1), (2, pI w2), (3, pR (57 + w2)), (4, pI w4), (5, pI w5), (6, pI w6)] [] σ) post  x1 w2 w4 w5 w6 σ) : RW G X 7 (QI G X post) 52 [(0, pR 1), (1, pI x1), (2, pI w2), (3, pR (57 + w2)), (4, pI w4), (5, pI w5), (6, pI w6)] [] σ := by
  unfold VC_X3_remove_52 at vc
  obtain ⟨⟨r3a, r3b⟩, vc⟩ := vc
  refine w_iload C 6 dX3_remove_52 rfl ?_
  refine w_iload C 4 dX3_remove_54 rfl ?_
  obtain ⟨⟨sc1, sc2⟩, vc⟩ := vc
  refine w_icmp_ge C 75 dX3_remove_56 (by decide) sc1 sc2 (fun h3 => ?_) (fun h3 => ?_)
  · have vc := vc.1 h3
    refine w_aload_n C 0 dX3_remove_75 rfl ?_
    refine w_getR C dX3_remove_76 gf_X3_52 ob_1 rfl ?_
    refine w_iload_n C 2 dX3_remove_79 rfl ?_
    refine w_iload C 4 dX3_remove_80 rfl ?_
    obtain ⟨⟨sc4, sc5⟩, vc⟩ := vc
    refine w_iast C dX3_remove_82 (ia_10 C.gi) sc4 sc5 ?_
    refine w_mem (fun s6 hs6 => ?_)
    have vc := vc s6 hs6
    refine w_aload_n C 0 dX3_remove_83 rfl ?_
    refine w_getR C dX3_remove_84 gf_X3_40 ob_1 rfl ?_
    refine w_iload_n C 1 dX3_remove_87 rfl ?_
    refine w_iconst C dX3_remove_88 ?_
    obtain ⟨⟨sc7, sc8⟩, vc⟩ := vc
    refine w_bast C dX3_remove_89 ba_8 sc7 sc8 (Or.inl rfl) ?_
    refine w_mem (fun s9 hs9 => ?_)
    have vc := vc s9 hs9
    refine w_aload_n C 0 dX3_remove_90 rfl ?_
    refine w_dup C dX3_remove_91 rfl ?_
    refine w_getI C 3 dX3_remove_92 gf_X3_18 ob_1 rfl rfl ?_
    refine w_iconst C dX3_remove_95 ?_
    refine w_isub C dX3_remove_96 ?_
    refine w_putI C 3 dX3_remove_97 pf_X3_18 ob_1 rfl rfl ?_
    refine w_mem (fun s10 hs10 => ?_)
    have vc := vc s10 hs10
    refine w_iload C 5 dX3_remove_100 rfl ?_
    exact w_ireturn C dX3_remove_102 vc
  · have vc := vc.2 h3
    refine w_aload_n C 3 dX3_remove_59 rfl ?_
    refine w_iload C 6 dX3_remove_60 rfl ?_
    refine w_aload_n C 3 dX3_remove_62 rfl ?_
    refine w_iload C 6 dX3_remove_63 rfl ?_
    refine w_iconst C dX3_remove_65 ?_
    refine w_iadd C dX3_remove_66 ?_
    obtain ⟨⟨sc11, sc12⟩, vc⟩ := vc
    refine w_iald C dX3_remove_67 (ia_row r3a r3b) sc11 sc12 ?_
    obtain ⟨⟨sc13, sc14⟩, vc⟩ := vc
    refine w_iast C dX3_remove_68 (ia_row r3a r3b) sc13 sc14 ?_
    refine w_mem (fun s15 hs15 => ?_)
    have vc := vc s15 hs15
    refine w_iinc C 6 [(6, pI (w6 + 1)), (0, pR 1), (1, pI x1), (2, pI w2), (3, pR (57 + w2)), (4, pI w4), (5, pI w5)] dX3_remove_69 rfl (by decide) rfl ?_
    refine w_goto C 52 dX3_remove_72 (by decide) ?_
    exact w_sub _ [1, 2, 3, 4, 5, 6, 0] rfl vc
set_option maxHeartbeats 1000000 in
theorem ok_X3_remove_0 {M : Nat} {x1 : Int} {σ : Mem} {K27 : Int → Int → Int → Mem → Prop} (h : pre_X3_remove M x1 σ) (hK27 : ∀ (y2 y4 y5 : Int) (τ' : Mem), inv_X3_remove_27 M x1 σ y2 y4 y5 τ' → K27 y2 y4 y5 τ') : VC_X3_remove_0 M K27 (post_X3_remove M x1 σ) x1 σ := by
  obtain ⟨a1, a2, a3, a4, a5, a6, a7, i, b1, b2, b3⟩ := h
  refine ⟨⟨a1, a2⟩, fun v e => ?_⟩
  subst e
  refine ⟨⟨a3, a4⟩, ⟨a3, a4⟩, fun v e => ?_⟩
  subst e
  exact hK27 _ _ _ _ ⟨rfl, rfl, rfl, by omega, by omega, fun i h1 h2 => by omega⟩
set_option maxHeartbeats 1000000 in
theorem ok_X3_remove_27 {M : Nat} {x1 : Int} {σ : Mem} {w2 w4 w5 : Int} {τ : Mem} {K27 : Int → Int → Int → Mem → Prop} {K52 : Int → Int → Int → Int → Mem → Prop} (h : pre_X3_remove M x1 σ) (hinv : inv_X3_remove_27 M x1 σ w2 w4 w5 τ) (hK27 : ∀ (y2 y4 y5 : Int) (τ' : Mem), inv_X3_remove_27 M x1 σ y2 y4 y5 τ' → mu_X3_remove_27 x1 y2 y4 y5 τ' < mu_X3_remove_27 x1 w2 w4 w5 τ → K27 y2 y4 y5 τ') (hK52 : ∀ (y2 y4 y5 y6 : Int) (τ' : Mem), inv_X3_remove_52 M x1 σ y2 y4 y5 y6 τ' → mu_X3_remove_52 x1 y2 y4 y5 y6 τ' < mu_X3_remove_27 x1 w2 w4 w5 τ → K52 y2 y4 y5 y6 τ') : VC_X3_remove_27 M K27 K52 (post_X3_remove M x1 σ) x1 w2 w4 w5 τ := by
  obtain ⟨a1, a2, a3, a4, a5, a6, a7, i, b1, b2, b3⟩ := h
  obtain ⟨rfl, rfl, rfl, c1, c2, c3⟩ := hinv
  have hi : w5 ≤ i := by
    apply Int.not_lt.mp
    intro q
    exact c3 i b1 q b3
  refine ⟨⟨a3, a4⟩, ⟨⟨by omega, by omega⟩, ⟨by omega, by omega⟩⟩, fun g => ?_, fun g => ⟨⟨by omega, by omega⟩, ?_, fun g2 => ?_, fun g2 => ?_⟩⟩
  · have : w5 = i := by omega
    subst this
    refine hK52 _ _ _ _ _ ⟨rfl, rfl, c1, by omega, by omega, b3, ?_⟩ ?_
    · funext c j
      rw [if_neg (by omega)]
    · unfold mu_X3_remove_52 mu_X3_remove_27; omega
  · have := a7 w5 c1 (by omega)
    exact ⟨⟨by omega, by omega⟩, ⟨by omega, by omega⟩⟩
  · refine hK52 _ _ _ _ _ ⟨rfl, rfl, c1, by omega, by omega, g2, ?_⟩ ?_
    · funext c j
      rw [if_neg (by omega)]
    · unfold mu_X3_remove_52 mu_X3_remove_27; omega
  · refine hK27 _ _ _ _ ⟨rfl, rfl, rfl, by omega, by omega, fun j h1 h2 => ?_⟩ ?_
    · by_cases e : j = w5
      · subst e; exact g2
      · exact c3 j h1 (by omega)
    · unfold mu_X3_remove_27; omega
set_option maxHeartbeats 1000000 in
theorem ok_X3_remove_52 {M : Nat} {x1 : Int} {σ : Mem} {w2 w4 w5 w6 : Int} {τ : Mem} {K52 : Int → Int → Int → Int → Mem → Prop} (h : pre_X3_remove M x1 σ) (hinv : inv_X3_remove_52 M x1 σ w2 w4 w5 w6 τ) (hK52 : ∀ (y2 y4 y5 y6 : Int) (τ' : Mem), inv_X3_remove_52 M x1 σ y2 y4 y5 y6 τ' → mu_X3_remove_52 x1 y2 y4 y5 y6 τ' < mu_X3_remove_52 x1 w2 w4 w5 w6 τ → K52 y2 y4 y5 y6 τ') : VC_X3_remove_52 M K52 (post_X3_remove M x1 σ) x1 w2 w4 w5 w6 τ := by
  obtain ⟨a1, a2, a3, a4, a5, a6, a7, i, b1, b2, b3⟩ := h
  obtain ⟨rfl, rfl, c1, c2, c3, c4, rfl⟩ := hinv
  refine ⟨⟨a3, a4⟩, ⟨⟨by omega, by omega⟩, ⟨by omega, by omega⟩⟩, fun g => ⟨⟨a3, a4⟩, fun s6 e6 => ⟨⟨a1, a2⟩, fun s9 e9 s10 e10 => ⟨c1, by omega, c4, ?_⟩⟩⟩, fun g => ⟨⟨by omega, by omega⟩, ⟨by omega, by omega⟩, fun s15 e15 => hK52 _ _ _ _ _ ⟨rfl, rfl, c1, by omega, by omega, c4, ?_⟩ ?_⟩⟩
  · have : w6 = σ 10 (σ 6 x1) - 1 := by omega
    subst this
    rw [e10, e9, e6]
    funext c j
    simp only [m_remove, up]
    grind
  · rw [e15]
    funext c j
    simp only [up]
    grind
  · unfold mu_X3_remove_52; omega
theorem c_X3_remove {G : GG} (hG : GI G) (l : Launch) (x1 : Int) (σ : Mem) (h : pre_X3_remove (gM G) x1 σ) : CtI G l yX3_remove cX3_remove 7 (some .int) 0 [pR 1, pI x1] σ (post_X3_remove (gM G) x1 σ) := by
  refine CtI.of hG (by decide) (Nat.le_of_ble_eq_true rfl) (fun X hl C => ?_)
  show RW G X 7 (QI G X _) 0 [(0, pR 1), (1, pI x1)] [] σ
  have key : ∀ n : Nat, (∀ (w2 w4 w5 : Int) (τ : Mem), inv_X3_remove_27 (gM G) x1 σ w2 w4 w5 τ → mu_X3_remove_27 x1 w2 w4 w5 τ < n → RW G X 7 (QI G X (post_X3_remove (gM G) x1 σ)) 27 [(0, pR 1), (1, pI x1), (2, pI w2), (3, pR (57 + w2)), (4, pI w4), (5, pI w5)] [] τ) ∧ (∀ (w2 w4 w5 w6 : Int) (τ : Mem), inv_X3_remove_52 (gM G) x1 σ w2 w4 w5 w6 τ → mu_X3_remove_52 x1 w2 w4 w5 w6 τ < n → RW G X 7 (QI G X (post_X3_remove (gM G) x1 σ)) 52 [(0, pR 1), (1, pI x1), (2, pI w2), (3, pR (57 + w2)), (4, pI w4), (5, pI w5), (6, pI w6)] [] τ) := by
    intro n
    induction n with
    | zero => exact ⟨fun w2 w4 w5 τ _ h0 => absurd h0 (Nat.not_lt_zero _), fun w2 w4 w5 w6 τ _ h0 => absurd h0 (Nat.not_lt_zero _)⟩
    | succ n ih =>
      exact ⟨(fun w2 w4 w5 τ hinv h0 => seg_X3_remove_27 C x1 w2 w4 w5 τ (ok_X3_remove_27 h hinv (fun y2 y4 y5 τ' hi hm => ih.1 y2 y4 y5 τ' hi (Nat.lt_of_lt_of_le hm (Nat.le_of_lt_succ h0))) (fun y2 y4 y5 y6 τ' hi hm => ih.2 y2 y4 y5 y6 τ' hi (Nat.lt_of_lt_of_le hm (Nat.le_of_lt_succ h0))))), (fun w2 w4 w5 w6 τ hinv h0 => seg_X3_remove_52 C x1 w2 w4 w5 w6 τ (ok_X3_remove_52 h hinv (fun y2 y4 y5 y6 τ' hi hm => ih.2 y2 y4 y5 y6 τ' hi (Nat.lt_of_lt_of_le hm (Nat.le_of_lt_succ h0)))))⟩
  exact seg_X3_remove_0 C x1 σ (ok_X3_remove_0 h (fun y2 y4 y5 τ' hi => (key _).1 y2 y4 y5 τ' hi (Nat.lt_succ_self _)))
