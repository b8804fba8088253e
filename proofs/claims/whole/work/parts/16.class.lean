/-! the class's own calls -/
def CI (M : Nat) (σ : Mem) : Prop := WF M σ ∧ KI M σ
/-- the reference's cells stay -/
def FC (σ σ' : Mem) : Prop := ∀ c : Int, 37 ≤ c → c ≤ 56 → σ' c = σ c
theorem KI_SE {M : Nat} {σ τ : Mem} (h : SE σ τ) (e : τ 32 = σ 32) (g : KI M σ) : KI M τ := by
  intro m m0 m1
  rw [e]
  rcases g m m0 m1 with q | ⟨q1, q2, q3⟩
  · exact Or.inl q
  · exact Or.inr ⟨q1, q2, SE_BND h q3⟩
theorem CI_SE {M : Nat} {σ τ : Mem} (h : SE σ τ) (e : τ 32 = σ 32) (g : CI M σ) : CI M τ := ⟨SE_WF h g.1, KI_SE h e g.2⟩
theorem FR_FC {t : Int} (ht : t = 12 ∨ t = 19) {σ τ : Mem} (h : FR t σ τ) : FC σ τ := fun c h1 h2 => h c (by omega)
theorem FR_CI {M : Nat} {t : Int} (ht : t = 12 ∨ t = 19) {σ τ : Mem} (h : FR t σ τ) (g : CI M σ) : CI M τ := CI_SE (h.SE ht) (h 32 (by omega)) g
theorem FC.refl (σ : Mem) : FC σ σ := fun _ _ _ => rfl
/-- what draw() tells -/
def DP (M : Nat) (t : Int) (σ : Mem) (σ' : Mem) : Prop := PLN M σ (σ' (t + 1)) ∧ SPN σ Tr (σ' (t + 1)) (σ' t 1) ∧ (∃ rk, DA M t rk σ') ∧ (0 ≤ σ' t 1 ∧ σ' t 1 ≤ 6000) ∧ ∀ s, VS σ s → 0 ≤ σ' (t + 1) s ∧ σ' (t + 1) s ≤ 6000
theorem draw_plan {M : Nat} {t : Int} (ht : t = 12 ∨ t = 19) {σ σ' : Mem} {z : Int} (hW : WF M σ) (h : post_X2_draw M t σ z σ') : FR t σ σ' ∧ ((z = 1 ∧ σ 1 3 < σ 1 2 ∧ NP M σ) ∨ (z = 2 ∧ σ 1 2 ≤ σ 1 3 ∧ NP M σ) ∨ (z = 0 ∧ DP M t σ σ')) := by
  rcases h with ⟨h1, h2, h3⟩ | ⟨h1, hF, rk, hD, hz⟩
  · subst h3
    exact ⟨FR.refl t σ', Or.inl ⟨h1, h2, NP_open h2⟩⟩
  · refine ⟨hF, ?_⟩
    have hSE := hF.SE ht
    have hN := SE_WN hSE hW.1
    have hO := SE_WO hSE hW.2.1
    have hA := SE_AO hSE hW.1 (WF_AO hW h1)
    have hPP := DI_PP hN hO hD
    rcases hz with ⟨hz, hall⟩ | ⟨hz, hnr, hne⟩
    · have hD' : ∀ s, VS σ' s → drD t σ' s := fun s hs => by
        have hb := VS_in hN.1 hs
        show s % 10 < σ' (t + 5) (s / 10)
        rw [hall _ hb.2.2.1 hb.2.2.2.1]
        exact hs.2.2
      have hPP' : PP M σ' Tr (σ' (t + 1)) rk := by
        intro m i hi _
        obtain ⟨y1, y2, y3, y4⟩ := hPP m i hi (hD' _ (inO_VS hN hO hi).1)
        exact ⟨y1, fun q => ⟨trivial, (y2 q).2⟩, fun q => ⟨trivial, (y3 q).2⟩, y4⟩
      have hS := DI_SPN hN hO hA hD
      have hS' : SPN σ' Tr (σ' (t + 1)) (σ' t 1) := by
        obtain ⟨s1, s2, s3⟩ := hS
        refine ⟨s1, fun s hs _ => s2 s hs (hD' s hs), ?_⟩
        rcases s3 with e | ⟨s, p1, p2, p3⟩
        · exact Or.inl e
        · exact Or.inr ⟨s, p1, trivial, p3⟩
      have hsp := DI_span hN hO hD
      have hcn := DIc_cnt hN.1 hD.1
      refine Or.inr (Or.inr ⟨hz, ⟨h1, rk, SE_PP hSE.symm hPP'⟩, SE_SPN hSE.symm hS', ⟨rk, hD, hall⟩, hsp, fun s hs => ?_⟩)
      obtain ⟨m, i, hi, e, -⟩ := VS_inO hN hA ((SE_VS hSE s).mp hs)
      have hlt := (hD.1.2.2.1 m i hi).mpr (hD' _ (inO_VS hN hO hi).1)
      have dd := hD.2.1 m i hi hlt
      unfold DIs at dd
      rw [e] at dd
      omega
    · refine Or.inr (Or.inl ⟨hz, h1, SE_NP hSE.symm (NP_of (SE_WF hSE hW) (NR_MX hN hO hD.1 hnr) (fun hall => hne ?_))⟩)
      have hst : σ' 1 2 = sumI (σ' 5) 0 8 := (SE_WF hSE hW).2.2.2.2.1
      rw [hst, hD.1.2.2.2]
      refine sumI_congr (fun j j0 j1 => ?_)
      have hb := hD.1.1 j j0 j1
      apply Classical.byContradiction
      intro ne
      have h5 := hN.1.2.2.2.2.1 j j0 j1
      have hjob : j < σ' 1 1 := by
        apply Classical.byContradiction
        intro q
        have := hN.2.2.1 j (by omega) j1
        omega
      have e : (10 * j + σ' (t + 5) j) / 10 = j := by omega
      have e2 : (10 * j + σ' (t + 5) j) % 10 = σ' (t + 5) j := by omega
      have hv : VS σ' (10 * j + σ' (t + 5) j) := ⟨by omega, by rw [e]; exact hjob, by rw [e, e2]; omega⟩
      have := hall _ hv
      unfold drD at this
      rw [e, e2] at this
      omega
theorem sz_in {M : Nat} {a : Mem} (h : WF M a) {s : Int} (hs : VS a s) : (0 ≤ a 6 s ∧ a 6 s < M) ∧ (0 ≤ a 10 (a 6 s) ∧ a 10 (a 6 s) ≤ 48) := by
  have hb := VS_in h.1.1 hs
  have hm := (h.1.2.2.2.1 s hb.1 hb.2.1).1
  exact ⟨hm, h.1.1.2.2.2.2.2 _ hm.1 hm.2⟩
theorem nb_pre {M : Nat} {a : Mem} (h : WF M a) {m p : Int} (hn : P_X3_hasNeighbours m p a) : pre_X3_exchange M m p a := by
  obtain ⟨⟨m0, m1⟩, p0, p1⟩ := hn
  rw [h.1.1.1] at m1
  have := h.1.1.2.2.2.2.2 m m0 m1
  exact ⟨m0, m1, p0, by omega⟩

/-! X4_isWithin -/
def P_X4_isWithin (x0 x1 : Int) (σ : Mem) : Prop := 0 ≤ x0 ∧ x0 ≤ x1
def pre_X4_isWithin (M : Nat) (x0 x1 : Int) (σ : Mem) : Prop := inR x0 ∧ inR x1
def VC_X4_isWithin_0 (M : Nat) (post : Int → Mem → Prop) (x0 : Int) (x1 : Int) (σ : Mem) : Prop :=
 (inR x0) ∧ ((x0 < 0 → post 0 σ) ∧ (0 ≤ x0 → (inR x0 ∧ inR x1) ∧ ((x1 < x0 → post 0 σ) ∧ (x0 ≤ x1 → post 1 σ))))
set_option maxRecDepth 20000 in
set_option maxHeartbeats 4000000 in
theorem seg_X4_isWithin_0 {G : GG} {X : XX} {post : Int → Mem → Prop} (C : CX G X cX4_isWithin RX4 2 (some .boolean) 0)   (x0 : Int) (x1 : Int) (σ : Mem) (vc : VC_X4_isWithin_0 (gM G)  post  x0 x1 σ) : RW G X 2 (QI G X post) 0 [(0, pI x0), (1, pI x1)] [] σ := by
  unfold VC_X4_isWithin_0 at vc
  refine w_iload_n C 0 dX4_isWithin_0 rfl ?_
  obtain ⟨sc1, vc⟩ := vc
  refine w_if_lt C 13 dX4_isWithin_1 (by decide) sc1 (fun h2 => ?_) (fun h2 => ?_)
  · have vc := vc.1 h2
    refine w_iconst C dX4_isWithin_13 ?_
    exact w_zreturn C dX4_isWithin_14 (Or.inl rfl) vc
  · have vc := vc.2 h2
    refine w_iload_n C 0 dX4_isWithin_4 rfl ?_
    refine w_iload_n C 1 dX4_isWithin_5 rfl ?_
    obtain ⟨⟨sc3, sc4⟩, vc⟩ := vc
    refine w_icmp_gt C 13 dX4_isWithin_6 (by decide) sc3 sc4 (fun h5 => ?_) (fun h5 => ?_)
    · have vc := vc.1 h5
      refine w_iconst C dX4_isWithin_13 ?_
      exact w_zreturn C dX4_isWithin_14 (Or.inl rfl) vc
    · have vc := vc.2 h5
      refine w_iconst C dX4_isWithin_9 ?_
      refine w_goto C 14 dX4_isWithin_10 (by decide) ?_
      exact w_zreturn C dX4_isWithin_14 (Or.inr rfl) vc
set_option maxHeartbeats 1000000 in
theorem ok_X4_isWithin_0 {M : Nat} {x0 : Int} {x1 : Int} {σ : Mem} (h : pre_X4_isWithin M x0 x1 σ) : VC_X4_isWithin_0 M (fun z σ' => σ' = σ ∧ (P_X4_isWithin x0 x1 σ ∧ z = 1 ∨ ¬ P_X4_isWithin x0 x1 σ ∧ z = 0)) x0 x1 σ := by
  obtain ⟨a, b⟩ := h
  exact ⟨a, fun g => ⟨rfl, Or.inr ⟨fun z => by have := z.1; omega, rfl⟩⟩, fun g => ⟨⟨a, b⟩, fun g2 => ⟨rfl, Or.inr ⟨fun z => by have := z.2; omega, rfl⟩⟩, fun g2 => ⟨rfl, Or.inl ⟨⟨g, g2⟩, rfl⟩⟩⟩⟩
theorem c_X4_isWithin {G : GG} (hG : GI G) (l : Launch) (x0 : Int) (x1 : Int) (σ : Mem) (h : pre_X4_isWithin (gM G) x0 x1 σ) : CtI G l yX4_isWithin cX4_isWithin 2 (some .boolean) 0 [pI x0, pI x1] σ (fun z σ' => σ' = σ ∧ (P_X4_isWithin x0 x1 σ ∧ z = 1 ∨ ¬ P_X4_isWithin x0 x1 σ ∧ z = 0)) := by
  refine CtI.of hG (by decide) (Nat.le_of_ble_eq_true rfl) (fun X hl C => ?_)
  show RW G X 2 (QI G X _) 0 [(0, pI x0), (1, pI x1)] [] σ
  exact seg_X4_isWithin_0 C x0 x1 σ (ok_X4_isWithin_0 h)

/-! X4_job -/
def pre_X4_job (M : Nat) (x1 x2 x3 : Int) (σ : Mem) : Prop := CI M σ ∧ inR x1 ∧ inR x2 ∧ inR x3
def post_X4_job (M : Nat) (x1 x2 x3 : Int) (σ : Mem) (z : Int) (σ' : Mem) : Prop := ∃ a', R_job σ x1 x2 x3 z a' ∧ SE a' σ' ∧ CI M σ' ∧ FC σ σ'
def VC_X4_job_0 (M : Nat) (post : Int → Mem → Prop) (x1 : Int) (x2 : Int) (x3 : Int) (σ : Mem) : Prop :=
 (pre_X4_isWithin M x1 1000 σ) ∧ ((P_X4_isWithin x1 1000 σ → (pre_X4_isWithin M x2 1000 σ) ∧ ((P_X4_isWithin x2 1000 σ → (pre_X4_isWithin M x3 20 σ) ∧ ((P_X4_isWithin x3 20 σ → (inR (σ 1 1)) ∧ (((σ 1 1) < 8 → (pre_X3_addJob M x1 x2 x3 σ) ∧ ∀ (z11 : Int) (s10 : Mem), post_X3_addJob M x1 x2 x3 σ z11 s10 → post z11 s10) ∧ (8 ≤ (σ 1 1) → post (-4) σ))) ∧ (¬ P_X4_isWithin x3 20 σ → post (-2) σ))) ∧ (¬ P_X4_isWithin x2 1000 σ → post (-2) σ))) ∧ (¬ P_X4_isWithin x1 1000 σ → post (-2) σ))
set_option maxRecDepth 20000 in
set_option maxHeartbeats 4000000 in
theorem seg_X4_job_0 {G : GG} {X : XX} {post : Int → Mem → Prop} (C : CX G X cX4_job RX4 4 (some .int) 1)   (x1 : Int) (x2 : Int) (x3 : Int) (σ : Mem) (vc : VC_X4_job_0 (gM G)  post  x1 x2 x3 σ) : RW G X 4 (QI G X post) 0 [(0, pR 0), (1, pI x1), (2, pI x2), (3, pI x3)] [] σ := by
  unfold VC_X4_job_0 at vc
  refine w_iload_n C 1 dX4_job_0 rfl ?_
  refine w_sipush C dX4_job_1 (by decide) ?_
  obtain ⟨sc1, vc⟩ := vc
  refine w_callSI C [pI x1, pI 1000] [] rfl dX4_job_4 (c_X4_isWithin C.gi (xL X) x1 1000 σ sc1) mw_X4_isWithin ml_X4_55 ss_X4_isWithin (by decide) (Nat.le_of_ble_eq_true rfl) (fun z σ' hz => ?_)
  obtain ⟨hz2, hz⟩ := hz
  have hz2 := hz2.symm
  subst hz2
  rcases hz with ⟨h2, rfl⟩ | ⟨h2, rfl⟩
  · have vc := vc.1 h2
    refine w_if_eq C 29 dX4_job_7 (by decide) ⟨by omega, by omega⟩ (fun q => absurd q (by decide)) (fun _ => ?_)
    refine w_iload_n C 2 dX4_job_10 rfl ?_
    refine w_sipush C dX4_job_11 (by decide) ?_
    obtain ⟨sc3, vc⟩ := vc
    refine w_callSI C [pI x2, pI 1000] [] rfl dX4_job_14 (c_X4_isWithin C.gi (xL X) x2 1000 σ sc3) mw_X4_isWithin ml_X4_55 ss_X4_isWithin (by decide) (Nat.le_of_ble_eq_true rfl) (fun z σ' hz => ?_)
    obtain ⟨hz2, hz⟩ := hz
    have hz2 := hz2.symm
    subst hz2
    rcases hz with ⟨h4, rfl⟩ | ⟨h4, rfl⟩
    · have vc := vc.1 h4
      refine w_if_eq C 29 dX4_job_17 (by decide) ⟨by omega, by omega⟩ (fun q => absurd q (by decide)) (fun _ => ?_)
      refine w_iload_n C 3 dX4_job_20 rfl ?_
      refine w_bipush C dX4_job_21 (by decide) ?_
      obtain ⟨sc5, vc⟩ := vc
      refine w_callSI C [pI x3, pI 20] [] rfl dX4_job_23 (c_X4_isWithin C.gi (xL X) x3 20 σ sc5) mw_X4_isWithin ml_X4_55 ss_X4_isWithin (by decide) (Nat.le_of_ble_eq_true rfl) (fun z σ' hz => ?_)
      obtain ⟨hz2, hz⟩ := hz
      have hz2 := hz2.symm
      subst hz2
      rcases hz with ⟨h6, rfl⟩ | ⟨h6, rfl⟩
      · have vc := vc.1 h6
        refine w_if_ne C 32 dX4_job_26 (by decide) ⟨by omega, by omega⟩ (fun _ => ?_) (fun q => absurd q (by decide))
        refine w_aload_n C 0 dX4_job_32 rfl ?_
        refine w_getR C dX4_job_33 gf_X4_25 ob_0 rfl ?_
        refine w_getI C 1 dX4_job_36 gf_X4_59 ob_1 rfl rfl ?_
        refine w_bipush C dX4_job_39 (by decide) ?_
        obtain ⟨sc7, vc⟩ := vc
        refine w_icmp_lt C 47 dX4_job_41 (by decide) sc7 ⟨by omega, by omega⟩ (fun h8 => ?_) (fun h8 => ?_)
        · have vc := vc.1 h8
          refine w_aload_n C 0 dX4_job_47 rfl ?_
          refine w_getR C dX4_job_48 gf_X4_25 ob_0 rfl ?_
          refine w_iload_n C 1 dX4_job_51 rfl ?_
          refine w_iload_n C 2 dX4_job_52 rfl ?_
          refine w_iload_n C 3 dX4_job_53 rfl ?_
          obtain ⟨sc9, vc⟩ := vc
          refine w_callVI C [pI x1, pI x2, pI x3] [] rfl dX4_job_54 (c_X3_addJob C.gi (xL X) x1 x2 x3 σ sc9) oc_1 mw_X3_addJob ml_X4_63 im_X3_addJob se_X3_addJob (by decide) (Nat.le_of_ble_eq_true rfl) (fun z11 s10 hs10 => ?_)
          have vc := vc z11 s10 hs10
          exact w_ireturn C dX4_job_57 vc
        · have vc := vc.2 h8
          refine w_bipush C dX4_job_44 (by decide) ?_
          exact w_ireturn C dX4_job_46 vc
      · have vc := vc.2 h6
        refine w_if_ne C 32 dX4_job_26 (by decide) ⟨by omega, by omega⟩ (fun q => absurd q (by decide)) (fun _ => ?_)
        refine w_bipush C dX4_job_29 (by decide) ?_
        exact w_ireturn C dX4_job_31 vc
    · have vc := vc.2 h4
      refine w_if_eq C 29 dX4_job_17 (by decide) ⟨by omega, by omega⟩ (fun _ => ?_) (fun q => absurd q (by decide))
      refine w_bipush C dX4_job_29 (by decide) ?_
      exact w_ireturn C dX4_job_31 vc
  · have vc := vc.2 h2
    refine w_if_eq C 29 dX4_job_7 (by decide) ⟨by omega, by omega⟩ (fun _ => ?_) (fun q => absurd q (by decide))
    refine w_bipush C dX4_job_29 (by decide) ?_
    exact w_ireturn C dX4_job_31 vc
set_option maxHeartbeats 1000000 in
theorem ok_X4_job_0 {M : Nat} {x1 : Int} {x2 : Int} {x3 : Int} {σ : Mem} (h : pre_X4_job M x1 x2 x3 σ) : VC_X4_job_0 M (post_X4_job M x1 x2 x3 σ) x1 x2 x3 σ := by
  obtain ⟨hC, r1, r2, r3⟩ := h
  have hj := hC.1.1.1.2.2.2.1
  have no : ¬ (wi x1 0 1000 ∧ wi x2 0 1000 ∧ wi x3 0 20) → post_X4_job M x1 x2 x3 σ (-2) σ := fun q => ⟨σ, Or.inl ⟨q, rfl, rfl⟩, SE.refl σ, hC, FC.refl σ⟩
  refine ⟨⟨r1, by omega, by omega⟩, fun g1 => ⟨⟨r2, by omega, by omega⟩, fun g2 => ⟨⟨r3, by omega, by omega⟩, fun g3 => ⟨⟨by omega, by omega⟩, fun g4 => ⟨⟨hj.1, g4⟩, fun z s hp => ?_⟩, fun g4 => ⟨σ, Or.inr (Or.inl ⟨⟨g1, g2, g3⟩, g4, rfl, rfl⟩), SE.refl σ, hC, FC.refl σ⟩⟩, fun g3 => no (fun q => g3 q.2.2)⟩, fun g2 => no (fun q => g2 q.2.1)⟩, fun g1 => no (fun q => g1 q.1)⟩
  obtain ⟨e1, e2⟩ := hp
  subst e1
  subst e2
  obtain ⟨ac, -⟩ := job_acc x1 x2 x3 σ
  refine ⟨_, Or.inr (Or.inr ⟨⟨g1, g2, g3⟩, g4, rfl, rfl⟩), SE.refl _, ⟨WF_addJob hC.1 g4 g1 g2 g3, fun m m0 m1 => ?_⟩, fun c c1 c2 => ac c (by omega) (by omega) (by omega) (by omega)⟩
  rw [ac 32 (by omega) (by omega) (by omega) (by omega)]
  rcases hC.2 m m0 m1 with q | ⟨q1, q2, q3⟩
  · exact Or.inl q
  · exact Or.inr ⟨q1, q2, BND_job hC.1.1 x1 x2 x3 g4 q3⟩
theorem c_X4_job {G : GG} (hG : GI G) (l : Launch) (x1 : Int) (x2 : Int) (x3 : Int) (σ : Mem) (h : pre_X4_job (gM G) x1 x2 x3 σ) : CtI G l yX4_job cX4_job 4 (some .int) 1 [pR 0, pI x1, pI x2, pI x3] σ (post_X4_job (gM G) x1 x2 x3 σ) := by
  refine CtI.of hG (by decide) (Nat.le_of_ble_eq_true rfl) (fun X hl C => ?_)
  show RW G X 4 (QI G X _) 0 [(0, pR 0), (1, pI x1), (2, pI x2), (3, pI x3)] [] σ
  exact seg_X4_job_0 C x1 x2 x3 σ (ok_X4_job_0 h)

/-! X4_step -/
def pre_X4_step (M : Nat) (x1 x2 x3 : Int) (σ : Mem) : Prop := CI M σ ∧ inR x1 ∧ inR x2 ∧ inR x3
def post_X4_step (M : Nat) (x1 x2 x3 : Int) (σ : Mem) (z : Int) (σ' : Mem) : Prop := ∃ a', R_step σ x1 x2 x3 z a' ∧ SE a' σ' ∧ CI M σ' ∧ FC σ σ'
theorem forget_SE (σ : Mem) : SE σ (m_X0_forget σ) := fun c hc => by
  funext i
  unfold m_X0_forget m_J7_fill_53178
  rw [if_neg (by omega)]
theorem addStep_SE {a b : Mem} (h : SE a b) (x1 x2 x3 : Int) : SE (m_addStep x1 x2 x3 a) (m_addStep x1 x2 x3 b) := by
  intro c hc
  funext i
  unfold m_addStep up
  rw [h 5 (by omega), h 1 (by omega), h c hc]
def VC_X4_step_0 (M : Nat) (post : Int → Mem → Prop) (x1 : Int) (x2 : Int) (x3 : Int) (σ : Mem) : Prop :=
 (pre_X3_hasJob M x1 σ) ∧ ((P_X3_hasJob x1 σ → (pre_X3_hasMachine M x2 σ) ∧ ((P_X3_hasMachine x2 σ → (pre_X4_isWithin M x3 50 σ) ∧ ((P_X4_isWithin x3 50 σ → (0 ≤ x1 ∧ x1 < 8) ∧ (inR (σ 5 x1)) ∧ (((σ 5 x1) < 6 → (pre_X0_forget M σ) ∧ ∀ s12 : Mem, s12 = m_X0_forget σ → (pre_X3_addStep M x1 x2 x3 s12) ∧ ∀ (z15 : Int) (s14 : Mem), post_X3_addStep M x1 x2 x3 s12 z15 s14 → post z15 s14) ∧ (6 ≤ (σ 5 x1) → post (-4) σ))) ∧ (¬ P_X4_isWithin x3 50 σ → post (-2) σ))) ∧ (¬ P_X3_hasMachine x2 σ → post (-2) σ))) ∧ (¬ P_X3_hasJob x1 σ → post (-1) σ))
set_option maxRecDepth 20000 in
set_option maxHeartbeats 4000000 in
theorem seg_X4_step_0 {G : GG} {X : XX} {post : Int → Mem → Prop} (C : CX G X cX4_step RX4 4 (some .int) 2)   (x1 : Int) (x2 : Int) (x3 : Int) (σ : Mem) (vc : VC_X4_step_0 (gM G)  post  x1 x2 x3 σ) : RW G X 4 (QI G X post) 0 [(0, pR 0), (1, pI x1), (2, pI x2), (3, pI x3)] [] σ := by
  unfold VC_X4_step_0 at vc
  refine w_aload_n C 0 dX4_step_0 rfl ?_
  refine w_getR C dX4_step_1 gf_X4_25 ob_0 rfl ?_
  refine w_iload_n C 1 dX4_step_4 rfl ?_
  obtain ⟨sc1, vc⟩ := vc
  refine w_callVI C [pI x1] [] rfl dX4_step_5 (c_X3_hasJob C.gi (xL X) x1 σ sc1) oc_1 mw_X3_hasJob ml_X4_67 im_X3_hasJob se_X3_hasJob (by decide) (Nat.le_of_ble_eq_true rfl) (fun z σ' hz => ?_)
  obtain ⟨hz2, hz⟩ := hz
  have hz2 := hz2.symm
  subst hz2
  rcases hz with ⟨h2, rfl⟩ | ⟨h2, rfl⟩
  · have vc := vc.1 h2
    refine w_if_ne C 13 dX4_step_8 (by decide) ⟨by omega, by omega⟩ (fun _ => ?_) (fun q => absurd q (by decide))
    refine w_aload_n C 0 dX4_step_13 rfl ?_
    refine w_getR C dX4_step_14 gf_X4_25 ob_0 rfl ?_
    refine w_iload_n C 2 dX4_step_17 rfl ?_
    obtain ⟨sc3, vc⟩ := vc
    refine w_callVI C [pI x2] [] rfl dX4_step_18 (c_X3_hasMachine C.gi (xL X) x2 σ sc3) oc_1 mw_X3_hasMachine ml_X4_71 im_X3_hasMachine se_X3_hasMachine (by decide) (Nat.le_of_ble_eq_true rfl) (fun z σ' hz => ?_)
    obtain ⟨hz2, hz⟩ := hz
    have hz2 := hz2.symm
    subst hz2
    rcases hz with ⟨h4, rfl⟩ | ⟨h4, rfl⟩
    · have vc := vc.1 h4
      refine w_if_eq C 33 dX4_step_21 (by decide) ⟨by omega, by omega⟩ (fun q => absurd q (by decide)) (fun _ => ?_)
      refine w_iload_n C 3 dX4_step_24 rfl ?_
      refine w_bipush C dX4_step_25 (by decide) ?_
      obtain ⟨sc5, vc⟩ := vc
      refine w_callSI C [pI x3, pI 50] [] rfl dX4_step_27 (c_X4_isWithin C.gi (xL X) x3 50 σ sc5) mw_X4_isWithin ml_X4_55 ss_X4_isWithin (by decide) (Nat.le_of_ble_eq_true rfl) (fun z σ' hz => ?_)
      obtain ⟨hz2, hz⟩ := hz
      have hz2 := hz2.symm
      subst hz2
      rcases hz with ⟨h6, rfl⟩ | ⟨h6, rfl⟩
      · have vc := vc.1 h6
        refine w_if_ne C 36 dX4_step_30 (by decide) ⟨by omega, by omega⟩ (fun _ => ?_) (fun q => absurd q (by decide))
        refine w_aload_n C 0 dX4_step_36 rfl ?_
        refine w_getR C dX4_step_37 gf_X4_25 ob_0 rfl ?_
        refine w_getR C dX4_step_40 gf_X4_74 ob_1 rfl ?_
        refine w_iload_n C 1 dX4_step_43 rfl ?_
        obtain ⟨⟨sc7, sc8⟩, vc⟩ := vc
        refine w_iald C dX4_step_44 ia_5 sc7 sc8 ?_
        refine w_bipush C dX4_step_45 (by decide) ?_
        obtain ⟨sc9, vc⟩ := vc
        refine w_icmp_lt C 53 dX4_step_47 (by decide) sc9 ⟨by omega, by omega⟩ (fun h10 => ?_) (fun h10 => ?_)
        · have vc := vc.1 h10
          refine w_aload_n C 0 dX4_step_53 rfl ?_
          refine w_getR C dX4_step_54 gf_X4_51 ob_0 rfl ?_
          obtain ⟨sc11, vc⟩ := vc
          refine w_callVV C [] [] rfl dX4_step_57 (c_X0_forget C.gi (xL X)  σ sc11) oc_31 mw_X0_forget ml_X4_78 im_X0_forget se_X0_forget (by decide) (Nat.le_of_ble_eq_true rfl) (fun s12 hs12 => ?_)
          have vc := vc s12 hs12
          refine w_aload_n C 0 dX4_step_60 rfl ?_
          refine w_getR C dX4_step_61 gf_X4_25 ob_0 rfl ?_
          refine w_iload_n C 1 dX4_step_64 rfl ?_
          refine w_iload_n C 2 dX4_step_65 rfl ?_
          refine w_iload_n C 3 dX4_step_66 rfl ?_
          obtain ⟨sc13, vc⟩ := vc
          refine w_callVI C [pI x1, pI x2, pI x3] [] rfl dX4_step_67 (c_X3_addStep C.gi (xL X) x1 x2 x3 s12 sc13) oc_1 mw_X3_addStep ml_X4_81 im_X3_addStep se_X3_addStep (by decide) (Nat.le_of_ble_eq_true rfl) (fun z15 s14 hs14 => ?_)
          have vc := vc z15 s14 hs14
          exact w_ireturn C dX4_step_70 vc
        · have vc := vc.2 h10
          refine w_bipush C dX4_step_50 (by decide) ?_
          exact w_ireturn C dX4_step_52 vc
      · have vc := vc.2 h6
        refine w_if_ne C 36 dX4_step_30 (by decide) ⟨by omega, by omega⟩ (fun q => absurd q (by decide)) (fun _ => ?_)
        refine w_bipush C dX4_step_33 (by decide) ?_
        exact w_ireturn C dX4_step_35 vc
    · have vc := vc.2 h4
      refine w_if_eq C 33 dX4_step_21 (by decide) ⟨by omega, by omega⟩ (fun _ => ?_) (fun q => absurd q (by decide))
      refine w_bipush C dX4_step_33 (by decide) ?_
      exact w_ireturn C dX4_step_35 vc
  · have vc := vc.2 h2
    refine w_if_ne C 13 dX4_step_8 (by decide) ⟨by omega, by omega⟩ (fun q => absurd q (by decide)) (fun _ => ?_)
    refine w_iconst C dX4_step_11 ?_
    exact w_ireturn C dX4_step_12 vc
set_option maxHeartbeats 1000000 in
theorem ok_X4_step_0 {M : Nat} {x1 : Int} {x2 : Int} {x3 : Int} {σ : Mem} (h : pre_X4_step M x1 x2 x3 σ) : VC_X4_step_0 M (post_X4_step M x1 x2 x3 σ) x1 x2 x3 σ := by
  obtain ⟨hC, r1, r2, r3⟩ := h
  have hB := hC.1.1.1
  have same : ∀ z, R_step σ x1 x2 x3 z σ → post_X4_step M x1 x2 x3 σ z σ := fun z q => ⟨σ, q, SE.refl σ, hC, FC.refl σ⟩
  refine ⟨⟨hB, r1⟩, fun g1 => ⟨⟨hB, r2⟩, fun g2 => ⟨⟨r3, by omega, by omega⟩, fun g3 => ?_, fun g3 => same _ (Or.inr (Or.inl ⟨g1, fun q => g3 q.2, rfl, rfl⟩))⟩, fun g2 => same _ (Or.inr (Or.inl ⟨g1, fun q => g2 q.1, rfl, rfl⟩))⟩, fun g1 => same _ (Or.inl ⟨g1, rfl, rfl⟩)⟩
  have hj8 : x1 < 8 := by have := g1.2; have := hB.2.2.2.1.2; omega
  have h5 := hB.2.2.2.2.1 x1 g1.1 hj8
  refine ⟨⟨g1.1, hj8⟩, ⟨by omega, by omega⟩, fun g4 => ⟨trivial, fun s12 e12 => ⟨⟨by rw [e12]; exact SE_SB (forget_SE σ) hB, g1.1, hj8⟩, fun z s hp => ?_⟩⟩, fun g4 => same _ (Or.inr (Or.inr (Or.inl ⟨g1, ⟨g2, g3⟩, g4, rfl, rfl⟩)))⟩
  obtain ⟨e1, e2⟩ := hp
  have hSE : SE σ s12 := by rw [e12]; exact forget_SE σ
  have hS2 : SE (m_addStep x1 x2 x3 σ) s := by rw [e2]; exact addStep_SE hSE _ _ _
  have hm : 0 ≤ x2 ∧ x2 < M := ⟨g2.1, by have := g2.2; rw [hB.1] at this; exact this⟩
  refine ⟨m_addStep x1 x2 x3 σ, Or.inr (Or.inr (Or.inr ⟨g1, ⟨g2, g3⟩, g4, by rw [e1, ← hSE 5 (by omega)], rfl⟩)), hS2, ⟨SE_WF hS2 (WF_addStep hC.1 g1 hm g3 g4), fun m m0 m1 => Or.inl ?_⟩, fun c c1 c2 => ?_⟩
  · have hM : M ≤ 5 := hB.2.2.1
    rw [e2, (stp_acc x1 x2 x3 s12).1 32 (by omega) (by omega) (by omega) (by omega), e12]
    unfold m_X0_forget m_J7_fill_53178
    rw [if_pos ⟨rfl, m0, by omega⟩]
  · rw [e2, (stp_acc x1 x2 x3 s12).1 c (by omega) (by omega) (by omega) (by omega), e12]
    funext i
    unfold m_X0_forget m_J7_fill_53178
    rw [if_neg (by omega)]
theorem c_X4_step {G : GG} (hG : GI G) (l : Launch) (x1 : Int) (x2 : Int) (x3 : Int) (σ : Mem) (h : pre_X4_step (gM G) x1 x2 x3 σ) : CtI G l yX4_step cX4_step 4 (some .int) 2 [pR 0, pI x1, pI x2, pI x3] σ (post_X4_step (gM G) x1 x2 x3 σ) := by
  refine CtI.of hG (by decide) (Nat.le_of_ble_eq_true rfl) (fun X hl C => ?_)
  show RW G X 4 (QI G X _) 0 [(0, pR 0), (1, pI x1), (2, pI x2), (3, pI x3)] [] σ
  exact seg_X4_step_0 C x1 x2 x3 σ (ok_X4_step_0 h)

/-! X4_change -/
def pre_X4_change (M : Nat) (x1 x2 x3 x4 : Int) (σ : Mem) : Prop := CI M σ ∧ inR x1 ∧ inR x2 ∧ inR x3 ∧ inR x4
def post_X4_change (M : Nat) (x1 x2 x3 x4 : Int) (σ : Mem) (z : Int) (σ' : Mem) : Prop := ∃ a', R_change σ x1 x2 x3 x4 z a' ∧ SE a' σ' ∧ CI M σ' ∧ FC σ σ'
def VC_X4_change_0 (M : Nat) (post : Int → Mem → Prop) (x1 : Int) (x2 : Int) (x3 : Int) (x4 : Int) (σ : Mem) : Prop :=
 (pre_X3_hasMachine M x1 σ) ∧ ((P_X3_hasMachine x1 σ → (pre_X3_hasJob M x2 σ) ∧ ((P_X3_hasJob x2 σ → (pre_X3_hasJob M x3 σ) ∧ ((P_X3_hasJob x3 σ → (inR x2 ∧ inR x3) ∧ ((¬ x2 = x3 → (pre_X4_isWithin M x4 50 σ) ∧ ((P_X4_isWithin x4 50 σ → (pre_X3_changeBetween M x1 x2 x3 σ) ∧ ∀ v13 : Int, v13 = f_X3_changeBetween x1 x2 x3 σ → (pre_X3_setChange M x1 x2 x3 x4 σ) ∧ ∀ s15 : Mem, s15 = m_X3_setChange x1 x2 x3 x4 σ → post v13 s15) ∧ (¬ P_X4_isWithin x4 50 σ → post (-2) σ))) ∧ (x2 = x3 → post (-1) σ))) ∧ (¬ P_X3_hasJob x3 σ → post (-1) σ))) ∧ (¬ P_X3_hasJob x2 σ → post (-1) σ))) ∧ (¬ P_X3_hasMachine x1 σ → post (-1) σ))
set_option maxRecDepth 20000 in
set_option maxHeartbeats 4000000 in
theorem seg_X4_change_0 {G : GG} {X : XX} {post : Int → Mem → Prop} (C : CX G X cX4_change RX4 6 (some .int) 1)   (x1 : Int) (x2 : Int) (x3 : Int) (x4 : Int) (σ : Mem) (vc : VC_X4_change_0 (gM G)  post  x1 x2 x3 x4 σ) : RW G X 6 (QI G X post) 0 [(0, pR 0), (1, pI x1), (2, pI x2), (3, pI x3), (4, pI x4)] [] σ := by
  unfold VC_X4_change_0 at vc
  refine w_aload_n C 0 dX4_change_0 rfl ?_
  refine w_getR C dX4_change_1 gf_X4_25 ob_0 rfl ?_
  refine w_iload_n C 1 dX4_change_4 rfl ?_
  obtain ⟨sc1, vc⟩ := vc
  refine w_callVI C [pI x1] [] rfl dX4_change_5 (c_X3_hasMachine C.gi (xL X) x1 σ sc1) oc_1 mw_X3_hasMachine ml_X4_71 im_X3_hasMachine se_X3_hasMachine (by decide) (Nat.le_of_ble_eq_true rfl) (fun z σ' hz => ?_)
  obtain ⟨hz2, hz⟩ := hz
  have hz2 := hz2.symm
  subst hz2
  rcases hz with ⟨h2, rfl⟩ | ⟨h2, rfl⟩
  · have vc := vc.1 h2
    refine w_if_eq C 38 dX4_change_8 (by decide) ⟨by omega, by omega⟩ (fun q => absurd q (by decide)) (fun _ => ?_)
    refine w_aload_n C 0 dX4_change_11 rfl ?_
    refine w_getR C dX4_change_12 gf_X4_25 ob_0 rfl ?_
    refine w_iload_n C 2 dX4_change_15 rfl ?_
    obtain ⟨sc3, vc⟩ := vc
    refine w_callVI C [pI x2] [] rfl dX4_change_16 (c_X3_hasJob C.gi (xL X) x2 σ sc3) oc_1 mw_X3_hasJob ml_X4_67 im_X3_hasJob se_X3_hasJob (by decide) (Nat.le_of_ble_eq_true rfl) (fun z σ' hz => ?_)
    obtain ⟨hz2, hz⟩ := hz
    have hz2 := hz2.symm
    subst hz2
    rcases hz with ⟨h4, rfl⟩ | ⟨h4, rfl⟩
    · have vc := vc.1 h4
      refine w_if_eq C 38 dX4_change_19 (by decide) ⟨by omega, by omega⟩ (fun q => absurd q (by decide)) (fun _ => ?_)
      refine w_aload_n C 0 dX4_change_22 rfl ?_
      refine w_getR C dX4_change_23 gf_X4_25 ob_0 rfl ?_
      refine w_iload_n C 3 dX4_change_26 rfl ?_
      obtain ⟨sc5, vc⟩ := vc
      refine w_callVI C [pI x3] [] rfl dX4_change_27 (c_X3_hasJob C.gi (xL X) x3 σ sc5) oc_1 mw_X3_hasJob ml_X4_67 im_X3_hasJob se_X3_hasJob (by decide) (Nat.le_of_ble_eq_true rfl) (fun z σ' hz => ?_)
      obtain ⟨hz2, hz⟩ := hz
      have hz2 := hz2.symm
      subst hz2
      rcases hz with ⟨h6, rfl⟩ | ⟨h6, rfl⟩
      · have vc := vc.1 h6
        refine w_if_eq C 38 dX4_change_30 (by decide) ⟨by omega, by omega⟩ (fun q => absurd q (by decide)) (fun _ => ?_)
        refine w_iload_n C 2 dX4_change_33 rfl ?_
        refine w_iload_n C 3 dX4_change_34 rfl ?_
        obtain ⟨⟨sc7, sc8⟩, vc⟩ := vc
        refine w_icmp_ne C 40 dX4_change_35 (by decide) sc7 sc8 (fun h9 => ?_) (fun h9 => ?_)
        · have vc := vc.1 h9
          refine w_iload C 4 dX4_change_40 rfl ?_
          refine w_bipush C dX4_change_42 (by decide) ?_
          obtain ⟨sc10, vc⟩ := vc
          refine w_callSI C [pI x4, pI 50] [] rfl dX4_change_44 (c_X4_isWithin C.gi (xL X) x4 50 σ sc10) mw_X4_isWithin ml_X4_55 ss_X4_isWithin (by decide) (Nat.le_of_ble_eq_true rfl) (fun z σ' hz => ?_)
          obtain ⟨hz2, hz⟩ := hz
          have hz2 := hz2.symm
          subst hz2
          rcases hz with ⟨h11, rfl⟩ | ⟨h11, rfl⟩
          · have vc := vc.1 h11
            refine w_if_ne C 53 dX4_change_47 (by decide) ⟨by omega, by omega⟩ (fun _ => ?_) (fun q => absurd q (by decide))
            refine w_aload_n C 0 dX4_change_53 rfl ?_
            refine w_getR C dX4_change_54 gf_X4_25 ob_0 rfl ?_
            refine w_iload_n C 1 dX4_change_57 rfl ?_
            refine w_iload_n C 2 dX4_change_58 rfl ?_
            refine w_iload_n C 3 dX4_change_59 rfl ?_
            obtain ⟨sc12, vc⟩ := vc
            refine w_callVI C [pI x1, pI x2, pI x3] [] rfl dX4_change_60 (c_X3_changeBetween C.gi (xL X) x1 x2 x3 σ sc12) oc_1 mw_X3_changeBetween ml_X4_84 im_X3_changeBetween se_X3_changeBetween (by decide) (Nat.le_of_ble_eq_true rfl) (fun z σ' hz => ?_)
            obtain ⟨rfl, hz2⟩ := hz
            have hz2 := hz2.symm
            subst hz2
            refine w_top (fun v13 hv13 => ?_)
            have vc := vc v13 hv13
            refine w_istore C [(5, pI v13), (0, pR 0), (1, pI x1), (2, pI x2), (3, pI x3), (4, pI x4)] dX4_change_63 (by decide) rfl ?_
            refine w_aload_n C 1 dX4_change_65 rfl ?_
            refine w_getR C dX4_change_66 gf_X4_25 ob_0 rfl ?_
            refine w_iload_n C 2 dX4_change_69 rfl ?_
            refine w_iload_n C 3 dX4_change_70 rfl ?_
            refine w_iload_n C 4 dX4_change_71 rfl ?_
            refine w_iload C 5 dX4_change_72 rfl ?_
            obtain ⟨sc14, vc⟩ := vc
            refine w_callVV C [pI x1, pI x2, pI x3, pI x4] [] rfl dX4_change_74 (c_X3_setChange C.gi (xL X) x1 x2 x3 x4 σ sc14) oc_1 mw_X3_setChange ml_X4_87 im_X3_setChange se_X3_setChange (by decide) (Nat.le_of_ble_eq_true rfl) (fun s15 hs15 => ?_)
            have vc := vc s15 hs15
            refine w_iload C 0 dX4_change_77 rfl ?_
            exact w_ireturn C dX4_change_79 vc
          · have vc := vc.2 h11
            refine w_if_ne C 53 dX4_change_47 (by decide) ⟨by omega, by omega⟩ (fun q => absurd q (by decide)) (fun _ => ?_)
            refine w_bipush C dX4_change_50 (by decide) ?_
            exact w_ireturn C dX4_change_52 vc
        · have vc := vc.2 h9
          refine w_iconst C dX4_change_38 ?_
          exact w_ireturn C dX4_change_39 vc
      · have vc := vc.2 h6
        refine w_if_eq C 38 dX4_change_30 (by decide) ⟨by omega, by omega⟩ (fun _ => ?_) (fun q => absurd q (by decide))
        refine w_iconst C dX4_change_38 ?_
        exact w_ireturn C dX4_change_39 vc
    · have vc := vc.2 h4
      refine w_if_eq C 38 dX4_change_19 (by decide) ⟨by omega, by omega⟩ (fun _ => ?_) (fun q => absurd q (by decide))
      refine w_iconst C dX4_change_38 ?_
      exact w_ireturn C dX4_change_39 vc
  · have vc := vc.2 h2
    refine w_if_eq C 38 dX4_change_8 (by decide) ⟨by omega, by omega⟩ (fun _ => ?_) (fun q => absurd q (by decide))
    refine w_iconst C dX4_change_38 ?_
    exact w_ireturn C dX4_change_39 vc
set_option maxHeartbeats 1000000 in
theorem ok_X4_change_0 {M : Nat} {x1 : Int} {x2 : Int} {x3 : Int} {x4 : Int} {σ : Mem} (h : pre_X4_change M x1 x2 x3 x4 σ) : VC_X4_change_0 M (post_X4_change M x1 x2 x3 x4 σ) x1 x2 x3 x4 σ := by
  obtain ⟨hC, r1, r2, r3, r4⟩ := h
  have hB := hC.1.1.1
  have same : ∀ z, R_change σ x1 x2 x3 x4 z σ → post_X4_change M x1 x2 x3 x4 σ z σ := fun z q => ⟨σ, q, SE.refl σ, hC, FC.refl σ⟩
  refine ⟨⟨hB, r1⟩, fun g1 => ⟨⟨hB, r2⟩, fun g2 => ⟨⟨hB, r3⟩, fun g3 => ⟨⟨r2, r3⟩, fun g4 => ⟨⟨r4, by omega, by omega⟩, fun g5 => ?_, fun g5 => same _ (Or.inr (Or.inl ⟨⟨g1, g2, g3, g4⟩, g5, rfl, rfl⟩))⟩, fun g4 => same _ (Or.inl ⟨fun q => q.2.2.2 g4, rfl, rfl⟩)⟩, fun g3 => same _ (Or.inl ⟨fun q => g3 q.2.2.1, rfl, rfl⟩)⟩, fun g2 => same _ (Or.inl ⟨fun q => g2 q.2.1, rfl, rfl⟩)⟩, fun g1 => same _ (Or.inl ⟨fun q => g1 q.1, rfl, rfl⟩)⟩
  have hj := hB.2.2.2.1
  have hm : 0 ≤ x1 ∧ x1 < M := ⟨g1.1, by have := g1.2; rw [hB.1] at this; exact this⟩
  have ha : 0 ≤ x2 ∧ x2 < 8 := ⟨g2.1, by have := g2.2; omega⟩
  have hb : 0 ≤ x3 ∧ x3 < 8 := ⟨g3.1, by have := g3.2; omega⟩
  refine ⟨⟨hm.1, hm.2, ha.1, ha.2, hb.1, hb.2⟩, fun v e => ⟨⟨hm.1, hm.2, ha.1, ha.2, hb.1, hb.2⟩, fun s es => ?_⟩⟩
  have hc : ∀ c : Int, c ≠ 11 → m_X3_setChange x1 x2 x3 x4 σ c = σ c := fun c q => by unfold m_X3_setChange; rw [up_other _ _ _ q]
  subst es
  refine ⟨_, Or.inr (Or.inr ⟨⟨g1, g2, g3, g4⟩, g5, e, rfl⟩), SE.refl _, ⟨WF_setChange hC.1 hm ha hb g4 g5, fun m m0 m1 => ?_⟩, fun c c1 c2 => hc c (by omega)⟩
  rw [hc 32 (by omega)]
  rcases hC.2 m m0 m1 with q | ⟨q1, q2, q3⟩
  · exact Or.inl q
  · exact Or.inr ⟨q1, q2, BND_of (by rw [hc 1 (by omega)]) (hc 2 (by omega)) (hc 5 (by omega)) (hc 6 (by omega)) (hc 7 (by omega)) q3⟩
theorem c_X4_change {G : GG} (hG : GI G) (l : Launch) (x1 : Int) (x2 : Int) (x3 : Int) (x4 : Int) (σ : Mem) (h : pre_X4_change (gM G) x1 x2 x3 x4 σ) : CtI G l yX4_change cX4_change 6 (some .int) 1 [pR 0, pI x1, pI x2, pI x3, pI x4] σ (post_X4_change (gM G) x1 x2 x3 x4 σ) := by
  refine CtI.of hG (by decide) (Nat.le_of_ble_eq_true rfl) (fun X hl C => ?_)
  show RW G X 6 (QI G X _) 0 [(0, pR 0), (1, pI x1), (2, pI x2), (3, pI x3), (4, pI x4)] [] σ
  exact seg_X4_change_0 C x1 x2 x3 x4 σ (ok_X4_change_0 h)

/-! X4_put -/
def pre_X4_put (M : Nat) (x1 x2 : Int) (σ : Mem) : Prop := CI M σ ∧ inR x1 ∧ inR x2
def post_X4_put (M : Nat) (x1 x2 : Int) (σ : Mem) (z : Int) (σ' : Mem) : Prop := ∃ a', R_put σ x1 x2 z a' ∧ SE a' σ' ∧ CI M σ' ∧ FC σ σ'
def VC_X4_put_0 (M : Nat) (post : Int → Mem → Prop) (x1 : Int) (x2 : Int) (σ : Mem) : Prop :=
 (pre_X3_hasStep M x1 σ) ∧ ((P_X3_hasStep x1 σ → (0 ≤ x1 ∧ x1 < 80) ∧ ∀ v5 : Int, v5 = σ 6 x1 → (0 ≤ v5 ∧ v5 < M) ∧ (pre_X4_isWithin M x2 (σ 10 v5) σ) ∧ ((P_X4_isWithin x2 (σ 10 v5) σ → (0 ≤ x1 ∧ x1 < 80) ∧ (inR (σ 8 x1)) ∧ (((σ 8 x1) = 0 → (pre_X3_insert M x1 x2 σ) ∧ ∀ s15 : Mem, s15 = m_X3_insert x1 x2 σ → (0 ≤ v5 ∧ v5 < M) ∧ post (s15 10 v5) s15) ∧ (¬ (σ 8 x1) = 0 → post (-3) σ))) ∧ (¬ P_X4_isWithin x2 (σ 10 v5) σ → post (-2) σ))) ∧ (¬ P_X3_hasStep x1 σ → post (-1) σ))
set_option maxRecDepth 20000 in
set_option maxHeartbeats 4000000 in
theorem seg_X4_put_0 {G : GG} {X : XX} {post : Int → Mem → Prop} (C : CX G X cX4_put RX4 4 (some .int) 2)   (x1 : Int) (x2 : Int) (σ : Mem) (vc : VC_X4_put_0 (gM G)  post  x1 x2 σ) : RW G X 4 (QI G X post) 0 [(0, pR 0), (1, pI x1), (2, pI x2)] [] σ := by
  unfold VC_X4_put_0 at vc
  refine w_aload_n C 0 dX4_put_0 rfl ?_
  refine w_getR C dX4_put_1 gf_X4_25 ob_0 rfl ?_
  refine w_iload_n C 1 dX4_put_4 rfl ?_
  obtain ⟨sc1, vc⟩ := vc
  refine w_callVI C [pI x1] [] rfl dX4_put_5 (c_X3_hasStep C.gi (xL X) x1 σ sc1) oc_1 mw_X3_hasStep ml_X4_91 im_X3_hasStep se_X3_hasStep (by decide) (Nat.le_of_ble_eq_true rfl) (fun z σ' hz => ?_)
  obtain ⟨hz2, hz⟩ := hz
  have hz2 := hz2.symm
  subst hz2
  rcases hz with ⟨h2, rfl⟩ | ⟨h2, rfl⟩
  · have vc := vc.1 h2
    refine w_if_ne C 13 dX4_put_8 (by decide) ⟨by omega, by omega⟩ (fun _ => ?_) (fun q => absurd q (by decide))
    refine w_aload_n C 0 dX4_put_13 rfl ?_
    refine w_getR C dX4_put_14 gf_X4_25 ob_0 rfl ?_
    refine w_getR C dX4_put_17 gf_X4_94 ob_1 rfl ?_
    refine w_iload_n C 1 dX4_put_20 rfl ?_
    obtain ⟨⟨sc3, sc4⟩, vc⟩ := vc
    refine w_iald C dX4_put_21 ia_6 sc3 sc4 ?_
    refine w_top (fun v5 hv5 => ?_)
    have vc := vc v5 hv5
    refine w_istore_n C [(3, pI v5), (0, pR 0), (1, pI x1), (2, pI x2)] dX4_put_22 (by decide) rfl ?_
    refine w_iload_n C 3 dX4_put_23 rfl ?_
    refine w_aload_n C 1 dX4_put_24 rfl ?_
    refine w_getR C dX4_put_25 gf_X4_25 ob_0 rfl ?_
    refine w_getR C dX4_put_28 gf_X4_97 ob_1 rfl ?_
    refine w_iload_n C 0 dX4_put_31 rfl ?_
    obtain ⟨⟨sc6, sc7⟩, vc⟩ := vc
    refine w_iald C dX4_put_32 (ia_10 C.gi) sc6 sc7 ?_
    obtain ⟨sc8, vc⟩ := vc
    refine w_callSI C [pI x2, pI (σ 10 v5)] [] rfl dX4_put_33 (c_X4_isWithin C.gi (xL X) x2 (σ 10 v5) σ sc8) mw_X4_isWithin ml_X4_55 ss_X4_isWithin (by decide) (Nat.le_of_ble_eq_true rfl) (fun z σ' hz => ?_)
    obtain ⟨hz2, hz⟩ := hz
    have hz2 := hz2.symm
    subst hz2
    rcases hz with ⟨h9, rfl⟩ | ⟨h9, rfl⟩
    · have vc := vc.1 h9
      refine w_if_ne C 42 dX4_put_36 (by decide) ⟨by omega, by omega⟩ (fun _ => ?_) (fun q => absurd q (by decide))
      refine w_aload_n C 1 dX4_put_42 rfl ?_
      refine w_getR C dX4_put_43 gf_X4_25 ob_0 rfl ?_
      refine w_getR C dX4_put_46 gf_X4_100 ob_1 rfl ?_
      refine w_iload_n C 2 dX4_put_49 rfl ?_
      obtain ⟨⟨sc10, sc11⟩, vc⟩ := vc
      refine w_bald C dX4_put_50 ba_8 sc10 sc11 ?_
      obtain ⟨sc12, vc⟩ := vc
      refine w_if_eq C 57 dX4_put_51 (by decide) sc12 (fun h13 => ?_) (fun h13 => ?_)
      · have vc := vc.1 h13
        refine w_aload_n C 1 dX4_put_57 rfl ?_
        refine w_getR C dX4_put_58 gf_X4_25 ob_0 rfl ?_
        refine w_iload_n C 2 dX4_put_61 rfl ?_
        refine w_iload_n C 3 dX4_put_62 rfl ?_
        obtain ⟨sc14, vc⟩ := vc
        refine w_callVV C [pI x1, pI x2] [] rfl dX4_put_63 (c_X3_insert C.gi (xL X) x1 x2 σ sc14) oc_1 mw_X3_insert ml_X4_104 im_X3_insert se_X3_insert (by decide) (Nat.le_of_ble_eq_true rfl) (fun s15 hs15 => ?_)
        have vc := vc s15 hs15
        refine w_aload_n C 1 dX4_put_66 rfl ?_
        refine w_getR C dX4_put_67 gf_X4_25 ob_0 rfl ?_
        refine w_getR C dX4_put_70 gf_X4_97 ob_1 rfl ?_
        refine w_iload_n C 0 dX4_put_73 rfl ?_
        obtain ⟨⟨sc16, sc17⟩, vc⟩ := vc
        refine w_iald C dX4_put_74 (ia_10 C.gi) sc16 sc17 ?_
        exact w_ireturn C dX4_put_75 vc
      · have vc := vc.2 h13
        refine w_bipush C dX4_put_54 (by decide) ?_
        exact w_ireturn C dX4_put_56 vc
    · have vc := vc.2 h9
      refine w_if_ne C 42 dX4_put_36 (by decide) ⟨by omega, by omega⟩ (fun q => absurd q (by decide)) (fun _ => ?_)
      refine w_bipush C dX4_put_39 (by decide) ?_
      exact w_ireturn C dX4_put_41 vc
  · have vc := vc.2 h2
    refine w_if_ne C 13 dX4_put_8 (by decide) ⟨by omega, by omega⟩ (fun q => absurd q (by decide)) (fun _ => ?_)
    refine w_iconst C dX4_put_11 ?_
    exact w_ireturn C dX4_put_12 vc
set_option maxHeartbeats 1000000 in
theorem ok_X4_put_0 {M : Nat} {x1 : Int} {x2 : Int} {σ : Mem} (h : pre_X4_put M x1 x2 σ) : VC_X4_put_0 M (post_X4_put M x1 x2 σ) x1 x2 σ := by
  obtain ⟨hC, r1, r2⟩ := h
  have hB := hC.1.1.1
  have same : ∀ z, R_put σ x1 x2 z σ → post_X4_put M x1 x2 σ z σ := fun z q => ⟨σ, q, SE.refl σ, hC, FC.refl σ⟩
  refine ⟨⟨hB, r1⟩, fun g1 => ?_, fun g1 => same _ (Or.inl ⟨g1, rfl, rfl⟩)⟩
  have g1' : VS σ x1 := g1
  have hb := VS_in hB g1'
  obtain ⟨hm, hz⟩ := sz_in hC.1 g1'
  refine ⟨⟨hb.1, hb.2.1⟩, fun v e => ?_⟩
  subst e
  have h8 : σ 8 x1 = 0 ∨ σ 8 x1 = 1 := by
    rcases hC.1.2.2.1 x1 hb.1 hb.2.1 with q | ⟨q, -⟩
    · exact Or.inl q
    · exact Or.inr q
  refine ⟨hm, ⟨r2, by omega, by omega⟩, fun g2 => ⟨⟨hb.1, hb.2.1⟩, ⟨by omega, by omega⟩, fun g3 => ⟨⟨hb.1, hb.2.1, hm.1, hm.2, g2.1, g2.2, size_lt hC.1 g1' g3 hm.1 hm.2⟩, fun s es => ⟨hm, ?_⟩⟩, fun g3 => same _ (Or.inr (Or.inr (Or.inl ⟨g1', g2, g3, rfl, rfl⟩)))⟩, fun g2 => same _ (Or.inr (Or.inl ⟨g1', g2, rfl, rfl⟩))⟩
  obtain ⟨af, a1, a8, a10, ar, ao⟩ := ins_acc x1 x2 σ hm.1
  subst es
  refine ⟨_, Or.inr (Or.inr (Or.inr ⟨g1', g2, g3, by rw [a10, if_pos rfl], rfl⟩)), SE.refl _, ⟨WF_insert hC.1 g1' g3 g2.1 g2.2, fun m m0 m1 => ?_⟩, fun c c1 c2 => ao c (by omega) (by omega)⟩
  rw [ao 32 (by omega) (by omega)]
  rcases hC.2 m m0 m1 with q | ⟨q1, q2, q3⟩
  · exact Or.inl q
  · exact Or.inr ⟨q1, q2, BND_of (by rw [a1]; simp) (af 2 (by omega)) (af 5 (by omega)) (af 6 (by omega)) (af 7 (by omega)) q3⟩
theorem c_X4_put {G : GG} (hG : GI G) (l : Launch) (x1 : Int) (x2 : Int) (σ : Mem) (h : pre_X4_put (gM G) x1 x2 σ) : CtI G l yX4_put cX4_put 4 (some .int) 2 [pR 0, pI x1, pI x2] σ (post_X4_put (gM G) x1 x2 σ) := by
  refine CtI.of hG (by decide) (Nat.le_of_ble_eq_true rfl) (fun X hl C => ?_)
  show RW G X 4 (QI G X _) 0 [(0, pR 0), (1, pI x1), (2, pI x2)] [] σ
  exact seg_X4_put_0 C x1 x2 σ (ok_X4_put_0 h)

/-! X4_take -/
def pre_X4_take (M : Nat) (x1 : Int) (σ : Mem) : Prop := CI M σ ∧ inR x1
def post_X4_take (M : Nat) (x1 : Int) (σ : Mem) (z : Int) (σ' : Mem) : Prop := ∃ a', R_take σ x1 z a' ∧ SE a' σ' ∧ CI M σ' ∧ FC σ σ'
def VC_X4_take_0 (M : Nat) (post : Int → Mem → Prop) (x1 : Int) (σ : Mem) : Prop :=
 (pre_X3_hasStep M x1 σ) ∧ ((P_X3_hasStep x1 σ → (0 ≤ x1 ∧ x1 < 80) ∧ (inR (σ 8 x1)) ∧ ((¬ (σ 8 x1) = 0 → (pre_X3_remove M x1 σ) ∧ ∀ (z9 : Int) (s8 : Mem), post_X3_remove M x1 σ z9 s8 → post z9 s8) ∧ ((σ 8 x1) = 0 → post (-3) σ))) ∧ (¬ P_X3_hasStep x1 σ → post (-1) σ))
set_option maxRecDepth 20000 in
set_option maxHeartbeats 4000000 in
theorem seg_X4_take_0 {G : GG} {X : XX} {post : Int → Mem → Prop} (C : CX G X cX4_take RX4 2 (some .int) 2)   (x1 : Int) (σ : Mem) (vc : VC_X4_take_0 (gM G)  post  x1 σ) : RW G X 2 (QI G X post) 0 [(0, pR 0), (1, pI x1)] [] σ := by
  unfold VC_X4_take_0 at vc
  refine w_aload_n C 0 dX4_take_0 rfl ?_
  refine w_getR C dX4_take_1 gf_X4_25 ob_0 rfl ?_
  refine w_iload_n C 1 dX4_take_4 rfl ?_
  obtain ⟨sc1, vc⟩ := vc
  refine w_callVI C [pI x1] [] rfl dX4_take_5 (c_X3_hasStep C.gi (xL X) x1 σ sc1) oc_1 mw_X3_hasStep ml_X4_91 im_X3_hasStep se_X3_hasStep (by decide) (Nat.le_of_ble_eq_true rfl) (fun z σ' hz => ?_)
  obtain ⟨hz2, hz⟩ := hz
  have hz2 := hz2.symm
  subst hz2
  rcases hz with ⟨h2, rfl⟩ | ⟨h2, rfl⟩
  · have vc := vc.1 h2
    refine w_if_ne C 13 dX4_take_8 (by decide) ⟨by omega, by omega⟩ (fun _ => ?_) (fun q => absurd q (by decide))
    refine w_aload_n C 0 dX4_take_13 rfl ?_
    refine w_getR C dX4_take_14 gf_X4_25 ob_0 rfl ?_
    refine w_getR C dX4_take_17 gf_X4_100 ob_1 rfl ?_
    refine w_iload_n C 1 dX4_take_20 rfl ?_
    obtain ⟨⟨sc3, sc4⟩, vc⟩ := vc
    refine w_bald C dX4_take_21 ba_8 sc3 sc4 ?_
    obtain ⟨sc5, vc⟩ := vc
    refine w_if_ne C 28 dX4_take_22 (by decide) sc5 (fun h6 => ?_) (fun h6 => ?_)
    · have vc := vc.1 h6
      refine w_aload_n C 0 dX4_take_28 rfl ?_
      refine w_getR C dX4_take_29 gf_X4_25 ob_0 rfl ?_
      refine w_iload_n C 1 dX4_take_32 rfl ?_
      obtain ⟨sc7, vc⟩ := vc
      refine w_callVI C [pI x1] [] rfl dX4_take_33 (c_X3_remove C.gi (xL X) x1 σ sc7) oc_1 mw_X3_remove ml_X4_108 im_X3_remove se_X3_remove (by decide) (Nat.le_of_ble_eq_true rfl) (fun z9 s8 hs8 => ?_)
      have vc := vc z9 s8 hs8
      exact w_ireturn C dX4_take_36 vc
    · have vc := vc.2 h6
      refine w_bipush C dX4_take_25 (by decide) ?_
      exact w_ireturn C dX4_take_27 vc
  · have vc := vc.2 h2
    refine w_if_ne C 13 dX4_take_8 (by decide) ⟨by omega, by omega⟩ (fun q => absurd q (by decide)) (fun _ => ?_)
    refine w_iconst C dX4_take_11 ?_
    exact w_ireturn C dX4_take_12 vc
set_option maxHeartbeats 1000000 in
theorem ok_X4_take_0 {M : Nat} {x1 : Int} {σ : Mem} (h : pre_X4_take M x1 σ) : VC_X4_take_0 M (post_X4_take M x1 σ) x1 σ := by
  obtain ⟨hC, r1⟩ := h
  have hB := hC.1.1.1
  have same : ∀ z, R_take σ x1 z σ → post_X4_take M x1 σ z σ := fun z q => ⟨σ, q, SE.refl σ, hC, FC.refl σ⟩
  refine ⟨⟨hB, r1⟩, fun g1 => ?_, fun g1 => same _ (Or.inl ⟨g1, rfl, rfl⟩)⟩
  have g1' : VS σ x1 := g1
  have hb := VS_in hB g1'
  obtain ⟨hm, hz⟩ := sz_in hC.1 g1'
  have h8 : σ 8 x1 = 0 ∨ σ 8 x1 = 1 := by
    rcases hC.1.2.2.1 x1 hb.1 hb.2.1 with q | ⟨q, -⟩
    · exact Or.inl q
    · exact Or.inr q
  refine ⟨⟨hb.1, hb.2.1⟩, ⟨by omega, by omega⟩, fun g3 => ⟨⟨hb.1, hb.2.1, hm.1, hm.2, hz.1, hz.2, fun i i0 i1 => ?_, hC.1.2.2.2.1 x1 g1' (by omega)⟩, fun z s hp => ?_⟩, fun g3 => same _ (Or.inr (Or.inl ⟨g1', g3, rfl, rfl⟩))⟩
  · have := VS_in hB (hC.1.2.1.1 (σ 6 x1) i hm.1 hm.2 i0 i1).1
    exact ⟨this.1, this.2.1⟩
  · obtain ⟨z0, z1, z2, es⟩ := hp
    obtain ⟨af, a1, a8, a10, ar, ao⟩ := rem_acc x1 z σ hm.1
    subst es
    refine ⟨_, Or.inr (Or.inr ⟨g1', g3, z0, z1, z2, rfl⟩), SE.refl _, ⟨WF_remove hC.1 g1' (by omega) z0 z1 z2, fun m m0 m1 => ?_⟩, fun c c1 c2 => ao c (by omega) (by omega)⟩
    rw [ao 32 (by omega) (by omega)]
    rcases hC.2 m m0 m1 with q | ⟨q1, q2, q3⟩
    · exact Or.inl q
    · exact Or.inr ⟨q1, q2, BND_of (by rw [a1]; simp) (af 2 (by omega)) (af 5 (by omega)) (af 6 (by omega)) (af 7 (by omega)) q3⟩
theorem c_X4_take {G : GG} (hG : GI G) (l : Launch) (x1 : Int) (σ : Mem) (h : pre_X4_take (gM G) x1 σ) : CtI G l yX4_take cX4_take 2 (some .int) 2 [pR 0, pI x1] σ (post_X4_take (gM G) x1 σ) := by
  refine CtI.of hG (by decide) (Nat.le_of_ble_eq_true rfl) (fun X hl C => ?_)
  show RW G X 2 (QI G X _) 0 [(0, pR 0), (1, pI x1)] [] σ
  exact seg_X4_take_0 C x1 σ (ok_X4_take_0 h)

/-! X4_swap -/
def pre_X4_swap (M : Nat) (x1 x2 : Int) (σ : Mem) : Prop := CI M σ ∧ inR x1 ∧ inR x2
def post_X4_swap (M : Nat) (x1 x2 : Int) (σ : Mem) (z : Int) (σ' : Mem) : Prop := ∃ a', R_swap σ x1 x2 z a' ∧ SE a' σ' ∧ CI M σ' ∧ FC σ σ'
def VC_X4_swap_0 (M : Nat) (post : Int → Mem → Prop) (x1 : Int) (x2 : Int) (σ : Mem) : Prop :=
 (pre_X3_hasNeighbours M x1 x2 σ) ∧ ((P_X3_hasNeighbours x1 x2 σ → (pre_X3_exchange M x1 x2 σ) ∧ ∀ s4 : Mem, s4 = m_X3_exchange x1 x2 σ → post 1 s4) ∧ (¬ P_X3_hasNeighbours x1 x2 σ → post (-1) σ))
set_option maxRecDepth 20000 in
set_option maxHeartbeats 4000000 in
theorem seg_X4_swap_0 {G : GG} {X : XX} {post : Int → Mem → Prop} (C : CX G X cX4_swap RX4 3 (some .int) 2)   (x1 : Int) (x2 : Int) (σ : Mem) (vc : VC_X4_swap_0 (gM G)  post  x1 x2 σ) : RW G X 3 (QI G X post) 0 [(0, pR 0), (1, pI x1), (2, pI x2)] [] σ := by
  unfold VC_X4_swap_0 at vc
  refine w_aload_n C 0 dX4_swap_0 rfl ?_
  refine w_getR C dX4_swap_1 gf_X4_25 ob_0 rfl ?_
  refine w_iload_n C 1 dX4_swap_4 rfl ?_
  refine w_iload_n C 2 dX4_swap_5 rfl ?_
  obtain ⟨sc1, vc⟩ := vc
  refine w_callVI C [pI x1, pI x2] [] rfl dX4_swap_6 (c_X3_hasNeighbours C.gi (xL X) x1 x2 σ sc1) oc_1 mw_X3_hasNeighbours ml_X4_112 im_X3_hasNeighbours se_X3_hasNeighbours (by decide) (Nat.le_of_ble_eq_true rfl) (fun z σ' hz => ?_)
  obtain ⟨hz2, hz⟩ := hz
  have hz2 := hz2.symm
  subst hz2
  rcases hz with ⟨h2, rfl⟩ | ⟨h2, rfl⟩
  · have vc := vc.1 h2
    refine w_if_ne C 14 dX4_swap_9 (by decide) ⟨by omega, by omega⟩ (fun _ => ?_) (fun q => absurd q (by decide))
    refine w_aload_n C 0 dX4_swap_14 rfl ?_
    refine w_getR C dX4_swap_15 gf_X4_25 ob_0 rfl ?_
    refine w_iload_n C 1 dX4_swap_18 rfl ?_
    refine w_iload_n C 2 dX4_swap_19 rfl ?_
    obtain ⟨sc3, vc⟩ := vc
    refine w_callVV C [pI x1, pI x2] [] rfl dX4_swap_20 (c_X3_exchange C.gi (xL X) x1 x2 σ sc3) oc_1 mw_X3_exchange ml_X4_115 im_X3_exchange se_X3_exchange (by decide) (Nat.le_of_ble_eq_true rfl) (fun s4 hs4 => ?_)
    have vc := vc s4 hs4
    refine w_iconst C dX4_swap_23 ?_
    exact w_ireturn C dX4_swap_24 vc
  · have vc := vc.2 h2
    refine w_if_ne C 14 dX4_swap_9 (by decide) ⟨by omega, by omega⟩ (fun q => absurd q (by decide)) (fun _ => ?_)
    refine w_iconst C dX4_swap_12 ?_
    exact w_ireturn C dX4_swap_13 vc
set_option maxHeartbeats 1000000 in
theorem ok_X4_swap_0 {M : Nat} {x1 : Int} {x2 : Int} {σ : Mem} (h : pre_X4_swap M x1 x2 σ) : VC_X4_swap_0 M (post_X4_swap M x1 x2 σ) x1 x2 σ := by
  obtain ⟨hC, r1, r2⟩ := h
  refine ⟨⟨hC.1.1.1, r1, r2⟩, fun g => ⟨nb_pre hC.1 g, fun s es => ?_⟩, fun g => ⟨σ, Or.inl ⟨g, rfl, rfl⟩, SE.refl σ, hC, FC.refl σ⟩⟩
  obtain ⟨ac, -⟩ := ex_acc x1 x2 σ
  have m0 := g.1.1
  subst es
  refine ⟨_, Or.inr ⟨g, rfl, rfl⟩, SE.refl _, ⟨WF_exchange hC.1 g, fun m m0' m1 => ?_⟩, fun c c1 c2 => ac c (by omega)⟩
  rw [ac 32 (by omega)]
  rcases hC.2 m m0' m1 with q | ⟨q1, q2, q3⟩
  · exact Or.inl q
  · exact Or.inr ⟨q1, q2, BND_of (by rw [ac 1 (by omega)]) (ac 2 (by omega)) (ac 5 (by omega)) (ac 6 (by omega)) (ac 7 (by omega)) q3⟩
theorem c_X4_swap {G : GG} (hG : GI G) (l : Launch) (x1 : Int) (x2 : Int) (σ : Mem) (h : pre_X4_swap (gM G) x1 x2 σ) : CtI G l yX4_swap cX4_swap 3 (some .int) 2 [pR 0, pI x1, pI x2] σ (post_X4_swap (gM G) x1 x2 σ) := by
  refine CtI.of hG (by decide) (Nat.le_of_ble_eq_true rfl) (fun X hl C => ?_)
  show RW G X 3 (QI G X _) 0 [(0, pR 0), (1, pI x1), (2, pI x2)] [] σ
  exact seg_X4_swap_0 C x1 x2 σ (ok_X4_swap_0 h)

/-! X4_at -/
def pre_X4_at (M : Nat) (x1 x2 : Int) (σ : Mem) : Prop := WF M σ ∧ inR x1 ∧ inR x2
def post_X4_at (M : Nat) (x1 x2 : Int) (σ : Mem) (z : Int) (σ' : Mem) : Prop := R_at σ x1 x2 z ∧ σ' = σ
def VC_X4_at_0 (M : Nat) (post : Int → Mem → Prop) (x1 : Int) (x2 : Int) (σ : Mem) : Prop :=
 (pre_X3_hasMachine M x1 σ) ∧ ((P_X3_hasMachine x1 σ → (0 ≤ x1 ∧ x1 < M) ∧ ∀ v5 : Int, v5 = σ 10 x1 → (inR x2) ∧ ((¬ x2 = (-1) → (inR x2) ∧ ((x2 < 0 → post (-1) σ) ∧ (0 ≤ x2 → (inR x2 ∧ inR v5) ∧ ((v5 ≤ x2 → post (-1) σ) ∧ (x2 < v5 → (0 ≤ x1 ∧ x1 < M) ∧ (0 ≤ x2 ∧ x2 < 48) ∧ post (σ (57 + x1) x2) σ))))) ∧ (x2 = (-1) → post v5 σ))) ∧ (¬ P_X3_hasMachine x1 σ → post (-1) σ))
set_option maxRecDepth 20000 in
set_option maxHeartbeats 4000000 in
theorem seg_X4_at_0 {G : GG} {X : XX} {post : Int → Mem → Prop} (C : CX G X cX4_at RX4 4 (some .int) 1)   (x1 : Int) (x2 : Int) (σ : Mem) (vc : VC_X4_at_0 (gM G)  post  x1 x2 σ) : RW G X 4 (QI G X post) 0 [(0, pR 0), (1, pI x1), (2, pI x2)] [] σ := by
  unfold VC_X4_at_0 at vc
  refine w_aload_n C 0 dX4_at_0 rfl ?_
  refine w_getR C dX4_at_1 gf_X4_25 ob_0 rfl ?_
  refine w_iload_n C 1 dX4_at_4 rfl ?_
  obtain ⟨sc1, vc⟩ := vc
  refine w_callVI C [pI x1] [] rfl dX4_at_5 (c_X3_hasMachine C.gi (xL X) x1 σ sc1) oc_1 mw_X3_hasMachine ml_X4_71 im_X3_hasMachine se_X3_hasMachine (by decide) (Nat.le_of_ble_eq_true rfl) (fun z σ' hz => ?_)
  obtain ⟨hz2, hz⟩ := hz
  have hz2 := hz2.symm
  subst hz2
  rcases hz with ⟨h2, rfl⟩ | ⟨h2, rfl⟩
  · have vc := vc.1 h2
    refine w_if_ne C 13 dX4_at_8 (by decide) ⟨by omega, by omega⟩ (fun _ => ?_) (fun q => absurd q (by decide))
    refine w_aload_n C 0 dX4_at_13 rfl ?_
    refine w_getR C dX4_at_14 gf_X4_25 ob_0 rfl ?_
    refine w_getR C dX4_at_17 gf_X4_97 ob_1 rfl ?_
    refine w_iload_n C 1 dX4_at_20 rfl ?_
    obtain ⟨⟨sc3, sc4⟩, vc⟩ := vc
    refine w_iald C dX4_at_21 (ia_10 C.gi) sc3 sc4 ?_
    refine w_top (fun v5 hv5 => ?_)
    have vc := vc v5 hv5
    refine w_istore_n C [(3, pI v5), (0, pR 0), (1, pI x1), (2, pI x2)] dX4_at_22 (by decide) rfl ?_
    refine w_iload_n C 3 dX4_at_23 rfl ?_
    refine w_iconst C dX4_at_24 ?_
    obtain ⟨sc6, vc⟩ := vc
    refine w_icmp_ne C 30 dX4_at_25 (by decide) sc6 ⟨by omega, by omega⟩ (fun h7 => ?_) (fun h7 => ?_)
    · have vc := vc.1 h7
      refine w_iload_n C 3 dX4_at_30 rfl ?_
      obtain ⟨sc8, vc⟩ := vc
      refine w_if_lt C 53 dX4_at_31 (by decide) sc8 (fun h9 => ?_) (fun h9 => ?_)
      · have vc := vc.1 h9
        refine w_iconst C dX4_at_53 ?_
        exact w_ireturn C dX4_at_54 vc
      · have vc := vc.2 h9
        refine w_iload_n C 3 dX4_at_34 rfl ?_
        refine w_iload_n C 0 dX4_at_35 rfl ?_
        obtain ⟨⟨sc10, sc11⟩, vc⟩ := vc
        refine w_icmp_ge C 53 dX4_at_36 (by decide) sc10 sc11 (fun h12 => ?_) (fun h12 => ?_)
        · have vc := vc.1 h12
          refine w_iconst C dX4_at_53 ?_
          exact w_ireturn C dX4_at_54 vc
        · have vc := vc.2 h12
          refine w_aload_n C 1 dX4_at_39 rfl ?_
          refine w_getR C dX4_at_40 gf_X4_25 ob_0 rfl ?_
          refine w_getR C dX4_at_43 gf_X4_118 ob_1 rfl ?_
          refine w_iload_n C 2 dX4_at_46 rfl ?_
          obtain ⟨⟨sc13, sc14⟩, vc⟩ := vc
          refine w_aald C dX4_at_47 (ra_9 C.gi) sc13 sc14 ?_
          refine w_iload_n C 3 dX4_at_48 rfl ?_
          obtain ⟨⟨sc15, sc16⟩, vc⟩ := vc
          refine w_iald C dX4_at_49 (ia_row sc13 sc14) sc15 sc16 ?_
          refine w_goto C 54 dX4_at_50 (by decide) ?_
          exact w_ireturn C dX4_at_54 vc
    · have vc := vc.2 h7
      refine w_iload_n C 0 dX4_at_28 rfl ?_
      exact w_ireturn C dX4_at_29 vc
  · have vc := vc.2 h2
    refine w_if_ne C 13 dX4_at_8 (by decide) ⟨by omega, by omega⟩ (fun q => absurd q (by decide)) (fun _ => ?_)
    refine w_iconst C dX4_at_11 ?_
    exact w_ireturn C dX4_at_12 vc
set_option maxHeartbeats 1000000 in
theorem ok_X4_at_0 {M : Nat} {x1 : Int} {x2 : Int} {σ : Mem} (h : pre_X4_at M x1 x2 σ) : VC_X4_at_0 M (post_X4_at M x1 x2 σ) x1 x2 σ := by
  obtain ⟨hW, r1, r2⟩ := h
  have hB := hW.1.1
  refine ⟨⟨hB, r1⟩, fun g => ?_, fun g => ⟨Or.inl ⟨fun q => g q.1, rfl⟩, rfl⟩⟩
  have hm : 0 ≤ x1 ∧ x1 < M := ⟨g.1, by have := g.2; rw [hB.1] at this; exact this⟩
  have hz := hB.2.2.2.2.2 x1 hm.1 hm.2
  refine ⟨hm, fun v e => ?_⟩
  subst e
  refine ⟨r2, fun g2 => ⟨r2, fun g3 => ⟨Or.inl ⟨fun q => ?_, rfl⟩, rfl⟩, fun g3 => ⟨⟨r2, by omega, by omega⟩, fun g4 => ⟨Or.inl ⟨fun q => ?_, rfl⟩, rfl⟩, fun g4 => ⟨hm, ⟨g3, by omega⟩, Or.inr (Or.inr ⟨⟨g, by unfold wi; omega⟩, g2, rfl⟩), rfl⟩⟩⟩, fun g2 => ⟨Or.inr (Or.inl ⟨⟨g, by unfold wi; omega⟩, g2, rfl⟩), rfl⟩⟩
  · have := q.2.1; omega
  · have := q.2.2; omega
theorem c_X4_at {G : GG} (hG : GI G) (l : Launch) (x1 : Int) (x2 : Int) (σ : Mem) (h : pre_X4_at (gM G) x1 x2 σ) : CtI G l yX4_at cX4_at 4 (some .int) 1 [pR 0, pI x1, pI x2] σ (post_X4_at (gM G) x1 x2 σ) := by
  refine CtI.of hG (by decide) (Nat.le_of_ble_eq_true rfl) (fun X hl C => ?_)
  show RW G X 4 (QI G X _) 0 [(0, pR 0), (1, pI x1), (2, pI x2)] [] σ
  exact seg_X4_at_0 C x1 x2 σ (ok_X4_at_0 h)

/-! X4_fill -/
def pre_X4_fill (M : Nat) (x1 : Int) (σ : Mem) : Prop := CI M σ ∧ inR x1
def post_X4_fill (M : Nat) (x1 : Int) (σ : Mem) (z : Int) (σ' : Mem) : Prop := ∃ a', R_fill σ x1 z a' ∧ SE a' σ' ∧ CI M σ' ∧ FC σ σ'
def VC_X4_fill_0 (M : Nat) (post : Int → Mem → Prop) (x1 : Int) (σ : Mem) : Prop :=
 (pre_X4_isWithin M x1 3 σ) ∧ ((P_X4_isWithin x1 3 σ → (pre_X1_run M x1 σ) ∧ ∀ s4 : Mem, post_X1_run M x1 σ s4 → post (s4 1 2) s4) ∧ (¬ P_X4_isWithin x1 3 σ → post (-2) σ))
set_option maxRecDepth 20000 in
set_option maxHeartbeats 4000000 in
theorem seg_X4_fill_0 {G : GG} {X : XX} {post : Int → Mem → Prop} (C : CX G X cX4_fill RX4 2 (some .int) 4)   (x1 : Int) (σ : Mem) (vc : VC_X4_fill_0 (gM G)  post  x1 σ) : RW G X 2 (QI G X post) 0 [(0, pR 0), (1, pI x1)] [] σ := by
  unfold VC_X4_fill_0 at vc
  refine w_iload_n C 1 dX4_fill_0 rfl ?_
  refine w_iconst C dX4_fill_1 ?_
  obtain ⟨sc1, vc⟩ := vc
  refine w_callSI C [pI x1, pI 3] [] rfl dX4_fill_2 (c_X4_isWithin C.gi (xL X) x1 3 σ sc1) mw_X4_isWithin ml_X4_55 ss_X4_isWithin (by decide) (Nat.le_of_ble_eq_true rfl) (fun z σ' hz => ?_)
  obtain ⟨hz2, hz⟩ := hz
  have hz2 := hz2.symm
  subst hz2
  rcases hz with ⟨h2, rfl⟩ | ⟨h2, rfl⟩
  · have vc := vc.1 h2
    refine w_if_ne C 11 dX4_fill_5 (by decide) ⟨by omega, by omega⟩ (fun _ => ?_) (fun q => absurd q (by decide))
    refine w_aload_n C 0 dX4_fill_11 rfl ?_
    refine w_getR C dX4_fill_12 gf_X4_44 ob_0 rfl ?_
    refine w_iload_n C 1 dX4_fill_15 rfl ?_
    obtain ⟨sc3, vc⟩ := vc
    refine w_callVV C [pI x1] [] rfl dX4_fill_16 (c_X1_run C.gi (xL X) x1 σ sc3) oc_26 mw_X1_run ml_X4_122 im_X1_run se_X1_run (by decide) (Nat.le_of_ble_eq_true rfl) (fun s4 hs4 => ?_)
    have vc := vc s4 hs4
    refine w_aload_n C 0 dX4_fill_19 rfl ?_
    refine w_getR C dX4_fill_20 gf_X4_25 ob_0 rfl ?_
    refine w_getI C 2 dX4_fill_23 gf_X4_125 ob_1 rfl rfl ?_
    exact w_ireturn C dX4_fill_26 vc
  · have vc := vc.2 h2
    refine w_if_ne C 11 dX4_fill_5 (by decide) ⟨by omega, by omega⟩ (fun q => absurd q (by decide)) (fun _ => ?_)
    refine w_bipush C dX4_fill_8 (by decide) ?_
    exact w_ireturn C dX4_fill_10 vc
set_option maxHeartbeats 1000000 in
theorem ok_X4_fill_0 {M : Nat} {x1 : Int} {σ : Mem} (h : pre_X4_fill M x1 σ) : VC_X4_fill_0 M (post_X4_fill M x1 σ) x1 σ := by
  obtain ⟨hC, r1⟩ := h
  refine ⟨⟨r1, by omega, by omega⟩, fun g => ⟨⟨hC.1, r1⟩, fun s hp => ?_⟩, fun g => ⟨σ, Or.inl ⟨g, rfl, rfl⟩, SE.refl σ, hC, FC.refl σ⟩⟩
  obtain ⟨hc, hF, hFK, ho⟩ := hp
  have hSE := C30_SE hc
  refine ⟨_, Or.inr ⟨g, ?_, rfl⟩, hSE, ⟨SE_WF hSE hF.1, fun m m0 m1 => ?_⟩, fun c c1 c2 => ho c (by omega)⟩
  · rw [hc 1 (by omega)]; exact hFK.2.1
  · rw [ho 32 (by omega)]
    rcases hC.2 m m0 m1 with q | ⟨q1, q2, q3⟩
    · exact Or.inl q
    · refine Or.inr ⟨q1, q2, SE_BND hSE (BND_of hFK.1 (hFK.2.2 2 (by omega)) (hFK.2.2 5 (by omega)) (hFK.2.2 6 (by omega)) (hFK.2.2 7 (by omega)) q3)⟩
theorem c_X4_fill {G : GG} (hG : GI G) (l : Launch) (x1 : Int) (σ : Mem) (h : pre_X4_fill (gM G) x1 σ) : CtI G l yX4_fill cX4_fill 2 (some .int) 4 [pR 0, pI x1] σ (post_X4_fill (gM G) x1 σ) := by
  refine CtI.of hG (by decide) (Nat.le_of_ble_eq_true rfl) (fun X hl C => ?_)
  show RW G X 2 (QI G X _) 0 [(0, pR 0), (1, pI x1)] [] σ
  exact seg_X4_fill_0 C x1 σ (ok_X4_fill_0 h)

/-! X4_state -/
def pre_X4_state (M : Nat) (σ : Mem) : Prop := CI M σ
def post_X4_state (M : Nat) (σ : Mem) (z : Int) (σ' : Mem) : Prop := R_state M σ z ∧ SE σ σ' ∧ CI M σ' ∧ FC σ σ'
def VC_X4_state_0 (M : Nat) (post : Int → Mem → Prop)  (σ : Mem) : Prop :=
 (pre_X2_draw M 12 σ) ∧ ∀ (z3 : Int) (s2 : Mem), post_X2_draw M 12 σ z3 s2 → post z3 s2
set_option maxRecDepth 20000 in
set_option maxHeartbeats 4000000 in
theorem seg_X4_state_0 {G : GG} {X : XX} {post : Int → Mem → Prop} (C : CX G X cX4_state RX4 1 (some .int) 4)    (σ : Mem) (vc : VC_X4_state_0 (gM G)  post   σ) : RW G X 1 (QI G X post) 0 [(0, pR 0)] [] σ := by
  unfold VC_X4_state_0 at vc
  refine w_aload_n C 0 dX4_state_0 rfl ?_
  refine w_getR C dX4_state_1 gf_X4_34 ob_0 rfl ?_
  obtain ⟨sc1, vc⟩ := vc
  refine w_callVI C [] [] rfl dX4_state_4 (c_X2_draw C.gi (xL X) 12 σ (by omega) sc1) oc_12 mw_X2_draw ml_X4_128 im_X2_draw se_X2_draw (by decide) (Nat.le_of_ble_eq_true rfl) (fun z3 s2 hs2 => ?_)
  have vc := vc z3 s2 hs2
  exact w_ireturn C dX4_state_7 vc
set_option maxHeartbeats 1000000 in
theorem ok_X4_state_0 {M : Nat} {σ : Mem} (h : pre_X4_state M σ) : VC_X4_state_0 M (post_X4_state M σ) σ := by
  refine ⟨h.1, fun z s hp => ?_⟩
  obtain ⟨hF, hz⟩ := draw_plan (Or.inl rfl) h.1 hp
  refine ⟨?_, hF.SE (Or.inl rfl), FR_CI (Or.inl rfl) hF h, FR_FC (Or.inl rfl) hF⟩
  rcases hz with ⟨e, q, -⟩ | ⟨e, q, n⟩ | ⟨e, d⟩
  · exact Or.inl ⟨e, q⟩
  · exact Or.inr (Or.inl ⟨e, q, n⟩)
  · exact Or.inr (Or.inr ⟨e, _, d.1⟩)
theorem c_X4_state {G : GG} (hG : GI G) (l : Launch) (σ : Mem) (h : pre_X4_state (gM G) σ) : CtI G l yX4_state cX4_state 1 (some .int) 4 [pR 0] σ (post_X4_state (gM G) σ) := by
  refine CtI.of hG (by decide) (Nat.le_of_ble_eq_true rfl) (fun X hl C => ?_)
  show RW G X 1 (QI G X _) 0 [(0, pR 0)] [] σ
  exact seg_X4_state_0 C σ (ok_X4_state_0 h)

/-! X4_when -/
def pre_X4_when (M : Nat) (x1 x2 : Int) (σ : Mem) : Prop := CI M σ ∧ inR x1 ∧ inR x2
def post_X4_when (M : Nat) (x1 x2 : Int) (σ : Mem) (z : Int) (σ' : Mem) : Prop := R_when M σ x1 x2 z ∧ SE σ σ' ∧ CI M σ' ∧ FC σ σ'
def VC_X4_when_0 (M : Nat) (post : Int → Mem → Prop) (x1 : Int) (x2 : Int) (σ : Mem) : Prop :=
 (pre_X3_hasStep M x1 σ) ∧ ((P_X3_hasStep x1 σ → (pre_X4_isWithin M x2 2 σ) ∧ ((P_X4_isWithin x2 2 σ → (pre_X2_draw M 12 σ) ∧ ∀ (z7 : Int) (s6 : Mem), post_X2_draw M 12 σ z7 s6 → (inR z7) ∧ ((z7 = 0 → (inR x2) ∧ ((¬ x2 = 0 → (inR x2) ∧ ((¬ x2 = 1 → (pre_X2_measureRests M 12 s6) ∧ ∀ s15 : Mem, post_X2_measureRests M 12 s6 s15 → (pre_X2_slackOf M 12 x1 s15) ∧ post (f_X2_slackOf 12 x1 s15) s15) ∧ (x2 = 1 → (pre_X2_endOf M 12 x1 s6) ∧ post (f_X2_endOf 12 x1 s6) s6))) ∧ (x2 = 0 → (0 ≤ x1 ∧ x1 < 80) ∧ post (s6 13 x1) s6))) ∧ (¬ z7 = 0 → post (-3) s6))) ∧ (¬ P_X4_isWithin x2 2 σ → post (-2) σ))) ∧ (¬ P_X3_hasStep x1 σ → post (-1) σ))
set_option maxRecDepth 20000 in
set_option maxHeartbeats 4000000 in
theorem seg_X4_when_0 {G : GG} {X : XX} {post : Int → Mem → Prop} (C : CX G X cX4_when RX4 3 (some .int) 4)   (x1 : Int) (x2 : Int) (σ : Mem) (vc : VC_X4_when_0 (gM G)  post  x1 x2 σ) : RW G X 3 (QI G X post) 0 [(0, pR 0), (1, pI x1), (2, pI x2)] [] σ := by
  unfold VC_X4_when_0 at vc
  refine w_aload_n C 0 dX4_when_0 rfl ?_
  refine w_getR C dX4_when_1 gf_X4_25 ob_0 rfl ?_
  refine w_iload_n C 1 dX4_when_4 rfl ?_
  obtain ⟨sc1, vc⟩ := vc
  refine w_callVI C [pI x1] [] rfl dX4_when_5 (c_X3_hasStep C.gi (xL X) x1 σ sc1) oc_1 mw_X3_hasStep ml_X4_91 im_X3_hasStep se_X3_hasStep (by decide) (Nat.le_of_ble_eq_true rfl) (fun z σ' hz => ?_)
  obtain ⟨hz2, hz⟩ := hz
  have hz2 := hz2.symm
  subst hz2
  rcases hz with ⟨h2, rfl⟩ | ⟨h2, rfl⟩
  · have vc := vc.1 h2
    refine w_if_ne C 13 dX4_when_8 (by decide) ⟨by omega, by omega⟩ (fun _ => ?_) (fun q => absurd q (by decide))
    refine w_iload_n C 2 dX4_when_13 rfl ?_
    refine w_iconst C dX4_when_14 ?_
    obtain ⟨sc3, vc⟩ := vc
    refine w_callSI C [pI x2, pI 2] [] rfl dX4_when_15 (c_X4_isWithin C.gi (xL X) x2 2 σ sc3) mw_X4_isWithin ml_X4_55 ss_X4_isWithin (by decide) (Nat.le_of_ble_eq_true rfl) (fun z σ' hz => ?_)
    obtain ⟨hz2, hz⟩ := hz
    have hz2 := hz2.symm
    subst hz2
    rcases hz with ⟨h4, rfl⟩ | ⟨h4, rfl⟩
    · have vc := vc.1 h4
      refine w_if_ne C 24 dX4_when_18 (by decide) ⟨by omega, by omega⟩ (fun _ => ?_) (fun q => absurd q (by decide))
      refine w_aload_n C 0 dX4_when_24 rfl ?_
      refine w_getR C dX4_when_25 gf_X4_34 ob_0 rfl ?_
      obtain ⟨sc5, vc⟩ := vc
      refine w_callVI C [] [] rfl dX4_when_28 (c_X2_draw C.gi (xL X) 12 σ (by omega) sc5) oc_12 mw_X2_draw ml_X4_128 im_X2_draw se_X2_draw (by decide) (Nat.le_of_ble_eq_true rfl) (fun z7 s6 hs6 => ?_)
      have vc := vc z7 s6 hs6
      obtain ⟨sc8, vc⟩ := vc
      refine w_if_eq C 37 dX4_when_31 (by decide) sc8 (fun h9 => ?_) (fun h9 => ?_)
      · have vc := vc.1 h9
        refine w_iload_n C 2 dX4_when_37 rfl ?_
        obtain ⟨sc10, vc⟩ := vc
        refine w_if_ne C 51 dX4_when_38 (by decide) sc10 (fun h11 => ?_) (fun h11 => ?_)
        · have vc := vc.1 h11
          refine w_iload_n C 2 dX4_when_51 rfl ?_
          refine w_iconst C dX4_when_52 ?_
          obtain ⟨sc12, vc⟩ := vc
          refine w_icmp_ne C 65 dX4_when_53 (by decide) sc12 ⟨by omega, by omega⟩ (fun h13 => ?_) (fun h13 => ?_)
          · have vc := vc.1 h13
            refine w_aload_n C 0 dX4_when_65 rfl ?_
            refine w_getR C dX4_when_66 gf_X4_34 ob_0 rfl ?_
            obtain ⟨sc14, vc⟩ := vc
            refine w_callVV C [] [] rfl dX4_when_69 (c_X2_measureRests C.gi (xL X) 12 s6 (by omega) sc14) oc_12 mw_X2_measureRests ml_X4_138 im_X2_measureRests se_X2_measureRests (by decide) (Nat.le_of_ble_eq_true rfl) (fun s15 hs15 => ?_)
            have vc := vc s15 hs15
            refine w_aload_n C 0 dX4_when_72 rfl ?_
            refine w_getR C dX4_when_73 gf_X4_34 ob_0 rfl ?_
            refine w_iload_n C 1 dX4_when_76 rfl ?_
            obtain ⟨sc16, vc⟩ := vc
            refine w_callVI C [pI x1] [] rfl dX4_when_77 (c_X2_slackOf C.gi (xL X) 12 x1 s15 (by omega) sc16) oc_12 mw_X2_slackOf ml_X4_141 im_X2_slackOf se_X2_slackOf (by decide) (Nat.le_of_ble_eq_true rfl) (fun z σ' hz => ?_)
            obtain ⟨rfl, hz2⟩ := hz
            have hz2 := hz2.symm
            subst hz2
            exact w_ireturn C dX4_when_80 vc
          · have vc := vc.2 h13
            refine w_aload_n C 0 dX4_when_56 rfl ?_
            refine w_getR C dX4_when_57 gf_X4_34 ob_0 rfl ?_
            refine w_iload_n C 1 dX4_when_60 rfl ?_
            obtain ⟨sc17, vc⟩ := vc
            refine w_callVI C [pI x1] [] rfl dX4_when_61 (c_X2_endOf C.gi (xL X) 12 x1 s6 (by omega) sc17) oc_12 mw_X2_endOf ml_X4_135 im_X2_endOf se_X2_endOf (by decide) (Nat.le_of_ble_eq_true rfl) (fun z σ' hz => ?_)
            obtain ⟨rfl, hz2⟩ := hz
            have hz2 := hz2.symm
            subst hz2
            exact w_ireturn C dX4_when_64 vc
        · have vc := vc.2 h11
          refine w_aload_n C 0 dX4_when_41 rfl ?_
          refine w_getR C dX4_when_42 gf_X4_34 ob_0 rfl ?_
          refine w_getR C dX4_when_45 gf_X4_132 ob_12 rfl ?_
          refine w_iload_n C 1 dX4_when_48 rfl ?_
          obtain ⟨⟨sc18, sc19⟩, vc⟩ := vc
          refine w_iald C dX4_when_49 ia_13 sc18 sc19 ?_
          exact w_ireturn C dX4_when_50 vc
      · have vc := vc.2 h9
        refine w_bipush C dX4_when_34 (by decide) ?_
        exact w_ireturn C dX4_when_36 vc
    · have vc := vc.2 h4
      refine w_if_ne C 24 dX4_when_18 (by decide) ⟨by omega, by omega⟩ (fun q => absurd q (by decide)) (fun _ => ?_)
      refine w_bipush C dX4_when_21 (by decide) ?_
      exact w_ireturn C dX4_when_23 vc
  · have vc := vc.2 h2
    refine w_if_ne C 13 dX4_when_8 (by decide) ⟨by omega, by omega⟩ (fun q => absurd q (by decide)) (fun _ => ?_)
    refine w_iconst C dX4_when_11 ?_
    exact w_ireturn C dX4_when_12 vc
set_option maxHeartbeats 1000000 in
theorem ok_X4_when_0 {M : Nat} {x1 : Int} {x2 : Int} {σ : Mem} (h : pre_X4_when M x1 x2 σ) : VC_X4_when_0 M (post_X4_when M x1 x2 σ) x1 x2 σ := by
  obtain ⟨hC, r1, r2⟩ := h
  have hB := hC.1.1.1
  refine ⟨⟨hB, r1⟩, fun g1 => ⟨⟨r2, by omega, by omega⟩, fun g2 => ⟨hC.1, fun z s hp => ?_⟩, fun g2 => ⟨Or.inr (Or.inl ⟨g1, g2, rfl⟩), SE.refl σ, hC, FC.refl σ⟩⟩, fun g1 => ⟨Or.inl ⟨g1, rfl⟩, SE.refl σ, hC, FC.refl σ⟩⟩
  have g1' : VS σ x1 := g1
  have hb := VS_in hB g1'
  obtain ⟨hF, hz⟩ := draw_plan (Or.inl rfl) hC.1 hp
  have hSE := hF.SE (Or.inl rfl)
  have hCI := FR_CI (Or.inl rfl) hF hC
  have hFC := FR_FC (Or.inl rfl) hF
  have f7 : s 7 = σ 7 := hF 7 (by omega)
  refine ⟨⟨by omega, by omega⟩, fun g3 => ?_, fun g3 => ?_⟩
  · have d : DP M 12 σ s := by
      rcases hz with ⟨e, -⟩ | ⟨e, -⟩ | ⟨e, d⟩
      · omega
      · omega
      · exact d
    refine ⟨r2, fun g4 => ⟨r2, fun g5 => ?_, fun g5 => ⟨⟨hb.1, hb.2.1⟩, Or.inr (Or.inr ⟨g1', g2, Or.inr ⟨_, d.1, Or.inr (Or.inl ⟨g5, ?_⟩)⟩⟩), hSE, hCI, hFC⟩⟩, fun g4 => ⟨⟨hb.1, hb.2.1⟩, Or.inr (Or.inr ⟨g1', g2, Or.inr ⟨_, d.1, Or.inl ⟨g4, rfl⟩⟩⟩), hSE, hCI, hFC⟩⟩
    · refine ⟨⟨hCI.1.1, hCI.1.2.1, SE_AO hSE hC.1.1 (WF_AO hC.1 d.1.1), d.2.2.1⟩, fun s15 h15 => ⟨⟨hb.1, hb.2.1⟩, ?_⟩⟩
      obtain ⟨c15, r15, -⟩ := h15
      have hS15 : SE s s15 := fun c hc => (c15 c (by omega)).symm
      refine ⟨Or.inr (Or.inr ⟨g1', g2, Or.inr ⟨_, d.1, Or.inr (Or.inr ⟨by have := g2.1; have := g2.2; omega, s 12 1, s15 14, d.2.1, SE_RS hSE.symm r15, ?_⟩)⟩⟩), hSE.trans hS15, CI_SE hS15 (c15 32 (by omega)) hCI, fun c c1 c2 => (c15 c (by omega)).trans (hFC c c1 c2)⟩
      show s15 12 1 - s15 13 x1 - s15 14 x1 = _
      rw [c15 12 (by omega), c15 13 (by omega)]
      rfl
    · show s 13 x1 + s 7 x1 = _
      rw [f7]
      rfl
  · refine ⟨Or.inr (Or.inr ⟨g1', g2, Or.inl ⟨?_, rfl⟩⟩), hSE, hCI, hFC⟩
    rcases hz with ⟨e, q, n⟩ | ⟨e, q, n⟩ | ⟨e, d⟩
    · exact n
    · exact n
    · exact absurd e g3
theorem c_X4_when {G : GG} (hG : GI G) (l : Launch) (x1 : Int) (x2 : Int) (σ : Mem) (h : pre_X4_when (gM G) x1 x2 σ) : CtI G l yX4_when cX4_when 3 (some .int) 4 [pR 0, pI x1, pI x2] σ (post_X4_when (gM G) x1 x2 σ) := by
  refine CtI.of hG (by decide) (Nat.le_of_ble_eq_true rfl) (fun X hl C => ?_)
  show RW G X 3 (QI G X _) 0 [(0, pR 0), (1, pI x1), (2, pI x2)] [] σ
  exact seg_X4_when_0 C x1 x2 σ (ok_X4_when_0 h)

/-! X4_span -/
def pre_X4_span (M : Nat) (σ : Mem) : Prop := CI M σ
def post_X4_span (M : Nat) (σ : Mem) (z : Int) (σ' : Mem) : Prop := spanR M σ z ∧ SE σ σ' ∧ CI M σ' ∧ FC σ σ'
def VC_X4_span_0 (M : Nat) (post : Int → Mem → Prop)  (σ : Mem) : Prop :=
 (pre_X2_draw M 12 σ) ∧ ∀ (z3 : Int) (s2 : Mem), post_X2_draw M 12 σ z3 s2 → (inR z3) ∧ ((¬ z3 = 0 → post (-3) s2) ∧ (z3 = 0 → post (s2 12 1) s2))
set_option maxRecDepth 20000 in
set_option maxHeartbeats 4000000 in
theorem seg_X4_span_0 {G : GG} {X : XX} {post : Int → Mem → Prop} (C : CX G X cX4_span RX4 1 (some .int) 4)    (σ : Mem) (vc : VC_X4_span_0 (gM G)  post   σ) : RW G X 1 (QI G X post) 0 [(0, pR 0)] [] σ := by
  unfold VC_X4_span_0 at vc
  refine w_aload_n C 0 dX4_span_0 rfl ?_
  refine w_getR C dX4_span_1 gf_X4_34 ob_0 rfl ?_
  obtain ⟨sc1, vc⟩ := vc
  refine w_callVI C [] [] rfl dX4_span_4 (c_X2_draw C.gi (xL X) 12 σ (by omega) sc1) oc_12 mw_X2_draw ml_X4_128 im_X2_draw se_X2_draw (by decide) (Nat.le_of_ble_eq_true rfl) (fun z3 s2 hs2 => ?_)
  have vc := vc z3 s2 hs2
  obtain ⟨sc4, vc⟩ := vc
  refine w_if_ne C 20 dX4_span_7 (by decide) sc4 (fun h5 => ?_) (fun h5 => ?_)
  · have vc := vc.1 h5
    refine w_bipush C dX4_span_20 (by decide) ?_
    exact w_ireturn C dX4_span_22 vc
  · have vc := vc.2 h5
    refine w_aload_n C 0 dX4_span_10 rfl ?_
    refine w_getR C dX4_span_11 gf_X4_34 ob_0 rfl ?_
    refine w_getI C 1 dX4_span_14 gf_X4_144 ob_12 rfl rfl ?_
    refine w_goto C 22 dX4_span_17 (by decide) ?_
    exact w_ireturn C dX4_span_22 vc
set_option maxHeartbeats 1000000 in
theorem ok_X4_span_0 {M : Nat} {σ : Mem} (h : pre_X4_span M σ) : VC_X4_span_0 M (post_X4_span M σ) σ := by
  refine ⟨h.1, fun z s hp => ?_⟩
  obtain ⟨hF, hz⟩ := draw_plan (Or.inl rfl) h.1 hp
  have fin := fun (w : Int) (q : spanR M σ w) => (⟨q, hF.SE (Or.inl rfl), FR_CI (Or.inl rfl) hF h, FR_FC (Or.inl rfl) hF⟩ : post_X4_span M σ w s)
  refine ⟨⟨by omega, by omega⟩, fun g => fin _ ?_, fun g => fin _ ?_⟩
  · rcases hz with ⟨e, q, n⟩ | ⟨e, q, n⟩ | ⟨e, d⟩
    · exact Or.inl ⟨n, rfl⟩
    · exact Or.inl ⟨n, rfl⟩
    · exact absurd e g
  · rcases hz with ⟨e, -⟩ | ⟨e, -⟩ | ⟨e, d⟩
    · omega
    · omega
    · exact Or.inr ⟨_, d.1, d.2.1⟩
theorem c_X4_span {G : GG} (hG : GI G) (l : Launch) (σ : Mem) (h : pre_X4_span (gM G) σ) : CtI G l yX4_span cX4_span 1 (some .int) 4 [pR 0] σ (post_X4_span (gM G) σ) := by
  refine CtI.of hG (by decide) (Nat.le_of_ble_eq_true rfl) (fun X hl C => ?_)
  show RW G X 1 (QI G X _) 0 [(0, pR 0)] [] σ
  exact seg_X4_span_0 C σ (ok_X4_span_0 h)

/-! X4_late -/
def pre_X4_late (M : Nat) (σ : Mem) : Prop := CI M σ
def post_X4_late (M : Nat) (σ : Mem) (z : Int) (σ' : Mem) : Prop := R_late M σ z ∧ SE σ σ' ∧ CI M σ' ∧ FC σ σ'
def inv_X4_late_18 (M : Nat) (σ : Mem) (w1 w3 : Int) (τ : Mem) : Prop := FR 12 σ τ ∧ DP M 12 σ τ ∧ 0 ≤ w3 ∧ w3 ≤ σ 1 1 ∧ w1 = sumI (fun j => σ 4 j * max 0 (eJ σ (τ 13) j - σ 3 j)) 0 w3
def mu_X4_late_18 (w1 w3 : Int) (τ : Mem) : Nat := (8 - w3).toNat
theorem eJ_in {M : Nat} {a : Mem} (hN : WN M a) {B : Int → Int} (hB : ∀ s, VS a s → 0 ≤ B s ∧ B s ≤ 6000) {j : Int} (j0 : 0 ≤ j) (j1 : j < a 1 1) : 0 ≤ eJ a B j ∧ eJ a B j ≤ 6100 := by
  have h1 := hN.1.2.2.2.1
  have h2 := (hN.2.1 j j0 (by omega)).1
  unfold eJ
  by_cases e : a 5 j = 0
  · rw [if_pos e]; omega
  · rw [if_neg e]
    have v := last_VS hN j0 j1 e
    have vb := VS_in hN.1 v
    have := hB _ v
    have := (hN.2.2.2.1 _ vb.1 vb.2.1).2
    omega
def VC_X4_late_0 (M : Nat) (K18 : Int → Int → Mem → Prop) (post : Int → Mem → Prop)  (σ : Mem) : Prop :=
 (pre_X2_draw M 12 σ) ∧ ∀ (z3 : Int) (s2 : Mem), post_X2_draw M 12 σ z3 s2 → (inR z3) ∧ ((z3 = 0 → K18 0 0 s2) ∧ (¬ z3 = 0 → post (-9223372036854775808) s2))
set_option maxRecDepth 20000 in
set_option maxHeartbeats 4000000 in
theorem seg_X4_late_0 {G : GG} {X : XX} {post : Int → Mem → Prop} (C : CX G X cX4_late RX4 6 (some .long) 4)    (σ : Mem) (vc : VC_X4_late_0 (gM G) (fun w1 w3 σ => RW G X 6 (QL G X post) 18 [(0, pR 0), (1, pL w1), (3, pI w3)] [] σ) post   σ) : RW G X 6 (QL G X post) 0 [(0, pR 0)] [] σ := by
  unfold VC_X4_late_0 at vc
  refine w_aload_n C 0 dX4_late_0 rfl ?_
  refine w_getR C dX4_late_1 gf_X4_34 ob_0 rfl ?_
  obtain ⟨sc1, vc⟩ := vc
  refine w_callVI C [] [] rfl dX4_late_4 (c_X2_draw C.gi (xL X) 12 σ (by omega) sc1) oc_12 mw_X2_draw ml_X4_128 im_X2_draw se_X2_draw (by decide) (Nat.le_of_ble_eq_true rfl) (fun z3 s2 hs2 => ?_)
  have vc := vc z3 s2 hs2
  obtain ⟨sc4, vc⟩ := vc
  refine w_if_eq C 14 dX4_late_7 (by decide) sc4 (fun h5 => ?_) (fun h5 => ?_)
  · have vc := vc.1 h5
    refine w_lconst (z := 0) C dX4_late_14 (by decide) ?_
    refine w_lstore_n C [(1, pL 0), (0, pR 0)] dX4_late_15 (by decide) rfl ?_
    refine w_iconst C dX4_late_16 ?_
    refine w_istore_n C [(3, pI 0), (1, pL 0), (0, pR 0)] dX4_late_17 (by decide) rfl ?_
    exact w_sub _ [2, 1, 0] rfl vc
  · have vc := vc.2 h5
    refine w_ldc2 (n := -9223372036854775808) C dX4_late_10 cs_X4_147 ?_
    exact w_lreturn C dX4_late_13 vc
def VC_X4_late_18 (M : Nat) (K18 : Int → Int → Mem → Prop) (post : Int → Mem → Prop) (w1 : Int) (w3 : Int) (σ : Mem) : Prop :=
 (inR w3 ∧ inR (σ 1 1)) ∧ (((σ 1 1) ≤ w3 → post w1 σ) ∧ (w3 < (σ 1 1) → (pre_X2_endOfJob M 12 w3 σ) ∧ (0 ≤ w3 ∧ w3 < 8) ∧ (inR ((f_X2_endOfJob 12 w3 σ) - (σ 3 w3))) ∧ (inR (max 0 ((f_X2_endOfJob 12 w3 σ) - (σ 3 w3)))) ∧ ∀ v9 : Int, v9 = max 0 ((f_X2_endOfJob 12 w3 σ) - (σ 3 w3)) → (0 ≤ w3 ∧ w3 < 8) ∧ (inR (σ 4 w3)) ∧ ∀ v13 : Int, v13 = w1 + ((σ 4 w3) * v9) → K18 v13 (w3 + 1) σ))
set_option maxRecDepth 20000 in
set_option maxHeartbeats 4000000 in
theorem seg_X4_late_18 {G : GG} {X : XX} {post : Int → Mem → Prop} (C : CX G X cX4_late RX4 6 (some .long) 4)   (w1 : Int) (w3 : Int) (σ : Mem) (vc : VC_X4_late_18 (gM G) (fun w1 w3 σ => RW G X 6 (QL G X post) 18 [(0, pR 0), (1, pL w1), (3, pI w3)] [] σ) post  w1 w3 σ) : RW G X 6 (QL G X post) 18 [(0, pR 0), (1, pL w1), (3, pI w3)] [] σ := by
  unfold VC_X4_late_18 at vc
  refine w_iload_n C 2 dX4_late_18 rfl ?_
  refine w_aload_n C 0 dX4_late_19 rfl ?_
  refine w_getR C dX4_late_20 gf_X4_25 ob_0 rfl ?_
  refine w_getI C 1 dX4_late_23 gf_X4_59 ob_1 rfl rfl ?_
  obtain ⟨⟨sc1, sc2⟩, vc⟩ := vc
  refine w_icmp_ge C 76 dX4_late_26 (by decide) sc1 sc2 (fun h3 => ?_) (fun h3 => ?_)
  · have vc := vc.1 h3
    refine w_lload_n C 1 dX4_late_76 rfl ?_
    exact w_lreturn C dX4_late_77 vc
  · have vc := vc.2 h3
    refine w_iconst C dX4_late_29 ?_
    refine w_aload_n C 0 dX4_late_30 rfl ?_
    refine w_getR C dX4_late_31 gf_X4_34 ob_0 rfl ?_
    refine w_iload_n C 2 dX4_late_34 rfl ?_
    obtain ⟨sc4, vc⟩ := vc
    refine w_callVI C [pI w3] [pI 0] rfl dX4_late_35 (c_X2_endOfJob C.gi (xL X) 12 w3 σ (by omega) sc4) oc_12 mw_X2_endOfJob ml_X4_149 im_X2_endOfJob se_X2_endOfJob (by decide) (Nat.le_of_ble_eq_true rfl) (fun z σ' hz => ?_)
    obtain ⟨rfl, hz2⟩ := hz
    have hz2 := hz2.symm
    subst hz2
    refine w_aload_n C 0 dX4_late_38 rfl ?_
    refine w_getR C dX4_late_39 gf_X4_25 ob_0 rfl ?_
    refine w_getR C dX4_late_42 gf_X4_152 ob_1 rfl ?_
    refine w_iload_n C 2 dX4_late_45 rfl ?_
    obtain ⟨⟨sc5, sc6⟩, vc⟩ := vc
    refine w_iald C dX4_late_46 ia_3 sc5 sc6 ?_
    refine w_isub C dX4_late_47 ?_
    obtain ⟨sc7, vc⟩ := vc
    refine w_max C dX4_late_48 ml_X4_19 mt_max ⟨by omega, by omega⟩ sc7 (Nat.le_of_ble_eq_true rfl) ?_
    obtain ⟨sc8, vc⟩ := vc
    refine w_i2l C dX4_late_51 sc8 ?_
    refine w_topl (fun v9 hv9 => ?_)
    have vc := vc v9 hv9
    refine w_lstore C [(4, pL v9), (0, pR 0), (1, pL w1), (3, pI w3)] dX4_late_52 (by decide) rfl ?_
    refine w_lload_n C 2 dX4_late_54 rfl ?_
    refine w_aload_n C 1 dX4_late_55 rfl ?_
    refine w_getR C dX4_late_56 gf_X4_25 ob_0 rfl ?_
    refine w_getR C dX4_late_59 gf_X4_155 ob_1 rfl ?_
    refine w_iload_n C 3 dX4_late_62 rfl ?_
    obtain ⟨⟨sc10, sc11⟩, vc⟩ := vc
    refine w_iald C dX4_late_63 ia_4 sc10 sc11 ?_
    obtain ⟨sc12, vc⟩ := vc
    refine w_i2l C dX4_late_64 sc12 ?_
    refine w_lload C 0 dX4_late_65 rfl ?_
    refine w_lmul C dX4_late_67 ?_
    refine w_ladd C dX4_late_68 ?_
    refine w_topl (fun v13 hv13 => ?_)
    have vc := vc v13 hv13
    refine w_lstore_n C [(1, pL v13), (4, pL v9), (0, pR 0), (3, pI w3)] dX4_late_69 (by decide) rfl ?_
    refine w_iinc C 3 [(3, pI (w3 + 1)), (1, pL v13), (4, pL v9), (0, pR 0)] dX4_late_70 rfl (by decide) rfl ?_
    refine w_goto C 18 dX4_late_73 (by decide) ?_
    exact w_sub _ [3, 1, 0] rfl vc
set_option maxHeartbeats 1000000 in
theorem ok_X4_late_0 {M : Nat} {σ : Mem} {K18 : Int → Int → Mem → Prop} (h : pre_X4_late M σ) (hK18 : ∀ (y1 y3 : Int) (τ' : Mem), inv_X4_late_18 M σ y1 y3 τ' → K18 y1 y3 τ') : VC_X4_late_0 M K18 (post_X4_late M σ) σ := by
  refine ⟨h.1, fun z s hp => ?_⟩
  obtain ⟨hF, hz⟩ := draw_plan (Or.inl rfl) h.1 hp
  have hj := h.1.1.1.2.2.2.1
  refine ⟨⟨by omega, by omega⟩, fun g => ?_, fun g => ⟨?_, hF.SE (Or.inl rfl), FR_CI (Or.inl rfl) hF h, FR_FC (Or.inl rfl) hF⟩⟩
  · rcases hz with ⟨e, -⟩ | ⟨e, -⟩ | ⟨e, d⟩
    · omega
    · omega
    · exact hK18 _ _ _ ⟨hF, d, by omega, by omega, (sumI_0 _ (by omega)).symm⟩
  · rcases hz with ⟨e, q, n⟩ | ⟨e, q, n⟩ | ⟨e, d⟩
    · exact Or.inl ⟨n, rfl⟩
    · exact Or.inl ⟨n, rfl⟩
    · exact absurd e g
set_option maxHeartbeats 1000000 in
theorem ok_X4_late_18 {M : Nat} {σ : Mem} {w1 w3 : Int} {τ : Mem} {K18 : Int → Int → Mem → Prop} (h : pre_X4_late M σ) (hinv : inv_X4_late_18 M σ w1 w3 τ) (hK18 : ∀ (y1 y3 : Int) (τ' : Mem), inv_X4_late_18 M σ y1 y3 τ' → mu_X4_late_18 y1 y3 τ' < mu_X4_late_18 w1 w3 τ → K18 y1 y3 τ') : VC_X4_late_18 M K18 (post_X4_late M σ) w1 w3 τ := by
  obtain ⟨hF, d, i1, i2, rfl⟩ := hinv
  have hj := h.1.1.1.2.2.2.1
  have hSE := hF.SE (Or.inl rfl)
  have hCI := FR_CI (Or.inl rfl) hF h
  have f1 : τ 1 1 = σ 1 1 := by rw [hF 1 (by omega)]
  have f2 : τ 2 = σ 2 := hF 2 (by omega)
  have f3 : τ 3 = σ 3 := hF 3 (by omega)
  have f4 : τ 4 = σ 4 := hF 4 (by omega)
  have f5 : τ 5 = σ 5 := hF 5 (by omega)
  have f7 : τ 7 = σ 7 := hF 7 (by omega)
  refine ⟨⟨⟨by omega, by omega⟩, ⟨by omega, by omega⟩⟩, fun g => ⟨Or.inr ⟨_, d.1, ?_⟩, hSE, hCI, FR_FC (Or.inl rfl) hF⟩, fun g => ?_⟩
  · have : w3 = σ 1 1 := by omega
    rw [this]
    rfl
  · have ee : f_X2_endOfJob 12 w3 τ = eJ σ (τ 13) w3 := by
      unfold f_X2_endOfJob eJ f_X2_endOf
      rw [f5, f2, f7]
      rfl
    have hb := eJ_in h.1.1 d.2.2.2.2 i1 (by omega)
    have hd := (h.1.1.2.1 w3 i1 (by omega)).2.1
    have hw := (h.1.1.2.1 w3 i1 (by omega)).2.2
    have hb' : 0 ≤ eJ σ (τ 13) w3 ∧ eJ σ (τ 13) w3 ≤ 6100 := hb
    refine ⟨⟨hCI.1.1.1, i1, by omega⟩, ⟨i1, by omega⟩, by rw [ee, f3]; exact ⟨by omega, by omega⟩, by rw [ee, f3]; exact ⟨by omega, by omega⟩, fun v9 e9 => ⟨⟨i1, by omega⟩, by rw [f4]; exact ⟨by omega, by omega⟩, fun v13 e13 => hK18 _ _ _ ⟨hF, d, by omega, by omega, ?_⟩ ?_⟩⟩
    · rw [e13, e9, ee, f3, f4, sumI_s _ i1]
    · unfold mu_X4_late_18; omega
theorem c_X4_late {G : GG} (hG : GI G) (l : Launch) (σ : Mem) (h : pre_X4_late (gM G) σ) : CtL G l yX4_late cX4_late 6 (some .long) 4 [pR 0] σ (post_X4_late (gM G) σ) := by
  refine CtL.of hG (by decide) (Nat.le_of_ble_eq_true rfl) (fun X hl C => ?_)
  show RW G X 6 (QL G X _) 0 [(0, pR 0)] [] σ
  have key : ∀ n : Nat, (∀ (w1 w3 : Int) (τ : Mem), inv_X4_late_18 (gM G) σ w1 w3 τ → mu_X4_late_18 w1 w3 τ < n → RW G X 6 (QL G X (post_X4_late (gM G) σ)) 18 [(0, pR 0), (1, pL w1), (3, pI w3)] [] τ) := by
    intro n
    induction n with
    | zero => exact fun w1 w3 τ _ h0 => absurd h0 (Nat.not_lt_zero _)
    | succ n ih =>
      exact (fun w1 w3 τ hinv h0 => seg_X4_late_18 C w1 w3 τ (ok_X4_late_18 h hinv (fun y1 y3 τ' hi hm => ih y1 y3 τ' hi (Nat.lt_of_lt_of_le hm (Nat.le_of_lt_succ h0)))))
  exact seg_X4_late_0 C σ (ok_X4_late_0 h (fun y1 y3 τ' hi => (key _) y1 y3 τ' hi (Nat.lt_succ_self _)))

/-! X4_spanOfTrial -/
def pre_X4_spanOfTrial (M : Nat) (x1 x2 : Int) (σ : Mem) : Prop := WF M σ ∧ P_X3_hasNeighbours x1 x2 σ
def post_X4_spanOfTrial (M : Nat) (x1 x2 : Int) (σ : Mem) (z : Int) (σ' : Mem) : Prop := FR 19 σ σ' ∧ spanR M (m_X3_exchange x1 x2 σ) z ∧ (z = -3 ∨ (0 ≤ z ∧ z ≤ 6000))
def VC_X4_spanOfTrial_0 (M : Nat) (post : Int → Mem → Prop) (x1 : Int) (x2 : Int) (σ : Mem) : Prop :=
 (pre_X3_exchange M x1 x2 σ) ∧ ∀ s2 : Mem, s2 = m_X3_exchange x1 x2 σ → (pre_X2_draw M 19 s2) ∧ ∀ (z5 : Int) (s4 : Mem), post_X2_draw M 19 s2 z5 s4 → (inR z5) ∧ ((¬ z5 = 0 → True) ∧ (z5 = 0 → True) ∧ ∀ j9 : Int, (¬ z5 = 0 → j9 = (-3)) → (z5 = 0 → j9 = s4 19 1) → (pre_X3_exchange M x1 x2 s4) ∧ ∀ s13 : Mem, s13 = m_X3_exchange x1 x2 s4 → post j9 s13)
set_option maxRecDepth 20000 in
set_option maxHeartbeats 4000000 in
theorem seg_X4_spanOfTrial_0 {G : GG} {X : XX} {post : Int → Mem → Prop} (C : CX G X cX4_spanOfTrial RX4 4 (some .int) 4)   (x1 : Int) (x2 : Int) (σ : Mem) (vc : VC_X4_spanOfTrial_0 (gM G)  post  x1 x2 σ) : RW G X 4 (QI G X post) 0 [(0, pR 0), (1, pI x1), (2, pI x2)] [] σ := by
  unfold VC_X4_spanOfTrial_0 at vc
  refine w_aload_n C 0 dX4_spanOfTrial_0 rfl ?_
  refine w_getR C dX4_spanOfTrial_1 gf_X4_25 ob_0 rfl ?_
  refine w_iload_n C 1 dX4_spanOfTrial_4 rfl ?_
  refine w_iload_n C 2 dX4_spanOfTrial_5 rfl ?_
  obtain ⟨sc1, vc⟩ := vc
  refine w_callVV C [pI x1, pI x2] [] rfl dX4_spanOfTrial_6 (c_X3_exchange C.gi (xL X) x1 x2 σ sc1) oc_1 mw_X3_exchange ml_X4_115 im_X3_exchange se_X3_exchange (by decide) (Nat.le_of_ble_eq_true rfl) (fun s2 hs2 => ?_)
  have vc := vc s2 hs2
  refine w_aload_n C 0 dX4_spanOfTrial_9 rfl ?_
  refine w_getR C dX4_spanOfTrial_10 gf_X4_38 ob_0 rfl ?_
  obtain ⟨sc3, vc⟩ := vc
  refine w_callVI C [] [] rfl dX4_spanOfTrial_13 (c_X2_draw C.gi (xL X) 19 s2 (by omega) sc3) oc_19 mw_X2_draw ml_X4_128 im_X2_draw se_X2_draw (by decide) (Nat.le_of_ble_eq_true rfl) (fun z5 s4 hs4 => ?_)
  have vc := vc z5 s4 hs4
  obtain ⟨sc6, vc⟩ := vc
  have key8 : ∀ j9 : Int, (¬ z5 = 0 → j9 = (-3)) → (z5 = 0 → j9 = s4 19 1) → RW G X 4 (QI G X post) 31 [(0, pR 0), (1, pI x1), (2, pI x2)] [pI j9] s4 := by
    intro j9 hj10 hj11
    have vc := vc.2.2 j9 hj10 hj11
    refine w_istore_n C [(3, pI j9), (0, pR 0), (1, pI x1), (2, pI x2)] dX4_spanOfTrial_31 (by decide) rfl ?_
    refine w_aload_n C 1 dX4_spanOfTrial_32 rfl ?_
    refine w_getR C dX4_spanOfTrial_33 gf_X4_25 ob_0 rfl ?_
    refine w_iload_n C 2 dX4_spanOfTrial_36 rfl ?_
    refine w_iload_n C 3 dX4_spanOfTrial_37 rfl ?_
    obtain ⟨sc12, vc⟩ := vc
    refine w_callVV C [pI x1, pI x2] [] rfl dX4_spanOfTrial_38 (c_X3_exchange C.gi (xL X) x1 x2 s4 sc12) oc_1 mw_X3_exchange ml_X4_115 im_X3_exchange se_X3_exchange (by decide) (Nat.le_of_ble_eq_true rfl) (fun s13 hs13 => ?_)
    have vc := vc s13 hs13
    refine w_iload_n C 0 dX4_spanOfTrial_41 rfl ?_
    exact w_ireturn C dX4_spanOfTrial_42 vc
  refine w_if_ne C 29 dX4_spanOfTrial_16 (by decide) sc6 (fun h7 => ?_) (fun h7 => ?_)
  · have vc := vc.1 h7
    refine w_bipush C dX4_spanOfTrial_29 (by decide) ?_
    exact key8 _ (by intros; first | rfl | omega | (exfalso; omega) | contradiction) (by intros; first | rfl | omega | (exfalso; omega) | contradiction)
  · have vc := vc.2.1 h7
    refine w_aload_n C 0 dX4_spanOfTrial_19 rfl ?_
    refine w_getR C dX4_spanOfTrial_20 gf_X4_38 ob_0 rfl ?_
    refine w_getI C 1 dX4_spanOfTrial_23 gf_X4_144 ob_19 rfl rfl ?_
    refine w_goto C 31 dX4_spanOfTrial_26 (by decide) ?_
    exact key8 _ (by intros; first | rfl | omega | (exfalso; omega) | contradiction) (by intros; first | rfl | omega | (exfalso; omega) | contradiction)
set_option maxHeartbeats 1000000 in
theorem ok_X4_spanOfTrial_0 {M : Nat} {x1 : Int} {x2 : Int} {σ : Mem} (h : pre_X4_spanOfTrial M x1 x2 σ) : VC_X4_spanOfTrial_0 M (post_X4_spanOfTrial M x1 x2 σ) x1 x2 σ := by
  obtain ⟨hW, hn⟩ := h
  have hW' := WF_exchange hW hn
  obtain ⟨ac, ar⟩ := ex_acc x1 x2 σ
  have m0 := hn.1.1
  refine ⟨nb_pre hW hn, fun s2 e2 => ?_⟩
  subst e2
  refine ⟨hW', fun z5 s4 hp => ?_⟩
  obtain ⟨hF, hz⟩ := draw_plan (Or.inr rfl) hW' hp
  have nb' : P_X3_hasNeighbours x1 x2 s4 := by
    unfold P_X3_hasNeighbours
    rw [hF 1 (by omega), hF 10 (by omega), ac 1 (by omega), ac 10 (by omega)]
    exact hn
  refine ⟨⟨by omega, by omega⟩, fun _ => trivial, fun _ => trivial, fun j9 e1 e2 => ⟨nb_pre (SE_WF (hF.SE (Or.inr rfl)) hW') nb', fun s13 e13 => ⟨?_, ?_, ?_⟩⟩⟩
  · intro c hc
    obtain ⟨bc, br⟩ := ex_acc x1 x2 s4
    rw [e13]
    by_cases e : c = 57 + x1
    · subst e
      have key : m_X3_exchange x1 x2 (m_X3_exchange x1 x2 σ) (57 + x1) = σ (57 + x1) := by rw [ex_ex]
      rw [← key]
      funext i
      rw [br, (ex_acc x1 x2 (m_X3_exchange x1 x2 σ)).2, hF (57 + x1) (by omega)]
    · rw [bc c e, hF c hc, ac c e]
  · by_cases q : z5 = 0
    · rcases hz with ⟨e, -⟩ | ⟨e, -⟩ | ⟨e, d⟩
      · omega
      · omega
      · exact Or.inr ⟨_, d.1, by rw [e2 q]; exact d.2.1⟩
    · rcases hz with ⟨e, -, n⟩ | ⟨e, -, n⟩ | ⟨e, d⟩
      · exact Or.inl ⟨n, e1 q⟩
      · exact Or.inl ⟨n, e1 q⟩
      · exact absurd e q
  · by_cases q : z5 = 0
    · rcases hz with ⟨e, -⟩ | ⟨e, -⟩ | ⟨e, d⟩
      · omega
      · omega
      · right; rw [e2 q]; exact d.2.2.2.1
    · left; exact e1 q
theorem c_X4_spanOfTrial {G : GG} (hG : GI G) (l : Launch) (x1 : Int) (x2 : Int) (σ : Mem) (h : pre_X4_spanOfTrial (gM G) x1 x2 σ) : CtI G l yX4_spanOfTrial cX4_spanOfTrial 4 (some .int) 4 [pR 0, pI x1, pI x2] σ (post_X4_spanOfTrial (gM G) x1 x2 σ) := by
  refine CtI.of hG (by decide) (Nat.le_of_ble_eq_true rfl) (fun X hl C => ?_)
  show RW G X 4 (QI G X _) 0 [(0, pR 0), (1, pI x1), (2, pI x2)] [] σ
  exact seg_X4_spanOfTrial_0 C x1 x2 σ (ok_X4_spanOfTrial_0 h)

/-! X4_swapped -/
def pre_X4_swapped (M : Nat) (x1 x2 : Int) (σ : Mem) : Prop := CI M σ ∧ inR x1 ∧ inR x2
def post_X4_swapped (M : Nat) (x1 x2 : Int) (σ : Mem) (z : Int) (σ' : Mem) : Prop := R_swapped M σ x1 x2 z ∧ SE σ σ' ∧ CI M σ' ∧ FC σ σ'
theorem ex_SE {a b : Mem} (h : SE a b) {m : Int} (hm : 0 ≤ m) (p : Int) : SE (m_X3_exchange m p a) (m_X3_exchange m p b) := by
  intro c hc
  funext i
  unfold m_X3_exchange up
  rw [SE_row h hm, h c hc]
def VC_X4_swapped_0 (M : Nat) (post : Int → Mem → Prop) (x1 : Int) (x2 : Int) (σ : Mem) : Prop :=
 (pre_X3_hasNeighbours M x1 x2 σ) ∧ ((P_X3_hasNeighbours x1 x2 σ → (pre_X2_draw M 12 σ) ∧ ∀ (z5 : Int) (s4 : Mem), post_X2_draw M 12 σ z5 s4 → (inR z5) ∧ ((z5 = 0 → (pre_X4_spanOfTrial M x1 x2 s4) ∧ ∀ (z10 : Int) (s9 : Mem), post_X4_spanOfTrial M x1 x2 s4 z10 s9 → post z10 s9) ∧ (¬ z5 = 0 → post (-3) s4))) ∧ (¬ P_X3_hasNeighbours x1 x2 σ → post (-1) σ))
set_option maxRecDepth 20000 in
set_option maxHeartbeats 4000000 in
theorem seg_X4_swapped_0 {G : GG} {X : XX} {post : Int → Mem → Prop} (C : CX G X cX4_swapped RX4 3 (some .int) 5)   (x1 : Int) (x2 : Int) (σ : Mem) (vc : VC_X4_swapped_0 (gM G)  post  x1 x2 σ) : RW G X 3 (QI G X post) 0 [(0, pR 0), (1, pI x1), (2, pI x2)] [] σ := by
  unfold VC_X4_swapped_0 at vc
  refine w_aload_n C 0 dX4_swapped_0 rfl ?_
  refine w_getR C dX4_swapped_1 gf_X4_25 ob_0 rfl ?_
  refine w_iload_n C 1 dX4_swapped_4 rfl ?_
  refine w_iload_n C 2 dX4_swapped_5 rfl ?_
  obtain ⟨sc1, vc⟩ := vc
  refine w_callVI C [pI x1, pI x2] [] rfl dX4_swapped_6 (c_X3_hasNeighbours C.gi (xL X) x1 x2 σ sc1) oc_1 mw_X3_hasNeighbours ml_X4_112 im_X3_hasNeighbours se_X3_hasNeighbours (by decide) (Nat.le_of_ble_eq_true rfl) (fun z σ' hz => ?_)
  obtain ⟨hz2, hz⟩ := hz
  have hz2 := hz2.symm
  subst hz2
  rcases hz with ⟨h2, rfl⟩ | ⟨h2, rfl⟩
  · have vc := vc.1 h2
    refine w_if_ne C 14 dX4_swapped_9 (by decide) ⟨by omega, by omega⟩ (fun _ => ?_) (fun q => absurd q (by decide))
    refine w_aload_n C 0 dX4_swapped_14 rfl ?_
    refine w_getR C dX4_swapped_15 gf_X4_34 ob_0 rfl ?_
    obtain ⟨sc3, vc⟩ := vc
    refine w_callVI C [] [] rfl dX4_swapped_18 (c_X2_draw C.gi (xL X) 12 σ (by omega) sc3) oc_12 mw_X2_draw ml_X4_128 im_X2_draw se_X2_draw (by decide) (Nat.le_of_ble_eq_true rfl) (fun z5 s4 hs4 => ?_)
    have vc := vc z5 s4 hs4
    obtain ⟨sc6, vc⟩ := vc
    refine w_if_eq C 27 dX4_swapped_21 (by decide) sc6 (fun h7 => ?_) (fun h7 => ?_)
    · have vc := vc.1 h7
      refine w_aload_n C 0 dX4_swapped_27 rfl ?_
      refine w_iload_n C 1 dX4_swapped_28 rfl ?_
      refine w_iload_n C 2 dX4_swapped_29 rfl ?_
      obtain ⟨sc8, vc⟩ := vc
      refine w_callVI C [pI x1, pI x2] [] rfl dX4_swapped_30 (c_X4_spanOfTrial C.gi (xL X) x1 x2 s4 sc8) oc_0 mw_X4_spanOfTrial ml_X4_158 im_X4_spanOfTrial se_X4_spanOfTrial (by decide) (Nat.le_of_ble_eq_true rfl) (fun z10 s9 hs9 => ?_)
      have vc := vc z10 s9 hs9
      exact w_ireturn C dX4_swapped_33 vc
    · have vc := vc.2 h7
      refine w_bipush C dX4_swapped_24 (by decide) ?_
      exact w_ireturn C dX4_swapped_26 vc
  · have vc := vc.2 h2
    refine w_if_ne C 14 dX4_swapped_9 (by decide) ⟨by omega, by omega⟩ (fun q => absurd q (by decide)) (fun _ => ?_)
    refine w_iconst C dX4_swapped_12 ?_
    exact w_ireturn C dX4_swapped_13 vc
set_option maxHeartbeats 1000000 in
theorem ok_X4_swapped_0 {M : Nat} {x1 : Int} {x2 : Int} {σ : Mem} (h : pre_X4_swapped M x1 x2 σ) : VC_X4_swapped_0 M (post_X4_swapped M x1 x2 σ) x1 x2 σ := by
  obtain ⟨hC, r1, r2⟩ := h
  refine ⟨⟨hC.1.1.1, r1, r2⟩, fun g => ⟨hC.1, fun z5 s4 hp => ?_⟩, fun g => ⟨Or.inl ⟨g, rfl⟩, SE.refl σ, hC, FC.refl σ⟩⟩
  obtain ⟨hF, hz⟩ := draw_plan (Or.inl rfl) hC.1 hp
  have hSE := hF.SE (Or.inl rfl)
  have hCI := FR_CI (Or.inl rfl) hF hC
  have hFC := FR_FC (Or.inl rfl) hF
  have nb' : P_X3_hasNeighbours x1 x2 s4 := by
    unfold P_X3_hasNeighbours
    rw [hF 1 (by omega), hF 10 (by omega)]
    exact g
  refine ⟨⟨by omega, by omega⟩, fun q => ⟨⟨hCI.1, nb'⟩, fun z s9 h9 => ?_⟩, fun q => ⟨Or.inr ⟨g, Or.inl ⟨?_, rfl⟩⟩, hSE, hCI, hFC⟩⟩
  · obtain ⟨hF9, hs9, -⟩ := h9
    have d : DP M 12 σ s4 := by
      rcases hz with ⟨e, -⟩ | ⟨e, -⟩ | ⟨e, d⟩
      · omega
      · omega
      · exact d
    exact ⟨Or.inr ⟨g, Or.inr ⟨fun n => n ⟨_, d.1⟩, SE_spanR (ex_SE hSE.symm g.1.1 x2) hs9⟩⟩, hSE.trans (hF9.SE (Or.inr rfl)), FR_CI (Or.inr rfl) hF9 hCI, fun c c1 c2 => (FR_FC (Or.inr rfl) hF9 c c1 c2).trans (hFC c c1 c2)⟩
  · rcases hz with ⟨e, -, n⟩ | ⟨e, -, n⟩ | ⟨e, d⟩
    · exact n
    · exact n
    · exact absurd e q
theorem c_X4_swapped {G : GG} (hG : GI G) (l : Launch) (x1 : Int) (x2 : Int) (σ : Mem) (h : pre_X4_swapped (gM G) x1 x2 σ) : CtI G l yX4_swapped cX4_swapped 3 (some .int) 5 [pR 0, pI x1, pI x2] σ (post_X4_swapped (gM G) x1 x2 σ) := by
  refine CtI.of hG (by decide) (Nat.le_of_ble_eq_true rfl) (fun X hl C => ?_)
  show RW G X 3 (QI G X _) 0 [(0, pR 0), (1, pI x1), (2, pI x2)] [] σ
  exact seg_X4_swapped_0 C x1 x2 σ (ok_X4_swapped_0 h)

/-! X4_areCritical -/
def P_X4_areCritical (x1 x2 : Int) (σ : Mem) : Prop := f_X2_slackOf 12 (σ (57 + x1) x2) σ = 0 ∧ f_X2_slackOf 12 (σ (57 + x1) (x2 + 1)) σ = 0
def pre_X4_areCritical (M : Nat) (x1 x2 : Int) (σ : Mem) : Prop := WF M σ ∧ P_X3_hasNeighbours x1 x2 σ ∧ (0 ≤ σ 12 1 ∧ σ 12 1 ≤ 6000) ∧ ∀ s, VS σ s → (0 ≤ σ 13 s ∧ σ 13 s ≤ 6000) ∧ (0 ≤ σ 14 s ∧ σ 14 s ≤ 4800)
def VC_X4_areCritical_0 (M : Nat) (post : Int → Mem → Prop) (x1 : Int) (x2 : Int) (σ : Mem) : Prop :=
 (0 ≤ x1 ∧ x1 < M) ∧ (0 ≤ x2 ∧ x2 < 48) ∧ (pre_X2_slackOf M 12 (σ (57 + x1) x2) σ) ∧ (inR (f_X2_slackOf 12 (σ (57 + x1) x2) σ)) ∧ ((¬ (f_X2_slackOf 12 (σ (57 + x1) x2) σ) = 0 → post 0 σ) ∧ ((f_X2_slackOf 12 (σ (57 + x1) x2) σ) = 0 → (0 ≤ (x2 + 1) ∧ (x2 + 1) < 48) ∧ (pre_X2_slackOf M 12 (σ (57 + x1) (x2 + 1)) σ) ∧ (inR (f_X2_slackOf 12 (σ (57 + x1) (x2 + 1)) σ)) ∧ ((¬ (f_X2_slackOf 12 (σ (57 + x1) (x2 + 1)) σ) = 0 → post 0 σ) ∧ ((f_X2_slackOf 12 (σ (57 + x1) (x2 + 1)) σ) = 0 → post 1 σ))))
set_option maxRecDepth 20000 in
set_option maxHeartbeats 4000000 in
theorem seg_X4_areCritical_0 {G : GG} {X : XX} {post : Int → Mem → Prop} (C : CX G X cX4_areCritical RX4 4 (some .boolean) 1)   (x1 : Int) (x2 : Int) (σ : Mem) (vc : VC_X4_areCritical_0 (gM G)  post  x1 x2 σ) : RW G X 4 (QI G X post) 0 [(0, pR 0), (1, pI x1), (2, pI x2)] [] σ := by
  unfold VC_X4_areCritical_0 at vc
  refine w_aload_n C 0 dX4_areCritical_0 rfl ?_
  refine w_getR C dX4_areCritical_1 gf_X4_25 ob_0 rfl ?_
  refine w_getR C dX4_areCritical_4 gf_X4_118 ob_1 rfl ?_
  refine w_iload_n C 1 dX4_areCritical_7 rfl ?_
  obtain ⟨⟨sc1, sc2⟩, vc⟩ := vc
  refine w_aald C dX4_areCritical_8 (ra_9 C.gi) sc1 sc2 ?_
  refine w_astore_n C [(3, pR (57 + x1)), (0, pR 0), (1, pI x1), (2, pI x2)] dX4_areCritical_9 (by decide) rfl ?_
  refine w_aload_n C 1 dX4_areCritical_10 rfl ?_
  refine w_getR C dX4_areCritical_11 gf_X4_34 ob_0 rfl ?_
  refine w_aload_n C 0 dX4_areCritical_14 rfl ?_
  refine w_iload_n C 3 dX4_areCritical_15 rfl ?_
  obtain ⟨⟨sc3, sc4⟩, vc⟩ := vc
  refine w_iald C dX4_areCritical_16 (ia_row sc1 sc2) sc3 sc4 ?_
  obtain ⟨sc5, vc⟩ := vc
  refine w_callVI C [pI (σ (57 + x1) x2)] [] rfl dX4_areCritical_17 (c_X2_slackOf C.gi (xL X) 12 (σ (57 + x1) x2) σ (by omega) sc5) oc_12 mw_X2_slackOf ml_X4_141 im_X2_slackOf se_X2_slackOf (by decide) (Nat.le_of_ble_eq_true rfl) (fun z σ' hz => ?_)
  obtain ⟨rfl, hz2⟩ := hz
  have hz2 := hz2.symm
  subst hz2
  obtain ⟨sc6, vc⟩ := vc
  refine w_if_ne C 42 dX4_areCritical_20 (by decide) sc6 (fun h7 => ?_) (fun h7 => ?_)
  · have vc := vc.1 h7
    refine w_iconst C dX4_areCritical_42 ?_
    exact w_zreturn C dX4_areCritical_43 (Or.inl rfl) vc
  · have vc := vc.2 h7
    refine w_aload_n C 1 dX4_areCritical_23 rfl ?_
    refine w_getR C dX4_areCritical_24 gf_X4_34 ob_0 rfl ?_
    refine w_aload_n C 0 dX4_areCritical_27 rfl ?_
    refine w_iload_n C 3 dX4_areCritical_28 rfl ?_
    refine w_iconst C dX4_areCritical_29 ?_
    refine w_iadd C dX4_areCritical_30 ?_
    obtain ⟨⟨sc8, sc9⟩, vc⟩ := vc
    refine w_iald C dX4_areCritical_31 (ia_row sc1 sc2) sc8 sc9 ?_
    obtain ⟨sc10, vc⟩ := vc
    refine w_callVI C [pI (σ (57 + x1) (x2 + 1))] [] rfl dX4_areCritical_32 (c_X2_slackOf C.gi (xL X) 12 (σ (57 + x1) (x2 + 1)) σ (by omega) sc10) oc_12 mw_X2_slackOf ml_X4_141 im_X2_slackOf se_X2_slackOf (by decide) (Nat.le_of_ble_eq_true rfl) (fun z σ' hz => ?_)
    obtain ⟨rfl, hz2⟩ := hz
    have hz2 := hz2.symm
    subst hz2
    obtain ⟨sc11, vc⟩ := vc
    refine w_if_ne C 42 dX4_areCritical_35 (by decide) sc11 (fun h12 => ?_) (fun h12 => ?_)
    · have vc := vc.1 h12
      refine w_iconst C dX4_areCritical_42 ?_
      exact w_zreturn C dX4_areCritical_43 (Or.inl rfl) vc
    · have vc := vc.2 h12
      refine w_iconst C dX4_areCritical_38 ?_
      refine w_goto C 43 dX4_areCritical_39 (by decide) ?_
      exact w_zreturn C dX4_areCritical_43 (Or.inr rfl) vc
set_option maxHeartbeats 1000000 in
theorem ok_X4_areCritical_0 {M : Nat} {x1 : Int} {x2 : Int} {σ : Mem} (h : pre_X4_areCritical M x1 x2 σ) : VC_X4_areCritical_0 M (fun z σ' => σ' = σ ∧ (P_X4_areCritical x1 x2 σ ∧ z = 1 ∨ ¬ P_X4_areCritical x1 x2 σ ∧ z = 0)) x1 x2 σ := by
  obtain ⟨hW, hn, hg, hs⟩ := h
  obtain ⟨m0, m1, p0, p1⟩ := nb_pre hW hn
  have hz := hW.1.1.2.2.2.2.2 x1 m0 m1
  have hp := hn.2.2
  have v1 := (hW.2.1.1 x1 x2 m0 m1 p0 (by omega)).1
  have v2 := (hW.2.1.1 x1 (x2 + 1) m0 m1 (by omega) (by omega)).1
  have b1 := VS_in hW.1.1 v1
  have b2 := VS_in hW.1.1 v2
  have i1 := hs _ v1
  have i2 := hs _ v2
  have e1 : f_X2_slackOf 12 (σ (57 + x1) x2) σ = σ 12 1 - σ 13 (σ (57 + x1) x2) - σ 14 (σ (57 + x1) x2) := rfl
  have e2 : f_X2_slackOf 12 (σ (57 + x1) (x2 + 1)) σ = σ 12 1 - σ 13 (σ (57 + x1) (x2 + 1)) - σ 14 (σ (57 + x1) (x2 + 1)) := rfl
  refine ⟨⟨m0, m1⟩, ⟨p0, by omega⟩, ⟨b1.1, b1.2.1⟩, ⟨by omega, by omega⟩, fun g => ⟨rfl, Or.inr ⟨fun q => g q.1, rfl⟩⟩, fun g => ⟨⟨by omega, by omega⟩, ⟨b2.1, b2.2.1⟩, ⟨by omega, by omega⟩, fun g2 => ⟨rfl, Or.inr ⟨fun q => g2 q.2, rfl⟩⟩, fun g2 => ⟨rfl, Or.inl ⟨⟨g, g2⟩, rfl⟩⟩⟩⟩
theorem c_X4_areCritical {G : GG} (hG : GI G) (l : Launch) (x1 : Int) (x2 : Int) (σ : Mem) (h : pre_X4_areCritical (gM G) x1 x2 σ) : CtI G l yX4_areCritical cX4_areCritical 4 (some .boolean) 1 [pR 0, pI x1, pI x2] σ (fun z σ' => σ' = σ ∧ (P_X4_areCritical x1 x2 σ ∧ z = 1 ∨ ¬ P_X4_areCritical x1 x2 σ ∧ z = 0)) := by
  refine CtI.of hG (by decide) (Nat.le_of_ble_eq_true rfl) (fun X hl C => ?_)
  show RW G X 4 (QI G X _) 0 [(0, pR 0), (1, pI x1), (2, pI x2)] [] σ
  exact seg_X4_areCritical_0 C x1 x2 σ (ok_X4_areCritical_0 h)

/-! X4_better -/
def pre_X4_better (M : Nat) (σ : Mem) : Prop := CI M σ
def post_X4_better (M : Nat) (σ : Mem) (z : Int) (σ' : Mem) : Prop := R_better M σ z ∧ SE σ σ' ∧ CI M σ' ∧ FC σ σ'
def BI (M : Nat) (σ τ : Mem) : Prop := SE σ τ ∧ CI M τ ∧ FC σ τ ∧ PLN M σ (τ 13) ∧ SPN σ Tr (τ 13) (τ 12 1) ∧ RS M σ (τ 14) ∧ (0 ≤ τ 12 1 ∧ τ 12 1 ≤ 6000) ∧ ∀ s, VS σ s → (0 ≤ τ 13 s ∧ τ 13 s ≤ 6000) ∧ (0 ≤ τ 14 s ∧ τ 14 s ≤ 4800)
def inv_X4_better_33 (M : Nat) (σ : Mem) (w1 w2 w3 : Int) (τ : Mem) : Prop := BI M σ τ ∧ 0 ≤ w3 ∧ w3 ≤ M ∧ (0 ≤ w2 ∨ w2 ≤ 6000) ∧ w2 ≤ 6000 ∧ -3 ≤ w2 ∧ BT M σ (τ 12 1) (fun s => τ 12 1 - τ 13 s - τ 14 s) w3 0 w1 w2
def mu_X4_better_33 (w1 w2 w3 : Int) (τ : Mem) : Nat := ((5 - w3) * 100 + 99).toNat
def inv_X4_better_47 (M : Nat) (σ : Mem) (w1 w2 w3 w4 : Int) (τ : Mem) : Prop := BI M σ τ ∧ 0 ≤ w3 ∧ w3 < M ∧ 0 ≤ w4 ∧ w4 ≤ 48 ∧ w2 ≤ 6000 ∧ -3 ≤ w2 ∧ BT M σ (τ 12 1) (fun s => τ 12 1 - τ 13 s - τ 14 s) w3 w4 w1 w2
def mu_X4_better_47 (w1 w2 w3 w4 : Int) (τ : Mem) : Nat := ((5 - w3) * 100 + 60 - w4).toNat
def VC_X4_better_0 (M : Nat) (K33 : Int → Int → Int → Mem → Prop) (post : Int → Mem → Prop)  (σ : Mem) : Prop :=
 (pre_X2_draw M 12 σ) ∧ ∀ (z3 : Int) (s2 : Mem), post_X2_draw M 12 σ z3 s2 → (inR z3) ∧ ((z3 = 0 → (pre_X2_measureRests M 12 s2) ∧ ∀ s7 : Mem, post_X2_measureRests M 12 s2 s7 → ∀ v8 : Int, v8 = s7 12 1 → K33 (-3) v8 0 s7) ∧ (¬ z3 = 0 → post (-3) s2))
set_option maxRecDepth 20000 in
set_option maxHeartbeats 4000000 in
theorem seg_X4_better_0 {G : GG} {X : XX} {post : Int → Mem → Prop} (C : CX G X cX4_better RX4 6 (some .int) 5)    (σ : Mem) (vc : VC_X4_better_0 (gM G) (fun w1 w2 w3 σ => RW G X 6 (QI G X post) 33 [(0, pR 0), (1, pI w1), (2, pI w2), (3, pI w3)] [] σ) post   σ) : RW G X 6 (QI G X post) 0 [(0, pR 0)] [] σ := by
  unfold VC_X4_better_0 at vc
  refine w_aload_n C 0 dX4_better_0 rfl ?_
  refine w_getR C dX4_better_1 gf_X4_34 ob_0 rfl ?_
  obtain ⟨sc1, vc⟩ := vc
  refine w_callVI C [] [] rfl dX4_better_4 (c_X2_draw C.gi (xL X) 12 σ (by omega) sc1) oc_12 mw_X2_draw ml_X4_128 im_X2_draw se_X2_draw (by decide) (Nat.le_of_ble_eq_true rfl) (fun z3 s2 hs2 => ?_)
  have vc := vc z3 s2 hs2
  obtain ⟨sc4, vc⟩ := vc
  refine w_if_eq C 13 dX4_better_7 (by decide) sc4 (fun h5 => ?_) (fun h5 => ?_)
  · have vc := vc.1 h5
    refine w_aload_n C 0 dX4_better_13 rfl ?_
    refine w_getR C dX4_better_14 gf_X4_34 ob_0 rfl ?_
    obtain ⟨sc6, vc⟩ := vc
    refine w_callVV C [] [] rfl dX4_better_17 (c_X2_measureRests C.gi (xL X) 12 s2 (by omega) sc6) oc_12 mw_X2_measureRests ml_X4_138 im_X2_measureRests se_X2_measureRests (by decide) (Nat.le_of_ble_eq_true rfl) (fun s7 hs7 => ?_)
    have vc := vc s7 hs7
    refine w_bipush C dX4_better_20 (by decide) ?_
    refine w_istore_n C [(1, pI (-3)), (0, pR 0)] dX4_better_22 (by decide) rfl ?_
    refine w_aload_n C 1 dX4_better_23 rfl ?_
    refine w_getR C dX4_better_24 gf_X4_34 ob_0 rfl ?_
    refine w_getI C 1 dX4_better_27 gf_X4_144 ob_12 rfl rfl ?_
    refine w_top (fun v8 hv8 => ?_)
    have vc := vc v8 hv8
    refine w_istore_n C [(2, pI v8), (1, pI (-3)), (0, pR 0)] dX4_better_30 (by decide) rfl ?_
    refine w_iconst C dX4_better_31 ?_
    refine w_istore_n C [(3, pI 0), (2, pI v8), (1, pI (-3)), (0, pR 0)] dX4_better_32 (by decide) rfl ?_
    exact w_sub _ [3, 2, 1, 0] rfl vc
  · have vc := vc.2 h5
    refine w_bipush C dX4_better_10 (by decide) ?_
    exact w_ireturn C dX4_better_12 vc
def VC_X4_better_33 (M : Nat) (K47 : Int → Int → Int → Int → Mem → Prop) (post : Int → Mem → Prop) (w1 : Int) (w2 : Int) (w3 : Int) (σ : Mem) : Prop :=
 (inR w3 ∧ inR (σ 1 0)) ∧ (((σ 1 0) ≤ w3 → post w1 σ) ∧ (w3 < (σ 1 0) → K47 w1 w2 w3 0 σ))
set_option maxRecDepth 20000 in
set_option maxHeartbeats 4000000 in
theorem seg_X4_better_33 {G : GG} {X : XX} {post : Int → Mem → Prop} (C : CX G X cX4_better RX4 6 (some .int) 5)   (w1 : Int) (w2 : Int) (w3 : Int) (σ : Mem) (vc : VC_X4_better_33 (gM G) (fun w1 w2 w3 w4 σ => RW G X 6 (QI G X post) 47 [(0, pR 0), (1, pI w1), (2, pI w2), (3, pI w3), (4, pI w4)] [] σ) post  w1 w2 w3 σ) : RW G X 6 (QI G X post) 33 [(0, pR 0), (1, pI w1), (2, pI w2), (3, pI w3)] [] σ := by
  unfold VC_X4_better_33 at vc
  refine w_iload_n C 3 dX4_better_33 rfl ?_
  refine w_aload_n C 0 dX4_better_34 rfl ?_
  refine w_getR C dX4_better_35 gf_X4_25 ob_0 rfl ?_
  refine w_getI C 0 dX4_better_38 gf_X4_161 ob_1 rfl rfl ?_
  obtain ⟨⟨sc1, sc2⟩, vc⟩ := vc
  refine w_icmp_ge C 121 dX4_better_41 (by decide) sc1 sc2 (fun h3 => ?_) (fun h3 => ?_)
  · have vc := vc.1 h3
    refine w_iload_n C 1 dX4_better_121 rfl ?_
    exact w_ireturn C dX4_better_122 vc
  · have vc := vc.2 h3
    refine w_iconst C dX4_better_44 ?_
    refine w_istore C [(4, pI 0), (0, pR 0), (1, pI w1), (2, pI w2), (3, pI w3)] dX4_better_45 (by decide) rfl ?_
    exact w_sub _ [1, 2, 3, 4, 0] rfl vc
def VC_X4_better_47 (M : Nat) (K33 : Int → Int → Int → Mem → Prop) (K47 : Int → Int → Int → Int → Mem → Prop) (post : Int → Mem → Prop) (w1 : Int) (w2 : Int) (w3 : Int) (w4 : Int) (σ : Mem) : Prop :=
 (0 ≤ w3 ∧ w3 < M) ∧ (inR (w4 + 1) ∧ inR (σ 10 w3)) ∧ (((σ 10 w3) ≤ (w4 + 1) → K33 w1 w2 (w3 + 1) σ) ∧ ((w4 + 1) < (σ 10 w3) → (pre_X4_areCritical M w3 w4 σ) ∧ ((P_X4_areCritical w3 w4 σ → (pre_X4_spanOfTrial M w3 w4 σ) ∧ ∀ (z10 : Int) (s9 : Mem), post_X4_spanOfTrial M w3 w4 σ z10 s9 → (inR z10) ∧ ((z10 = (-3) → K47 w1 w2 w3 (w4 + 1) s9) ∧ (¬ z10 = (-3) → (inR z10 ∧ inR w2) ∧ ((w2 ≤ z10 → K47 w1 w2 w3 (w4 + 1) s9) ∧ (z10 < w2 → ∀ v16 : Int, v16 = (100 * w3) + w4 → K47 v16 z10 w3 (w4 + 1) s9))))) ∧ (¬ P_X4_areCritical w3 w4 σ → K47 w1 w2 w3 (w4 + 1) σ))))
set_option maxRecDepth 20000 in
set_option maxHeartbeats 4000000 in
theorem seg_X4_better_47 {G : GG} {X : XX} {post : Int → Mem → Prop} (C : CX G X cX4_better RX4 6 (some .int) 5)   (w1 : Int) (w2 : Int) (w3 : Int) (w4 : Int) (σ : Mem) (vc : VC_X4_better_47 (gM G) (fun w1 w2 w3 σ => RW G X 6 (QI G X post) 33 [(0, pR 0), (1, pI w1), (2, pI w2), (3, pI w3)] [] σ) (fun w1 w2 w3 w4 σ => RW G X 6 (QI G X post) 47 [(0, pR 0), (1, pI w1), (2, pI w2), (3, pI w3), (4, pI w4)] [] σ) post  w1 w2 w3 w4 σ) : RW G X 6 (QI G X post) 47 [(0, pR 0), (1, pI w1), (2, pI w2), (3, pI w3), (4, pI w4)] [] σ := by
  unfold VC_X4_better_47 at vc
  refine w_iload C 4 dX4_better_47 rfl ?_
  refine w_iconst C dX4_better_49 ?_
  refine w_iadd C dX4_better_50 ?_
  refine w_aload_n C 0 dX4_better_51 rfl ?_
  refine w_getR C dX4_better_52 gf_X4_25 ob_0 rfl ?_
  refine w_getR C dX4_better_55 gf_X4_97 ob_1 rfl ?_
  refine w_iload_n C 3 dX4_better_58 rfl ?_
  obtain ⟨⟨sc1, sc2⟩, vc⟩ := vc
  refine w_iald C dX4_better_59 (ia_10 C.gi) sc1 sc2 ?_
  obtain ⟨⟨sc3, sc4⟩, vc⟩ := vc
  refine w_icmp_ge C 115 dX4_better_60 (by decide) sc3 sc4 (fun h5 => ?_) (fun h5 => ?_)
  · have vc := vc.1 h5
    refine w_iinc C 3 [(3, pI (w3 + 1)), (0, pR 0), (1, pI w1), (2, pI w2), (4, pI w4)] dX4_better_115 rfl (by decide) rfl ?_
    refine w_goto C 33 dX4_better_118 (by decide) ?_
    exact w_sub _ [1, 2, 3, 0] rfl vc
  · have vc := vc.2 h5
    refine w_aload_n C 0 dX4_better_63 rfl ?_
    refine w_iload_n C 3 dX4_better_64 rfl ?_
    refine w_iload C 4 dX4_better_65 rfl ?_
    obtain ⟨sc6, vc⟩ := vc
    refine w_callVI C [pI w3, pI w4] [] rfl dX4_better_67 (c_X4_areCritical C.gi (xL X) w3 w4 σ sc6) oc_0 mw_X4_areCritical ml_X4_164 im_X4_areCritical se_X4_areCritical (by decide) (Nat.le_of_ble_eq_true rfl) (fun z σ' hz => ?_)
    obtain ⟨hz2, hz⟩ := hz
    have hz2 := hz2.symm
    subst hz2
    rcases hz with ⟨h7, rfl⟩ | ⟨h7, rfl⟩
    · have vc := vc.1 h7
      refine w_if_ne C 76 dX4_better_70 (by decide) ⟨by omega, by omega⟩ (fun _ => ?_) (fun q => absurd q (by decide))
      refine w_aload_n C 0 dX4_better_76 rfl ?_
      refine w_iload_n C 3 dX4_better_77 rfl ?_
      refine w_iload C 4 dX4_better_78 rfl ?_
      obtain ⟨sc8, vc⟩ := vc
      refine w_callVI C [pI w3, pI w4] [] rfl dX4_better_80 (c_X4_spanOfTrial C.gi (xL X) w3 w4 σ sc8) oc_0 mw_X4_spanOfTrial ml_X4_158 im_X4_spanOfTrial se_X4_spanOfTrial (by decide) (Nat.le_of_ble_eq_true rfl) (fun z10 s9 hs9 => ?_)
      have vc := vc z10 s9 hs9
      refine w_istore C [(5, pI z10), (0, pR 0), (1, pI w1), (2, pI w2), (3, pI w3), (4, pI w4)] dX4_better_83 (by decide) rfl ?_
      refine w_iload C 0 dX4_better_85 rfl ?_
      refine w_bipush C dX4_better_87 (by decide) ?_
      obtain ⟨sc11, vc⟩ := vc
      refine w_icmp_eq C 109 dX4_better_89 (by decide) sc11 ⟨by omega, by omega⟩ (fun h12 => ?_) (fun h12 => ?_)
      · have vc := vc.1 h12
        refine w_iinc C 5 [(4, pI (w4 + 1)), (5, pI z10), (0, pR 0), (1, pI w1), (2, pI w2), (3, pI w3)] dX4_better_109 rfl (by decide) rfl ?_
        refine w_goto C 47 dX4_better_112 (by decide) ?_
        exact w_sub _ [2, 3, 4, 5, 0] rfl vc
      · have vc := vc.2 h12
        refine w_iload C 0 dX4_better_92 rfl ?_
        refine w_iload_n C 3 dX4_better_94 rfl ?_
        obtain ⟨⟨sc13, sc14⟩, vc⟩ := vc
        refine w_icmp_ge C 109 dX4_better_95 (by decide) sc13 sc14 (fun h15 => ?_) (fun h15 => ?_)
        · have vc := vc.1 h15
          refine w_iinc C 5 [(4, pI (w4 + 1)), (5, pI z10), (0, pR 0), (1, pI w1), (2, pI w2), (3, pI w3)] dX4_better_109 rfl (by decide) rfl ?_
          refine w_goto C 47 dX4_better_112 (by decide) ?_
          exact w_sub _ [2, 3, 4, 5, 0] rfl vc
        · have vc := vc.2 h15
          refine w_iload C 0 dX4_better_98 rfl ?_
          refine w_istore_n C [(2, pI z10), (5, pI z10), (0, pR 0), (1, pI w1), (3, pI w3), (4, pI w4)] dX4_better_100 (by decide) rfl ?_
          refine w_bipush C dX4_better_101 (by decide) ?_
          refine w_iload_n C 4 dX4_better_103 rfl ?_
          refine w_imul C dX4_better_104 ?_
          refine w_iload C 5 dX4_better_105 rfl ?_
          refine w_iadd C dX4_better_107 ?_
          refine w_top (fun v16 hv16 => ?_)
          have vc := vc v16 hv16
          refine w_istore_n C [(1, pI v16), (2, pI z10), (5, pI z10), (0, pR 0), (3, pI w3), (4, pI w4)] dX4_better_108 (by decide) rfl ?_
          refine w_iinc C 5 [(4, pI (w4 + 1)), (1, pI v16), (2, pI z10), (5, pI z10), (0, pR 0), (3, pI w3)] dX4_better_109 rfl (by decide) rfl ?_
          refine w_goto C 47 dX4_better_112 (by decide) ?_
          exact w_sub _ [4, 1, 2, 5, 0] rfl vc
    · have vc := vc.2 h7
      refine w_if_ne C 76 dX4_better_70 (by decide) ⟨by omega, by omega⟩ (fun q => absurd q (by decide)) (fun _ => ?_)
      refine w_goto C 109 dX4_better_73 (by decide) ?_
      refine w_iinc C 4 [(4, pI (w4 + 1)), (0, pR 0), (1, pI w1), (2, pI w2), (3, pI w3)] dX4_better_109 rfl (by decide) rfl ?_
      refine w_goto C 47 dX4_better_112 (by decide) ?_
      exact w_sub _ [1, 2, 3, 4, 0] rfl vc
set_option maxHeartbeats 1000000 in
theorem ok_X4_better_0 {M : Nat} {σ : Mem} {K33 : Int → Int → Int → Mem → Prop} (h : pre_X4_better M σ) (hK33 : ∀ (y1 y2 y3 : Int) (τ' : Mem), inv_X4_better_33 M σ y1 y2 y3 τ' → K33 y1 y2 y3 τ') : VC_X4_better_0 M K33 (post_X4_better M σ) σ := by
  refine ⟨h.1, fun z s hp => ?_⟩
  obtain ⟨hF, hz⟩ := draw_plan (Or.inl rfl) h.1 hp
  have hSE := hF.SE (Or.inl rfl)
  have hCI := FR_CI (Or.inl rfl) hF h
  have hFC := FR_FC (Or.inl rfl) hF
  refine ⟨⟨by omega, by omega⟩, fun g => ?_, fun g => ⟨Or.inl ⟨?_, rfl⟩, hSE, hCI, hFC⟩⟩
  · have d : DP M 12 σ s := by
      rcases hz with ⟨e, -⟩ | ⟨e, -⟩ | ⟨e, d⟩
      · omega
      · omega
      · exact d
    refine ⟨⟨hCI.1.1, hCI.1.2.1, SE_AO hSE h.1.1 (WF_AO h.1 d.1.1), d.2.2.1⟩, fun s2 h2 => ?_⟩
    obtain ⟨c2, r2, b2⟩ := h2
    have hS2 : SE s s2 := fun c hc => (c2 c (by omega)).symm
    have e12 : s2 12 = s 12 := c2 12 (by omega)
    have e13 : s2 13 = s 13 := c2 13 (by omega)
    have hBI : BI M σ s2 := ⟨hSE.trans hS2, CI_SE hS2 (c2 32 (by omega)) hCI, fun c c1 c9 => (c2 c (by omega)).trans (hFC c c1 c9), by rw [e13]; exact d.1, by rw [e13, e12]; exact d.2.1, SE_RS hSE.symm r2, by rw [e12]; exact d.2.2.2.1, fun q hq => ⟨by rw [e13]; exact d.2.2.2.2 q hq, b2 q ((SE_VS hSE q).mp hq)⟩⟩
    intro v5 e5
    have hr := hBI.2.2.2.2.2.2.1
    subst e5
    exact hK33 _ _ _ _ ⟨hBI, by omega, by omega, by omega, by omega, by omega, BT_0 h.1⟩
  · rcases hz with ⟨e, -, n⟩ | ⟨e, -, n⟩ | ⟨e, d⟩
    · exact n
    · exact n
    · exact absurd e g
set_option maxHeartbeats 1000000 in
theorem ok_X4_better_33 {M : Nat} {σ : Mem} {w1 w2 w3 : Int} {τ : Mem} {K47 : Int → Int → Int → Int → Mem → Prop} (h : pre_X4_better M σ) (hinv : inv_X4_better_33 M σ w1 w2 w3 τ) (hK47 : ∀ (y1 y2 y3 y4 : Int) (τ' : Mem), inv_X4_better_47 M σ y1 y2 y3 y4 τ' → mu_X4_better_47 y1 y2 y3 y4 τ' < mu_X4_better_33 w1 w2 w3 τ → K47 y1 y2 y3 y4 τ') : VC_X4_better_33 M K47 (post_X4_better M σ) w1 w2 w3 τ := by
  obtain ⟨hB, i1, i2, -, i3, i4, i5⟩ := hinv
  have hM : M ≤ 5 := h.1.1.1.2.2.1
  have e10 : τ 1 0 = M := hB.2.1.1.1.1.1
  refine ⟨⟨⟨by omega, by omega⟩, ⟨by omega, by omega⟩⟩, fun g => ⟨Or.inr ⟨_, _, _, w2, hB.2.2.2.1, hB.2.2.2.2.1, hB.2.2.2.2.2.1, ?_⟩, hB.1, hB.2.1, hB.2.2.1⟩, fun g => hK47 _ _ _ _ _ ⟨hB, i1, by omega, by omega, by omega, i3, i4, i5⟩ ?_⟩
  · have : w3 = M := by omega
    rw [this] at i5
    exact i5
  · unfold mu_X4_better_47 mu_X4_better_33; omega
set_option maxHeartbeats 1000000 in
theorem ok_X4_better_47 {M : Nat} {σ : Mem} {w1 w2 w3 w4 : Int} {τ : Mem} {K33 : Int → Int → Int → Mem → Prop} {K47 : Int → Int → Int → Int → Mem → Prop} (h : pre_X4_better M σ) (hinv : inv_X4_better_47 M σ w1 w2 w3 w4 τ) (hK33 : ∀ (y1 y2 y3 : Int) (τ' : Mem), inv_X4_better_33 M σ y1 y2 y3 τ' → mu_X4_better_33 y1 y2 y3 τ' < mu_X4_better_47 w1 w2 w3 w4 τ → K33 y1 y2 y3 τ') (hK47 : ∀ (y1 y2 y3 y4 : Int) (τ' : Mem), inv_X4_better_47 M σ y1 y2 y3 y4 τ' → mu_X4_better_47 y1 y2 y3 y4 τ' < mu_X4_better_47 w1 w2 w3 w4 τ → K47 y1 y2 y3 y4 τ') : VC_X4_better_47 M K33 K47 (post_X4_better M σ) w1 w2 w3 w4 τ := by
  obtain ⟨hB, i1, i2, i3, i3', i4, i5, i6⟩ := hinv
  have hM : M ≤ 5 := h.1.1.1.2.2.1
  obtain ⟨hSE, hCI, hFC, hP, hS, hR, hg, hb⟩ := id hB
  have f10 : τ 10 = σ 10 := (hSE 10 (by omega)).symm
  have er : τ (57 + w3) = σ (57 + w3) := (SE_row hSE i1).symm
  have hz := h.1.1.1.2.2.2.2.2 w3 i1 i2
  refine ⟨⟨i1, i2⟩, ⟨⟨by omega, by omega⟩, by rw [f10]; exact ⟨by omega, by omega⟩⟩, fun g => hK33 _ _ _ _ ⟨hB, by omega, by omega, by omega, i4, i5, BT_row (by rw [f10] at g; exact g) i6⟩ ?_, fun g => ?_⟩
  · unfold mu_X4_better_47 mu_X4_better_33; omega
  · rw [f10] at g
    have hnσ : P_X3_hasNeighbours w3 w4 σ := ⟨⟨i1, by rw [h.1.1.1.1]; exact i2⟩, i3, by omega⟩
    have hnτ : P_X3_hasNeighbours w3 w4 τ := by
      unfold P_X3_hasNeighbours
      rw [f10, ← hSE 1 (by omega)]
      exact hnσ
    have hcr : P_X4_areCritical w3 w4 τ ↔ ((fun s => τ 12 1 - τ 13 s - τ 14 s) (σ (57 + w3) w4) = 0 ∧ (fun s => τ 12 1 - τ 13 s - τ 14 s) (σ (57 + w3) (w4 + 1)) = 0) := by
      unfold P_X4_areCritical f_X2_slackOf
      rw [er]
      exact Iff.rfl
    have nxtm : ∀ w1' w2' τ', mu_X4_better_47 w1' w2' w3 (w4 + 1) τ' < mu_X4_better_47 w1 w2 w3 w4 τ := fun w1' w2' τ' => by unfold mu_X4_better_47; omega
    refine ⟨⟨hCI.1, hnτ, hg, fun s hs => hb s ((SE_VS hSE s).mpr hs)⟩, fun g2 => ⟨⟨hCI.1, hnτ⟩, fun z s9 h9 => ?_⟩, fun g2 => hK47 _ _ _ _ _ ⟨hB, i1, i2, by omega, by omega, i4, i5, BT_skip i6 (fun v c => absurd (hcr.mpr ⟨c.2.1, c.2.2.1⟩) g2)⟩ (nxtm _ _ _)⟩
    obtain ⟨hF9, hs9, rz⟩ := h9
    have hs9' := SE_spanR (ex_SE hSE.symm i1 w4) hs9
    have hWx := WF_exchange h.1 hnσ
    have c12 : s9 12 = τ 12 := hF9 12 (by omega)
    have c13 : s9 13 = τ 13 := hF9 13 (by omega)
    have c14 : s9 14 = τ 14 := hF9 14 (by omega)
    have hB9 : BI M σ s9 := ⟨hSE.trans (hF9.SE (Or.inr rfl)), FR_CI (Or.inr rfl) hF9 hCI, fun c c1 c2 => (FR_FC (Or.inr rfl) hF9 c c1 c2).trans (hFC c c1 c2), by rw [c13]; exact hP, by rw [c13, c12]; exact hS, by rw [c14]; exact hR, by rw [c12]; exact hg, by rw [c13, c14]; exact hb⟩
    have keep : ∀ {b l q : Int}, BT M σ (τ 12 1) (fun s => τ 12 1 - τ 13 s - τ 14 s) w3 q b l → BT M σ (s9 12 1) (fun s => s9 12 1 - s9 13 s - s9 14 s) w3 q b l := fun q => by rw [c12, c13, c14]; exact q
    have hcr' := hcr.mp g2
    refine ⟨⟨by omega, by omega⟩, fun q => hK47 _ _ _ _ _ ⟨hB9, i1, i2, by omega, by omega, i4, i5, keep (BT_skip i6 (fun v c => ?_))⟩ (nxtm _ _ _), fun q => ⟨⟨⟨by omega, by omega⟩, ⟨by omega, by omega⟩⟩, fun q2 => hK47 _ _ _ _ _ ⟨hB9, i1, i2, by omega, by omega, i4, i5, keep (BT_skip i6 (fun v c => ?_))⟩ (nxtm _ _ _), fun q2 v16 e16 => hK47 _ _ _ _ _ ⟨hB9, i1, i2, by omega, by omega, by omega, by omega, keep ?_⟩ (nxtm _ _ _)⟩⟩
    · have := spanR_det hWx hs9' c.2.2.2.1
      have := c.2.2.2.2.1
      omega
    · have := spanR_det hWx hs9' c.2.2.2.1
      omega
    · rw [e16]
      have hlt : z < τ 12 1 := by
        rcases i6 with ⟨-, e, -⟩ | ⟨m, p, c, -⟩
        · omega
        · have := c.2.2.2.2.2
          omega
      exact BT_take (fun v' c => spanR_det hWx hs9' c.2.2.2.1) i6 ⟨hnσ, hcr'.1, hcr'.2, hs9', q, hlt⟩ q2
theorem c_X4_better {G : GG} (hG : GI G) (l : Launch) (σ : Mem) (h : pre_X4_better (gM G) σ) : CtI G l yX4_better cX4_better 6 (some .int) 5 [pR 0] σ (post_X4_better (gM G) σ) := by
  refine CtI.of hG (by decide) (Nat.le_of_ble_eq_true rfl) (fun X hl C => ?_)
  show RW G X 6 (QI G X _) 0 [(0, pR 0)] [] σ
  have key : ∀ n : Nat, (∀ (w1 w2 w3 : Int) (τ : Mem), inv_X4_better_33 (gM G) σ w1 w2 w3 τ → mu_X4_better_33 w1 w2 w3 τ < n → RW G X 6 (QI G X (post_X4_better (gM G) σ)) 33 [(0, pR 0), (1, pI w1), (2, pI w2), (3, pI w3)] [] τ) ∧ (∀ (w1 w2 w3 w4 : Int) (τ : Mem), inv_X4_better_47 (gM G) σ w1 w2 w3 w4 τ → mu_X4_better_47 w1 w2 w3 w4 τ < n → RW G X 6 (QI G X (post_X4_better (gM G) σ)) 47 [(0, pR 0), (1, pI w1), (2, pI w2), (3, pI w3), (4, pI w4)] [] τ) := by
    intro n
    induction n with
    | zero => exact ⟨fun w1 w2 w3 τ _ h0 => absurd h0 (Nat.not_lt_zero _), fun w1 w2 w3 w4 τ _ h0 => absurd h0 (Nat.not_lt_zero _)⟩
    | succ n ih =>
      exact ⟨(fun w1 w2 w3 τ hinv h0 => seg_X4_better_33 C w1 w2 w3 τ (ok_X4_better_33 h hinv (fun y1 y2 y3 y4 τ' hi hm => ih.2 y1 y2 y3 y4 τ' hi (Nat.lt_of_lt_of_le hm (Nat.le_of_lt_succ h0))))), (fun w1 w2 w3 w4 τ hinv h0 => seg_X4_better_47 C w1 w2 w3 w4 τ (ok_X4_better_47 h hinv (fun y1 y2 y3 τ' hi hm => ih.1 y1 y2 y3 τ' hi (Nat.lt_of_lt_of_le hm (Nat.le_of_lt_succ h0))) (fun y1 y2 y3 y4 τ' hi hm => ih.2 y1 y2 y3 y4 τ' hi (Nat.lt_of_lt_of_le hm (Nat.le_of_lt_succ h0)))))⟩
  exact seg_X4_better_0 C σ (ok_X4_better_0 h (fun y1 y2 y3 τ' hi => (key _).1 y1 y2 y3 τ' hi (Nat.lt_succ_self _)))

/-! X4_part -/
def pre_X4_part (M : Nat) (x1 x2 : Int) (σ : Mem) : Prop := WF M σ ∧ inR x1 ∧ inR x2
def post_X4_part (M : Nat) (x1 x2 : Int) (σ : Mem) (z : Int) (σ' : Mem) : Prop := R_part σ x1 x2 z ∧ σ' = σ
def VC_X4_part_0 (M : Nat) (post : Int → Mem → Prop) (x1 : Int) (x2 : Int) (σ : Mem) : Prop :=
 (pre_X3_hasStep M x1 σ) ∧ ((P_X3_hasStep x1 σ → (pre_X4_isWithin M x2 1 σ) ∧ ((P_X4_isWithin x2 1 σ → (inR x2) ∧ ((¬ x2 = 0 → (pre_X3_tailOf M x1 σ) ∧ post (f_X3_tailOf x1 σ) σ) ∧ (x2 = 0 → (pre_X3_headOf M x1 σ) ∧ post (f_X3_headOf x1 σ) σ))) ∧ (¬ P_X4_isWithin x2 1 σ → post (-2) σ))) ∧ (¬ P_X3_hasStep x1 σ → post (-1) σ))
set_option maxRecDepth 20000 in
set_option maxHeartbeats 4000000 in
theorem seg_X4_part_0 {G : GG} {X : XX} {post : Int → Mem → Prop} (C : CX G X cX4_part RX4 3 (some .int) 2)   (x1 : Int) (x2 : Int) (σ : Mem) (vc : VC_X4_part_0 (gM G)  post  x1 x2 σ) : RW G X 3 (QI G X post) 0 [(0, pR 0), (1, pI x1), (2, pI x2)] [] σ := by
  unfold VC_X4_part_0 at vc
  refine w_aload_n C 0 dX4_part_0 rfl ?_
  refine w_getR C dX4_part_1 gf_X4_25 ob_0 rfl ?_
  refine w_iload_n C 1 dX4_part_4 rfl ?_
  obtain ⟨sc1, vc⟩ := vc
  refine w_callVI C [pI x1] [] rfl dX4_part_5 (c_X3_hasStep C.gi (xL X) x1 σ sc1) oc_1 mw_X3_hasStep ml_X4_91 im_X3_hasStep se_X3_hasStep (by decide) (Nat.le_of_ble_eq_true rfl) (fun z σ' hz => ?_)
  obtain ⟨hz2, hz⟩ := hz
  have hz2 := hz2.symm
  subst hz2
  rcases hz with ⟨h2, rfl⟩ | ⟨h2, rfl⟩
  · have vc := vc.1 h2
    refine w_if_ne C 13 dX4_part_8 (by decide) ⟨by omega, by omega⟩ (fun _ => ?_) (fun q => absurd q (by decide))
    refine w_iload_n C 2 dX4_part_13 rfl ?_
    refine w_iconst C dX4_part_14 ?_
    obtain ⟨sc3, vc⟩ := vc
    refine w_callSI C [pI x2, pI 1] [] rfl dX4_part_15 (c_X4_isWithin C.gi (xL X) x2 1 σ sc3) mw_X4_isWithin ml_X4_55 ss_X4_isWithin (by decide) (Nat.le_of_ble_eq_true rfl) (fun z σ' hz => ?_)
    obtain ⟨hz2, hz⟩ := hz
    have hz2 := hz2.symm
    subst hz2
    rcases hz with ⟨h4, rfl⟩ | ⟨h4, rfl⟩
    · have vc := vc.1 h4
      refine w_if_ne C 24 dX4_part_18 (by decide) ⟨by omega, by omega⟩ (fun _ => ?_) (fun q => absurd q (by decide))
      refine w_iload_n C 2 dX4_part_24 rfl ?_
      obtain ⟨sc5, vc⟩ := vc
      refine w_if_ne C 39 dX4_part_25 (by decide) sc5 (fun h6 => ?_) (fun h6 => ?_)
      · have vc := vc.1 h6
        refine w_aload_n C 0 dX4_part_39 rfl ?_
        refine w_getR C dX4_part_40 gf_X4_25 ob_0 rfl ?_
        refine w_iload_n C 1 dX4_part_43 rfl ?_
        obtain ⟨sc7, vc⟩ := vc
        refine w_callVI C [pI x1] [] rfl dX4_part_44 (c_X3_tailOf C.gi (xL X) x1 σ sc7) oc_1 mw_X3_tailOf ml_X4_170 im_X3_tailOf se_X3_tailOf (by decide) (Nat.le_of_ble_eq_true rfl) (fun z σ' hz => ?_)
        obtain ⟨rfl, hz2⟩ := hz
        have hz2 := hz2.symm
        subst hz2
        exact w_ireturn C dX4_part_47 vc
      · have vc := vc.2 h6
        refine w_aload_n C 0 dX4_part_28 rfl ?_
        refine w_getR C dX4_part_29 gf_X4_25 ob_0 rfl ?_
        refine w_iload_n C 1 dX4_part_32 rfl ?_
        obtain ⟨sc8, vc⟩ := vc
        refine w_callVI C [pI x1] [] rfl dX4_part_33 (c_X3_headOf C.gi (xL X) x1 σ sc8) oc_1 mw_X3_headOf ml_X4_167 im_X3_headOf se_X3_headOf (by decide) (Nat.le_of_ble_eq_true rfl) (fun z σ' hz => ?_)
        obtain ⟨rfl, hz2⟩ := hz
        have hz2 := hz2.symm
        subst hz2
        refine w_goto C 47 dX4_part_36 (by decide) ?_
        exact w_ireturn C dX4_part_47 vc
    · have vc := vc.2 h4
      refine w_if_ne C 24 dX4_part_18 (by decide) ⟨by omega, by omega⟩ (fun q => absurd q (by decide)) (fun _ => ?_)
      refine w_bipush C dX4_part_21 (by decide) ?_
      exact w_ireturn C dX4_part_23 vc
  · have vc := vc.2 h2
    refine w_if_ne C 13 dX4_part_8 (by decide) ⟨by omega, by omega⟩ (fun q => absurd q (by decide)) (fun _ => ?_)
    refine w_iconst C dX4_part_11 ?_
    exact w_ireturn C dX4_part_12 vc
set_option maxHeartbeats 1000000 in
theorem ok_X4_part_0 {M : Nat} {x1 : Int} {x2 : Int} {σ : Mem} (h : pre_X4_part M x1 x2 σ) : VC_X4_part_0 M (post_X4_part M x1 x2 σ) x1 x2 σ := by
  obtain ⟨hW, r1, r2⟩ := h
  refine ⟨⟨hW.1.1, r1⟩, fun g1 => ?_, fun g1 => ⟨Or.inl ⟨g1, rfl⟩, rfl⟩⟩
  have g1' : VS σ x1 := g1
  have hb := VS_in hW.1.1 g1'
  exact ⟨⟨r2, by omega, by omega⟩, fun g2 => ⟨r2, fun g3 => ⟨⟨hW.1.1, hb.1, hb.2.1⟩, Or.inr (Or.inr (Or.inr ⟨g1', by have := g2.1; have := g2.2; omega, rfl⟩)), rfl⟩, fun g3 => ⟨⟨hb.1, hb.2.1⟩, Or.inr (Or.inr (Or.inl ⟨g1', g3, rfl⟩)), rfl⟩⟩, fun g2 => ⟨Or.inr (Or.inl ⟨g1', g2, rfl⟩), rfl⟩⟩
theorem c_X4_part {G : GG} (hG : GI G) (l : Launch) (x1 : Int) (x2 : Int) (σ : Mem) (h : pre_X4_part (gM G) x1 x2 σ) : CtI G l yX4_part cX4_part 3 (some .int) 2 [pR 0, pI x1, pI x2] σ (post_X4_part (gM G) x1 x2 σ) := by
  refine CtI.of hG (by decide) (Nat.le_of_ble_eq_true rfl) (fun X hl C => ?_)
  show RW G X 3 (QI G X _) 0 [(0, pR 0), (1, pI x1), (2, pI x2)] [] σ
  exact seg_X4_part_0 C x1 x2 σ (ok_X4_part_0 h)

/-! X4_bound -/
def pre_X4_bound (M : Nat) (x1 : Int) (σ : Mem) : Prop := CI M σ ∧ inR x1
def post_X4_bound (M : Nat) (x1 : Int) (σ : Mem) (z : Int) (σ' : Mem) : Prop := R_bound σ x1 z ∧ SE σ σ' ∧ CI M σ' ∧ FC σ σ'
def VC_X4_bound_0 (M : Nat) (post : Int → Mem → Prop) (x1 : Int) (σ : Mem) : Prop :=
 (pre_X3_hasMachine M x1 σ) ∧ ((P_X3_hasMachine x1 σ → (pre_X0_hasOne M x1 σ) ∧ ((P_X0_hasOne x1 σ → (pre_X0_ofMachine M x1 σ) ∧ ∀ (z7 : Int) (s6 : Mem), post_X0_ofMachine M x1 σ z7 s6 → post z7 s6) ∧ (¬ P_X0_hasOne x1 σ → post (-3) σ))) ∧ (¬ P_X3_hasMachine x1 σ → post (-1) σ))
set_option maxRecDepth 20000 in
set_option maxHeartbeats 4000000 in
theorem seg_X4_bound_0 {G : GG} {X : XX} {post : Int → Mem → Prop} (C : CX G X cX4_bound RX4 2 (some .int) 4)   (x1 : Int) (σ : Mem) (vc : VC_X4_bound_0 (gM G)  post  x1 σ) : RW G X 2 (QI G X post) 0 [(0, pR 0), (1, pI x1)] [] σ := by
  unfold VC_X4_bound_0 at vc
  refine w_aload_n C 0 dX4_bound_0 rfl ?_
  refine w_getR C dX4_bound_1 gf_X4_25 ob_0 rfl ?_
  refine w_iload_n C 1 dX4_bound_4 rfl ?_
  obtain ⟨sc1, vc⟩ := vc
  refine w_callVI C [pI x1] [] rfl dX4_bound_5 (c_X3_hasMachine C.gi (xL X) x1 σ sc1) oc_1 mw_X3_hasMachine ml_X4_71 im_X3_hasMachine se_X3_hasMachine (by decide) (Nat.le_of_ble_eq_true rfl) (fun z σ' hz => ?_)
  obtain ⟨hz2, hz⟩ := hz
  have hz2 := hz2.symm
  subst hz2
  rcases hz with ⟨h2, rfl⟩ | ⟨h2, rfl⟩
  · have vc := vc.1 h2
    refine w_if_ne C 13 dX4_bound_8 (by decide) ⟨by omega, by omega⟩ (fun _ => ?_) (fun q => absurd q (by decide))
    refine w_aload_n C 0 dX4_bound_13 rfl ?_
    refine w_getR C dX4_bound_14 gf_X4_51 ob_0 rfl ?_
    refine w_iload_n C 1 dX4_bound_17 rfl ?_
    obtain ⟨sc3, vc⟩ := vc
    refine w_callVI C [pI x1] [] rfl dX4_bound_18 (c_X0_hasOne C.gi (xL X) x1 σ sc3) oc_31 mw_X0_hasOne ml_X4_173 im_X0_hasOne se_X0_hasOne (by decide) (Nat.le_of_ble_eq_true rfl) (fun z σ' hz => ?_)
    obtain ⟨hz2, hz⟩ := hz
    have hz2 := hz2.symm
    subst hz2
    rcases hz with ⟨h4, rfl⟩ | ⟨h4, rfl⟩
    · have vc := vc.1 h4
      refine w_if_eq C 35 dX4_bound_21 (by decide) ⟨by omega, by omega⟩ (fun q => absurd q (by decide)) (fun _ => ?_)
      refine w_aload_n C 0 dX4_bound_24 rfl ?_
      refine w_getR C dX4_bound_25 gf_X4_51 ob_0 rfl ?_
      refine w_iload_n C 1 dX4_bound_28 rfl ?_
      obtain ⟨sc5, vc⟩ := vc
      refine w_callVI C [pI x1] [] rfl dX4_bound_29 (c_X0_ofMachine C.gi (xL X) x1 σ sc5) oc_31 mw_X0_ofMachine ml_X4_176 im_X0_ofMachine se_X0_ofMachine (by decide) (Nat.le_of_ble_eq_true rfl) (fun z7 s6 hs6 => ?_)
      have vc := vc z7 s6 hs6
      refine w_goto C 37 dX4_bound_32 (by decide) ?_
      exact w_ireturn C dX4_bound_37 vc
    · have vc := vc.2 h4
      refine w_if_eq C 35 dX4_bound_21 (by decide) ⟨by omega, by omega⟩ (fun _ => ?_) (fun q => absurd q (by decide))
      refine w_bipush C dX4_bound_35 (by decide) ?_
      exact w_ireturn C dX4_bound_37 vc
  · have vc := vc.2 h2
    refine w_if_ne C 13 dX4_bound_8 (by decide) ⟨by omega, by omega⟩ (fun q => absurd q (by decide)) (fun _ => ?_)
    refine w_iconst C dX4_bound_11 ?_
    exact w_ireturn C dX4_bound_12 vc
set_option maxHeartbeats 1000000 in
theorem ok_X4_bound_0 {M : Nat} {x1 : Int} {σ : Mem} (h : pre_X4_bound M x1 σ) : VC_X4_bound_0 M (post_X4_bound M x1 σ) x1 σ := by
  obtain ⟨hC, r1⟩ := h
  have hB := hC.1.1.1
  refine ⟨⟨hB, r1⟩, fun g => ?_, fun g => ⟨Or.inl ⟨g, rfl⟩, SE.refl σ, hC, FC.refl σ⟩⟩
  have hm : 0 ≤ x1 ∧ x1 < M := ⟨g.1, by have := g.2; rw [hB.1] at this; exact this⟩
  refine ⟨⟨hC.1.1, r1⟩, fun g2 => ⟨⟨hC.1.1, hC.2, hm.1, hm.2, g2⟩, fun z s hp => ?_⟩, fun g2 => ⟨Or.inr (Or.inl ⟨g, by unfold P_X0_hasOne at g2; omega, rfl⟩), SE.refl σ, hC, FC.refl σ⟩⟩
  obtain ⟨c, k, b, -⟩ := hp
  exact ⟨Or.inr (Or.inr ⟨g, g2, b⟩), c.SE, ⟨SE_WF c.SE hC.1, k⟩, fun d d1 d2 => c d (by omega)⟩
theorem c_X4_bound {G : GG} (hG : GI G) (l : Launch) (x1 : Int) (σ : Mem) (h : pre_X4_bound (gM G) x1 σ) : CtI G l yX4_bound cX4_bound 2 (some .int) 4 [pR 0, pI x1] σ (post_X4_bound (gM G) x1 σ) := by
  refine CtI.of hG (by decide) (Nat.le_of_ble_eq_true rfl) (fun X hl C => ?_)
  show RW G X 2 (QI G X _) 0 [(0, pR 0), (1, pI x1)] [] σ
  exact seg_X4_bound_0 C x1 σ (ok_X4_bound_0 h)

/-! X4_low -/
def pre_X4_low (M : Nat) (σ : Mem) : Prop := CI M σ
def post_X4_low (M : Nat) (σ : Mem) (z : Int) (σ' : Mem) : Prop := LOW M σ z ∧ SE σ σ' ∧ CI M σ' ∧ FC σ σ'
def VC_X4_low_0 (M : Nat) (post : Int → Mem → Prop)  (σ : Mem) : Prop :=
 (pre_X0_greatest M σ) ∧ ∀ (z3 : Int) (s2 : Mem), post_X0_greatest M σ z3 s2 → post z3 s2
set_option maxRecDepth 20000 in
set_option maxHeartbeats 4000000 in
theorem seg_X4_low_0 {G : GG} {X : XX} {post : Int → Mem → Prop} (C : CX G X cX4_low RX4 1 (some .int) 5)    (σ : Mem) (vc : VC_X4_low_0 (gM G)  post   σ) : RW G X 1 (QI G X post) 0 [(0, pR 0)] [] σ := by
  unfold VC_X4_low_0 at vc
  refine w_aload_n C 0 dX4_low_0 rfl ?_
  refine w_getR C dX4_low_1 gf_X4_51 ob_0 rfl ?_
  obtain ⟨sc1, vc⟩ := vc
  refine w_callVI C [] [] rfl dX4_low_4 (c_X0_greatest C.gi (xL X)  σ sc1) oc_31 mw_X0_greatest ml_X4_179 im_X0_greatest se_X0_greatest (by decide) (Nat.le_of_ble_eq_true rfl) (fun z3 s2 hs2 => ?_)
  have vc := vc z3 s2 hs2
  exact w_ireturn C dX4_low_7 vc
set_option maxHeartbeats 1000000 in
theorem ok_X4_low_0 {M : Nat} {σ : Mem} (h : pre_X4_low M σ) : VC_X4_low_0 M (post_X4_low M σ) σ := by
  refine ⟨⟨h.1.1, h.2⟩, fun z s hp => ?_⟩
  obtain ⟨c, k, b⟩ := hp
  exact ⟨b, c.SE, ⟨SE_WF c.SE h.1, k⟩, fun d d1 d2 => c d (by omega)⟩
theorem c_X4_low {G : GG} (hG : GI G) (l : Launch) (σ : Mem) (h : pre_X4_low (gM G) σ) : CtI G l yX4_low cX4_low 1 (some .int) 5 [pR 0] σ (post_X4_low (gM G) σ) := by
  refine CtI.of hG (by decide) (Nat.le_of_ble_eq_true rfl) (fun X hl C => ?_)
  show RW G X 1 (QI G X _) 0 [(0, pR 0)] [] σ
  exact seg_X4_low_0 C σ (ok_X4_low_0 h)
