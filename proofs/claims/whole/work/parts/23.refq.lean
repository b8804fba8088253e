/-! the reference's questions -/
theorem plan_q {M : Nat} {σ s1 : Mem} (h : RP M σ) (e1 : s1 = up σ 37 0 0) : pre_X5_plan M s1 ∧ ∀ s3, post_X5_plan M s1 s3 → RFr σ s3 ∧ STs M (gh σ) s3 ∧ RM M (gh σ) s3 ∧ s3 37 0 = 0 := by
  have f1 : RFr σ s1 := by rw [e1]; exact thr_fr σ 0
  have h1 := RP_fr f1 h
  obtain ⟨c1, c2⟩ := RP_RPc h1
  have eg : gh s1 = gh σ := gh_eq f1.FM
  refine ⟨c1, fun s3 h3 => ?_⟩
  obtain ⟨q1, q2⟩ := h3
  rw [c2, eg] at q2
  have f3 := f1.trans q1.1
  exact ⟨f3, q2, RM_fr f3 h.2, by rw [q1.2, e1, up_self]⟩
theorem STs_in {M : Nat} {a τ : Mem} (h : STs M a τ) : inR (τ 37 15) ∧ (τ 37 15 = 0 → PLs M a τ) ∧ (¬ τ 37 15 = 0 → NP M a) := by
  rcases h with ⟨e, q⟩ | ⟨e, q, n⟩ | ⟨e, q⟩
  · exact ⟨⟨by omega, by omega⟩, fun z => by omega, fun _ => NP_open q⟩
  · exact ⟨⟨by omega, by omega⟩, fun z => by omega, fun _ => n⟩
  · exact ⟨⟨by omega, by omega⟩, fun z => q, fun z => absurd e z⟩
theorem PLs_np {M : Nat} {a τ : Mem} (h : PLs M a τ) : ¬ NP M a := fun n => n ⟨_, h.1⟩

/-! X5_state -/
def pre_X5_state (M : Nat) (σ : Mem) : Prop := RP M σ
def post_X5_state (M : Nat) (σ : Mem) (z : Int) (σ' : Mem) : Prop := RFr σ σ' ∧ R_state M (gh σ) z
def VC_X5_state_0 (M : Nat) (post : Int → Mem → Prop)  (σ : Mem) : Prop :=
  ∀ s1 : Mem, s1 = up σ 37 0 0 → (pre_X5_plan M s1) ∧ ∀ s3 : Mem, post_X5_plan M s1 s3 → post (s3 37 15) s3
set_option maxRecDepth 20000 in
set_option maxHeartbeats 4000000 in
theorem seg_X5_state_0 {G : GG} {X : XX} {post : Int → Mem → Prop} (C : CX G X cX5_state RX5 1 (some .int) 3)    (σ : Mem) (vc : VC_X5_state_0 (gM G)  post   σ) : RW G X 1 (QI G X post) 0 [(0, pR 37)] [] σ := by
  unfold VC_X5_state_0 at vc
  refine w_aload_n C 0 dX5_state_0 rfl ?_
  refine w_iconst C dX5_state_1 ?_
  refine w_putI C 0 dX5_state_2 pf_X5_69 ob_37 rfl rfl ?_
  refine w_mem (fun s1 hs1 => ?_)
  have vc := vc s1 hs1
  refine w_aload_n C 0 dX5_state_5 rfl ?_
  obtain ⟨sc2, vc⟩ := vc
  refine w_callVV C [] [] rfl dX5_state_6 (c_X5_plan C.gi (xL X)  s1 sc2) oc_37 mw_X5_plan ml_X5_130 im_X5_plan se_X5_plan (by decide) (Nat.le_of_ble_eq_true rfl) (fun s3 hs3 => ?_)
  have vc := vc s3 hs3
  refine w_aload_n C 0 dX5_state_9 rfl ?_
  refine w_getI C 15 dX5_state_10 gf_X5_113 ob_37 rfl rfl ?_
  exact w_ireturn C dX5_state_13 vc
set_option maxHeartbeats 1000000 in
theorem ok_X5_state_0 {M : Nat} {σ : Mem} (h : pre_X5_state M σ) : VC_X5_state_0 M (post_X5_state M σ) σ := by
  intro s1 e1
  obtain ⟨p1, p2⟩ := plan_q h e1
  refine ⟨p1, fun s3 h3 => ?_⟩
  obtain ⟨f3, q, r3, -⟩ := p2 s3 h3
  refine ⟨f3, ?_⟩
  rcases q with ⟨e, q⟩ | ⟨e, q, n⟩ | ⟨e, q⟩
  · exact Or.inl ⟨e, q⟩
  · exact Or.inr (Or.inl ⟨e, q, n⟩)
  · exact Or.inr (Or.inr ⟨e, _, q.1⟩)
theorem c_X5_state {G : GG} (hG : GI G) (l : Launch) (σ : Mem) (h : pre_X5_state (gM G) σ) : CtI G l yX5_state cX5_state 1 (some .int) 3 [pR 37] σ (post_X5_state (gM G) σ) := by
  refine CtI.of hG (by decide) (Nat.le_of_ble_eq_true rfl) (fun X hl C => ?_)
  show RW G X 1 (QI G X _) 0 [(0, pR 37)] [] σ
  exact seg_X5_state_0 C σ (ok_X5_state_0 h)

/-! X5_when -/
def pre_X5_when (M : Nat) (x1 x2 : Int) (σ : Mem) : Prop := RP M σ ∧ inR x1 ∧ inR x2
def post_X5_when (M : Nat) (x1 x2 : Int) (σ : Mem) (z : Int) (σ' : Mem) : Prop := RFr σ σ' ∧ R_when M (gh σ) x1 x2 z
def VC_X5_when_0 (M : Nat) (post : Int → Mem → Prop) (x1 : Int) (x2 : Int) (σ : Mem) : Prop :=
  ∀ s1 : Mem, s1 = up σ 37 0 0 → (pre_X5_isStep M x1 s1) ∧ ((P_X5_isStep x1 s1 → (pre_X5_in M x2 0 2 s1) ∧ ((P_X5_in x2 0 2 s1 → (pre_X5_plan M s1) ∧ ∀ s7 : Mem, post_X5_plan M s1 s7 → (inR (s7 37 15)) ∧ (((s7 37 15) = 0 → (pre_X5_placeOf M x1 s7) ∧ ∀ v11 : Int, v11 = f_X5_placeOf x1 s7 → (inR x2) ∧ ((¬ x2 = 0 → (inR x2) ∧ ((¬ x2 = 1 → (pre_X5_slack M v11 s7) ∧ post (f_X5_slack v11 s7) s7) ∧ (x2 = 1 → (0 ≤ v11 ∧ v11 < 48) ∧ (0 ≤ v11 ∧ v11 < 48) ∧ post ((s7 51 v11) + (s7 43 v11)) s7))) ∧ (x2 = 0 → (0 ≤ v11 ∧ v11 < 48) ∧ post (s7 51 v11) s7))) ∧ (¬ (s7 37 15) = 0 → post (-3) s7))) ∧ (¬ P_X5_in x2 0 2 s1 → post (-2) s1))) ∧ (¬ P_X5_isStep x1 s1 → post (-1) s1))
set_option maxRecDepth 20000 in
set_option maxHeartbeats 4000000 in
theorem seg_X5_when_0 {G : GG} {X : XX} {post : Int → Mem → Prop} (C : CX G X cX5_when RX5 4 (some .int) 3)   (x1 : Int) (x2 : Int) (σ : Mem) (vc : VC_X5_when_0 (gM G)  post  x1 x2 σ) : RW G X 4 (QI G X post) 0 [(0, pR 37), (1, pI x1), (2, pI x2)] [] σ := by
  unfold VC_X5_when_0 at vc
  refine w_aload_n C 0 dX5_when_0 rfl ?_
  refine w_iconst C dX5_when_1 ?_
  refine w_putI C 0 dX5_when_2 pf_X5_69 ob_37 rfl rfl ?_
  refine w_mem (fun s1 hs1 => ?_)
  have vc := vc s1 hs1
  refine w_aload_n C 0 dX5_when_5 rfl ?_
  refine w_iload_n C 1 dX5_when_6 rfl ?_
  obtain ⟨sc2, vc⟩ := vc
  refine w_callVI C [pI x1] [] rfl dX5_when_7 (c_X5_isStep C.gi (xL X) x1 s1 sc2) oc_37 mw_X5_isStep ml_X5_86 im_X5_isStep se_X5_isStep (by decide) (Nat.le_of_ble_eq_true rfl) (fun z σ' hz => ?_)
  obtain ⟨hz2, hz⟩ := hz
  have hz2 := hz2.symm
  subst hz2
  rcases hz with ⟨h3, rfl⟩ | ⟨h3, rfl⟩
  · have vc := vc.1 h3
    refine w_if_ne C 15 dX5_when_10 (by decide) ⟨by omega, by omega⟩ (fun _ => ?_) (fun q => absurd q (by decide))
    refine w_iload_n C 2 dX5_when_15 rfl ?_
    refine w_iconst C dX5_when_16 ?_
    refine w_iconst C dX5_when_17 ?_
    obtain ⟨sc4, vc⟩ := vc
    refine w_callSI C [pI x2, pI 0, pI 2] [] rfl dX5_when_18 (c_X5_in C.gi (xL X) x2 0 2 s1 sc4) mw_X5_in ml_X5_75 ss_X5_in (by decide) (Nat.le_of_ble_eq_true rfl) (fun z σ' hz => ?_)
    obtain ⟨hz2, hz⟩ := hz
    have hz2 := hz2.symm
    subst hz2
    rcases hz with ⟨h5, rfl⟩ | ⟨h5, rfl⟩
    · have vc := vc.1 h5
      refine w_if_ne C 27 dX5_when_21 (by decide) ⟨by omega, by omega⟩ (fun _ => ?_) (fun q => absurd q (by decide))
      refine w_aload_n C 0 dX5_when_27 rfl ?_
      obtain ⟨sc6, vc⟩ := vc
      refine w_callVV C [] [] rfl dX5_when_28 (c_X5_plan C.gi (xL X)  s1 sc6) oc_37 mw_X5_plan ml_X5_130 im_X5_plan se_X5_plan (by decide) (Nat.le_of_ble_eq_true rfl) (fun s7 hs7 => ?_)
      have vc := vc s7 hs7
      refine w_aload_n C 0 dX5_when_31 rfl ?_
      refine w_getI C 15 dX5_when_32 gf_X5_113 ob_37 rfl rfl ?_
      obtain ⟨sc8, vc⟩ := vc
      refine w_if_eq C 41 dX5_when_35 (by decide) sc8 (fun h9 => ?_) (fun h9 => ?_)
      · have vc := vc.1 h9
        refine w_iload_n C 1 dX5_when_41 rfl ?_
        obtain ⟨sc10, vc⟩ := vc
        refine w_callSI C [pI x1] [] rfl dX5_when_42 (c_X5_placeOf C.gi (xL X) x1 s7 sc10) mw_X5_placeOf ml_X5_89 ss_X5_placeOf (by decide) (Nat.le_of_ble_eq_true rfl) (fun z σ' hz => ?_)
        obtain ⟨rfl, hz2⟩ := hz
        have hz2 := hz2.symm
        subst hz2
        refine w_top (fun v11 hv11 => ?_)
        have vc := vc v11 hv11
        refine w_istore_n C [(3, pI v11), (0, pR 37), (1, pI x1), (2, pI x2)] dX5_when_45 (by decide) rfl ?_
        refine w_iload_n C 3 dX5_when_46 rfl ?_
        obtain ⟨sc12, vc⟩ := vc
        refine w_if_ne C 59 dX5_when_47 (by decide) sc12 (fun h13 => ?_) (fun h13 => ?_)
        · have vc := vc.1 h13
          refine w_iload_n C 3 dX5_when_59 rfl ?_
          refine w_iconst C dX5_when_60 ?_
          obtain ⟨sc14, vc⟩ := vc
          refine w_icmp_ne C 80 dX5_when_61 (by decide) sc14 ⟨by omega, by omega⟩ (fun h15 => ?_) (fun h15 => ?_)
          · have vc := vc.1 h15
            refine w_aload_n C 1 dX5_when_80 rfl ?_
            refine w_iload_n C 0 dX5_when_81 rfl ?_
            obtain ⟨sc16, vc⟩ := vc
            refine w_callVI C [pI v11] [] rfl dX5_when_82 (c_X5_slack C.gi (xL X) v11 s7 sc16) oc_37 mw_X5_slack ml_X5_133 im_X5_slack se_X5_slack (by decide) (Nat.le_of_ble_eq_true rfl) (fun z σ' hz => ?_)
            obtain ⟨rfl, hz2⟩ := hz
            have hz2 := hz2.symm
            subst hz2
            exact w_ireturn C dX5_when_85 vc
          · have vc := vc.2 h15
            refine w_aload_n C 1 dX5_when_64 rfl ?_
            refine w_getR C dX5_when_65 gf_X5_50 ob_37 rfl ?_
            refine w_iload_n C 0 dX5_when_68 rfl ?_
            obtain ⟨⟨sc17, sc18⟩, vc⟩ := vc
            refine w_iald C dX5_when_69 ia_51 sc17 sc18 ?_
            refine w_aload_n C 1 dX5_when_70 rfl ?_
            refine w_getR C dX5_when_71 gf_X5_25 ob_37 rfl ?_
            refine w_iload_n C 0 dX5_when_74 rfl ?_
            obtain ⟨⟨sc19, sc20⟩, vc⟩ := vc
            refine w_iald C dX5_when_75 ia_43 sc19 sc20 ?_
            refine w_iadd C dX5_when_76 ?_
            refine w_goto C 85 dX5_when_77 (by decide) ?_
            exact w_ireturn C dX5_when_85 vc
        · have vc := vc.2 h13
          refine w_aload_n C 1 dX5_when_50 rfl ?_
          refine w_getR C dX5_when_51 gf_X5_50 ob_37 rfl ?_
          refine w_iload_n C 0 dX5_when_54 rfl ?_
          obtain ⟨⟨sc21, sc22⟩, vc⟩ := vc
          refine w_iald C dX5_when_55 ia_51 sc21 sc22 ?_
          refine w_goto C 85 dX5_when_56 (by decide) ?_
          exact w_ireturn C dX5_when_85 vc
      · have vc := vc.2 h9
        refine w_bipush C dX5_when_38 (by decide) ?_
        exact w_ireturn C dX5_when_40 vc
    · have vc := vc.2 h5
      refine w_if_ne C 27 dX5_when_21 (by decide) ⟨by omega, by omega⟩ (fun q => absurd q (by decide)) (fun _ => ?_)
      refine w_bipush C dX5_when_24 (by decide) ?_
      exact w_ireturn C dX5_when_26 vc
  · have vc := vc.2 h3
    refine w_if_ne C 15 dX5_when_10 (by decide) ⟨by omega, by omega⟩ (fun q => absurd q (by decide)) (fun _ => ?_)
    refine w_iconst C dX5_when_13 ?_
    exact w_ireturn C dX5_when_14 vc
set_option maxHeartbeats 1000000 in
theorem ok_X5_when_0 {M : Nat} {x1 : Int} {x2 : Int} {σ : Mem} (h : pre_X5_when M x1 x2 σ) : VC_X5_when_0 M (post_X5_when M x1 x2 σ) x1 x2 σ := by
  obtain ⟨h, r1, r2⟩ := h
  obtain ⟨hW, hR⟩ := id h
  intro s1 e1
  obtain ⟨p1, p2⟩ := plan_q h e1
  have f1 : RFr σ s1 := by rw [e1]; exact thr_fr σ 0
  have hR1 := RM_fr f1 hR
  have hn := RM_NB hW hR1
  have eV := VS_r hW hR1 x1
  refine ⟨⟨hn, r1⟩, fun g => ?_, fun g => ⟨f1, Or.inl ⟨fun q => g (eV.mp q), rfl⟩⟩⟩
  have g' : VS (gh σ) x1 := eV.mpr g
  have hp := pl_in hW.1.1 g'
  refine ⟨⟨r2, ⟨by omega, by omega⟩, ⟨by omega, by omega⟩⟩, fun g2 => ⟨p1, fun s7 h7 => ?_⟩, fun g2 => ⟨f1, Or.inr (Or.inl ⟨g', g2, rfl⟩)⟩⟩
  obtain ⟨f7, q, r7, -⟩ := p2 s7 h7
  obtain ⟨t1, t2, t3⟩ := STs_in q
  have hat := at_pl hW r7 g'
  refine ⟨t1, fun g3 => ⟨⟨g.1, r1⟩, fun v e => ?_⟩, fun g3 => ⟨f7, Or.inr (Or.inr ⟨g', g2, Or.inl ⟨t3 g3, rfl⟩⟩)⟩⟩
  have e' : v = pl x1 := e
  subst e'
  have T := t2 g3
  have R : ∀ z, ((x2 = 0 ∧ z = s7 51 (pl x1)) ∨ (x2 = 1 ∧ z = s7 51 (pl x1) + gh σ 7 x1) ∨ (x2 = 2 ∧ ∃ g R, SPN (gh σ) Tr (fun s => s7 51 (pl s)) g ∧ RS M (gh σ) R ∧ z = g - s7 51 (pl x1) - R x1)) → post_X5_when M x1 x2 σ z s7 := fun z hz => ⟨f7, Or.inr (Or.inr ⟨g', g2, Or.inr ⟨fun s => s7 51 (pl s), T.1, hz⟩⟩)⟩
  refine ⟨r2, fun q1 => ⟨r2, fun q2 => ⟨⟨hp.1, hp.2.1⟩, R _ (Or.inr (Or.inr ⟨?_, _, _, T.2.1, T.2.2.1, rfl⟩))⟩, fun q2 => ⟨⟨hp.1, hp.2.1⟩, ⟨hp.1, hp.2.1⟩, R _ (Or.inr (Or.inl ⟨q2, by rw [hat.2.1]⟩))⟩⟩, fun q1 => ⟨⟨hp.1, hp.2.1⟩, R _ (Or.inl ⟨q1, rfl⟩)⟩⟩
  have := g2.1
  have := g2.2
  omega
theorem c_X5_when {G : GG} (hG : GI G) (l : Launch) (x1 : Int) (x2 : Int) (σ : Mem) (h : pre_X5_when (gM G) x1 x2 σ) : CtI G l yX5_when cX5_when 4 (some .int) 3 [pR 37, pI x1, pI x2] σ (post_X5_when (gM G) x1 x2 σ) := by
  refine CtI.of hG (by decide) (Nat.le_of_ble_eq_true rfl) (fun X hl C => ?_)
  show RW G X 4 (QI G X _) 0 [(0, pR 37), (1, pI x1), (2, pI x2)] [] σ
  exact seg_X5_when_0 C x1 x2 σ (ok_X5_when_0 h)

/-! X5_span -/
def pre_X5_span (M : Nat) (σ : Mem) : Prop := RP M σ
def post_X5_span (M : Nat) (σ : Mem) (z : Int) (σ' : Mem) : Prop := RFr σ σ' ∧ spanR M (gh σ) z
def VC_X5_span_0 (M : Nat) (post : Int → Mem → Prop)  (σ : Mem) : Prop :=
  ∀ s1 : Mem, s1 = up σ 37 0 0 → (pre_X5_plan M s1) ∧ ∀ s3 : Mem, post_X5_plan M s1 s3 → (inR (s3 37 15)) ∧ ((¬ (s3 37 15) = 0 → post (-3) s3) ∧ ((s3 37 15) = 0 → post (s3 37 16) s3))
set_option maxRecDepth 20000 in
set_option maxHeartbeats 4000000 in
theorem seg_X5_span_0 {G : GG} {X : XX} {post : Int → Mem → Prop} (C : CX G X cX5_span RX5 1 (some .int) 3)    (σ : Mem) (vc : VC_X5_span_0 (gM G)  post   σ) : RW G X 1 (QI G X post) 0 [(0, pR 37)] [] σ := by
  unfold VC_X5_span_0 at vc
  refine w_aload_n C 0 dX5_span_0 rfl ?_
  refine w_iconst C dX5_span_1 ?_
  refine w_putI C 0 dX5_span_2 pf_X5_69 ob_37 rfl rfl ?_
  refine w_mem (fun s1 hs1 => ?_)
  have vc := vc s1 hs1
  refine w_aload_n C 0 dX5_span_5 rfl ?_
  obtain ⟨sc2, vc⟩ := vc
  refine w_callVV C [] [] rfl dX5_span_6 (c_X5_plan C.gi (xL X)  s1 sc2) oc_37 mw_X5_plan ml_X5_130 im_X5_plan se_X5_plan (by decide) (Nat.le_of_ble_eq_true rfl) (fun s3 hs3 => ?_)
  have vc := vc s3 hs3
  refine w_aload_n C 0 dX5_span_9 rfl ?_
  refine w_getI C 15 dX5_span_10 gf_X5_113 ob_37 rfl rfl ?_
  obtain ⟨sc4, vc⟩ := vc
  refine w_if_ne C 23 dX5_span_13 (by decide) sc4 (fun h5 => ?_) (fun h5 => ?_)
  · have vc := vc.1 h5
    refine w_bipush C dX5_span_23 (by decide) ?_
    exact w_ireturn C dX5_span_25 vc
  · have vc := vc.2 h5
    refine w_aload_n C 0 dX5_span_16 rfl ?_
    refine w_getI C 16 dX5_span_17 gf_X5_116 ob_37 rfl rfl ?_
    refine w_goto C 25 dX5_span_20 (by decide) ?_
    exact w_ireturn C dX5_span_25 vc
set_option maxHeartbeats 1000000 in
theorem ok_X5_span_0 {M : Nat} {σ : Mem} (h : pre_X5_span M σ) : VC_X5_span_0 M (post_X5_span M σ) σ := by
  intro s1 e1
  obtain ⟨p1, p2⟩ := plan_q h e1
  refine ⟨p1, fun s3 h3 => ?_⟩
  obtain ⟨f3, q, r3, -⟩ := p2 s3 h3
  obtain ⟨t1, t2, t3⟩ := STs_in q
  exact ⟨t1, fun g => ⟨f3, Or.inl ⟨t3 g, rfl⟩⟩, fun g => ⟨f3, Or.inr ⟨_, (t2 g).1, (t2 g).2.1⟩⟩⟩
theorem c_X5_span {G : GG} (hG : GI G) (l : Launch) (σ : Mem) (h : pre_X5_span (gM G) σ) : CtI G l yX5_span cX5_span 1 (some .int) 3 [pR 37] σ (post_X5_span (gM G) σ) := by
  refine CtI.of hG (by decide) (Nat.le_of_ble_eq_true rfl) (fun X hl C => ?_)
  show RW G X 1 (QI G X _) 0 [(0, pR 37)] [] σ
  exact seg_X5_span_0 C σ (ok_X5_span_0 h)

/-! X5_late -/
def pre_X5_late (M : Nat) (σ : Mem) : Prop := RP M σ
def post_X5_late (M : Nat) (σ : Mem) (z : Int) (σ' : Mem) : Prop := RFr σ σ' ∧ R_late M (gh σ) z
def inv_X5_late_24 (M : Nat) (σ : Mem) (w1 w3 : Int) (τ : Mem) : Prop := RFr σ τ ∧ PLs M (gh σ) τ ∧ 0 ≤ w3 ∧ w3 ≤ gh σ 1 1 ∧ w1 = sumI (fun j => gh σ 4 j * max 0 (eJ (gh σ) (fun s => τ 51 (pl s)) j - gh σ 3 j)) 0 w3
def mu_X5_late_24 (w1 w3 : Int) (τ : Mem) : Nat := (8 - w3).toNat
def VC_X5_late_0 (M : Nat) (K24 : Int → Int → Mem → Prop) (post : Int → Mem → Prop)  (σ : Mem) : Prop :=
  ∀ s1 : Mem, s1 = up σ 37 0 0 → (pre_X5_plan M s1) ∧ ∀ s3 : Mem, post_X5_plan M s1 s3 → (inR (s3 37 15)) ∧ (((s3 37 15) = 0 → K24 0 0 s3) ∧ (¬ (s3 37 15) = 0 → post (-9223372036854775808) s3))
set_option maxRecDepth 20000 in
set_option maxHeartbeats 4000000 in
theorem seg_X5_late_0 {G : GG} {X : XX} {post : Int → Mem → Prop} (C : CX G X cX5_late RX5 6 (some .long) 3)    (σ : Mem) (vc : VC_X5_late_0 (gM G) (fun w1 w3 σ => RW G X 6 (QL G X post) 24 [(0, pR 37), (1, pL w1), (3, pI w3)] [] σ) post   σ) : RW G X 6 (QL G X post) 0 [(0, pR 37)] [] σ := by
  unfold VC_X5_late_0 at vc
  refine w_aload_n C 0 dX5_late_0 rfl ?_
  refine w_iconst C dX5_late_1 ?_
  refine w_putI C 0 dX5_late_2 pf_X5_69 ob_37 rfl rfl ?_
  refine w_mem (fun s1 hs1 => ?_)
  have vc := vc s1 hs1
  refine w_aload_n C 0 dX5_late_5 rfl ?_
  obtain ⟨sc2, vc⟩ := vc
  refine w_callVV C [] [] rfl dX5_late_6 (c_X5_plan C.gi (xL X)  s1 sc2) oc_37 mw_X5_plan ml_X5_130 im_X5_plan se_X5_plan (by decide) (Nat.le_of_ble_eq_true rfl) (fun s3 hs3 => ?_)
  have vc := vc s3 hs3
  refine w_aload_n C 0 dX5_late_9 rfl ?_
  refine w_getI C 15 dX5_late_10 gf_X5_113 ob_37 rfl rfl ?_
  obtain ⟨sc4, vc⟩ := vc
  refine w_if_eq C 20 dX5_late_13 (by decide) sc4 (fun h5 => ?_) (fun h5 => ?_)
  · have vc := vc.1 h5
    refine w_lconst (z := 0) C dX5_late_20 (by decide) ?_
    refine w_lstore_n C [(1, pL 0), (0, pR 37)] dX5_late_21 (by decide) rfl ?_
    refine w_iconst C dX5_late_22 ?_
    refine w_istore_n C [(3, pI 0), (1, pL 0), (0, pR 37)] dX5_late_23 (by decide) rfl ?_
    exact w_sub _ [2, 1, 0] rfl vc
  · have vc := vc.2 h5
    refine w_ldc2 (n := -9223372036854775808) C dX5_late_16 cs_X5_136 ?_
    exact w_lreturn C dX5_late_19 vc
def VC_X5_late_24 (M : Nat) (K24 : Int → Int → Mem → Prop) (post : Int → Mem → Prop) (w1 : Int) (w3 : Int) (σ : Mem) : Prop :=
 (inR w3 ∧ inR (σ 37 2)) ∧ (((σ 37 2) ≤ w3 → post w1 σ) ∧ (w3 < (σ 37 2) → (0 ≤ w3 ∧ w3 < 8) ∧ ∀ v6 : Int, v6 = ((6 * w3) + (σ 41 w3)) - 1 → (0 ≤ w3 ∧ w3 < 8) ∧ (inR (σ 41 w3)) ∧ ((¬ (σ 41 w3) = 0 → (0 ≤ v6 ∧ v6 < 48) ∧ (0 ≤ v6 ∧ v6 < 48) ∧ True) ∧ ((σ 41 w3) = 0 → (0 ≤ w3 ∧ w3 < 8) ∧ True) ∧ ∀ j18 : Int, (¬ (σ 41 w3) = 0 → j18 = (σ 51 v6) + (σ 43 v6)) → ((σ 41 w3) = 0 → j18 = σ 38 w3) → (0 ≤ w3 ∧ w3 < 8) ∧ (inR j18 ∧ inR (σ 39 w3)) ∧ ((j18 ≤ (σ 39 w3) → True) ∧ ((σ 39 w3) < j18 → (0 ≤ w3 ∧ w3 < 8) ∧ (inR (σ 40 w3)) ∧ (0 ≤ w3 ∧ w3 < 8) ∧ (inR (j18 - (σ 39 w3))) ∧ True) ∧ ∀ j33 : Int, (j18 ≤ (σ 39 w3) → j33 = 0) → ((σ 39 w3) < j18 → j33 = (σ 40 w3) * (j18 - (σ 39 w3))) → ∀ v36 : Int, v36 = w1 + j33 → K24 v36 (w3 + 1) σ))))
set_option maxRecDepth 20000 in
set_option maxHeartbeats 4000000 in
theorem seg_X5_late_24 {G : GG} {X : XX} {post : Int → Mem → Prop} (C : CX G X cX5_late RX5 6 (some .long) 3)   (w1 : Int) (w3 : Int) (σ : Mem) (vc : VC_X5_late_24 (gM G) (fun w1 w3 σ => RW G X 6 (QL G X post) 24 [(0, pR 37), (1, pL w1), (3, pI w3)] [] σ) post  w1 w3 σ) : RW G X 6 (QL G X post) 24 [(0, pR 37), (1, pL w1), (3, pI w3)] [] σ := by
  unfold VC_X5_late_24 at vc
  refine w_iload_n C 2 dX5_late_24 rfl ?_
  refine w_aload_n C 0 dX5_late_25 rfl ?_
  refine w_getI C 2 dX5_late_26 gf_X5_72 ob_37 rfl rfl ?_
  obtain ⟨⟨sc1, sc2⟩, vc⟩ := vc
  refine w_icmp_ge C 124 dX5_late_29 (by decide) sc1 sc2 (fun h3 => ?_) (fun h3 => ?_)
  · have vc := vc.1 h3
    refine w_lload_n C 1 dX5_late_124 rfl ?_
    exact w_lreturn C dX5_late_125 vc
  · have vc := vc.2 h3
    refine w_bipush C dX5_late_32 (by decide) ?_
    refine w_iload_n C 2 dX5_late_34 rfl ?_
    refine w_imul C dX5_late_35 ?_
    refine w_aload_n C 0 dX5_late_36 rfl ?_
    refine w_getR C dX5_late_37 gf_X5_19 ob_37 rfl ?_
    refine w_iload_n C 2 dX5_late_40 rfl ?_
    obtain ⟨⟨sc4, sc5⟩, vc⟩ := vc
    refine w_iald C dX5_late_41 ia_41 sc4 sc5 ?_
    refine w_iadd C dX5_late_42 ?_
    refine w_iconst C dX5_late_43 ?_
    refine w_isub C dX5_late_44 ?_
    refine w_top (fun v6 hv6 => ?_)
    have vc := vc v6 hv6
    refine w_istore C [(4, pI v6), (0, pR 37), (1, pL w1), (3, pI w3)] dX5_late_45 (by decide) rfl ?_
    refine w_aload_n C 1 dX5_late_47 rfl ?_
    refine w_getR C dX5_late_48 gf_X5_19 ob_37 rfl ?_
    refine w_iload_n C 3 dX5_late_51 rfl ?_
    obtain ⟨⟨sc7, sc8⟩, vc⟩ := vc
    refine w_iald C dX5_late_52 ia_41 sc7 sc8 ?_
    obtain ⟨sc9, vc⟩ := vc
    have key11 : ∀ j18 : Int, (¬ (σ 41 w3) = 0 → j18 = (σ 51 v6) + (σ 43 v6)) → ((σ 41 w3) = 0 → j18 = σ 38 w3) → RW G X 6 (QL G X post) 80 [(4, pI v6), (0, pR 37), (1, pL w1), (3, pI w3)] [pI j18] σ := by
      intro j18 hj19 hj20
      have vc := vc.2.2 j18 hj19 hj20
      refine w_istore C [(5, pI j18), (4, pI v6), (0, pR 37), (1, pL w1), (3, pI w3)] dX5_late_80 (by decide) rfl ?_
      refine w_lload_n C 3 dX5_late_82 rfl ?_
      refine w_iload C 0 dX5_late_83 rfl ?_
      refine w_aload_n C 2 dX5_late_85 rfl ?_
      refine w_getR C dX5_late_86 gf_X5_13 ob_37 rfl ?_
      refine w_iload_n C 4 dX5_late_89 rfl ?_
      obtain ⟨⟨sc21, sc22⟩, vc⟩ := vc
      refine w_iald C dX5_late_90 ia_39 sc21 sc22 ?_
      obtain ⟨⟨sc23, sc24⟩, vc⟩ := vc
      have key26 : ∀ j33 : Int, (j18 ≤ (σ 39 w3) → j33 = 0) → ((σ 39 w3) < j18 → j33 = (σ 40 w3) * (j18 - (σ 39 w3))) → RW G X 6 (QL G X post) 116 [(5, pI j18), (4, pI v6), (0, pR 37), (1, pL w1), (3, pI w3)] [pL j33, pL w1] σ := by
        intro j33 hj34 hj35
        have vc := vc.2.2 j33 hj34 hj35
        refine w_ladd C dX5_late_116 ?_
        refine w_topl (fun v36 hv36 => ?_)
        have vc := vc v36 hv36
        refine w_lstore_n C [(1, pL v36), (5, pI j18), (4, pI v6), (0, pR 37), (3, pI w3)] dX5_late_117 (by decide) rfl ?_
        refine w_iinc C 4 [(3, pI (w3 + 1)), (1, pL v36), (5, pI j18), (4, pI v6), (0, pR 37)] dX5_late_118 rfl (by decide) rfl ?_
        refine w_goto C 24 dX5_late_121 (by decide) ?_
        exact w_sub _ [4, 1, 0] rfl vc
      refine w_icmp_le C 115 dX5_late_91 (by decide) sc23 sc24 (fun h25 => ?_) (fun h25 => ?_)
      · have vc := vc.1 h25
        refine w_lconst (z := 0) C dX5_late_115 (by decide) ?_
        exact key26 _ (by intros; first | rfl | omega | (exfalso; omega) | contradiction) (by intros; first | rfl | omega | (exfalso; omega) | contradiction)
      · have vc := vc.2.1 h25
        refine w_aload_n C 2 dX5_late_94 rfl ?_
        refine w_getR C dX5_late_95 gf_X5_16 ob_37 rfl ?_
        refine w_iload_n C 4 dX5_late_98 rfl ?_
        obtain ⟨⟨sc27, sc28⟩, vc⟩ := vc
        refine w_iald C dX5_late_99 ia_40 sc27 sc28 ?_
        obtain ⟨sc29, vc⟩ := vc
        refine w_i2l C dX5_late_100 sc29 ?_
        refine w_iload C 0 dX5_late_101 rfl ?_
        refine w_aload_n C 2 dX5_late_103 rfl ?_
        refine w_getR C dX5_late_104 gf_X5_13 ob_37 rfl ?_
        refine w_iload_n C 4 dX5_late_107 rfl ?_
        obtain ⟨⟨sc30, sc31⟩, vc⟩ := vc
        refine w_iald C dX5_late_108 ia_39 sc30 sc31 ?_
        refine w_isub C dX5_late_109 ?_
        obtain ⟨sc32, vc⟩ := vc
        refine w_i2l C dX5_late_110 sc32 ?_
        refine w_lmul C dX5_late_111 ?_
        refine w_goto C 116 dX5_late_112 (by decide) ?_
        exact key26 _ (by intros; first | rfl | omega | (exfalso; omega) | contradiction) (by intros; first | rfl | omega | (exfalso; omega) | contradiction)
    refine w_if_ne C 65 dX5_late_53 (by decide) sc9 (fun h10 => ?_) (fun h10 => ?_)
    · have vc := vc.1 h10
      refine w_aload_n C 1 dX5_late_65 rfl ?_
      refine w_getR C dX5_late_66 gf_X5_50 ob_37 rfl ?_
      refine w_iload C 0 dX5_late_69 rfl ?_
      obtain ⟨⟨sc12, sc13⟩, vc⟩ := vc
      refine w_iald C dX5_late_71 ia_51 sc12 sc13 ?_
      refine w_aload_n C 1 dX5_late_72 rfl ?_
      refine w_getR C dX5_late_73 gf_X5_25 ob_37 rfl ?_
      refine w_iload C 0 dX5_late_76 rfl ?_
      obtain ⟨⟨sc14, sc15⟩, vc⟩ := vc
      refine w_iald C dX5_late_78 ia_43 sc14 sc15 ?_
      refine w_iadd C dX5_late_79 ?_
      exact key11 _ (by intros; first | rfl | omega | (exfalso; omega) | contradiction) (by intros; first | rfl | omega | (exfalso; omega) | contradiction)
    · have vc := vc.2.1 h10
      refine w_aload_n C 1 dX5_late_56 rfl ?_
      refine w_getR C dX5_late_57 gf_X5_7 ob_37 rfl ?_
      refine w_iload_n C 3 dX5_late_60 rfl ?_
      obtain ⟨⟨sc16, sc17⟩, vc⟩ := vc
      refine w_iald C dX5_late_61 ia_38 sc16 sc17 ?_
      refine w_goto C 80 dX5_late_62 (by decide) ?_
      exact key11 _ (by intros; first | rfl | omega | (exfalso; omega) | contradiction) (by intros; first | rfl | omega | (exfalso; omega) | contradiction)
set_option maxHeartbeats 1000000 in
theorem ok_X5_late_0 {M : Nat} {σ : Mem} {K24 : Int → Int → Mem → Prop} (h : pre_X5_late M σ) (hK24 : ∀ (y1 y3 : Int) (τ' : Mem), inv_X5_late_24 M σ y1 y3 τ' → K24 y1 y3 τ') : VC_X5_late_0 M K24 (post_X5_late M σ) σ := by
  intro s1 e1
  obtain ⟨p1, p2⟩ := plan_q h e1
  have hj := h.1.1.1.2.2.2.1
  refine ⟨p1, fun s3 h3 => ?_⟩
  obtain ⟨f3, q, r3, -⟩ := p2 s3 h3
  obtain ⟨t1, t2, t3⟩ := STs_in q
  exact ⟨t1, fun g => hK24 _ _ _ ⟨f3, t2 g, by omega, by omega, (sumI_0 _ (by omega)).symm⟩, fun g => ⟨f3, Or.inl ⟨t3 g, rfl⟩⟩⟩
set_option maxHeartbeats 1000000 in
theorem ok_X5_late_24 {M : Nat} {σ : Mem} {w1 w3 : Int} {τ : Mem} {K24 : Int → Int → Mem → Prop} (h : pre_X5_late M σ) (hinv : inv_X5_late_24 M σ w1 w3 τ) (hK24 : ∀ (y1 y3 : Int) (τ' : Mem), inv_X5_late_24 M σ y1 y3 τ' → mu_X5_late_24 y1 y3 τ' < mu_X5_late_24 w1 w3 τ → K24 y1 y3 τ') : VC_X5_late_24 M K24 (post_X5_late M σ) w1 w3 τ := by
  obtain ⟨hF, d, i1, i2, rfl⟩ := hinv
  obtain ⟨hW, hR⟩ := id h
  have hj := hW.1.1.2.2.2.1
  have hRτ := RM_fr hF hR
  have e2 := hRτ.2.1
  refine ⟨⟨⟨by omega, by omega⟩, ⟨by omega, by omega⟩⟩, fun g => ⟨hF, Or.inr ⟨_, d.1, ?_⟩⟩, fun g => ?_⟩
  · have : w3 = gh σ 1 1 := by omega
    rw [this]
  · have r3 := hRτ.2.2.1 w3 i1 (by omega)
    have h5 := hW.1.1.2.2.2.2.1 w3 i1 (by omega)
    have hb := eJ_in hW.1 (fun s v => (d.2.2.2.2 s v).1) i1 (show w3 < gh σ 1 1 by omega)
    have hd := (hW.1.2.1 w3 i1 (by omega)).2.1
    have hw := (hW.1.2.1 w3 i1 (by omega)).2.2
    rw [r3.1, r3.2.1, r3.2.2.1, r3.2.2.2]
    refine ⟨⟨i1, by omega⟩, fun v6 e6 => ⟨⟨i1, by omega⟩, ⟨by omega, by omega⟩, fun q => ⟨⟨by omega, by omega⟩, ⟨by omega, by omega⟩, trivial⟩, fun q => ⟨⟨i1, by omega⟩, trivial⟩, fun j18 q1 q2 => ?_⟩⟩
    have ej : j18 = eJ (gh σ) (fun s => τ 51 (pl s)) w3 := by
      unfold eJ
      by_cases q : gh σ 5 w3 = 0
      · rw [if_pos q, q2 q]
      · have v := last_VS hW.1 i1 (show w3 < gh σ 1 1 by omega) q
        have ep : v6 = pl (10 * w3 + gh σ 5 w3 - 1) := by rw [e6]; unfold pl; omega
        rw [if_neg q, q1 q, ep, (at_pl hW hRτ v).2.1]
    rw [← ej] at hb
    refine ⟨⟨i1, by omega⟩, ⟨⟨by omega, by omega⟩, ⟨by omega, by omega⟩⟩, fun _ => trivial, fun q => ⟨⟨i1, by omega⟩, ⟨by omega, by omega⟩, ⟨i1, by omega⟩, ⟨by omega, by omega⟩, trivial⟩, fun j33 q3 q4 v36 e36 => hK24 _ _ _ ⟨hF, d, by omega, by omega, ?_⟩ ?_⟩
    · rw [e36, sumI_s _ i1]
      congr 1
      by_cases q : j18 ≤ gh σ 3 w3
      · rw [q3 q, ← ej, show max 0 (j18 - gh σ 3 w3) = 0 by omega, Int.mul_zero]
      · rw [q4 (by omega), ← ej, show max 0 (j18 - gh σ 3 w3) = j18 - gh σ 3 w3 by omega]
    · unfold mu_X5_late_24; omega
theorem c_X5_late {G : GG} (hG : GI G) (l : Launch) (σ : Mem) (h : pre_X5_late (gM G) σ) : CtL G l yX5_late cX5_late 6 (some .long) 3 [pR 37] σ (post_X5_late (gM G) σ) := by
  refine CtL.of hG (by decide) (Nat.le_of_ble_eq_true rfl) (fun X hl C => ?_)
  show RW G X 6 (QL G X _) 0 [(0, pR 37)] [] σ
  have key : ∀ n : Nat, (∀ (w1 w3 : Int) (τ : Mem), inv_X5_late_24 (gM G) σ w1 w3 τ → mu_X5_late_24 w1 w3 τ < n → RW G X 6 (QL G X (post_X5_late (gM G) σ)) 24 [(0, pR 37), (1, pL w1), (3, pI w3)] [] τ) := by
    intro n
    induction n with
    | zero => exact fun w1 w3 τ _ h0 => absurd h0 (Nat.not_lt_zero _)
    | succ n ih =>
      exact (fun w1 w3 τ hinv h0 => seg_X5_late_24 C w1 w3 τ (ok_X5_late_24 h hinv (fun y1 y3 τ' hi hm => ih y1 y3 τ' hi (Nat.lt_of_lt_of_le hm (Nat.le_of_lt_succ h0)))))
  exact seg_X5_late_0 C σ (ok_X5_late_0 h (fun y1 y3 τ' hi => (key _) y1 y3 τ' hi (Nat.lt_succ_self _)))

/-! X5_spanWith -/
def pre_X5_spanWith (M : Nat) (x1 x2 : Int) (σ : Mem) : Prop := RP M σ ∧ P_X3_hasNeighbours x1 x2 (gh σ)
def post_X5_spanWith (M : Nat) (x1 x2 : Int) (σ : Mem) (z : Int) (σ' : Mem) : Prop := RF0 σ σ' ∧ spanR M (m_X3_exchange x1 x2 (gh σ)) z ∧ STs M (gh σ) σ' ∧ -3 ≤ z ∧ z ≤ 6000 ∧ (z < 0 → z = -3)
def VC_X5_spanWith_0 (M : Nat) (post : Int → Mem → Prop) (x1 : Int) (x2 : Int) (σ : Mem) : Prop :=
 (pre_X5_exchange M x1 x2 σ) ∧ ∀ s2 : Mem, s2 = m_X5_exchange x1 x2 σ → (pre_X5_plan M s2) ∧ ∀ s4 : Mem, post_X5_plan M s2 s4 → (inR (s4 37 15)) ∧ ((¬ (s4 37 15) = 0 → True) ∧ ((s4 37 15) = 0 → True) ∧ ∀ j8 : Int, (¬ (s4 37 15) = 0 → j8 = (-3)) → ((s4 37 15) = 0 → j8 = s4 37 16) → (pre_X5_exchange M x1 x2 s4) ∧ ∀ s12 : Mem, s12 = m_X5_exchange x1 x2 s4 → (pre_X5_plan M s12) ∧ ∀ s14 : Mem, post_X5_plan M s12 s14 → post j8 s14)
set_option maxRecDepth 20000 in
set_option maxHeartbeats 4000000 in
theorem seg_X5_spanWith_0 {G : GG} {X : XX} {post : Int → Mem → Prop} (C : CX G X cX5_spanWith RX5 4 (some .int) 3)   (x1 : Int) (x2 : Int) (σ : Mem) (vc : VC_X5_spanWith_0 (gM G)  post  x1 x2 σ) : RW G X 4 (QI G X post) 0 [(0, pR 37), (1, pI x1), (2, pI x2)] [] σ := by
  unfold VC_X5_spanWith_0 at vc
  refine w_aload_n C 0 dX5_spanWith_0 rfl ?_
  refine w_iload_n C 1 dX5_spanWith_1 rfl ?_
  refine w_iload_n C 2 dX5_spanWith_2 rfl ?_
  obtain ⟨sc1, vc⟩ := vc
  refine w_callVV C [pI x1, pI x2] [] rfl dX5_spanWith_3 (c_X5_exchange C.gi (xL X) x1 x2 σ sc1) oc_37 mw_X5_exchange ml_X5_100 im_X5_exchange se_X5_exchange (by decide) (Nat.le_of_ble_eq_true rfl) (fun s2 hs2 => ?_)
  have vc := vc s2 hs2
  refine w_aload_n C 0 dX5_spanWith_6 rfl ?_
  obtain ⟨sc3, vc⟩ := vc
  refine w_callVV C [] [] rfl dX5_spanWith_7 (c_X5_plan C.gi (xL X)  s2 sc3) oc_37 mw_X5_plan ml_X5_130 im_X5_plan se_X5_plan (by decide) (Nat.le_of_ble_eq_true rfl) (fun s4 hs4 => ?_)
  have vc := vc s4 hs4
  refine w_aload_n C 0 dX5_spanWith_10 rfl ?_
  refine w_getI C 15 dX5_spanWith_11 gf_X5_113 ob_37 rfl rfl ?_
  obtain ⟨sc5, vc⟩ := vc
  have key7 : ∀ j8 : Int, (¬ (s4 37 15) = 0 → j8 = (-3)) → ((s4 37 15) = 0 → j8 = s4 37 16) → RW G X 4 (QI G X post) 26 [(0, pR 37), (1, pI x1), (2, pI x2)] [pI j8] s4 := by
    intro j8 hj9 hj10
    have vc := vc.2.2 j8 hj9 hj10
    refine w_istore_n C [(3, pI j8), (0, pR 37), (1, pI x1), (2, pI x2)] dX5_spanWith_26 (by decide) rfl ?_
    refine w_aload_n C 1 dX5_spanWith_27 rfl ?_
    refine w_iload_n C 2 dX5_spanWith_28 rfl ?_
    refine w_iload_n C 3 dX5_spanWith_29 rfl ?_
    obtain ⟨sc11, vc⟩ := vc
    refine w_callVV C [pI x1, pI x2] [] rfl dX5_spanWith_30 (c_X5_exchange C.gi (xL X) x1 x2 s4 sc11) oc_37 mw_X5_exchange ml_X5_100 im_X5_exchange se_X5_exchange (by decide) (Nat.le_of_ble_eq_true rfl) (fun s12 hs12 => ?_)
    have vc := vc s12 hs12
    refine w_aload_n C 1 dX5_spanWith_33 rfl ?_
    obtain ⟨sc13, vc⟩ := vc
    refine w_callVV C [] [] rfl dX5_spanWith_34 (c_X5_plan C.gi (xL X)  s12 sc13) oc_37 mw_X5_plan ml_X5_130 im_X5_plan se_X5_plan (by decide) (Nat.le_of_ble_eq_true rfl) (fun s14 hs14 => ?_)
    have vc := vc s14 hs14
    refine w_iload_n C 0 dX5_spanWith_37 rfl ?_
    exact w_ireturn C dX5_spanWith_38 vc
  refine w_if_ne C 24 dX5_spanWith_14 (by decide) sc5 (fun h6 => ?_) (fun h6 => ?_)
  · have vc := vc.1 h6
    refine w_bipush C dX5_spanWith_24 (by decide) ?_
    exact key7 _ (by intros; first | rfl | omega | (exfalso; omega) | contradiction) (by intros; first | rfl | omega | (exfalso; omega) | contradiction)
  · have vc := vc.2.1 h6
    refine w_aload_n C 0 dX5_spanWith_17 rfl ?_
    refine w_getI C 16 dX5_spanWith_18 gf_X5_116 ob_37 rfl rfl ?_
    refine w_goto C 26 dX5_spanWith_21 (by decide) ?_
    exact key7 _ (by intros; first | rfl | omega | (exfalso; omega) | contradiction) (by intros; first | rfl | omega | (exfalso; omega) | contradiction)
set_option maxHeartbeats 1000000 in
theorem ok_X5_spanWith_0 {M : Nat} {x1 : Int} {x2 : Int} {σ : Mem} (h : pre_X5_spanWith M x1 x2 σ) : VC_X5_spanWith_0 M (post_X5_spanWith M x1 x2 σ) x1 x2 σ := by
  obtain ⟨h, hn⟩ := h
  obtain ⟨hW, hR⟩ := id h
  refine ⟨nb5 hW hn σ, fun s2 e2 => ?_⟩
  obtain ⟨bc, br⟩ := xex_acc x1 x2 σ
  rw [← e2] at bc br
  have eg2 : gh s2 = gh σ := gh_eq (fun c hc => bc c (by omega))
  have hWx := WF_exchange hW hn
  have hR2 : RM M (m_X3_exchange x1 x2 (gh σ)) s2 := by rw [e2]; exact xex_RM hW hR hn
  have hfm : fam (gh s2) (m_X3_exchange x1 x2 (gh σ)) := by rw [eg2]; exact Or.inr ⟨x1, x2, hn, rfl⟩
  have hc2 : cur M s2 = m_X3_exchange x1 x2 (gh σ) := cur_eq (by rw [eg2]; exact hW) hfm hR2
  refine ⟨⟨by rw [eg2]; exact hW, _, hfm, hR2⟩, fun s4 h4 => ?_⟩
  obtain ⟨f4, q4⟩ := h4
  rw [hc2] at q4
  obtain ⟨t1, t2, t3⟩ := STs_in q4
  refine ⟨t1, fun _ => trivial, fun _ => trivial, fun j8 k1 k2 => ⟨nb5 hW hn s4, fun s12 e12 => ?_⟩⟩
  obtain ⟨dc, dr⟩ := xex_acc x1 x2 s4
  rw [← e12] at dc dr
  have e47 : s4 47 = s2 47 := f4.1.1 47 (by omega)
  have f12 : RF0 σ s12 := by
    refine ⟨⟨fun c hc => ?_, fun i i0 i1 i2 i3 => ?_⟩, ?_⟩
    · by_cases e : c = 47
      · subst e
        funext i
        rw [dr, e47, br, br, br]
        grind
      · rw [dc c e, f4.1.1 c hc, bc c e]
    · rw [dc 37 (by omega), f4.1.2 i i0 i1 i2 i3, bc 37 (by omega)]
    · rw [dc 37 (by omega), f4.2, bc 37 (by omega)]
  obtain ⟨c1, c2⟩ := RP_RPc (RP_fr f12.1 h)
  refine ⟨c1, fun s14 h14 => ?_⟩
  obtain ⟨f14, q14⟩ := h14
  rw [c2, gh_eq f12.1.FM] at q14
  have hz : spanR M (m_X3_exchange x1 x2 (gh σ)) j8 ∧ -3 ≤ j8 ∧ j8 ≤ 6000 ∧ (j8 < 0 → j8 = -3) := by
    by_cases q : s4 37 15 = 0
    · have T := t2 q
      rw [k2 q]
      have := T.2.2.2.1
      exact ⟨Or.inr ⟨_, T.1, T.2.1⟩, by omega, by omega, by omega⟩
    · rw [k1 q]
      exact ⟨Or.inl ⟨t3 q, rfl⟩, by omega, by omega, fun _ => rfl⟩
  exact ⟨f12.trans f14, hz.1, q14, hz.2⟩
theorem c_X5_spanWith {G : GG} (hG : GI G) (l : Launch) (x1 : Int) (x2 : Int) (σ : Mem) (h : pre_X5_spanWith (gM G) x1 x2 σ) : CtI G l yX5_spanWith cX5_spanWith 4 (some .int) 3 [pR 37, pI x1, pI x2] σ (post_X5_spanWith (gM G) x1 x2 σ) := by
  refine CtI.of hG (by decide) (Nat.le_of_ble_eq_true rfl) (fun X hl C => ?_)
  show RW G X 4 (QI G X _) 0 [(0, pR 37), (1, pI x1), (2, pI x2)] [] σ
  exact seg_X5_spanWith_0 C x1 x2 σ (ok_X5_spanWith_0 h)

/-! X5_swapped -/
def pre_X5_swapped (M : Nat) (x1 x2 : Int) (σ : Mem) : Prop := RP M σ ∧ inR x1 ∧ inR x2
def post_X5_swapped (M : Nat) (x1 x2 : Int) (σ : Mem) (z : Int) (σ' : Mem) : Prop := RFr σ σ' ∧ R_swapped M (gh σ) x1 x2 z
def VC_X5_swapped_0 (M : Nat) (post : Int → Mem → Prop) (x1 : Int) (x2 : Int) (σ : Mem) : Prop :=
  ∀ s1 : Mem, s1 = up σ 37 0 0 → (pre_X5_arePlaces M x1 x2 s1) ∧ ((P_X5_arePlaces x1 x2 s1 → (pre_X5_plan M s1) ∧ ∀ s5 : Mem, post_X5_plan M s1 s5 → (inR (s5 37 15)) ∧ ((¬ (s5 37 15) = 0 → post (-3) s5) ∧ ((s5 37 15) = 0 → (pre_X5_spanWith M x1 x2 s5) ∧ ∀ (z10 : Int) (s9 : Mem), post_X5_spanWith M x1 x2 s5 z10 s9 → post z10 s9))) ∧ (¬ P_X5_arePlaces x1 x2 s1 → post (-1) s1))
set_option maxRecDepth 20000 in
set_option maxHeartbeats 4000000 in
theorem seg_X5_swapped_0 {G : GG} {X : XX} {post : Int → Mem → Prop} (C : CX G X cX5_swapped RX5 3 (some .int) 4)   (x1 : Int) (x2 : Int) (σ : Mem) (vc : VC_X5_swapped_0 (gM G)  post  x1 x2 σ) : RW G X 3 (QI G X post) 0 [(0, pR 37), (1, pI x1), (2, pI x2)] [] σ := by
  unfold VC_X5_swapped_0 at vc
  refine w_aload_n C 0 dX5_swapped_0 rfl ?_
  refine w_iconst C dX5_swapped_1 ?_
  refine w_putI C 0 dX5_swapped_2 pf_X5_69 ob_37 rfl rfl ?_
  refine w_mem (fun s1 hs1 => ?_)
  have vc := vc s1 hs1
  refine w_aload_n C 0 dX5_swapped_5 rfl ?_
  refine w_iload_n C 1 dX5_swapped_6 rfl ?_
  refine w_iload_n C 2 dX5_swapped_7 rfl ?_
  obtain ⟨sc2, vc⟩ := vc
  refine w_callVI C [pI x1, pI x2] [] rfl dX5_swapped_8 (c_X5_arePlaces C.gi (xL X) x1 x2 s1 sc2) oc_37 mw_X5_arePlaces ml_X5_96 im_X5_arePlaces se_X5_arePlaces (by decide) (Nat.le_of_ble_eq_true rfl) (fun z σ' hz => ?_)
  obtain ⟨hz2, hz⟩ := hz
  have hz2 := hz2.symm
  subst hz2
  rcases hz with ⟨h3, rfl⟩ | ⟨h3, rfl⟩
  · have vc := vc.1 h3
    refine w_if_ne C 16 dX5_swapped_11 (by decide) ⟨by omega, by omega⟩ (fun _ => ?_) (fun q => absurd q (by decide))
    refine w_aload_n C 0 dX5_swapped_16 rfl ?_
    obtain ⟨sc4, vc⟩ := vc
    refine w_callVV C [] [] rfl dX5_swapped_17 (c_X5_plan C.gi (xL X)  s1 sc4) oc_37 mw_X5_plan ml_X5_130 im_X5_plan se_X5_plan (by decide) (Nat.le_of_ble_eq_true rfl) (fun s5 hs5 => ?_)
    have vc := vc s5 hs5
    refine w_aload_n C 0 dX5_swapped_20 rfl ?_
    refine w_getI C 15 dX5_swapped_21 gf_X5_113 ob_37 rfl rfl ?_
    obtain ⟨sc6, vc⟩ := vc
    refine w_if_ne C 36 dX5_swapped_24 (by decide) sc6 (fun h7 => ?_) (fun h7 => ?_)
    · have vc := vc.1 h7
      refine w_bipush C dX5_swapped_36 (by decide) ?_
      exact w_ireturn C dX5_swapped_38 vc
    · have vc := vc.2 h7
      refine w_aload_n C 0 dX5_swapped_27 rfl ?_
      refine w_iload_n C 1 dX5_swapped_28 rfl ?_
      refine w_iload_n C 2 dX5_swapped_29 rfl ?_
      obtain ⟨sc8, vc⟩ := vc
      refine w_callVI C [pI x1, pI x2] [] rfl dX5_swapped_30 (c_X5_spanWith C.gi (xL X) x1 x2 s5 sc8) oc_37 mw_X5_spanWith ml_X5_138 im_X5_spanWith se_X5_spanWith (by decide) (Nat.le_of_ble_eq_true rfl) (fun z10 s9 hs9 => ?_)
      have vc := vc z10 s9 hs9
      refine w_goto C 38 dX5_swapped_33 (by decide) ?_
      exact w_ireturn C dX5_swapped_38 vc
  · have vc := vc.2 h3
    refine w_if_ne C 16 dX5_swapped_11 (by decide) ⟨by omega, by omega⟩ (fun q => absurd q (by decide)) (fun _ => ?_)
    refine w_iconst C dX5_swapped_14 ?_
    exact w_ireturn C dX5_swapped_15 vc
set_option maxHeartbeats 1000000 in
theorem ok_X5_swapped_0 {M : Nat} {x1 : Int} {x2 : Int} {σ : Mem} (h : pre_X5_swapped M x1 x2 σ) : VC_X5_swapped_0 M (post_X5_swapped M x1 x2 σ) x1 x2 σ := by
  obtain ⟨h, r1, r2⟩ := h
  obtain ⟨hW, hR⟩ := id h
  intro s1 e1
  obtain ⟨p1, p2⟩ := plan_q h e1
  have f1 : RFr σ s1 := by rw [e1]; exact thr_fr σ 0
  have hR1 := RM_fr f1 hR
  have eN := arePlaces_r hW hR1 x1 x2
  refine ⟨⟨RM_NB hW hR1, r1, r2⟩, fun g => ⟨p1, fun s5 h5 => ?_⟩, fun g => ⟨f1, Or.inl ⟨fun q => g (eN.mpr q), rfl⟩⟩⟩
  have g' := eN.mp g
  obtain ⟨f5, q, r5, -⟩ := p2 s5 h5
  obtain ⟨t1, t2, t3⟩ := STs_in q
  have eg := gh_eq f5.FM
  refine ⟨t1, fun g3 => ⟨f5, Or.inr ⟨g', Or.inl ⟨t3 g3, rfl⟩⟩⟩, fun g3 => ⟨⟨RP_fr f5 h, by rw [eg]; exact g'⟩, fun z s9 h9 => ?_⟩⟩
  obtain ⟨f9, q9, -⟩ := h9
  rw [eg] at q9
  exact ⟨f5.trans f9.1, Or.inr ⟨g', Or.inr ⟨PLs_np (t2 g3), q9⟩⟩⟩
theorem c_X5_swapped {G : GG} (hG : GI G) (l : Launch) (x1 : Int) (x2 : Int) (σ : Mem) (h : pre_X5_swapped (gM G) x1 x2 σ) : CtI G l yX5_swapped cX5_swapped 3 (some .int) 4 [pR 37, pI x1, pI x2] σ (post_X5_swapped (gM G) x1 x2 σ) := by
  refine CtI.of hG (by decide) (Nat.le_of_ble_eq_true rfl) (fun X hl C => ?_)
  show RW G X 3 (QI G X _) 0 [(0, pR 37), (1, pI x1), (2, pI x2)] [] σ
  exact seg_X5_swapped_0 C x1 x2 σ (ok_X5_swapped_0 h)

/-! X5_better -/
def pre_X5_better (M : Nat) (σ : Mem) : Prop := RP M σ
def post_X5_better (M : Nat) (σ : Mem) (z : Int) (σ' : Mem) : Prop := RFr σ σ' ∧ R_better M (gh σ) z
def BIr (M : Nat) (σ τ : Mem) (w1 w2 w3 w4 : Int) : Prop := RFr σ τ ∧ PLs M (gh σ) τ ∧ w2 ≤ 6000 ∧ 0 ≤ w2 ∧ 0 ≤ w3 ∧ ∃ B g R, PLN M (gh σ) B ∧ SPN (gh σ) Tr B g ∧ RS M (gh σ) R ∧ BT M (gh σ) g (fun s => g - B s - R s) w3 w4 w1 w2
def inv_X5_better_29 (M : Nat) (σ : Mem) (w1 w2 w3 : Int) (τ : Mem) : Prop := BIr M σ τ w1 w2 w3 0 ∧ w3 ≤ M
def mu_X5_better_29 (w1 w2 w3 : Int) (τ : Mem) : Nat := ((5 - w3) * 100 + 99).toNat
def inv_X5_better_40 (M : Nat) (σ : Mem) (w1 w2 w3 w4 : Int) (τ : Mem) : Prop := BIr M σ τ w1 w2 w3 w4 ∧ w3 < M ∧ 0 ≤ w4 ∧ w4 ≤ 48
def mu_X5_better_40 (w1 w2 w3 w4 : Int) (τ : Mem) : Nat := ((5 - w3) * 100 + 60 - w4).toNat
def VC_X5_better_0 (M : Nat) (K29 : Int → Int → Int → Mem → Prop) (post : Int → Mem → Prop)  (σ : Mem) : Prop :=
  ∀ s1 : Mem, s1 = up σ 37 0 0 → (pre_X5_plan M s1) ∧ ∀ s3 : Mem, post_X5_plan M s1 s3 → (inR (s3 37 15)) ∧ (((s3 37 15) = 0 → ∀ v6 : Int, v6 = s3 37 16 → K29 (-3) v6 0 s3) ∧ (¬ (s3 37 15) = 0 → post (-3) s3))
set_option maxRecDepth 20000 in
set_option maxHeartbeats 4000000 in
theorem seg_X5_better_0 {G : GG} {X : XX} {post : Int → Mem → Prop} (C : CX G X cX5_better RX5 6 (some .int) 4)    (σ : Mem) (vc : VC_X5_better_0 (gM G) (fun w1 w2 w3 σ => RW G X 6 (QI G X post) 29 [(0, pR 37), (1, pI w1), (2, pI w2), (3, pI w3)] [] σ) post   σ) : RW G X 6 (QI G X post) 0 [(0, pR 37)] [] σ := by
  unfold VC_X5_better_0 at vc
  refine w_aload_n C 0 dX5_better_0 rfl ?_
  refine w_iconst C dX5_better_1 ?_
  refine w_putI C 0 dX5_better_2 pf_X5_69 ob_37 rfl rfl ?_
  refine w_mem (fun s1 hs1 => ?_)
  have vc := vc s1 hs1
  refine w_aload_n C 0 dX5_better_5 rfl ?_
  obtain ⟨sc2, vc⟩ := vc
  refine w_callVV C [] [] rfl dX5_better_6 (c_X5_plan C.gi (xL X)  s1 sc2) oc_37 mw_X5_plan ml_X5_130 im_X5_plan se_X5_plan (by decide) (Nat.le_of_ble_eq_true rfl) (fun s3 hs3 => ?_)
  have vc := vc s3 hs3
  refine w_aload_n C 0 dX5_better_9 rfl ?_
  refine w_getI C 15 dX5_better_10 gf_X5_113 ob_37 rfl rfl ?_
  obtain ⟨sc4, vc⟩ := vc
  refine w_if_eq C 19 dX5_better_13 (by decide) sc4 (fun h5 => ?_) (fun h5 => ?_)
  · have vc := vc.1 h5
    refine w_bipush C dX5_better_19 (by decide) ?_
    refine w_istore_n C [(1, pI (-3)), (0, pR 37)] dX5_better_21 (by decide) rfl ?_
    refine w_aload_n C 1 dX5_better_22 rfl ?_
    refine w_getI C 16 dX5_better_23 gf_X5_116 ob_37 rfl rfl ?_
    refine w_top (fun v6 hv6 => ?_)
    have vc := vc v6 hv6
    refine w_istore_n C [(2, pI v6), (1, pI (-3)), (0, pR 37)] dX5_better_26 (by decide) rfl ?_
    refine w_iconst C dX5_better_27 ?_
    refine w_istore_n C [(3, pI 0), (2, pI v6), (1, pI (-3)), (0, pR 37)] dX5_better_28 (by decide) rfl ?_
    exact w_sub _ [3, 2, 1, 0] rfl vc
  · have vc := vc.2 h5
    refine w_bipush C dX5_better_16 (by decide) ?_
    exact w_ireturn C dX5_better_18 vc
def VC_X5_better_29 (M : Nat) (K40 : Int → Int → Int → Int → Mem → Prop) (post : Int → Mem → Prop) (w1 : Int) (w2 : Int) (w3 : Int) (σ : Mem) : Prop :=
 (inR w3 ∧ inR (σ 37 1)) ∧ (((σ 37 1) ≤ w3 → post w1 σ) ∧ (w3 < (σ 37 1) → K40 w1 w2 w3 0 σ))
set_option maxRecDepth 20000 in
set_option maxHeartbeats 4000000 in
theorem seg_X5_better_29 {G : GG} {X : XX} {post : Int → Mem → Prop} (C : CX G X cX5_better RX5 6 (some .int) 4)   (w1 : Int) (w2 : Int) (w3 : Int) (σ : Mem) (vc : VC_X5_better_29 (gM G) (fun w1 w2 w3 w4 σ => RW G X 6 (QI G X post) 40 [(0, pR 37), (1, pI w1), (2, pI w2), (3, pI w3), (4, pI w4)] [] σ) post  w1 w2 w3 σ) : RW G X 6 (QI G X post) 29 [(0, pR 37), (1, pI w1), (2, pI w2), (3, pI w3)] [] σ := by
  unfold VC_X5_better_29 at vc
  refine w_iload_n C 3 dX5_better_29 rfl ?_
  refine w_aload_n C 0 dX5_better_30 rfl ?_
  refine w_getI C 1 dX5_better_31 gf_X5_65 ob_37 rfl rfl ?_
  obtain ⟨⟨sc1, sc2⟩, vc⟩ := vc
  refine w_icmp_ge C 136 dX5_better_34 (by decide) sc1 sc2 (fun h3 => ?_) (fun h3 => ?_)
  · have vc := vc.1 h3
    refine w_iload_n C 1 dX5_better_136 rfl ?_
    exact w_ireturn C dX5_better_137 vc
  · have vc := vc.2 h3
    refine w_iconst C dX5_better_37 ?_
    refine w_istore C [(4, pI 0), (0, pR 37), (1, pI w1), (2, pI w2), (3, pI w3)] dX5_better_38 (by decide) rfl ?_
    exact w_sub _ [1, 2, 3, 4, 0] rfl vc
def VC_X5_better_40 (M : Nat) (K29 : Int → Int → Int → Mem → Prop) (K40 : Int → Int → Int → Int → Mem → Prop) (post : Int → Mem → Prop) (w1 : Int) (w2 : Int) (w3 : Int) (w4 : Int) (σ : Mem) : Prop :=
 (0 ≤ w3 ∧ w3 < 5) ∧ (inR (w4 + 1) ∧ inR (σ 46 w3)) ∧ (((σ 46 w3) ≤ (w4 + 1) → K29 w1 w2 (w3 + 1) σ) ∧ ((w4 + 1) < (σ 46 w3) → (0 ≤ ((48 * w3) + w4) ∧ ((48 * w3) + w4) < 240) ∧ (pre_X5_slack M (σ 47 ((48 * w3) + w4)) σ) ∧ (inR (f_X5_slack (σ 47 ((48 * w3) + w4)) σ)) ∧ ((¬ (f_X5_slack (σ 47 ((48 * w3) + w4)) σ) = 0 → K40 w1 w2 w3 (w4 + 1) σ) ∧ ((f_X5_slack (σ 47 ((48 * w3) + w4)) σ) = 0 → (0 ≤ (((48 * w3) + w4) + 1) ∧ (((48 * w3) + w4) + 1) < 240) ∧ (pre_X5_slack M (σ 47 (((48 * w3) + w4) + 1)) σ) ∧ (inR (f_X5_slack (σ 47 (((48 * w3) + w4) + 1)) σ)) ∧ ((¬ (f_X5_slack (σ 47 (((48 * w3) + w4) + 1)) σ) = 0 → K40 w1 w2 w3 (w4 + 1) σ) ∧ ((f_X5_slack (σ 47 (((48 * w3) + w4) + 1)) σ) = 0 → (pre_X5_spanWith M w3 w4 σ) ∧ ∀ (z18 : Int) (s17 : Mem), post_X5_spanWith M w3 w4 σ z18 s17 → (inR z18) ∧ ((z18 < 0 → K40 w1 w2 w3 (w4 + 1) s17) ∧ (0 ≤ z18 → (inR z18 ∧ inR w2) ∧ ((w2 ≤ z18 → K40 w1 w2 w3 (w4 + 1) s17) ∧ (z18 < w2 → ∀ v24 : Int, v24 = (100 * w3) + w4 → K40 v24 z18 w3 (w4 + 1) s17))))))))))
set_option maxRecDepth 20000 in
set_option maxHeartbeats 4000000 in
theorem seg_X5_better_40 {G : GG} {X : XX} {post : Int → Mem → Prop} (C : CX G X cX5_better RX5 6 (some .int) 4)   (w1 : Int) (w2 : Int) (w3 : Int) (w4 : Int) (σ : Mem) (vc : VC_X5_better_40 (gM G) (fun w1 w2 w3 σ => RW G X 6 (QI G X post) 29 [(0, pR 37), (1, pI w1), (2, pI w2), (3, pI w3)] [] σ) (fun w1 w2 w3 w4 σ => RW G X 6 (QI G X post) 40 [(0, pR 37), (1, pI w1), (2, pI w2), (3, pI w3), (4, pI w4)] [] σ) post  w1 w2 w3 w4 σ) : RW G X 6 (QI G X post) 40 [(0, pR 37), (1, pI w1), (2, pI w2), (3, pI w3), (4, pI w4)] [] σ := by
  unfold VC_X5_better_40 at vc
  refine w_iload C 4 dX5_better_40 rfl ?_
  refine w_iconst C dX5_better_42 ?_
  refine w_iadd C dX5_better_43 ?_
  refine w_aload_n C 0 dX5_better_44 rfl ?_
  refine w_getR C dX5_better_45 gf_X5_35 ob_37 rfl ?_
  refine w_iload_n C 3 dX5_better_48 rfl ?_
  obtain ⟨⟨sc1, sc2⟩, vc⟩ := vc
  refine w_iald C dX5_better_49 ia_46 sc1 sc2 ?_
  obtain ⟨⟨sc3, sc4⟩, vc⟩ := vc
  refine w_icmp_ge C 130 dX5_better_50 (by decide) sc3 sc4 (fun h5 => ?_) (fun h5 => ?_)
  · have vc := vc.1 h5
    refine w_iinc C 3 [(3, pI (w3 + 1)), (0, pR 37), (1, pI w1), (2, pI w2), (4, pI w4)] dX5_better_130 rfl (by decide) rfl ?_
    refine w_goto C 29 dX5_better_133 (by decide) ?_
    exact w_sub _ [1, 2, 3, 0] rfl vc
  · have vc := vc.2 h5
    refine w_aload_n C 0 dX5_better_53 rfl ?_
    refine w_aload_n C 0 dX5_better_54 rfl ?_
    refine w_getR C dX5_better_55 gf_X5_38 ob_37 rfl ?_
    refine w_bipush C dX5_better_58 (by decide) ?_
    refine w_iload_n C 3 dX5_better_60 rfl ?_
    refine w_imul C dX5_better_61 ?_
    refine w_iload C 4 dX5_better_62 rfl ?_
    refine w_iadd C dX5_better_64 ?_
    obtain ⟨⟨sc6, sc7⟩, vc⟩ := vc
    refine w_iald C dX5_better_65 ia_47 sc6 sc7 ?_
    obtain ⟨sc8, vc⟩ := vc
    refine w_callVI C [pI (σ 47 ((48 * w3) + w4))] [] rfl dX5_better_66 (c_X5_slack C.gi (xL X) (σ 47 ((48 * w3) + w4)) σ sc8) oc_37 mw_X5_slack ml_X5_133 im_X5_slack se_X5_slack (by decide) (Nat.le_of_ble_eq_true rfl) (fun z σ' hz => ?_)
    obtain ⟨rfl, hz2⟩ := hz
    have hz2 := hz2.symm
    subst hz2
    obtain ⟨sc9, vc⟩ := vc
    refine w_if_ne C 124 dX5_better_69 (by decide) sc9 (fun h10 => ?_) (fun h10 => ?_)
    · have vc := vc.1 h10
      refine w_iinc C 4 [(4, pI (w4 + 1)), (0, pR 37), (1, pI w1), (2, pI w2), (3, pI w3)] dX5_better_124 rfl (by decide) rfl ?_
      refine w_goto C 40 dX5_better_127 (by decide) ?_
      exact w_sub _ [1, 2, 3, 4, 0] rfl vc
    · have vc := vc.2 h10
      refine w_aload_n C 0 dX5_better_72 rfl ?_
      refine w_aload_n C 0 dX5_better_73 rfl ?_
      refine w_getR C dX5_better_74 gf_X5_38 ob_37 rfl ?_
      refine w_bipush C dX5_better_77 (by decide) ?_
      refine w_iload_n C 3 dX5_better_79 rfl ?_
      refine w_imul C dX5_better_80 ?_
      refine w_iload C 4 dX5_better_81 rfl ?_
      refine w_iadd C dX5_better_83 ?_
      refine w_iconst C dX5_better_84 ?_
      refine w_iadd C dX5_better_85 ?_
      obtain ⟨⟨sc11, sc12⟩, vc⟩ := vc
      refine w_iald C dX5_better_86 ia_47 sc11 sc12 ?_
      obtain ⟨sc13, vc⟩ := vc
      refine w_callVI C [pI (σ 47 (((48 * w3) + w4) + 1))] [] rfl dX5_better_87 (c_X5_slack C.gi (xL X) (σ 47 (((48 * w3) + w4) + 1)) σ sc13) oc_37 mw_X5_slack ml_X5_133 im_X5_slack se_X5_slack (by decide) (Nat.le_of_ble_eq_true rfl) (fun z σ' hz => ?_)
      obtain ⟨rfl, hz2⟩ := hz
      have hz2 := hz2.symm
      subst hz2
      obtain ⟨sc14, vc⟩ := vc
      refine w_if_ne C 124 dX5_better_90 (by decide) sc14 (fun h15 => ?_) (fun h15 => ?_)
      · have vc := vc.1 h15
        refine w_iinc C 4 [(4, pI (w4 + 1)), (0, pR 37), (1, pI w1), (2, pI w2), (3, pI w3)] dX5_better_124 rfl (by decide) rfl ?_
        refine w_goto C 40 dX5_better_127 (by decide) ?_
        exact w_sub _ [1, 2, 3, 4, 0] rfl vc
      · have vc := vc.2 h15
        refine w_aload_n C 0 dX5_better_93 rfl ?_
        refine w_iload_n C 3 dX5_better_94 rfl ?_
        refine w_iload C 4 dX5_better_95 rfl ?_
        obtain ⟨sc16, vc⟩ := vc
        refine w_callVI C [pI w3, pI w4] [] rfl dX5_better_97 (c_X5_spanWith C.gi (xL X) w3 w4 σ sc16) oc_37 mw_X5_spanWith ml_X5_138 im_X5_spanWith se_X5_spanWith (by decide) (Nat.le_of_ble_eq_true rfl) (fun z18 s17 hs17 => ?_)
        have vc := vc z18 s17 hs17
        refine w_istore C [(5, pI z18), (0, pR 37), (1, pI w1), (2, pI w2), (3, pI w3), (4, pI w4)] dX5_better_100 (by decide) rfl ?_
        refine w_iload C 0 dX5_better_102 rfl ?_
        obtain ⟨sc19, vc⟩ := vc
        refine w_if_lt C 124 dX5_better_104 (by decide) sc19 (fun h20 => ?_) (fun h20 => ?_)
        · have vc := vc.1 h20
          refine w_iinc C 5 [(4, pI (w4 + 1)), (5, pI z18), (0, pR 37), (1, pI w1), (2, pI w2), (3, pI w3)] dX5_better_124 rfl (by decide) rfl ?_
          refine w_goto C 40 dX5_better_127 (by decide) ?_
          exact w_sub _ [2, 3, 4, 5, 0] rfl vc
        · have vc := vc.2 h20
          refine w_iload C 0 dX5_better_107 rfl ?_
          refine w_iload_n C 3 dX5_better_109 rfl ?_
          obtain ⟨⟨sc21, sc22⟩, vc⟩ := vc
          refine w_icmp_ge C 124 dX5_better_110 (by decide) sc21 sc22 (fun h23 => ?_) (fun h23 => ?_)
          · have vc := vc.1 h23
            refine w_iinc C 5 [(4, pI (w4 + 1)), (5, pI z18), (0, pR 37), (1, pI w1), (2, pI w2), (3, pI w3)] dX5_better_124 rfl (by decide) rfl ?_
            refine w_goto C 40 dX5_better_127 (by decide) ?_
            exact w_sub _ [2, 3, 4, 5, 0] rfl vc
          · have vc := vc.2 h23
            refine w_iload C 0 dX5_better_113 rfl ?_
            refine w_istore_n C [(2, pI z18), (5, pI z18), (0, pR 37), (1, pI w1), (3, pI w3), (4, pI w4)] dX5_better_115 (by decide) rfl ?_
            refine w_bipush C dX5_better_116 (by decide) ?_
            refine w_iload_n C 4 dX5_better_118 rfl ?_
            refine w_imul C dX5_better_119 ?_
            refine w_iload C 5 dX5_better_120 rfl ?_
            refine w_iadd C dX5_better_122 ?_
            refine w_top (fun v24 hv24 => ?_)
            have vc := vc v24 hv24
            refine w_istore_n C [(1, pI v24), (2, pI z18), (5, pI z18), (0, pR 37), (3, pI w3), (4, pI w4)] dX5_better_123 (by decide) rfl ?_
            refine w_iinc C 5 [(4, pI (w4 + 1)), (1, pI v24), (2, pI z18), (5, pI z18), (0, pR 37), (3, pI w3)] dX5_better_124 rfl (by decide) rfl ?_
            refine w_goto C 40 dX5_better_127 (by decide) ?_
            exact w_sub _ [4, 1, 2, 5, 0] rfl vc
set_option maxHeartbeats 1000000 in
theorem ok_X5_better_0 {M : Nat} {σ : Mem} {K29 : Int → Int → Int → Mem → Prop} (h : pre_X5_better M σ) (hK29 : ∀ (y1 y2 y3 : Int) (τ' : Mem), inv_X5_better_29 M σ y1 y2 y3 τ' → K29 y1 y2 y3 τ') : VC_X5_better_0 M K29 (post_X5_better M σ) σ := by
  intro s1 e1
  obtain ⟨p1, p2⟩ := plan_q h e1
  refine ⟨p1, fun s3 h3 => ?_⟩
  obtain ⟨f3, q, r3, -⟩ := p2 s3 h3
  obtain ⟨t1, t2, t3⟩ := STs_in q
  refine ⟨t1, fun g v6 e6 => ?_, fun g => ⟨f3, Or.inl ⟨t3 g, rfl⟩⟩⟩
  have T := t2 g
  have hs := T.2.2.2.1
  subst e6
  exact hK29 _ _ _ _ ⟨⟨f3, T, by omega, by omega, by omega, _, _, _, T.1, T.2.1, T.2.2.1, BT_0 h.1⟩, by omega⟩
set_option maxHeartbeats 1000000 in
theorem ok_X5_better_29 {M : Nat} {σ : Mem} {w1 w2 w3 : Int} {τ : Mem} {K40 : Int → Int → Int → Int → Mem → Prop} (h : pre_X5_better M σ) (hinv : inv_X5_better_29 M σ w1 w2 w3 τ) (hK40 : ∀ (y1 y2 y3 y4 : Int) (τ' : Mem), inv_X5_better_40 M σ y1 y2 y3 y4 τ' → mu_X5_better_40 y1 y2 y3 y4 τ' < mu_X5_better_29 w1 w2 w3 τ → K40 y1 y2 y3 y4 τ') : VC_X5_better_29 M K40 (post_X5_better M σ) w1 w2 w3 τ := by
  obtain ⟨hB, i2⟩ := hinv
  obtain ⟨hF, T, i3, i4, i1, B, g, R, b1, b2, b3, b4⟩ := id hB
  obtain ⟨hW, hR⟩ := id h
  have hM : M ≤ 5 := hW.1.1.2.2.1
  have e1 := (RM_fr hF hR).1
  refine ⟨⟨⟨by omega, by omega⟩, ⟨by omega, by omega⟩⟩, fun q => ⟨hF, Or.inr ⟨B, g, R, w2, b1, b2, b3, ?_⟩⟩, fun q => hK40 _ _ _ _ _ ⟨hB, by omega, by omega, by omega⟩ ?_⟩
  · have : w3 = M := by omega
    rw [this] at b4
    exact b4
  · unfold mu_X5_better_40 mu_X5_better_29; omega
set_option maxHeartbeats 1000000 in
theorem ok_X5_better_40 {M : Nat} {σ : Mem} {w1 w2 w3 w4 : Int} {τ : Mem} {K29 : Int → Int → Int → Mem → Prop} {K40 : Int → Int → Int → Int → Mem → Prop} (h : pre_X5_better M σ) (hinv : inv_X5_better_40 M σ w1 w2 w3 w4 τ) (hK29 : ∀ (y1 y2 y3 : Int) (τ' : Mem), inv_X5_better_29 M σ y1 y2 y3 τ' → mu_X5_better_29 y1 y2 y3 τ' < mu_X5_better_40 w1 w2 w3 w4 τ → K29 y1 y2 y3 τ') (hK40 : ∀ (y1 y2 y3 y4 : Int) (τ' : Mem), inv_X5_better_40 M σ y1 y2 y3 y4 τ' → mu_X5_better_40 y1 y2 y3 y4 τ' < mu_X5_better_40 w1 w2 w3 w4 τ → K40 y1 y2 y3 y4 τ') : VC_X5_better_40 M K29 K40 (post_X5_better M σ) w1 w2 w3 w4 τ := by
  obtain ⟨hB, i2, i5, i6⟩ := hinv
  obtain ⟨hF, T, i3, i4, i1, B, g, R, b1, b2, b3, b4⟩ := id hB
  obtain ⟨hW, hR⟩ := id h
  have hM : M ≤ 5 := hW.1.1.2.2.1
  have hRτ := RM_fr hF hR
  have hz := hW.1.1.2.2.2.2.2 w3 i1 i2
  have e46 := hRτ.2.2.2.2.2.1 w3 i1 i2
  unfold VC_X5_better_40
  rw [e46]
  refine ⟨⟨i1, by omega⟩, ⟨⟨by omega, by omega⟩, ⟨by omega, by omega⟩⟩, fun q => hK29 _ _ _ _ ⟨⟨hF, T, i3, i4, by omega, B, g, R, b1, b2, b3, BT_row q b4⟩, by omega⟩ ?_, fun q => ?_⟩
  · unfold mu_X5_better_40 mu_X5_better_29; omega
  · have hn : P_X3_hasNeighbours w3 w4 (gh σ) := ⟨⟨i1, by rw [hW.1.1.1]; exact i2⟩, i5, by omega⟩
    have o1 : inO M (gh σ) w3 w4 := ⟨i1, i2, i5, by omega⟩
    have o2 : inO M (gh σ) w3 (w4 + 1) := ⟨i1, i2, by omega, by omega⟩
    have v1 := (inO_VS hW.1 hW.2.1 o1).1
    have v2 := (inO_VS hW.1 hW.2.1 o2).1
    have eg := PLN_span hW T.1 b1 T.2.1 b2
    have sl : ∀ s, VS (gh σ) s → f_X5_slack (pl s) τ = g - B s - R s := fun s v => by
      have e1 := PLN_uniq hW T.1 b1 s v
      have e2 := PLN_rest hW b1 T.2.2.1 b3 s v
      unfold f_X5_slack
      rw [eg, ← e1, ← e2]
    have bs : ∀ s, VS (gh σ) s → inR (f_X5_slack (pl s) τ) := fun s v => by
      have := T.2.2.2.1
      have := T.2.2.2.2 s v
      unfold f_X5_slack
      exact ⟨by omega, by omega⟩
    have p1 := pl_in hW.1.1 v1
    have p2 := pl_in hW.1.1 v2
    rw [show 48 * w3 + w4 + 1 = 48 * w3 + (w4 + 1) by omega, hRτ.2.2.2.2.2.2 _ _ o1, hRτ.2.2.2.2.2.2 _ _ o2]
    have nxtm : ∀ w1' w2' τ', mu_X5_better_40 w1' w2' w3 (w4 + 1) τ' < mu_X5_better_40 w1 w2 w3 w4 τ := fun w1' w2' τ' => by unfold mu_X5_better_40; omega
    have skip : ∀ τ', RFr σ τ' → PLs M (gh σ) τ' → (∀ v, cnd M (gh σ) g (fun s => g - B s - R s) w3 w4 v → w2 ≤ v) → K40 w1 w2 w3 (w4 + 1) τ' := fun τ' f' T' hk => hK40 _ _ _ _ _ ⟨⟨f', T', i3, i4, i1, B, g, R, b1, b2, b3, BT_skip b4 hk⟩, i2, by omega, by omega⟩ (nxtm _ _ _)
    have s1 := sl _ v1
    have s2 := sl _ v2
    refine ⟨⟨by omega, by omega⟩, ⟨p1.1, p1.2.1⟩, bs _ v1, fun g1 => skip τ hF T (fun v c => absurd (s1.trans c.2.1) g1), fun g1 => ⟨⟨by omega, by omega⟩, ⟨p2.1, p2.2.1⟩, bs _ v2, fun g2 => skip τ hF T (fun v c => absurd (s2.trans c.2.2.1) g2), fun g2 => ?_⟩⟩
    have egh := gh_eq hF.FM
    refine ⟨⟨RP_fr hF h, by rw [egh]; exact hn⟩, fun z s17 h17 => ?_⟩
    obtain ⟨f17, q17, st17, z1, z2, z3⟩ := h17
    rw [egh] at q17 st17
    have hF' := hF.trans f17.1
    have hWx := WF_exchange hW hn
    have T' : PLs M (gh σ) s17 := by
      obtain ⟨t1, t2, t3⟩ := STs_in st17
      by_cases e : s17 37 15 = 0
      · exact t2 e
      · exact absurd (t3 e) (PLs_np T)
    refine ⟨⟨by omega, by omega⟩, fun q1 => skip s17 hF' T' (fun v c => ?_), fun q1 => ⟨⟨⟨by omega, by omega⟩, ⟨by omega, by omega⟩⟩, fun q2 => skip s17 hF' T' (fun v c => ?_), fun q2 v24 e24 => hK40 _ _ _ _ _ ⟨⟨hF', T', by omega, by omega, i1, B, g, R, b1, b2, b3, ?_⟩, i2, by omega, by omega⟩ (nxtm _ _ _)⟩⟩
    · have := spanR_det hWx q17 c.2.2.2.1
      have := c.2.2.2.2.1
      omega
    · have := spanR_det hWx q17 c.2.2.2.1
      omega
    · rw [e24]
      have hlt : z < g := by
        rcases b4 with ⟨-, e, -⟩ | ⟨m, p, c, -⟩
        · omega
        · have := c.2.2.2.2.2
          omega
      exact BT_take (fun v' c => spanR_det hWx q17 c.2.2.2.1) b4 ⟨hn, s1.symm.trans g1, s2.symm.trans g2, q17, by omega, hlt⟩ q2
theorem c_X5_better {G : GG} (hG : GI G) (l : Launch) (σ : Mem) (h : pre_X5_better (gM G) σ) : CtI G l yX5_better cX5_better 6 (some .int) 4 [pR 37] σ (post_X5_better (gM G) σ) := by
  refine CtI.of hG (by decide) (Nat.le_of_ble_eq_true rfl) (fun X hl C => ?_)
  show RW G X 6 (QI G X _) 0 [(0, pR 37)] [] σ
  have key : ∀ n : Nat, (∀ (w1 w2 w3 : Int) (τ : Mem), inv_X5_better_29 (gM G) σ w1 w2 w3 τ → mu_X5_better_29 w1 w2 w3 τ < n → RW G X 6 (QI G X (post_X5_better (gM G) σ)) 29 [(0, pR 37), (1, pI w1), (2, pI w2), (3, pI w3)] [] τ) ∧ (∀ (w1 w2 w3 w4 : Int) (τ : Mem), inv_X5_better_40 (gM G) σ w1 w2 w3 w4 τ → mu_X5_better_40 w1 w2 w3 w4 τ < n → RW G X 6 (QI G X (post_X5_better (gM G) σ)) 40 [(0, pR 37), (1, pI w1), (2, pI w2), (3, pI w3), (4, pI w4)] [] τ) := by
    intro n
    induction n with
    | zero => exact ⟨fun w1 w2 w3 τ _ h0 => absurd h0 (Nat.not_lt_zero _), fun w1 w2 w3 w4 τ _ h0 => absurd h0 (Nat.not_lt_zero _)⟩
    | succ n ih =>
      exact ⟨(fun w1 w2 w3 τ hinv h0 => seg_X5_better_29 C w1 w2 w3 τ (ok_X5_better_29 h hinv (fun y1 y2 y3 y4 τ' hi hm => ih.2 y1 y2 y3 y4 τ' hi (Nat.lt_of_lt_of_le hm (Nat.le_of_lt_succ h0))))), (fun w1 w2 w3 w4 τ hinv h0 => seg_X5_better_40 C w1 w2 w3 w4 τ (ok_X5_better_40 h hinv (fun y1 y2 y3 τ' hi hm => ih.1 y1 y2 y3 τ' hi (Nat.lt_of_lt_of_le hm (Nat.le_of_lt_succ h0))) (fun y1 y2 y3 y4 τ' hi hm => ih.2 y1 y2 y3 y4 τ' hi (Nat.lt_of_lt_of_le hm (Nat.le_of_lt_succ h0)))))⟩
  exact seg_X5_better_0 C σ (ok_X5_better_0 h (fun y1 y2 y3 τ' hi => (key _).1 y1 y2 y3 τ' hi (Nat.lt_succ_self _)))
