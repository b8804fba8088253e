/-! X2_endOf -/
def f_X2_endOf (t x1 : Int) (σ : Mem) : Int := σ (t + 1) x1 + σ 7 x1
def pre_X2_endOf (M : Nat) (t x1 : Int) (σ : Mem) : Prop := 0 ≤ x1 ∧ x1 < 80
def VC_X2_endOf_0 (M : Nat) (post : Int → Mem → Prop) (t : Int) (x1 : Int) (σ : Mem) : Prop :=
 (0 ≤ x1 ∧ x1 < 80) ∧ (0 ≤ x1 ∧ x1 < 80) ∧ post ((σ (t + 1) x1) + (σ 7 x1)) σ
set_option maxRecDepth 20000 in
set_option maxHeartbeats 4000000 in
theorem seg_X2_endOf_0 {G : GG} {X : XX} {post : Int → Mem → Prop} (C : CX G X cX2_endOf RX2 2 (some .int) 0) {t : Int} (ht : t = 12 ∨ t = 19) (x1 : Int) (σ : Mem) (vc : VC_X2_endOf_0 (gM G)  post t x1 σ) : RW G X 2 (QI G X post) 0 [(0, pR t), (1, pI x1)] [] σ := by
  unfold VC_X2_endOf_0 at vc
  refine w_aload_n C 0 dX2_endOf_0 rfl ?_
  refine w_getR C dX2_endOf_1 gf_X2_15 (ob_t ht) rfl ?_
  refine w_iload_n C 1 dX2_endOf_4 rfl ?_
  obtain ⟨⟨sc1, sc2⟩, vc⟩ := vc
  refine w_iald C dX2_endOf_5 (ia_t1 ht) sc1 sc2 ?_
  refine w_aload_n C 0 dX2_endOf_6 rfl ?_
  refine w_getR C dX2_endOf_7 gf_X2_37 (ob_t ht) rfl ?_
  refine w_getR C dX2_endOf_10 gf_X2_93 ob_1 rfl ?_
  refine w_iload_n C 1 dX2_endOf_13 rfl ?_
  obtain ⟨⟨sc3, sc4⟩, vc⟩ := vc
  refine w_iald C dX2_endOf_14 ia_7 sc3 sc4 ?_
  refine w_iadd C dX2_endOf_15 ?_
  exact w_ireturn C dX2_endOf_16 vc
set_option maxHeartbeats 1000000 in
theorem ok_X2_endOf_0 {M : Nat} {t : Int} {x1 : Int} {σ : Mem} (ht : t = 12 ∨ t = 19) (h : pre_X2_endOf M t x1 σ) : VC_X2_endOf_0 M (fun z σ' => z = f_X2_endOf t x1 σ ∧ σ' = σ) t x1 σ := by
  exact ⟨h, h, rfl, rfl⟩
theorem c_X2_endOf {G : GG} (hG : GI G) (l : Launch) (t : Int) (x1 : Int) (σ : Mem) (ht : t = 12 ∨ t = 19) (h : pre_X2_endOf (gM G) t x1 σ) : CtI G l yX2_endOf cX2_endOf 2 (some .int) 0 [pR t, pI x1] σ (fun z σ' => z = f_X2_endOf t x1 σ ∧ σ' = σ) := by
  refine CtI.of hG (by decide) (Nat.le_of_ble_eq_true rfl) (fun X hl C => ?_)
  show RW G X 2 (QI G X _) 0 [(0, pR t), (1, pI x1)] [] σ
  exact seg_X2_endOf_0 C ht x1 σ (ok_X2_endOf_0 ht h)

/-! X2_isReady -/
def P_X2_isReady (t x1 : Int) (σ : Mem) : Prop := σ (t + 5) (x1 / 10) = x1 % 10
def pre_X2_isReady (M : Nat) (t x1 : Int) (σ : Mem) : Prop := 0 ≤ x1 ∧ x1 < 80 ∧ 0 ≤ σ (t + 5) (x1 / 10) ∧ σ (t + 5) (x1 / 10) ≤ 10
def VC_X2_isReady_0 (M : Nat) (post : Int → Mem → Prop) (t : Int) (x1 : Int) (σ : Mem) : Prop :=
 (0 ≤ x1 ∧ inR x1) ∧ (0 ≤ (x1 / 10) ∧ (x1 / 10) < 8) ∧ (0 ≤ x1 ∧ inR x1) ∧ (inR (σ (t + 5) (x1 / 10)) ∧ inR (x1 % 10)) ∧ ((¬ (σ (t + 5) (x1 / 10)) = (x1 % 10) → post 0 σ) ∧ ((σ (t + 5) (x1 / 10)) = (x1 % 10) → post 1 σ))
set_option maxRecDepth 20000 in
set_option maxHeartbeats 4000000 in
theorem seg_X2_isReady_0 {G : GG} {X : XX} {post : Int → Mem → Prop} (C : CX G X cX2_isReady RX2 2 (some .boolean) 0) {t : Int} (ht : t = 12 ∨ t = 19) (x1 : Int) (σ : Mem) (vc : VC_X2_isReady_0 (gM G)  post t x1 σ) : RW G X 2 (QI G X post) 0 [(0, pR t), (1, pI x1)] [] σ := by
  unfold VC_X2_isReady_0 at vc
  refine w_aload_n C 0 dX2_isReady_0 rfl ?_
  refine w_getR C dX2_isReady_1 gf_X2_31 (ob_t ht) rfl ?_
  refine w_iload_n C 1 dX2_isReady_4 rfl ?_
  refine w_bipush C dX2_isReady_5 (by decide) ?_
  obtain ⟨⟨sc1, sc2⟩, vc⟩ := vc
  refine w_idivN C dX2_isReady_7 sc1 sc2 ⟨by omega, by omega⟩ (by omega) ?_
  obtain ⟨⟨sc3, sc4⟩, vc⟩ := vc
  refine w_iald C dX2_isReady_8 (ia_t5 ht) sc3 sc4 ?_
  refine w_iload_n C 1 dX2_isReady_9 rfl ?_
  refine w_bipush C dX2_isReady_10 (by decide) ?_
  obtain ⟨⟨sc5, sc6⟩, vc⟩ := vc
  refine w_iremN C dX2_isReady_12 sc5 sc6 ⟨by omega, by omega⟩ (by omega) ?_
  obtain ⟨⟨sc7, sc8⟩, vc⟩ := vc
  refine w_icmp_ne C 20 dX2_isReady_13 (by decide) sc7 sc8 (fun h9 => ?_) (fun h9 => ?_)
  · have vc := vc.1 h9
    refine w_iconst C dX2_isReady_20 ?_
    exact w_zreturn C dX2_isReady_21 (Or.inl rfl) vc
  · have vc := vc.2 h9
    refine w_iconst C dX2_isReady_16 ?_
    refine w_goto C 21 dX2_isReady_17 (by decide) ?_
    exact w_zreturn C dX2_isReady_21 (Or.inr rfl) vc
set_option maxHeartbeats 1000000 in
theorem ok_X2_isReady_0 {M : Nat} {t : Int} {x1 : Int} {σ : Mem} (ht : t = 12 ∨ t = 19) (h : pre_X2_isReady M t x1 σ) : VC_X2_isReady_0 M (fun z σ' => σ' = σ ∧ (P_X2_isReady t x1 σ ∧ z = 1 ∨ ¬ P_X2_isReady t x1 σ ∧ z = 0)) t x1 σ := by
  obtain ⟨a1, a2, a3, a4⟩ := h
  exact ⟨⟨a1, by omega, by omega⟩, ⟨by omega, by omega⟩, ⟨a1, by omega, by omega⟩, ⟨⟨by omega, by omega⟩, ⟨by omega, by omega⟩⟩, fun g => ⟨rfl, Or.inr ⟨g, rfl⟩⟩, fun g => ⟨rfl, Or.inl ⟨g, rfl⟩⟩⟩
theorem c_X2_isReady {G : GG} (hG : GI G) (l : Launch) (t : Int) (x1 : Int) (σ : Mem) (ht : t = 12 ∨ t = 19) (h : pre_X2_isReady (gM G) t x1 σ) : CtI G l yX2_isReady cX2_isReady 2 (some .boolean) 0 [pR t, pI x1] σ (fun z σ' => σ' = σ ∧ (P_X2_isReady t x1 σ ∧ z = 1 ∨ ¬ P_X2_isReady t x1 σ ∧ z = 0)) := by
  refine CtI.of hG (by decide) (Nat.le_of_ble_eq_true rfl) (fun X hl C => ?_)
  show RW G X 2 (QI G X _) 0 [(0, pR t), (1, pI x1)] [] σ
  exact seg_X2_isReady_0 C ht x1 σ (ok_X2_isReady_0 ht h)

/-! X2_endOfJob -/
def f_X2_endOfJob (t x1 : Int) (σ : Mem) : Int := if σ 5 x1 = 0 then σ 2 x1 else f_X2_endOf t (10 * x1 + σ 5 x1 - 1) σ
def pre_X2_endOfJob (M : Nat) (t x1 : Int) (σ : Mem) : Prop := SB M σ ∧ 0 ≤ x1 ∧ x1 < 8
def VC_X2_endOfJob_0 (M : Nat) (post : Int → Mem → Prop) (t : Int) (x1 : Int) (σ : Mem) : Prop :=
 (0 ≤ x1 ∧ x1 < 8) ∧ ∀ v3 : Int, v3 = σ 5 x1 → (inR v3) ∧ ((¬ v3 = 0 → (pre_X2_endOf M t (((10 * x1) + v3) - 1) σ) ∧ post (f_X2_endOf t (((10 * x1) + v3) - 1) σ) σ) ∧ (v3 = 0 → (0 ≤ x1 ∧ x1 < 8) ∧ post (σ 2 x1) σ))
set_option maxRecDepth 20000 in
set_option maxHeartbeats 4000000 in
theorem seg_X2_endOfJob_0 {G : GG} {X : XX} {post : Int → Mem → Prop} (C : CX G X cX2_endOfJob RX2 3 (some .int) 1) {t : Int} (ht : t = 12 ∨ t = 19) (x1 : Int) (σ : Mem) (vc : VC_X2_endOfJob_0 (gM G)  post t x1 σ) : RW G X 3 (QI G X post) 0 [(0, pR t), (1, pI x1)] [] σ := by
  unfold VC_X2_endOfJob_0 at vc
  refine w_aload_n C 0 dX2_endOfJob_0 rfl ?_
  refine w_getR C dX2_endOfJob_1 gf_X2_37 (ob_t ht) rfl ?_
  refine w_getR C dX2_endOfJob_4 gf_X2_96 ob_1 rfl ?_
  refine w_iload_n C 1 dX2_endOfJob_7 rfl ?_
  obtain ⟨⟨sc1, sc2⟩, vc⟩ := vc
  refine w_iald C dX2_endOfJob_8 ia_5 sc1 sc2 ?_
  refine w_top (fun v3 hv3 => ?_)
  have vc := vc v3 hv3
  refine w_istore_n C [(2, pI v3), (0, pR t), (1, pI x1)] dX2_endOfJob_9 (by decide) rfl ?_
  refine w_iload_n C 0 dX2_endOfJob_10 rfl ?_
  obtain ⟨sc4, vc⟩ := vc
  refine w_if_ne C 26 dX2_endOfJob_11 (by decide) sc4 (fun h5 => ?_) (fun h5 => ?_)
  · have vc := vc.1 h5
    refine w_aload_n C 1 dX2_endOfJob_26 rfl ?_
    refine w_bipush C dX2_endOfJob_27 (by decide) ?_
    refine w_iload_n C 2 dX2_endOfJob_29 rfl ?_
    refine w_imul C dX2_endOfJob_30 ?_
    refine w_iload_n C 0 dX2_endOfJob_31 rfl ?_
    refine w_iadd C dX2_endOfJob_32 ?_
    refine w_iconst C dX2_endOfJob_33 ?_
    refine w_isub C dX2_endOfJob_34 ?_
    obtain ⟨sc6, vc⟩ := vc
    refine w_callVI C [pI (((10 * x1) + v3) - 1)] [] rfl dX2_endOfJob_35 (c_X2_endOf C.gi (xL X) t (((10 * x1) + v3) - 1) σ ht sc6) (oc_t ht) mw_X2_endOf ml_X2_79 im_X2_endOf se_X2_endOf (by decide) (Nat.le_of_ble_eq_true rfl) (fun z σ' hz => ?_)
    obtain ⟨rfl, hz2⟩ := hz
    have hz2 := hz2.symm
    subst hz2
    exact w_ireturn C dX2_endOfJob_38 vc
  · have vc := vc.2 h5
    refine w_aload_n C 1 dX2_endOfJob_14 rfl ?_
    refine w_getR C dX2_endOfJob_15 gf_X2_37 (ob_t ht) rfl ?_
    refine w_getR C dX2_endOfJob_18 gf_X2_76 ob_1 rfl ?_
    refine w_iload_n C 2 dX2_endOfJob_21 rfl ?_
    obtain ⟨⟨sc7, sc8⟩, vc⟩ := vc
    refine w_iald C dX2_endOfJob_22 ia_2 sc7 sc8 ?_
    refine w_goto C 38 dX2_endOfJob_23 (by decide) ?_
    exact w_ireturn C dX2_endOfJob_38 vc
set_option maxHeartbeats 1000000 in
theorem ok_X2_endOfJob_0 {M : Nat} {t : Int} {x1 : Int} {σ : Mem} (ht : t = 12 ∨ t = 19) (h : pre_X2_endOfJob M t x1 σ) : VC_X2_endOfJob_0 M (fun z σ' => z = f_X2_endOfJob t x1 σ ∧ σ' = σ) t x1 σ := by
  obtain ⟨⟨a1, a2, a3, a4, a5, a6⟩, b1, b2⟩ := h
  have := a5 x1 b1 b2
  refine ⟨⟨b1, b2⟩, fun v e => ?_⟩
  subst e
  refine ⟨⟨by omega, by omega⟩, fun g => ⟨⟨by omega, by omega⟩, ?_, rfl⟩, fun g => ⟨⟨b1, b2⟩, ?_, rfl⟩⟩
  · unfold f_X2_endOfJob; rw [if_neg g]
  · unfold f_X2_endOfJob; rw [if_pos g]
theorem c_X2_endOfJob {G : GG} (hG : GI G) (l : Launch) (t : Int) (x1 : Int) (σ : Mem) (ht : t = 12 ∨ t = 19) (h : pre_X2_endOfJob (gM G) t x1 σ) : CtI G l yX2_endOfJob cX2_endOfJob 3 (some .int) 1 [pR t, pI x1] σ (fun z σ' => z = f_X2_endOfJob t x1 σ ∧ σ' = σ) := by
  refine CtI.of hG (by decide) (Nat.le_of_ble_eq_true rfl) (fun X hl C => ?_)
  show RW G X 3 (QI G X _) 0 [(0, pR t), (1, pI x1)] [] σ
  exact seg_X2_endOfJob_0 C ht x1 σ (ok_X2_endOfJob_0 ht h)

/-! X2_slackOf -/
def f_X2_slackOf (t x1 : Int) (σ : Mem) : Int := σ t 1 - σ (t + 1) x1 - σ (t + 2) x1
def pre_X2_slackOf (M : Nat) (t x1 : Int) (σ : Mem) : Prop := 0 ≤ x1 ∧ x1 < 80
def VC_X2_slackOf_0 (M : Nat) (post : Int → Mem → Prop) (t : Int) (x1 : Int) (σ : Mem) : Prop :=
 (0 ≤ x1 ∧ x1 < 80) ∧ (0 ≤ x1 ∧ x1 < 80) ∧ post (((σ t 1) - (σ (t + 1) x1)) - (σ (t + 2) x1)) σ
set_option maxRecDepth 20000 in
set_option maxHeartbeats 4000000 in
theorem seg_X2_slackOf_0 {G : GG} {X : XX} {post : Int → Mem → Prop} (C : CX G X cX2_slackOf RX2 2 (some .int) 0) {t : Int} (ht : t = 12 ∨ t = 19) (x1 : Int) (σ : Mem) (vc : VC_X2_slackOf_0 (gM G)  post t x1 σ) : RW G X 2 (QI G X post) 0 [(0, pR t), (1, pI x1)] [] σ := by
  unfold VC_X2_slackOf_0 at vc
  refine w_aload_n C 0 dX2_slackOf_0 rfl ?_
  refine w_getI C 1 dX2_slackOf_1 gf_X2_9 (ob_t ht) rfl rfl ?_
  refine w_aload_n C 0 dX2_slackOf_4 rfl ?_
  refine w_getR C dX2_slackOf_5 gf_X2_15 (ob_t ht) rfl ?_
  refine w_iload_n C 1 dX2_slackOf_8 rfl ?_
  obtain ⟨⟨sc1, sc2⟩, vc⟩ := vc
  refine w_iald C dX2_slackOf_9 (ia_t1 ht) sc1 sc2 ?_
  refine w_isub C dX2_slackOf_10 ?_
  refine w_aload_n C 0 dX2_slackOf_11 rfl ?_
  refine w_getR C dX2_slackOf_12 gf_X2_19 (ob_t ht) rfl ?_
  refine w_iload_n C 1 dX2_slackOf_15 rfl ?_
  obtain ⟨⟨sc3, sc4⟩, vc⟩ := vc
  refine w_iald C dX2_slackOf_16 (ia_t2 ht) sc3 sc4 ?_
  refine w_isub C dX2_slackOf_17 ?_
  exact w_ireturn C dX2_slackOf_18 vc
set_option maxHeartbeats 1000000 in
theorem ok_X2_slackOf_0 {M : Nat} {t : Int} {x1 : Int} {σ : Mem} (ht : t = 12 ∨ t = 19) (h : pre_X2_slackOf M t x1 σ) : VC_X2_slackOf_0 M (fun z σ' => z = f_X2_slackOf t x1 σ ∧ σ' = σ) t x1 σ := by
  exact ⟨h, h, rfl, rfl⟩
theorem c_X2_slackOf {G : GG} (hG : GI G) (l : Launch) (t : Int) (x1 : Int) (σ : Mem) (ht : t = 12 ∨ t = 19) (h : pre_X2_slackOf (gM G) t x1 σ) : CtI G l yX2_slackOf cX2_slackOf 2 (some .int) 0 [pR t, pI x1] σ (fun z σ' => z = f_X2_slackOf t x1 σ ∧ σ' = σ) := by
  refine CtI.of hG (by decide) (Nat.le_of_ble_eq_true rfl) (fun X hl C => ?_)
  show RW G X 2 (QI G X _) 0 [(0, pR t), (1, pI x1)] [] σ
  exact seg_X2_slackOf_0 C ht x1 σ (ok_X2_slackOf_0 ht h)

/-! X2_restInJob -/
def f_X2_restInJob (t x1 : Int) (σ : Mem) : Int := if x1 % 10 + 1 = σ 5 (x1 / 10) then 0 else σ (t + 2) (x1 + 1)
def pre_X2_restInJob (M : Nat) (t x1 : Int) (σ : Mem) : Prop := SB M σ ∧ 0 ≤ x1 ∧ x1 < 79
def VC_X2_restInJob_0 (M : Nat) (post : Int → Mem → Prop) (t : Int) (x1 : Int) (σ : Mem) : Prop :=
 (0 ≤ x1 ∧ inR x1) ∧ (0 ≤ x1 ∧ inR x1) ∧ (0 ≤ (x1 / 10) ∧ (x1 / 10) < 8) ∧ (inR ((x1 % 10) + 1) ∧ inR (σ 5 (x1 / 10))) ∧ ((¬ ((x1 % 10) + 1) = (σ 5 (x1 / 10)) → True) ∧ (((x1 % 10) + 1) = (σ 5 (x1 / 10)) → True) ∧ ∀ j11 : Int, (¬ ((x1 % 10) + 1) = (σ 5 (x1 / 10)) → j11 = 0) → (((x1 % 10) + 1) = (σ 5 (x1 / 10)) → j11 = 1) → (inR j11) ∧ ((j11 = 0 → (0 ≤ (x1 + 1) ∧ (x1 + 1) < 80) ∧ post (σ (t + 2) (x1 + 1)) σ) ∧ (¬ j11 = 0 → post 0 σ)))
set_option maxRecDepth 20000 in
set_option maxHeartbeats 4000000 in
theorem seg_X2_restInJob_0 {G : GG} {X : XX} {post : Int → Mem → Prop} (C : CX G X cX2_restInJob RX2 3 (some .int) 0) {t : Int} (ht : t = 12 ∨ t = 19) (x1 : Int) (σ : Mem) (vc : VC_X2_restInJob_0 (gM G)  post t x1 σ) : RW G X 3 (QI G X post) 0 [(0, pR t), (1, pI x1)] [] σ := by
  unfold VC_X2_restInJob_0 at vc
  refine w_iload_n C 1 dX2_restInJob_0 rfl ?_
  refine w_bipush C dX2_restInJob_1 (by decide) ?_
  obtain ⟨⟨sc1, sc2⟩, vc⟩ := vc
  refine w_iremN C dX2_restInJob_3 sc1 sc2 ⟨by omega, by omega⟩ (by omega) ?_
  refine w_iconst C dX2_restInJob_4 ?_
  refine w_iadd C dX2_restInJob_5 ?_
  refine w_aload_n C 0 dX2_restInJob_6 rfl ?_
  refine w_getR C dX2_restInJob_7 gf_X2_37 (ob_t ht) rfl ?_
  refine w_getR C dX2_restInJob_10 gf_X2_96 ob_1 rfl ?_
  refine w_iload_n C 1 dX2_restInJob_13 rfl ?_
  refine w_bipush C dX2_restInJob_14 (by decide) ?_
  obtain ⟨⟨sc3, sc4⟩, vc⟩ := vc
  refine w_idivN C dX2_restInJob_16 sc3 sc4 ⟨by omega, by omega⟩ (by omega) ?_
  obtain ⟨⟨sc5, sc6⟩, vc⟩ := vc
  refine w_iald C dX2_restInJob_17 ia_5 sc5 sc6 ?_
  obtain ⟨⟨sc7, sc8⟩, vc⟩ := vc
  have key10 : ∀ j11 : Int, (¬ ((x1 % 10) + 1) = (σ 5 (x1 / 10)) → j11 = 0) → (((x1 % 10) + 1) = (σ 5 (x1 / 10)) → j11 = 1) → RW G X 3 (QI G X post) 26 [(0, pR t), (1, pI x1)] [pI j11] σ := by
    intro j11 hj12 hj13
    have vc := vc.2.2 j11 hj12 hj13
    refine w_istore_n C [(2, pI j11), (0, pR t), (1, pI x1)] dX2_restInJob_26 (by decide) rfl ?_
    refine w_iload_n C 0 dX2_restInJob_27 rfl ?_
    obtain ⟨sc14, vc⟩ := vc
    refine w_if_eq C 35 dX2_restInJob_28 (by decide) sc14 (fun h15 => ?_) (fun h15 => ?_)
    · have vc := vc.1 h15
      refine w_aload_n C 1 dX2_restInJob_35 rfl ?_
      refine w_getR C dX2_restInJob_36 gf_X2_19 (ob_t ht) rfl ?_
      refine w_iload_n C 2 dX2_restInJob_39 rfl ?_
      refine w_iconst C dX2_restInJob_40 ?_
      refine w_iadd C dX2_restInJob_41 ?_
      obtain ⟨⟨sc16, sc17⟩, vc⟩ := vc
      refine w_iald C dX2_restInJob_42 (ia_t2 ht) sc16 sc17 ?_
      exact w_ireturn C dX2_restInJob_43 vc
    · have vc := vc.2 h15
      refine w_iconst C dX2_restInJob_31 ?_
      refine w_goto C 43 dX2_restInJob_32 (by decide) ?_
      exact w_ireturn C dX2_restInJob_43 vc
  refine w_icmp_ne C 25 dX2_restInJob_18 (by decide) sc7 sc8 (fun h9 => ?_) (fun h9 => ?_)
  · have vc := vc.1 h9
    refine w_iconst C dX2_restInJob_25 ?_
    exact key10 _ (by intros; first | rfl | omega | (exfalso; omega) | contradiction) (by intros; first | rfl | omega | (exfalso; omega) | contradiction)
  · have vc := vc.2.1 h9
    refine w_iconst C dX2_restInJob_21 ?_
    refine w_goto C 26 dX2_restInJob_22 (by decide) ?_
    exact key10 _ (by intros; first | rfl | omega | (exfalso; omega) | contradiction) (by intros; first | rfl | omega | (exfalso; omega) | contradiction)
set_option maxHeartbeats 1000000 in
theorem ok_X2_restInJob_0 {M : Nat} {t : Int} {x1 : Int} {σ : Mem} (ht : t = 12 ∨ t = 19) (h : pre_X2_restInJob M t x1 σ) : VC_X2_restInJob_0 M (fun z σ' => z = f_X2_restInJob t x1 σ ∧ σ' = σ) t x1 σ := by
  obtain ⟨⟨a1, a2, a3, a4, a5, a6⟩, b1, b2⟩ := h
  have := a5 (x1 / 10) (by omega) (by omega)
  refine ⟨⟨b1, by omega, by omega⟩, ⟨b1, by omega, by omega⟩, ⟨by omega, by omega⟩, ⟨⟨by omega, by omega⟩, ⟨by omega, by omega⟩⟩, fun _ => trivial, fun _ => trivial, fun j e1 e2 => ?_⟩
  by_cases g : x1 % 10 + 1 = σ 5 (x1 / 10)
  · have := e2 g
    subst this
    refine ⟨⟨by omega, by omega⟩, fun q => by omega, fun q => ⟨?_, rfl⟩⟩
    unfold f_X2_restInJob; rw [if_pos g]
  · have := e1 g
    subst this
    refine ⟨⟨by omega, by omega⟩, fun q => ⟨⟨by omega, by omega⟩, ?_, rfl⟩, fun q => absurd rfl q⟩
    unfold f_X2_restInJob; rw [if_neg g]
theorem c_X2_restInJob {G : GG} (hG : GI G) (l : Launch) (t : Int) (x1 : Int) (σ : Mem) (ht : t = 12 ∨ t = 19) (h : pre_X2_restInJob (gM G) t x1 σ) : CtI G l yX2_restInJob cX2_restInJob 3 (some .int) 0 [pR t, pI x1] σ (fun z σ' => z = f_X2_restInJob t x1 σ ∧ σ' = σ) := by
  refine CtI.of hG (by decide) (Nat.le_of_ble_eq_true rfl) (fun X hl C => ?_)
  show RW G X 3 (QI G X _) 0 [(0, pR t), (1, pI x1)] [] σ
  exact seg_X2_restInJob_0 C ht x1 σ (ok_X2_restInJob_0 ht h)

/-! X2_restInOrder -/
def f_X2_restInOrder (t x1 : Int) (σ : Mem) : Int := if σ (t + 3) x1 + 1 < σ 10 (σ 6 x1) then σ 11 ((σ 6 x1 * 8 + x1 / 10) * 8 + σ (57 + σ 6 x1) (σ (t + 3) x1 + 1) / 10) + σ (t + 2) (σ (57 + σ 6 x1) (σ (t + 3) x1 + 1)) else 0
def pre_X2_restInOrder (M : Nat) (t x1 : Int) (σ : Mem) : Prop := WN M σ ∧ WO M σ ∧ 0 ≤ x1 ∧ x1 < 80 ∧ 0 ≤ σ (t + 3) x1 ∧ σ (t + 3) x1 ≤ 48
def VC_X2_restInOrder_0 (M : Nat) (post : Int → Mem → Prop) (t : Int) (x1 : Int) (σ : Mem) : Prop :=
 (0 ≤ x1 ∧ x1 < 80) ∧ ∀ v3 : Int, v3 = σ 6 x1 → (0 ≤ x1 ∧ x1 < 80) ∧ ∀ v6 : Int, v6 = (σ (t + 3) x1) + 1 → (0 ≤ v3 ∧ v3 < M) ∧ (inR v6 ∧ inR (σ 10 v3)) ∧ ((v6 < (σ 10 v3) → (0 ≤ v3 ∧ v3 < M) ∧ (0 ≤ v6 ∧ v6 < 48) ∧ ∀ v16 : Int, v16 = σ (57 + v3) v6 → (0 ≤ x1 ∧ inR x1) ∧ (0 ≤ v16 ∧ inR v16) ∧ (pre_X3_changeBetween M v3 (x1 / 10) (v16 / 10) σ) ∧ (0 ≤ v16 ∧ v16 < 80) ∧ post ((f_X3_changeBetween v3 (x1 / 10) (v16 / 10) σ) + (σ (t + 2) v16)) σ) ∧ ((σ 10 v3) ≤ v6 → post 0 σ))
set_option maxRecDepth 20000 in
set_option maxHeartbeats 4000000 in
theorem seg_X2_restInOrder_0 {G : GG} {X : XX} {post : Int → Mem → Prop} (C : CX G X cX2_restInOrder RX2 5 (some .int) 1) {t : Int} (ht : t = 12 ∨ t = 19) (x1 : Int) (σ : Mem) (vc : VC_X2_restInOrder_0 (gM G)  post t x1 σ) : RW G X 5 (QI G X post) 0 [(0, pR t), (1, pI x1)] [] σ := by
  unfold VC_X2_restInOrder_0 at vc
  refine w_aload_n C 0 dX2_restInOrder_0 rfl ?_
  refine w_getR C dX2_restInOrder_1 gf_X2_37 (ob_t ht) rfl ?_
  refine w_getR C dX2_restInOrder_4 gf_X2_105 ob_1 rfl ?_
  refine w_iload_n C 1 dX2_restInOrder_7 rfl ?_
  obtain ⟨⟨sc1, sc2⟩, vc⟩ := vc
  refine w_iald C dX2_restInOrder_8 ia_6 sc1 sc2 ?_
  refine w_top (fun v3 hv3 => ?_)
  have vc := vc v3 hv3
  refine w_istore_n C [(2, pI v3), (0, pR t), (1, pI x1)] dX2_restInOrder_9 (by decide) rfl ?_
  refine w_aload_n C 1 dX2_restInOrder_10 rfl ?_
  refine w_getR C dX2_restInOrder_11 gf_X2_22 (ob_t ht) rfl ?_
  refine w_iload_n C 2 dX2_restInOrder_14 rfl ?_
  obtain ⟨⟨sc4, sc5⟩, vc⟩ := vc
  refine w_iald C dX2_restInOrder_15 (ia_t3 ht) sc4 sc5 ?_
  refine w_iconst C dX2_restInOrder_16 ?_
  refine w_iadd C dX2_restInOrder_17 ?_
  refine w_top (fun v6 hv6 => ?_)
  have vc := vc v6 hv6
  refine w_istore_n C [(3, pI v6), (2, pI v3), (0, pR t), (1, pI x1)] dX2_restInOrder_18 (by decide) rfl ?_
  refine w_iload_n C 0 dX2_restInOrder_19 rfl ?_
  refine w_aload_n C 2 dX2_restInOrder_20 rfl ?_
  refine w_getR C dX2_restInOrder_21 gf_X2_37 (ob_t ht) rfl ?_
  refine w_getR C dX2_restInOrder_24 gf_X2_65 ob_1 rfl ?_
  refine w_iload_n C 1 dX2_restInOrder_27 rfl ?_
  obtain ⟨⟨sc7, sc8⟩, vc⟩ := vc
  refine w_iald C dX2_restInOrder_28 (ia_10 C.gi) sc7 sc8 ?_
  obtain ⟨⟨sc9, sc10⟩, vc⟩ := vc
  refine w_icmp_lt C 34 dX2_restInOrder_29 (by decide) sc9 sc10 (fun h11 => ?_) (fun h11 => ?_)
  · have vc := vc.1 h11
    refine w_aload_n C 2 dX2_restInOrder_34 rfl ?_
    refine w_getR C dX2_restInOrder_35 gf_X2_37 (ob_t ht) rfl ?_
    refine w_getR C dX2_restInOrder_38 gf_X2_61 ob_1 rfl ?_
    refine w_iload_n C 1 dX2_restInOrder_41 rfl ?_
    obtain ⟨⟨sc12, sc13⟩, vc⟩ := vc
    refine w_aald C dX2_restInOrder_42 (ra_9 C.gi) sc12 sc13 ?_
    refine w_iload_n C 0 dX2_restInOrder_43 rfl ?_
    obtain ⟨⟨sc14, sc15⟩, vc⟩ := vc
    refine w_iald C dX2_restInOrder_44 (ia_row sc12 sc13) sc14 sc15 ?_
    refine w_top (fun v16 hv16 => ?_)
    have vc := vc v16 hv16
    refine w_istore C [(4, pI v16), (3, pI v6), (2, pI v3), (0, pR t), (1, pI x1)] dX2_restInOrder_45 (by decide) rfl ?_
    refine w_aload_n C 3 dX2_restInOrder_47 rfl ?_
    refine w_getR C dX2_restInOrder_48 gf_X2_37 (ob_t ht) rfl ?_
    refine w_iload_n C 2 dX2_restInOrder_51 rfl ?_
    refine w_iload_n C 4 dX2_restInOrder_52 rfl ?_
    refine w_bipush C dX2_restInOrder_53 (by decide) ?_
    obtain ⟨⟨sc17, sc18⟩, vc⟩ := vc
    refine w_idivN C dX2_restInOrder_55 sc17 sc18 ⟨by omega, by omega⟩ (by omega) ?_
    refine w_iload C 0 dX2_restInOrder_56 rfl ?_
    refine w_bipush C dX2_restInOrder_58 (by decide) ?_
    obtain ⟨⟨sc19, sc20⟩, vc⟩ := vc
    refine w_idivN C dX2_restInOrder_60 sc19 sc20 ⟨by omega, by omega⟩ (by omega) ?_
    obtain ⟨sc21, vc⟩ := vc
    refine w_callVI C [pI v3, pI (x1 / 10), pI (v16 / 10)] [] rfl dX2_restInOrder_61 (c_X3_changeBetween C.gi (xL X) v3 (x1 / 10) (v16 / 10) σ sc21) oc_1 mw_X3_changeBetween ml_X2_83 im_X3_changeBetween se_X3_changeBetween (by decide) (Nat.le_of_ble_eq_true rfl) (fun z σ' hz => ?_)
    obtain ⟨rfl, hz2⟩ := hz
    have hz2 := hz2.symm
    subst hz2
    refine w_aload_n C 3 dX2_restInOrder_64 rfl ?_
    refine w_getR C dX2_restInOrder_65 gf_X2_19 (ob_t ht) rfl ?_
    refine w_iload C 0 dX2_restInOrder_68 rfl ?_
    obtain ⟨⟨sc22, sc23⟩, vc⟩ := vc
    refine w_iald C dX2_restInOrder_70 (ia_t2 ht) sc22 sc23 ?_
    refine w_iadd C dX2_restInOrder_71 ?_
    exact w_ireturn C dX2_restInOrder_72 vc
  · have vc := vc.2 h11
    refine w_iconst C dX2_restInOrder_32 ?_
    exact w_ireturn C dX2_restInOrder_33 vc
set_option maxHeartbeats 1000000 in
theorem ok_X2_restInOrder_0 {M : Nat} {t : Int} {x1 : Int} {σ : Mem} (ht : t = 12 ∨ t = 19) (h : pre_X2_restInOrder M t x1 σ) : VC_X2_restInOrder_0 M (fun z σ' => z = f_X2_restInOrder t x1 σ ∧ σ' = σ) t x1 σ := by
  obtain ⟨hN, hO, b1, b2, b3, b4⟩ := h
  have hm := (hN.2.2.2.1 x1 b1 b2).1
  have hz := hN.1.2.2.2.2.2 (σ 6 x1) hm.1 hm.2
  refine ⟨⟨b1, b2⟩, fun v e => ?_⟩
  subst e
  refine ⟨⟨b1, b2⟩, fun v e => ?_⟩
  subst e
  refine ⟨hm, ⟨⟨by omega, by omega⟩, ⟨by omega, by omega⟩⟩, fun g => ⟨hm, ⟨by omega, by omega⟩, fun v e => ?_⟩, fun g => ⟨?_, rfl⟩⟩
  · subst e
    have hv := VS_in hN.1 (hO.1 (σ 6 x1) (σ (t + 3) x1 + 1) hm.1 hm.2 (by omega) g).1
    refine ⟨⟨b1, by omega, by omega⟩, ⟨hv.1, by omega, by omega⟩, ⟨hm.1, hm.2, by omega, by omega, by omega, by omega⟩, ⟨hv.1, hv.2.1⟩, ?_, rfl⟩
    unfold f_X2_restInOrder; rw [if_pos g]; rfl
  · unfold f_X2_restInOrder; rw [if_neg (by omega)]
theorem c_X2_restInOrder {G : GG} (hG : GI G) (l : Launch) (t : Int) (x1 : Int) (σ : Mem) (ht : t = 12 ∨ t = 19) (h : pre_X2_restInOrder (gM G) t x1 σ) : CtI G l yX2_restInOrder cX2_restInOrder 5 (some .int) 1 [pR t, pI x1] σ (fun z σ' => z = f_X2_restInOrder t x1 σ ∧ σ' = σ) := by
  refine CtI.of hG (by decide) (Nat.le_of_ble_eq_true rfl) (fun X hl C => ?_)
  show RW G X 5 (QI G X _) 0 [(0, pR t), (1, pI x1)] [] σ
  exact seg_X2_restInOrder_0 C ht x1 σ (ok_X2_restInOrder_0 ht h)

/-! X2_drawStep -/
def m_X2_drawStep (t x1 x2 : Int) (σ : Mem) : Mem :=
  up (up (up (up (up (up (up σ (t + 1) (σ (57 + x1) x2) (bV σ (σ (t + 1)) x1 x2)) (t + 3) (σ (57 + x1) x2) x2) t 1 (max (σ t 1) (bV σ (σ (t + 1)) x1 x2 + σ 7 (σ (57 + x1) x2)))) t 6 (σ t 6 + 1)) (t + 4) (σ t 6) (σ (57 + x1) x2)) (t + 5) (σ (57 + x1) x2 / 10) (σ (t + 5) (σ (57 + x1) x2 / 10) + 1)) (t + 6) x1 (σ (t + 6) x1 + 1)
def pre_X2_drawStep (M : Nat) (t x1 x2 : Int) (σ : Mem) : Prop := WN M σ ∧ WO M σ ∧ inO M σ x1 x2 ∧ (0 ≤ σ t 6 ∧ σ t 6 < 48) ∧ (0 ≤ σ t 1 ∧ σ t 1 ≤ 10000) ∧ (σ (57 + x1) x2 % 10 ≠ 0 → 0 ≤ σ (t + 1) (σ (57 + x1) x2 - 1) ∧ σ (t + 1) (σ (57 + x1) x2 - 1) ≤ 10000) ∧ (0 < x2 → 0 ≤ σ (t + 1) (σ (57 + x1) (x2 - 1)) ∧ σ (t + 1) (σ (57 + x1) (x2 - 1)) ≤ 10000)
def VC_X2_drawStep_0 (M : Nat) (post : Mem → Prop) (t : Int) (x1 : Int) (x2 : Int) (σ : Mem) : Prop :=
 (0 ≤ x1 ∧ x1 < M) ∧ (0 ≤ x2 ∧ x2 < 48) ∧ ∀ v5 : Int, v5 = σ (57 + x1) x2 → (0 ≤ v5 ∧ inR v5) ∧ ∀ v8 : Int, v8 = v5 / 10 → (0 ≤ v5 ∧ inR v5) ∧ (inR (v5 % 10)) ∧ ((¬ (v5 % 10) = 0 → (pre_X2_endOf M t (v5 - 1) σ) ∧ True) ∧ ((v5 % 10) = 0 → (0 ≤ v8 ∧ v8 < 8) ∧ True) ∧ ∀ j17 : Int, (¬ (v5 % 10) = 0 → j17 = f_X2_endOf t (v5 - 1) σ) → ((v5 % 10) = 0 → j17 = σ 2 v8) → (inR x2) ∧ ((x2 ≤ 0 → (0 ≤ v5 ∧ v5 < 80) ∧ ∀ s24 : Mem, s24 = up σ (t + 1) v5 j17 → (0 ≤ v5 ∧ v5 < 80) ∧ ∀ s27 : Mem, s27 = up s24 (t + 3) v5 x2 → (pre_X2_endOf M t v5 s27) ∧ (inR (s27 t 1) ∧ inR (f_X2_endOf t v5 s27)) ∧ ∀ s31 : Mem, s31 = up s27 t 1 (max (s27 t 1) (f_X2_endOf t v5 s27)) → ∀ s32 : Mem, s32 = up s31 t 6 ((s31 t 6) + 1) → (0 ≤ (s31 t 6) ∧ (s31 t 6) < 48) ∧ ∀ s35 : Mem, s35 = up s32 (t + 4) (s31 t 6) v5 → (0 ≤ v8 ∧ v8 < 8) ∧ (0 ≤ v8 ∧ v8 < 8) ∧ ∀ s40 : Mem, s40 = up s35 (t + 5) v8 ((s35 (t + 5) v8) + 1) → (0 ≤ x1 ∧ x1 < 5) ∧ (0 ≤ x1 ∧ x1 < 5) ∧ ∀ s45 : Mem, s45 = up s40 (t + 6) x1 ((s40 (t + 6) x1) + 1) → post s45) ∧ (0 < x2 → (0 ≤ x1 ∧ x1 < M) ∧ (0 ≤ (x2 - 1) ∧ (x2 - 1) < 48) ∧ ∀ v50 : Int, v50 = σ (57 + x1) (x2 - 1) → (0 ≤ v50 ∧ inR v50) ∧ (pre_X3_changeBetween M x1 (v50 / 10) v8 σ) ∧ ∀ v54 : Int, v54 = f_X3_changeBetween x1 (v50 / 10) v8 σ → (pre_X2_endOf M t v50 σ) ∧ (inR j17 ∧ inR ((f_X2_endOf t v50 σ) + v54)) ∧ ∀ v58 : Int, v58 = max j17 ((f_X2_endOf t v50 σ) + v54) → (0 ≤ v5 ∧ v5 < 80) ∧ ∀ s61 : Mem, s61 = up σ (t + 1) v5 v58 → (0 ≤ v5 ∧ v5 < 80) ∧ ∀ s64 : Mem, s64 = up s61 (t + 3) v5 x2 → (pre_X2_endOf M t v5 s64) ∧ (inR (s64 t 1) ∧ inR (f_X2_endOf t v5 s64)) ∧ ∀ s68 : Mem, s68 = up s64 t 1 (max (s64 t 1) (f_X2_endOf t v5 s64)) → ∀ s69 : Mem, s69 = up s68 t 6 ((s68 t 6) + 1) → (0 ≤ (s68 t 6) ∧ (s68 t 6) < 48) ∧ ∀ s72 : Mem, s72 = up s69 (t + 4) (s68 t 6) v5 → (0 ≤ v8 ∧ v8 < 8) ∧ (0 ≤ v8 ∧ v8 < 8) ∧ ∀ s77 : Mem, s77 = up s72 (t + 5) v8 ((s72 (t + 5) v8) + 1) → (0 ≤ x1 ∧ x1 < 5) ∧ (0 ≤ x1 ∧ x1 < 5) ∧ ∀ s82 : Mem, s82 = up s77 (t + 6) x1 ((s77 (t + 6) x1) + 1) → post s82)))
set_option maxRecDepth 20000 in
set_option maxHeartbeats 4000000 in
theorem seg_X2_drawStep_0 {G : GG} {X : XX} {post : Mem → Prop} (C : CX G X cX2_drawStep RX2 8 none 1) {t : Int} (ht : t = 12 ∨ t = 19) (x1 : Int) (x2 : Int) (σ : Mem) (vc : VC_X2_drawStep_0 (gM G)  post t x1 x2 σ) : RW G X 8 (QV G X post) 0 [(0, pR t), (1, pI x1), (2, pI x2)] [] σ := by
  unfold VC_X2_drawStep_0 at vc
  refine w_aload_n C 0 dX2_drawStep_0 rfl ?_
  refine w_getR C dX2_drawStep_1 gf_X2_37 (ob_t ht) rfl ?_
  refine w_getR C dX2_drawStep_4 gf_X2_61 ob_1 rfl ?_
  refine w_iload_n C 1 dX2_drawStep_7 rfl ?_
  obtain ⟨⟨sc1, sc2⟩, vc⟩ := vc
  refine w_aald C dX2_drawStep_8 (ra_9 C.gi) sc1 sc2 ?_
  refine w_iload_n C 2 dX2_drawStep_9 rfl ?_
  obtain ⟨⟨sc3, sc4⟩, vc⟩ := vc
  refine w_iald C dX2_drawStep_10 (ia_row sc1 sc2) sc3 sc4 ?_
  refine w_top (fun v5 hv5 => ?_)
  have vc := vc v5 hv5
  refine w_istore_n C [(3, pI v5), (0, pR t), (1, pI x1), (2, pI x2)] dX2_drawStep_11 (by decide) rfl ?_
  refine w_iload_n C 0 dX2_drawStep_12 rfl ?_
  refine w_bipush C dX2_drawStep_13 (by decide) ?_
  obtain ⟨⟨sc6, sc7⟩, vc⟩ := vc
  refine w_idivN C dX2_drawStep_15 sc6 sc7 ⟨by omega, by omega⟩ (by omega) ?_
  refine w_top (fun v8 hv8 => ?_)
  have vc := vc v8 hv8
  refine w_istore C [(4, pI v8), (3, pI v5), (0, pR t), (1, pI x1), (2, pI x2)] dX2_drawStep_16 (by decide) rfl ?_
  refine w_iload_n C 1 dX2_drawStep_18 rfl ?_
  refine w_bipush C dX2_drawStep_19 (by decide) ?_
  obtain ⟨⟨sc9, sc10⟩, vc⟩ := vc
  refine w_iremN C dX2_drawStep_21 sc9 sc10 ⟨by omega, by omega⟩ (by omega) ?_
  obtain ⟨sc11, vc⟩ := vc
  have key13 : ∀ j17 : Int, (¬ (v5 % 10) = 0 → j17 = f_X2_endOf t (v5 - 1) σ) → ((v5 % 10) = 0 → j17 = σ 2 v8) → RW G X 8 (QV G X post) 45 [(4, pI v8), (3, pI v5), (0, pR t), (1, pI x1), (2, pI x2)] [pI j17] σ := by
    intro j17 hj18 hj19
    have vc := vc.2.2 j17 hj18 hj19
    refine w_istore C [(5, pI j17), (4, pI v8), (3, pI v5), (0, pR t), (1, pI x1), (2, pI x2)] dX2_drawStep_45 (by decide) rfl ?_
    refine w_iload_n C 5 dX2_drawStep_47 rfl ?_
    obtain ⟨sc20, vc⟩ := vc
    refine w_if_le C 99 dX2_drawStep_48 (by decide) sc20 (fun h21 => ?_) (fun h21 => ?_)
    · have vc := vc.1 h21
      refine w_aload_n C 3 dX2_drawStep_99 rfl ?_
      refine w_getR C dX2_drawStep_100 gf_X2_15 (ob_t ht) rfl ?_
      refine w_iload_n C 2 dX2_drawStep_103 rfl ?_
      refine w_iload C 0 dX2_drawStep_104 rfl ?_
      obtain ⟨⟨sc22, sc23⟩, vc⟩ := vc
      refine w_iast C dX2_drawStep_106 (ia_t1 ht) sc22 sc23 ?_
      refine w_mem (fun s24 hs24 => ?_)
      have vc := vc s24 hs24
      refine w_aload_n C 3 dX2_drawStep_107 rfl ?_
      refine w_getR C dX2_drawStep_108 gf_X2_22 (ob_t ht) rfl ?_
      refine w_iload_n C 2 dX2_drawStep_111 rfl ?_
      refine w_iload_n C 5 dX2_drawStep_112 rfl ?_
      obtain ⟨⟨sc25, sc26⟩, vc⟩ := vc
      refine w_iast C dX2_drawStep_113 (ia_t3 ht) sc25 sc26 ?_
      refine w_mem (fun s27 hs27 => ?_)
      have vc := vc s27 hs27
      refine w_aload_n C 3 dX2_drawStep_114 rfl ?_
      refine w_aload_n C 3 dX2_drawStep_115 rfl ?_
      refine w_getI C 1 dX2_drawStep_116 gf_X2_9 (ob_t ht) rfl rfl ?_
      refine w_aload_n C 3 dX2_drawStep_119 rfl ?_
      refine w_iload_n C 2 dX2_drawStep_120 rfl ?_
      obtain ⟨sc28, vc⟩ := vc
      refine w_callVI C [pI v5] [pI (s27 t 1), pR t] rfl dX2_drawStep_121 (c_X2_endOf C.gi (xL X) t v5 s27 ht sc28) (oc_t ht) mw_X2_endOf ml_X2_79 im_X2_endOf se_X2_endOf (by decide) (Nat.le_of_ble_eq_true rfl) (fun z σ' hz => ?_)
      obtain ⟨rfl, hz2⟩ := hz
      have hz2 := hz2.symm
      subst hz2
      obtain ⟨⟨sc29, sc30⟩, vc⟩ := vc
      refine w_max C dX2_drawStep_124 ml_X2_87 mt_max sc29 sc30 (Nat.le_of_ble_eq_true rfl) ?_
      refine w_putI C 1 dX2_drawStep_127 pf_X2_9 (ob_t ht) rfl rfl ?_
      refine w_mem (fun s31 hs31 => ?_)
      have vc := vc s31 hs31
      refine w_aload_n C 3 dX2_drawStep_130 rfl ?_
      refine w_getR C dX2_drawStep_131 gf_X2_25 (ob_t ht) rfl ?_
      refine w_aload_n C 3 dX2_drawStep_134 rfl ?_
      refine w_dup C dX2_drawStep_135 rfl ?_
      refine w_getI C 6 dX2_drawStep_136 gf_X2_28 (ob_t ht) rfl rfl ?_
      refine w_dup_x1 C dX2_drawStep_139 rfl rfl ?_
      refine w_iconst C dX2_drawStep_140 ?_
      refine w_iadd C dX2_drawStep_141 ?_
      refine w_putI C 6 dX2_drawStep_142 pf_X2_28 (ob_t ht) rfl rfl ?_
      refine w_mem (fun s32 hs32 => ?_)
      have vc := vc s32 hs32
      refine w_iload_n C 2 dX2_drawStep_145 rfl ?_
      obtain ⟨⟨sc33, sc34⟩, vc⟩ := vc
      refine w_iast C dX2_drawStep_146 (ia_t4 ht) sc33 sc34 ?_
      refine w_mem (fun s35 hs35 => ?_)
      have vc := vc s35 hs35
      refine w_aload_n C 3 dX2_drawStep_147 rfl ?_
      refine w_getR C dX2_drawStep_148 gf_X2_31 (ob_t ht) rfl ?_
      refine w_iload C 1 dX2_drawStep_151 rfl ?_
      refine w_dup2 C dX2_drawStep_153 rfl rfl ?_
      obtain ⟨⟨sc36, sc37⟩, vc⟩ := vc
      refine w_iald C dX2_drawStep_154 (ia_t5 ht) sc36 sc37 ?_
      refine w_iconst C dX2_drawStep_155 ?_
      refine w_iadd C dX2_drawStep_156 ?_
      obtain ⟨⟨sc38, sc39⟩, vc⟩ := vc
      refine w_iast C dX2_drawStep_157 (ia_t5 ht) sc38 sc39 ?_
      refine w_mem (fun s40 hs40 => ?_)
      have vc := vc s40 hs40
      refine w_aload_n C 3 dX2_drawStep_158 rfl ?_
      refine w_getR C dX2_drawStep_159 gf_X2_34 (ob_t ht) rfl ?_
      refine w_iload_n C 4 dX2_drawStep_162 rfl ?_
      refine w_dup2 C dX2_drawStep_163 rfl rfl ?_
      obtain ⟨⟨sc41, sc42⟩, vc⟩ := vc
      refine w_iald C dX2_drawStep_164 (ia_t6 ht) sc41 sc42 ?_
      refine w_iconst C dX2_drawStep_165 ?_
      refine w_iadd C dX2_drawStep_166 ?_
      obtain ⟨⟨sc43, sc44⟩, vc⟩ := vc
      refine w_iast C dX2_drawStep_167 (ia_t6 ht) sc43 sc44 ?_
      refine w_mem (fun s45 hs45 => ?_)
      have vc := vc s45 hs45
      exact w_vreturn C dX2_drawStep_168 vc
    · have vc := vc.2 h21
      refine w_aload_n C 3 dX2_drawStep_51 rfl ?_
      refine w_getR C dX2_drawStep_52 gf_X2_37 (ob_t ht) rfl ?_
      refine w_getR C dX2_drawStep_55 gf_X2_61 ob_1 rfl ?_
      refine w_iload_n C 4 dX2_drawStep_58 rfl ?_
      obtain ⟨⟨sc46, sc47⟩, vc⟩ := vc
      refine w_aald C dX2_drawStep_59 (ra_9 C.gi) sc46 sc47 ?_
      refine w_iload_n C 5 dX2_drawStep_60 rfl ?_
      refine w_iconst C dX2_drawStep_61 ?_
      refine w_isub C dX2_drawStep_62 ?_
      obtain ⟨⟨sc48, sc49⟩, vc⟩ := vc
      refine w_iald C dX2_drawStep_63 (ia_row sc46 sc47) sc48 sc49 ?_
      refine w_top (fun v50 hv50 => ?_)
      have vc := vc v50 hv50
      refine w_istore C [(6, pI v50), (5, pI j17), (4, pI v8), (3, pI v5), (0, pR t), (1, pI x1), (2, pI x2)] dX2_drawStep_64 (by decide) rfl ?_
      refine w_aload_n C 4 dX2_drawStep_66 rfl ?_
      refine w_getR C dX2_drawStep_67 gf_X2_37 (ob_t ht) rfl ?_
      refine w_iload_n C 5 dX2_drawStep_70 rfl ?_
      refine w_iload C 0 dX2_drawStep_71 rfl ?_
      refine w_bipush C dX2_drawStep_73 (by decide) ?_
      obtain ⟨⟨sc51, sc52⟩, vc⟩ := vc
      refine w_idivN C dX2_drawStep_75 sc51 sc52 ⟨by omega, by omega⟩ (by omega) ?_
      refine w_iload C 2 dX2_drawStep_76 rfl ?_
      obtain ⟨sc53, vc⟩ := vc
      refine w_callVI C [pI x1, pI (v50 / 10), pI v8] [] rfl dX2_drawStep_78 (c_X3_changeBetween C.gi (xL X) x1 (v50 / 10) v8 σ sc53) oc_1 mw_X3_changeBetween ml_X2_83 im_X3_changeBetween se_X3_changeBetween (by decide) (Nat.le_of_ble_eq_true rfl) (fun z σ' hz => ?_)
      obtain ⟨rfl, hz2⟩ := hz
      have hz2 := hz2.symm
      subst hz2
      refine w_top (fun v54 hv54 => ?_)
      have vc := vc v54 hv54
      refine w_istore C [(7, pI v54), (6, pI v50), (5, pI j17), (4, pI v8), (3, pI v5), (0, pR t), (1, pI x1), (2, pI x2)] dX2_drawStep_81 (by decide) rfl ?_
      refine w_iload C 2 dX2_drawStep_83 rfl ?_
      refine w_aload_n C 5 dX2_drawStep_85 rfl ?_
      refine w_iload C 1 dX2_drawStep_86 rfl ?_
      obtain ⟨sc55, vc⟩ := vc
      refine w_callVI C [pI v50] [pI j17] rfl dX2_drawStep_88 (c_X2_endOf C.gi (xL X) t v50 σ ht sc55) (oc_t ht) mw_X2_endOf ml_X2_79 im_X2_endOf se_X2_endOf (by decide) (Nat.le_of_ble_eq_true rfl) (fun z σ' hz => ?_)
      obtain ⟨rfl, hz2⟩ := hz
      have hz2 := hz2.symm
      subst hz2
      refine w_iload C 0 dX2_drawStep_91 rfl ?_
      refine w_iadd C dX2_drawStep_93 ?_
      obtain ⟨⟨sc56, sc57⟩, vc⟩ := vc
      refine w_max C dX2_drawStep_94 ml_X2_87 mt_max sc56 sc57 (Nat.le_of_ble_eq_true rfl) ?_
      refine w_top (fun v58 hv58 => ?_)
      have vc := vc v58 hv58
      refine w_istore C [(5, pI v58), (7, pI v54), (6, pI v50), (4, pI v8), (3, pI v5), (0, pR t), (1, pI x1), (2, pI x2)] dX2_drawStep_97 (by decide) rfl ?_
      refine w_aload_n C 5 dX2_drawStep_99 rfl ?_
      refine w_getR C dX2_drawStep_100 gf_X2_15 (ob_t ht) rfl ?_
      refine w_iload_n C 4 dX2_drawStep_103 rfl ?_
      refine w_iload C 0 dX2_drawStep_104 rfl ?_
      obtain ⟨⟨sc59, sc60⟩, vc⟩ := vc
      refine w_iast C dX2_drawStep_106 (ia_t1 ht) sc59 sc60 ?_
      refine w_mem (fun s61 hs61 => ?_)
      have vc := vc s61 hs61
      refine w_aload_n C 5 dX2_drawStep_107 rfl ?_
      refine w_getR C dX2_drawStep_108 gf_X2_22 (ob_t ht) rfl ?_
      refine w_iload_n C 4 dX2_drawStep_111 rfl ?_
      refine w_iload_n C 7 dX2_drawStep_112 rfl ?_
      obtain ⟨⟨sc62, sc63⟩, vc⟩ := vc
      refine w_iast C dX2_drawStep_113 (ia_t3 ht) sc62 sc63 ?_
      refine w_mem (fun s64 hs64 => ?_)
      have vc := vc s64 hs64
      refine w_aload_n C 5 dX2_drawStep_114 rfl ?_
      refine w_aload_n C 5 dX2_drawStep_115 rfl ?_
      refine w_getI C 1 dX2_drawStep_116 gf_X2_9 (ob_t ht) rfl rfl ?_
      refine w_aload_n C 5 dX2_drawStep_119 rfl ?_
      refine w_iload_n C 4 dX2_drawStep_120 rfl ?_
      obtain ⟨sc65, vc⟩ := vc
      refine w_callVI C [pI v5] [pI (s64 t 1), pR t] rfl dX2_drawStep_121 (c_X2_endOf C.gi (xL X) t v5 s64 ht sc65) (oc_t ht) mw_X2_endOf ml_X2_79 im_X2_endOf se_X2_endOf (by decide) (Nat.le_of_ble_eq_true rfl) (fun z σ' hz => ?_)
      obtain ⟨rfl, hz2⟩ := hz
      have hz2 := hz2.symm
      subst hz2
      obtain ⟨⟨sc66, sc67⟩, vc⟩ := vc
      refine w_max C dX2_drawStep_124 ml_X2_87 mt_max sc66 sc67 (Nat.le_of_ble_eq_true rfl) ?_
      refine w_putI C 1 dX2_drawStep_127 pf_X2_9 (ob_t ht) rfl rfl ?_
      refine w_mem (fun s68 hs68 => ?_)
      have vc := vc s68 hs68
      refine w_aload_n C 5 dX2_drawStep_130 rfl ?_
      refine w_getR C dX2_drawStep_131 gf_X2_25 (ob_t ht) rfl ?_
      refine w_aload_n C 5 dX2_drawStep_134 rfl ?_
      refine w_dup C dX2_drawStep_135 rfl ?_
      refine w_getI C 6 dX2_drawStep_136 gf_X2_28 (ob_t ht) rfl rfl ?_
      refine w_dup_x1 C dX2_drawStep_139 rfl rfl ?_
      refine w_iconst C dX2_drawStep_140 ?_
      refine w_iadd C dX2_drawStep_141 ?_
      refine w_putI C 6 dX2_drawStep_142 pf_X2_28 (ob_t ht) rfl rfl ?_
      refine w_mem (fun s69 hs69 => ?_)
      have vc := vc s69 hs69
      refine w_iload_n C 4 dX2_drawStep_145 rfl ?_
      obtain ⟨⟨sc70, sc71⟩, vc⟩ := vc
      refine w_iast C dX2_drawStep_146 (ia_t4 ht) sc70 sc71 ?_
      refine w_mem (fun s72 hs72 => ?_)
      have vc := vc s72 hs72
      refine w_aload_n C 5 dX2_drawStep_147 rfl ?_
      refine w_getR C dX2_drawStep_148 gf_X2_31 (ob_t ht) rfl ?_
      refine w_iload C 3 dX2_drawStep_151 rfl ?_
      refine w_dup2 C dX2_drawStep_153 rfl rfl ?_
      obtain ⟨⟨sc73, sc74⟩, vc⟩ := vc
      refine w_iald C dX2_drawStep_154 (ia_t5 ht) sc73 sc74 ?_
      refine w_iconst C dX2_drawStep_155 ?_
      refine w_iadd C dX2_drawStep_156 ?_
      obtain ⟨⟨sc75, sc76⟩, vc⟩ := vc
      refine w_iast C dX2_drawStep_157 (ia_t5 ht) sc75 sc76 ?_
      refine w_mem (fun s77 hs77 => ?_)
      have vc := vc s77 hs77
      refine w_aload_n C 5 dX2_drawStep_158 rfl ?_
      refine w_getR C dX2_drawStep_159 gf_X2_34 (ob_t ht) rfl ?_
      refine w_iload_n C 6 dX2_drawStep_162 rfl ?_
      refine w_dup2 C dX2_drawStep_163 rfl rfl ?_
      obtain ⟨⟨sc78, sc79⟩, vc⟩ := vc
      refine w_iald C dX2_drawStep_164 (ia_t6 ht) sc78 sc79 ?_
      refine w_iconst C dX2_drawStep_165 ?_
      refine w_iadd C dX2_drawStep_166 ?_
      obtain ⟨⟨sc80, sc81⟩, vc⟩ := vc
      refine w_iast C dX2_drawStep_167 (ia_t6 ht) sc80 sc81 ?_
      refine w_mem (fun s82 hs82 => ?_)
      have vc := vc s82 hs82
      exact w_vreturn C dX2_drawStep_168 vc
  refine w_if_ne C 38 dX2_drawStep_22 (by decide) sc11 (fun h12 => ?_) (fun h12 => ?_)
  · have vc := vc.1 h12
    refine w_aload_n C 2 dX2_drawStep_38 rfl ?_
    refine w_iload_n C 1 dX2_drawStep_39 rfl ?_
    refine w_iconst C dX2_drawStep_40 ?_
    refine w_isub C dX2_drawStep_41 ?_
    obtain ⟨sc14, vc⟩ := vc
    refine w_callVI C [pI (v5 - 1)] [] rfl dX2_drawStep_42 (c_X2_endOf C.gi (xL X) t (v5 - 1) σ ht sc14) (oc_t ht) mw_X2_endOf ml_X2_79 im_X2_endOf se_X2_endOf (by decide) (Nat.le_of_ble_eq_true rfl) (fun z σ' hz => ?_)
    obtain ⟨rfl, hz2⟩ := hz
    have hz2 := hz2.symm
    subst hz2
    exact key13 _ (by intros; first | rfl | omega | (exfalso; omega) | contradiction) (by intros; first | rfl | omega | (exfalso; omega) | contradiction)
  · have vc := vc.2.1 h12
    refine w_aload_n C 2 dX2_drawStep_25 rfl ?_
    refine w_getR C dX2_drawStep_26 gf_X2_37 (ob_t ht) rfl ?_
    refine w_getR C dX2_drawStep_29 gf_X2_76 ob_1 rfl ?_
    refine w_iload C 0 dX2_drawStep_32 rfl ?_
    obtain ⟨⟨sc15, sc16⟩, vc⟩ := vc
    refine w_iald C dX2_drawStep_34 ia_2 sc15 sc16 ?_
    refine w_goto C 45 dX2_drawStep_35 (by decide) ?_
    exact key13 _ (by intros; first | rfl | omega | (exfalso; omega) | contradiction) (by intros; first | rfl | omega | (exfalso; omega) | contradiction)
set_option maxHeartbeats 1000000 in
theorem ok_X2_drawStep_0 {M : Nat} {t : Int} {x1 : Int} {x2 : Int} {σ : Mem} (ht : t = 12 ∨ t = 19) (h : pre_X2_drawStep M t x1 x2 σ) : VC_X2_drawStep_0 M (fun σ' => σ' = m_X2_drawStep t x1 x2 σ) t x1 x2 σ := by
  obtain ⟨hN, hO, hi, ⟨d0, d1⟩, ⟨g0, g1⟩, hj, hp⟩ := h
  have hv := (inO_VS hN hO hi).1
  have hs := VS_in hN.1 hv
  have hM : M ≤ 5 := hN.1.2.2.1
  obtain ⟨i1, i2, i3, i4⟩ := id hi
  have hz := hN.1.2.2.2.2.2 x1 i1 i2
  have h7 := (hN.2.2.2.1 _ hs.1 hs.2.1).2
  have h2 := (hN.2.1 _ hs.2.2.1 hs.2.2.2.1).1
  refine ⟨⟨i1, i2⟩, ⟨i3, by omega⟩, fun v5 e5 => ⟨⟨by omega, by omega, by omega⟩, fun v8 e8 => ⟨⟨by omega, by omega, by omega⟩, ⟨by omega, by omega⟩, fun q => ⟨⟨by omega, by omega⟩, trivial⟩, fun q => ⟨⟨by omega, by omega⟩, trivial⟩, fun j17 e1 e2 => ?_⟩⟩⟩
  subst e5
  subst e8
  have ej : j17 = jIn σ (σ (t + 1)) (σ (57 + x1) x2) := by
    unfold jIn
    by_cases q : σ (57 + x1) x2 % 10 = 0
    · rw [if_pos q, e2 q]
    · rw [if_neg q, e1 q]; rfl
  have hjb : 0 ≤ j17 ∧ j17 ≤ 10050 := by
    by_cases q : σ (57 + x1) x2 % 10 = 0
    · rw [e2 q]; omega
    · rw [e1 q]
      have := hj q
      have := (hN.2.2.2.1 (σ (57 + x1) x2 - 1) (by omega) (by omega)).2
      unfold f_X2_endOf
      omega
  have tail : ∀ b : Int, 0 ≤ b → b ≤ 20000 → b = bV σ (σ (t + 1)) x1 x2 → (0 ≤ σ (57 + x1) x2 ∧ σ (57 + x1) x2 < 80) ∧ ∀ s24 : Mem, s24 = up σ (t + 1) (σ (57 + x1) x2) b → (0 ≤ σ (57 + x1) x2 ∧ σ (57 + x1) x2 < 80) ∧ ∀ s27 : Mem, s27 = up s24 (t + 3) (σ (57 + x1) x2) x2 → (pre_X2_endOf M t (σ (57 + x1) x2) s27) ∧ (inR (s27 t 1) ∧ inR (f_X2_endOf t (σ (57 + x1) x2) s27)) ∧ ∀ s31 : Mem, s31 = up s27 t 1 (max (s27 t 1) (f_X2_endOf t (σ (57 + x1) x2) s27)) → ∀ s32 : Mem, s32 = up s31 t 6 ((s31 t 6) + 1) → (0 ≤ (s31 t 6) ∧ (s31 t 6) < 48) ∧ ∀ s35 : Mem, s35 = up s32 (t + 4) (s31 t 6) (σ (57 + x1) x2) → (0 ≤ (σ (57 + x1) x2 / 10) ∧ (σ (57 + x1) x2 / 10) < 8) ∧ (0 ≤ (σ (57 + x1) x2 / 10) ∧ (σ (57 + x1) x2 / 10) < 8) ∧ ∀ s40 : Mem, s40 = up s35 (t + 5) (σ (57 + x1) x2 / 10) ((s35 (t + 5) (σ (57 + x1) x2 / 10)) + 1) → (0 ≤ x1 ∧ x1 < 5) ∧ (0 ≤ x1 ∧ x1 < 5) ∧ ∀ s45 : Mem, s45 = up s40 (t + 6) x1 ((s40 (t + 6) x1) + 1) → s45 = m_X2_drawStep t x1 x2 σ := by
    intro b hb0 hb1 hb
    refine ⟨⟨hs.1, hs.2.1⟩, fun s24 e24 => ⟨⟨hs.1, hs.2.1⟩, fun s27 e27 => ?_⟩⟩
    have q1 : s27 t 1 = σ t 1 := by rw [e27, e24]; rcases ht with rfl | rfl <;> simp [up]
    have q2 : f_X2_endOf t (σ (57 + x1) x2) s27 = b + σ 7 (σ (57 + x1) x2) := by
      unfold f_X2_endOf
      rw [e27, e24]
      rcases ht with rfl | rfl <;> simp [up]
    refine ⟨⟨hs.1, hs.2.1⟩, ⟨⟨by omega, by omega⟩, ⟨by omega, by omega⟩⟩, fun s31 e31 s32 e32 => ?_⟩
    have q3 : s31 t 6 = σ t 6 := by rw [e31, e27, e24]; rcases ht with rfl | rfl <;> simp [up]
    refine ⟨⟨by omega, by omega⟩, fun s35 e35 => ⟨⟨by omega, by omega⟩, ⟨by omega, by omega⟩, fun s40 e40 => ⟨⟨by omega, by omega⟩, ⟨by omega, by omega⟩, fun s45 e45 => ?_⟩⟩⟩
    have q4 : s35 (t + 5) (σ (57 + x1) x2 / 10) = σ (t + 5) (σ (57 + x1) x2 / 10) := by rw [e35, e32, e31, e27, e24]; rcases ht with rfl | rfl <;> simp [up]
    have q5 : s40 (t + 6) x1 = σ (t + 6) x1 := by rw [e40, e35, e32, e31, e27, e24]; rcases ht with rfl | rfl <;> simp [up]
    unfold m_X2_drawStep
    rw [e45, q5, e40, q4, e35, e32, q3, e31, q1, q2, e27, e24, hb]
  refine ⟨⟨by omega, by omega⟩, fun q => tail j17 (by omega) (by omega) ?_, fun q => ⟨⟨i1, i2⟩, ⟨by omega, by omega⟩, fun v50 e50 => ?_⟩⟩
  · rw [ej]; unfold bV; rw [if_neg (by omega)]
  · subst e50
    have hvp := (inO_VS hN hO (m := x1) (i := x2 - 1) ⟨i1, i2, by omega, by omega⟩).1
    have hsp := VS_in hN.1 hvp
    have h7p := (hN.2.2.2.1 _ hsp.1 hsp.2.1).2
    have hpp := hp q
    refine ⟨⟨hsp.1, by omega, by omega⟩, ⟨i1, i2, by omega, by omega, by omega, by omega⟩, fun v54 e54 => ?_⟩
    have h54 : 0 ≤ v54 ∧ v54 ≤ 50 := by
      rw [e54]
      exact hN.2.2.2.2.1 _ (by omega) (by omega)
    have hf : f_X2_endOf t (σ (57 + x1) (x2 - 1)) σ = σ (t + 1) (σ (57 + x1) (x2 - 1)) + σ 7 (σ (57 + x1) (x2 - 1)) := rfl
    refine ⟨⟨hsp.1, hsp.2.1⟩, ⟨⟨by omega, by omega⟩, ⟨by omega, by omega⟩⟩, fun v58 e58 => tail v58 (by omega) (by omega) ?_⟩
    rw [e58, ej, e54]
    unfold bV
    rw [if_pos q]
    rfl
theorem c_X2_drawStep {G : GG} (hG : GI G) (l : Launch) (t : Int) (x1 : Int) (x2 : Int) (σ : Mem) (ht : t = 12 ∨ t = 19) (h : pre_X2_drawStep (gM G) t x1 x2 σ) : CtV G l yX2_drawStep cX2_drawStep 8 none 1 [pR t, pI x1, pI x2] σ (fun σ' => σ' = m_X2_drawStep t x1 x2 σ) := by
  refine CtV.of hG (by decide) (Nat.le_of_ble_eq_true rfl) (fun X hl C => ?_)
  show RW G X 8 (QV G X _) 0 [(0, pR t), (1, pI x1), (2, pI x2)] [] σ
  exact seg_X2_drawStep_0 C ht x1 x2 σ (ok_X2_drawStep_0 ht h)
