/-! the reference fills its orders -/
def RFl (M : Nat) (f τ : Mem) : Prop := RM M f τ ∧ (∀ j : Int, 0 ≤ j → j < 8 → τ 49 j = f 27 j) ∧ (∀ j : Int, 0 ≤ j → j < 8 → 0 < f 27 j → τ 48 (6 * j + f 27 j - 1) = f 28 j) ∧ (∀ m : Int, 0 ≤ m → m < M → 0 < f 10 m → τ 48 (pl (f (57 + m) (f 10 m - 1))) = f 29 m)
theorem nxt_pl {M : Nat} {f : Mem} {n : Int} (h : FI M f n) {j : Int} (hj : hN f j) : pl (nxt f j) = 6 * j + f 27 j := by
  have := hN_in h hj
  unfold pl
  omega
theorem RFl_step {M : Nat} {f τ τ' : Mem} {n j : Int} (h : FI M f n) (r : RFl M f τ) (hj : hN f j) (c0 : ∀ c : Int, c ≠ 44 → c ≠ 46 → c ≠ 47 → c ≠ 48 → c ≠ 49 → τ' c = τ c)
    (c48 : ∀ k, τ' 48 k = if k = pl (nxt f j) then enF f j else τ 48 k) (c47 : ∀ k, τ' 47 k = if k = 48 * f 6 (nxt f j) + f 10 (f 6 (nxt f j)) then pl (nxt f j) else τ 47 k) (c46 : ∀ k, τ' 46 k = if k = f 6 (nxt f j) then τ 46 k + 1 else τ 46 k) (c44 : ∀ k, τ' 44 k = if k = pl (nxt f j) then 1 else τ 44 k) (c49 : ∀ k, τ' 49 k = if k = j then τ 49 k + 1 else τ 49 k) : RFl M (apF f j) τ' := by
  have hi := hN_in h hj
  have hpl := nxt_pl h hj
  obtain ⟨hW, h1, h2, h3, h4, h5, h6⟩ := id h
  obtain ⟨i1, i2, i3, i4, i5, i6, i7, i8, i9, i10⟩ := hi
  obtain ⟨ac, a27, a28, a29⟩ := apF_acc f j i9.1
  obtain ⟨af, a1, a8, a10, ar, -⟩ := ins_acc (nxt f j) (f 10 (f 6 (nxt f j))) f i9.1
  have hz := hW.1.1.2.2.2.2.2 _ i9.1 i9.2
  have hlt := size_lt hW i3 i8 i9.1 i9.2
  have hp := pl_in hW.1.1 i3
  obtain ⟨⟨r1, r2, r3, r4, r5, r6, r7⟩, g1, g2, g3⟩ := r
  have e : ∀ c : Int, 2 ≤ c ∧ c ≤ 7 ∨ c = 11 → apF f j c = f c := fun c hc => by rw [ac c (by omega) (by omega) (by omega), af c (by omega)]
  have e8 : ∀ x, apF f j 8 x = if x = nxt f j then 1 else f 8 x := fun x => by rw [ac 8 (by omega) (by omega) (by omega), a8]
  have e10 : ∀ x, apF f j 10 x = if x = f 6 (nxt f j) then f 10 x + 1 else f 10 x := fun x => by rw [ac 10 (by omega) (by omega) (by omega), a10]
  have er : ∀ m i : Int, 0 ≤ m → apF f j (57 + m) i = if m = f 6 (nxt f j) then (if i = f 10 (f 6 (nxt f j)) then nxt f j else if f 10 (f 6 (nxt f j)) < i ∧ i ≤ f 10 m then f (57 + m) (i - 1) else f (57 + m) i) else f (57 + m) i := fun m i hm => by rw [ac (57 + m) (by omega) (by omega) (by omega), ar m i hm]
  generalize hm' : f 6 (nxt f j) = m at *
  refine ⟨⟨?_, ?_, fun x x0 x1 => ?_, fun k k0 k1 => ?_, fun i q0 q1 => ?_, fun x x0 x1 => ?_, fun x i hx => ?_⟩, fun x x0 x1 => ?_, fun x x0 x1 x2 => ?_, fun x x0 x1 x2 => ?_⟩
  · rw [c0 37 (by omega) (by omega) (by omega) (by omega) (by omega)]; exact r1
  · rw [c0 37 (by omega) (by omega) (by omega) (by omega) (by omega), ac 1 (by omega) (by omega) (by omega), a1]; simpa using r2
  · rw [c0 38 (by omega) (by omega) (by omega) (by omega) (by omega), c0 39 (by omega) (by omega) (by omega) (by omega) (by omega), c0 40 (by omega) (by omega) (by omega) (by omega) (by omega), c0 41 (by omega) (by omega) (by omega) (by omega) (by omega), e 2 (by omega), e 3 (by omega), e 4 (by omega), e 5 (by omega)]
    exact r3 x x0 x1
  · rw [c0 42 (by omega) (by omega) (by omega) (by omega) (by omega), c0 43 (by omega) (by omega) (by omega) (by omega) (by omega), e 6 (by omega), e 7 (by omega), c44, e8]
    have q := r4 k k0 k1
    refine ⟨q.1, q.2.1, ?_⟩
    by_cases z : k = pl (nxt f j)
    · rw [if_pos z, if_pos (by rw [z]; exact hp.2.2.1)]
    · rw [if_neg z, if_neg (fun w => z (by rw [← w, pl_tl k0]))]; exact q.2.2
  · rw [c0 45 (by omega) (by omega) (by omega) (by omega) (by omega), e 11 (by omega)]
    exact r5 i q0 q1
  · rw [c46, e10]
    have q := r6 x x0 x1
    split <;> omega
  · obtain ⟨x0, x1, x2, x3⟩ := hx
    rw [e10] at x3
    have hzx := hW.1.1.2.2.2.2.2 x x0 x1
    rw [c47, er x i x0]
    by_cases z : x = m
    · subst z
      rw [if_pos rfl] at x3 ⊢
      by_cases y : i = f 10 x
      · rw [if_pos (by omega), if_pos y]
      · rw [if_neg (by omega), if_neg y, if_neg (by omega)]
        exact r7 x i ⟨x0, x1, x2, by omega⟩
    · rw [if_neg z] at x3 ⊢
      rw [if_neg (by omega)]
      exact r7 x i ⟨x0, x1, x2, x3⟩
  · rw [c49, a27, g1 x x0 x1]
  · rw [a27] at x2 ⊢
    rw [c48, a28, hpl]
    by_cases z : x = j
    · subst z
      rw [if_pos rfl, if_pos (by omega), if_pos rfl]
    · rw [if_neg z] at x2 ⊢
      have := h1 x x0 x1
      have := hW.1.1.2.2.2.2.1 x x0 x1
      rw [if_neg (by omega), if_neg z]
      exact g2 x x0 x1 x2
  · rw [e10] at x2 ⊢
    rw [c48, a29, er x _ x0]
    by_cases z : x = m
    · subst z
      simp only [if_true, show f 10 x + 1 - 1 = f 10 x by omega]
    · rw [if_neg z] at x2 ⊢
      have hx : inO M f x (f 10 x - 1) := ⟨x0, x1, by omega, by omega⟩
      have v := inO_VS hW.1 hW.2.1 hx
      rw [if_neg z, if_neg z, if_neg (fun w => z (by rw [← v.2, pl_inj hW.1.1 v.1 i3 w, hm']))]
      exact g3 x x0 x1 x2
/-- the reference's begin of the next step of a job -/
def mB (j : Int) (σ : Mem) : Int := σ 42 (6 * j + σ 49 j)
def tB (j : Int) (σ : Mem) : Int := if σ 49 j = 0 then σ 38 j else σ 48 (6 * j + σ 49 j - 1)
def lB (j : Int) (σ : Mem) : Int := σ 47 (48 * mB j σ + σ 46 (mB j σ) - 1)
def eB (j : Int) (σ : Mem) : Int := σ 48 (lB j σ) + σ 45 (64 * mB j σ + 8 * (lB j σ / 6) + j)

/-! X5_beginOfNext -/
def f_X5_beginOfNext (x1 : Int) (σ : Mem) : Int := if σ 46 (mB x1 σ) ≤ 0 then tB x1 σ else max (tB x1 σ) (eB x1 σ)
def pre_X5_beginOfNext (M : Nat) (x1 : Int) (σ : Mem) : Prop := (0 ≤ x1 ∧ x1 < 8) ∧ (0 ≤ σ 49 x1 ∧ σ 49 x1 < 6) ∧ (0 ≤ mB x1 σ ∧ mB x1 σ < 5) ∧ (0 ≤ σ 46 (mB x1 σ) ∧ σ 46 (mB x1 σ) ≤ 48) ∧ (0 ≤ tB x1 σ ∧ tB x1 σ ≤ 20000) ∧ (0 < σ 46 (mB x1 σ) → (0 ≤ lB x1 σ ∧ lB x1 σ < 48) ∧ (0 ≤ eB x1 σ ∧ eB x1 σ ≤ 20000))
theorem bon_r {M : Nat} {f τ : Mem} {n j : Int} (h : FI M f n) (r : RFl M f τ) (hj : hN f j) : f_X5_beginOfNext j τ = bgF f j ∧ pre_X5_beginOfNext M j τ ∧ (0 ≤ bgF f j ∧ bgF f j ≤ 20000) ∧ τ 42 (6 * j + τ 49 j) = f 6 (nxt f j) ∧ τ 43 (6 * j + τ 49 j) = f 7 (nxt f j) ∧ 6 * j + τ 49 j = pl (nxt f j) ∧ (0 ≤ f 7 (nxt f j) ∧ f 7 (nxt f j) ≤ 50) ∧ (0 ≤ pl (nxt f j) ∧ pl (nxt f j) < 48) ∧ (0 ≤ f 6 (nxt f j) ∧ f 6 (nxt f j) < 5) := by
  have hi := hN_in h hj
  have hpl := nxt_pl h hj
  have hbg := bgF_in h hj
  have hn := FI_n h
  obtain ⟨hW, h1, h2, h3, h4, h5, h6⟩ := id h
  obtain ⟨i1, i2, i3, i4, i5, i6, i7, i8, i9, i10⟩ := hi
  obtain ⟨hR, g1, g2, g3⟩ := r
  have hM : M ≤ 5 := hW.1.1.2.2.1
  have hp := pl_in hW.1.1 i3
  have hat := at_pl hW hR i3
  have e49 := g1 j i1 i2
  have ek : 6 * j + τ 49 j = pl (nxt f j) := by rw [e49, hpl]
  have em : mB j τ = f 6 (nxt f j) := by unfold mB; rw [ek]; exact hat.1
  have hz := hW.1.1.2.2.2.2.2 _ i9.1 i9.2
  have e46 : τ 46 (mB j τ) = f 10 (f 6 (nxt f j)) := by rw [em]; exact hR.2.2.2.2.2.1 _ i9.1 i9.2
  have et : tB j τ = f 28 j := by
    unfold tB
    rw [e49]
    by_cases q : f 27 j = 0
    · rw [if_pos q, (hR.2.2.1 j i1 i2).1, h5 j i1 i2 q]
    · rw [if_neg q]; exact g2 j i1 i2 (by omega)
  have b28 := h3 j i1 i2
  have b29 := h4 (f 6 (nxt f j)) i9.1 (by omega)
  have hl : 0 < f 10 (f 6 (nxt f j)) → lB j τ = pl (f (57 + f 6 (nxt f j)) (f 10 (f 6 (nxt f j)) - 1)) ∧ (0 ≤ lB j τ ∧ lB j τ < 48) ∧ eB j τ = rdF f (f 6 (nxt f j)) j ∧ (0 ≤ eB j τ ∧ eB j τ ≤ 20000) := fun q => by
    have ho : inO M f (f 6 (nxt f j)) (f 10 (f 6 (nxt f j)) - 1) := ⟨i9.1, i9.2, by omega, by omega⟩
    have v := inO_VS hW.1 hW.2.1 ho
    have hpv := pl_in hW.1.1 v.1
    have hbv := VS_in hW.1.1 v.1
    have el : lB j τ = pl (f (57 + f 6 (nxt f j)) (f 10 (f 6 (nxt f j)) - 1)) := by
      unfold lB
      rw [e46, em, ← hR.2.2.2.2.2.2 _ _ ho]
      congr 1
      omega
    have h11 := hW.1.2.2.2.2.1 ((f 6 (nxt f j) * 8 + f (57 + f 6 (nxt f j)) (f 10 (f 6 (nxt f j)) - 1) / 10) * 8 + j) (by omega) (by omega)
    have ee : eB j τ = rdF f (f 6 (nxt f j)) j := by
      unfold eB rdF
      rw [if_neg (by omega), el, em, g3 _ i9.1 i9.2 q, hpv.2.2.2.1]
      rw [show 64 * f 6 (nxt f j) + 8 * (f (57 + f 6 (nxt f j)) (f 10 (f 6 (nxt f j)) - 1) / 10) + j = (f 6 (nxt f j) * 8 + f (57 + f 6 (nxt f j)) (f 10 (f 6 (nxt f j)) - 1) / 10) * 8 + j by omega]
      rw [hR.2.2.2.2.1 _ (by omega) (by omega)]
    refine ⟨el, by rw [el]; exact ⟨hpv.1, hpv.2.1⟩, ee, ?_⟩
    rw [ee]
    unfold rdF
    rw [if_neg (by omega)]
    omega
  refine ⟨?_, ⟨⟨i1, i2⟩, by omega, by omega, by omega, by omega, fun q => ?_⟩, by omega, by rw [ek]; exact hat.1, by rw [ek]; exact hat.2.1, ek, i10, ⟨hp.1, hp.2.1⟩, ⟨i9.1, by omega⟩⟩
  · unfold f_X5_beginOfNext bgF
    rw [e46, et]
    by_cases q : 0 < f 10 (f 6 (nxt f j))
    · rw [if_neg (by omega), (hl q).2.2.1]
    · rw [if_pos (by omega)]
      unfold rdF
      rw [if_pos (by omega)]
      omega
  · rw [e46] at q
    exact ⟨(hl q).2.1, (hl q).2.2.2⟩
def VC_X5_beginOfNext_0 (M : Nat) (post : Int → Mem → Prop) (x1 : Int) (σ : Mem) : Prop :=
 (0 ≤ x1 ∧ x1 < 8) ∧ ∀ v3 : Int, v3 = (6 * x1) + (σ 49 x1) → (0 ≤ v3 ∧ v3 < 48) ∧ ∀ v6 : Int, v6 = σ 42 v3 → (0 ≤ x1 ∧ x1 < 8) ∧ (inR (σ 49 x1)) ∧ ((¬ (σ 49 x1) = 0 → (0 ≤ (v3 - 1) ∧ (v3 - 1) < 48) ∧ True) ∧ ((σ 49 x1) = 0 → (0 ≤ x1 ∧ x1 < 8) ∧ True) ∧ ∀ j16 : Int, (¬ (σ 49 x1) = 0 → j16 = σ 48 (v3 - 1)) → ((σ 49 x1) = 0 → j16 = σ 38 x1) → (0 ≤ v6 ∧ v6 < 5) ∧ (inR (σ 46 v6)) ∧ (((σ 46 v6) ≤ 0 → post j16 σ) ∧ (0 < (σ 46 v6) → (0 ≤ v6 ∧ v6 < 5) ∧ (0 ≤ (((48 * v6) + (σ 46 v6)) - 1) ∧ (((48 * v6) + (σ 46 v6)) - 1) < 240) ∧ ∀ v27 : Int, v27 = σ 47 (((48 * v6) + (σ 46 v6)) - 1) → (0 ≤ v27 ∧ v27 < 48) ∧ (0 ≤ v27 ∧ inR v27) ∧ (0 ≤ (((64 * v6) + (8 * (v27 / 6))) + x1) ∧ (((64 * v6) + (8 * (v27 / 6))) + x1) < 320) ∧ ∀ v34 : Int, v34 = (σ 48 v27) + (σ 45 (((64 * v6) + (8 * (v27 / 6))) + x1)) → (inR v34 ∧ inR j16) ∧ ((v34 ≤ j16 → True) ∧ (j16 < v34 → True) ∧ ∀ j39 : Int, (v34 ≤ j16 → j39 = j16) → (j16 < v34 → j39 = v34) → post j39 σ))))
set_option maxRecDepth 20000 in
set_option maxHeartbeats 4000000 in
theorem seg_X5_beginOfNext_0 {G : GG} {X : XX} {post : Int → Mem → Prop} (C : CX G X cX5_beginOfNext RX5 7 (some .int) 0)   (x1 : Int) (σ : Mem) (vc : VC_X5_beginOfNext_0 (gM G)  post  x1 σ) : RW G X 7 (QI G X post) 0 [(0, pR 37), (1, pI x1)] [] σ := by
  unfold VC_X5_beginOfNext_0 at vc
  refine w_bipush C dX5_beginOfNext_0 (by decide) ?_
  refine w_iload_n C 1 dX5_beginOfNext_2 rfl ?_
  refine w_imul C dX5_beginOfNext_3 ?_
  refine w_aload_n C 0 dX5_beginOfNext_4 rfl ?_
  refine w_getR C dX5_beginOfNext_5 gf_X5_44 ob_37 rfl ?_
  refine w_iload_n C 1 dX5_beginOfNext_8 rfl ?_
  obtain ⟨⟨sc1, sc2⟩, vc⟩ := vc
  refine w_iald C dX5_beginOfNext_9 ia_49 sc1 sc2 ?_
  refine w_iadd C dX5_beginOfNext_10 ?_
  refine w_top (fun v3 hv3 => ?_)
  have vc := vc v3 hv3
  refine w_istore_n C [(2, pI v3), (0, pR 37), (1, pI x1)] dX5_beginOfNext_11 (by decide) rfl ?_
  refine w_aload_n C 1 dX5_beginOfNext_12 rfl ?_
  refine w_getR C dX5_beginOfNext_13 gf_X5_22 ob_37 rfl ?_
  refine w_iload_n C 0 dX5_beginOfNext_16 rfl ?_
  obtain ⟨⟨sc4, sc5⟩, vc⟩ := vc
  refine w_iald C dX5_beginOfNext_17 ia_42 sc4 sc5 ?_
  refine w_top (fun v6 hv6 => ?_)
  have vc := vc v6 hv6
  refine w_istore_n C [(3, pI v6), (2, pI v3), (0, pR 37), (1, pI x1)] dX5_beginOfNext_18 (by decide) rfl ?_
  refine w_aload_n C 2 dX5_beginOfNext_19 rfl ?_
  refine w_getR C dX5_beginOfNext_20 gf_X5_44 ob_37 rfl ?_
  refine w_iload_n C 3 dX5_beginOfNext_23 rfl ?_
  obtain ⟨⟨sc7, sc8⟩, vc⟩ := vc
  refine w_iald C dX5_beginOfNext_24 ia_49 sc7 sc8 ?_
  obtain ⟨sc9, vc⟩ := vc
  have key11 : ∀ j16 : Int, (¬ (σ 49 x1) = 0 → j16 = σ 48 (v3 - 1)) → ((σ 49 x1) = 0 → j16 = σ 38 x1) → RW G X 7 (QI G X post) 45 [(3, pI v6), (2, pI v3), (0, pR 37), (1, pI x1)] [pI j16] σ := by
    intro j16 hj17 hj18
    have vc := vc.2.2 j16 hj17 hj18
    refine w_istore C [(4, pI j16), (3, pI v6), (2, pI v3), (0, pR 37), (1, pI x1)] dX5_beginOfNext_45 (by decide) rfl ?_
    refine w_aload_n C 3 dX5_beginOfNext_47 rfl ?_
    refine w_getR C dX5_beginOfNext_48 gf_X5_35 ob_37 rfl ?_
    refine w_iload_n C 1 dX5_beginOfNext_51 rfl ?_
    obtain ⟨⟨sc19, sc20⟩, vc⟩ := vc
    refine w_iald C dX5_beginOfNext_52 ia_46 sc19 sc20 ?_
    obtain ⟨sc21, vc⟩ := vc
    refine w_if_le C 122 dX5_beginOfNext_53 (by decide) sc21 (fun h22 => ?_) (fun h22 => ?_)
    · have vc := vc.1 h22
      refine w_iload C 0 dX5_beginOfNext_122 rfl ?_
      exact w_ireturn C dX5_beginOfNext_124 vc
    · have vc := vc.2 h22
      refine w_aload_n C 3 dX5_beginOfNext_56 rfl ?_
      refine w_getR C dX5_beginOfNext_57 gf_X5_38 ob_37 rfl ?_
      refine w_bipush C dX5_beginOfNext_60 (by decide) ?_
      refine w_iload_n C 1 dX5_beginOfNext_62 rfl ?_
      refine w_imul C dX5_beginOfNext_63 ?_
      refine w_aload_n C 3 dX5_beginOfNext_64 rfl ?_
      refine w_getR C dX5_beginOfNext_65 gf_X5_35 ob_37 rfl ?_
      refine w_iload_n C 1 dX5_beginOfNext_68 rfl ?_
      obtain ⟨⟨sc23, sc24⟩, vc⟩ := vc
      refine w_iald C dX5_beginOfNext_69 ia_46 sc23 sc24 ?_
      refine w_iadd C dX5_beginOfNext_70 ?_
      refine w_iconst C dX5_beginOfNext_71 ?_
      refine w_isub C dX5_beginOfNext_72 ?_
      obtain ⟨⟨sc25, sc26⟩, vc⟩ := vc
      refine w_iald C dX5_beginOfNext_73 ia_47 sc25 sc26 ?_
      refine w_top (fun v27 hv27 => ?_)
      have vc := vc v27 hv27
      refine w_istore C [(5, pI v27), (4, pI j16), (3, pI v6), (2, pI v3), (0, pR 37), (1, pI x1)] dX5_beginOfNext_74 (by decide) rfl ?_
      refine w_aload_n C 4 dX5_beginOfNext_76 rfl ?_
      refine w_getR C dX5_beginOfNext_77 gf_X5_41 ob_37 rfl ?_
      refine w_iload C 0 dX5_beginOfNext_80 rfl ?_
      obtain ⟨⟨sc28, sc29⟩, vc⟩ := vc
      refine w_iald C dX5_beginOfNext_82 ia_48 sc28 sc29 ?_
      refine w_aload_n C 4 dX5_beginOfNext_83 rfl ?_
      refine w_getR C dX5_beginOfNext_84 gf_X5_32 ob_37 rfl ?_
      refine w_bipush C dX5_beginOfNext_87 (by decide) ?_
      refine w_iload_n C 2 dX5_beginOfNext_89 rfl ?_
      refine w_imul C dX5_beginOfNext_90 ?_
      refine w_bipush C dX5_beginOfNext_91 (by decide) ?_
      refine w_iload C 0 dX5_beginOfNext_93 rfl ?_
      refine w_bipush C dX5_beginOfNext_95 (by decide) ?_
      obtain ⟨⟨sc30, sc31⟩, vc⟩ := vc
      refine w_idivN C dX5_beginOfNext_97 sc30 sc31 ⟨by omega, by omega⟩ (by omega) ?_
      refine w_imul C dX5_beginOfNext_98 ?_
      refine w_iadd C dX5_beginOfNext_99 ?_
      refine w_iload_n C 5 dX5_beginOfNext_100 rfl ?_
      refine w_iadd C dX5_beginOfNext_101 ?_
      obtain ⟨⟨sc32, sc33⟩, vc⟩ := vc
      refine w_iald C dX5_beginOfNext_102 ia_45 sc32 sc33 ?_
      refine w_iadd C dX5_beginOfNext_103 ?_
      refine w_top (fun v34 hv34 => ?_)
      have vc := vc v34 hv34
      refine w_istore C [(6, pI v34), (5, pI v27), (4, pI j16), (3, pI v6), (2, pI v3), (0, pR 37), (1, pI x1)] dX5_beginOfNext_104 (by decide) rfl ?_
      refine w_iload C 0 dX5_beginOfNext_106 rfl ?_
      refine w_iload C 2 dX5_beginOfNext_108 rfl ?_
      obtain ⟨⟨sc35, sc36⟩, vc⟩ := vc
      have key38 : ∀ j39 : Int, (v34 ≤ j16 → j39 = j16) → (j16 < v34 → j39 = v34) → RW G X 7 (QI G X post) 120 [(6, pI v34), (5, pI v27), (4, pI j16), (3, pI v6), (2, pI v3), (0, pR 37), (1, pI x1)] [pI j39] σ := by
        intro j39 hj40 hj41
        have vc := vc.2.2 j39 hj40 hj41
        refine w_istore C [(4, pI j39), (6, pI v34), (5, pI v27), (3, pI v6), (2, pI v3), (0, pR 37), (1, pI x1)] dX5_beginOfNext_120 (by decide) rfl ?_
        refine w_iload C 0 dX5_beginOfNext_122 rfl ?_
        exact w_ireturn C dX5_beginOfNext_124 vc
      refine w_icmp_le C 118 dX5_beginOfNext_110 (by decide) sc35 sc36 (fun h37 => ?_) (fun h37 => ?_)
      · have vc := vc.1 h37
        refine w_iload C 2 dX5_beginOfNext_118 rfl ?_
        exact key38 _ (by intros; first | rfl | omega | (exfalso; omega) | contradiction) (by intros; first | rfl | omega | (exfalso; omega) | contradiction)
      · have vc := vc.2.1 h37
        refine w_iload C 0 dX5_beginOfNext_113 rfl ?_
        refine w_goto C 120 dX5_beginOfNext_115 (by decide) ?_
        exact key38 _ (by intros; first | rfl | omega | (exfalso; omega) | contradiction) (by intros; first | rfl | omega | (exfalso; omega) | contradiction)
  refine w_if_ne C 37 dX5_beginOfNext_25 (by decide) sc9 (fun h10 => ?_) (fun h10 => ?_)
  · have vc := vc.1 h10
    refine w_aload_n C 2 dX5_beginOfNext_37 rfl ?_
    refine w_getR C dX5_beginOfNext_38 gf_X5_41 ob_37 rfl ?_
    refine w_iload_n C 1 dX5_beginOfNext_41 rfl ?_
    refine w_iconst C dX5_beginOfNext_42 ?_
    refine w_isub C dX5_beginOfNext_43 ?_
    obtain ⟨⟨sc12, sc13⟩, vc⟩ := vc
    refine w_iald C dX5_beginOfNext_44 ia_48 sc12 sc13 ?_
    exact key11 _ (by intros; first | rfl | omega | (exfalso; omega) | contradiction) (by intros; first | rfl | omega | (exfalso; omega) | contradiction)
  · have vc := vc.2.1 h10
    refine w_aload_n C 2 dX5_beginOfNext_28 rfl ?_
    refine w_getR C dX5_beginOfNext_29 gf_X5_7 ob_37 rfl ?_
    refine w_iload_n C 3 dX5_beginOfNext_32 rfl ?_
    obtain ⟨⟨sc14, sc15⟩, vc⟩ := vc
    refine w_iald C dX5_beginOfNext_33 ia_38 sc14 sc15 ?_
    refine w_goto C 45 dX5_beginOfNext_34 (by decide) ?_
    exact key11 _ (by intros; first | rfl | omega | (exfalso; omega) | contradiction) (by intros; first | rfl | omega | (exfalso; omega) | contradiction)
set_option maxHeartbeats 1000000 in
theorem ok_X5_beginOfNext_0 {M : Nat} {x1 : Int} {σ : Mem} (h : pre_X5_beginOfNext M x1 σ) : VC_X5_beginOfNext_0 M (fun z σ' => z = f_X5_beginOfNext x1 σ ∧ σ' = σ) x1 σ := by
  obtain ⟨a1, a2, a3, a4, a5, a6⟩ := h
  refine ⟨a1, fun v3 e3 => ⟨⟨by omega, by omega⟩, fun v6 e6 => ?_⟩⟩
  subst e3
  have e6' : v6 = mB x1 σ := e6
  subst e6'
  refine ⟨a1, ⟨by omega, by omega⟩, fun q => ⟨⟨by omega, by omega⟩, trivial⟩, fun q => ⟨a1, trivial⟩, fun j16 q1 q2 => ?_⟩
  have et : j16 = tB x1 σ := by
    unfold tB
    by_cases q : σ 49 x1 = 0
    · rw [if_pos q, q2 q]
    · rw [if_neg q, q1 q]
  subst et
  refine ⟨a3, ⟨by omega, by omega⟩, fun g => ⟨?_, rfl⟩, fun g => ⟨a3, ⟨by omega, by omega⟩, fun v27 e27 => ?_⟩⟩
  · unfold f_X5_beginOfNext; rw [if_pos g]
  · have e27' : v27 = lB x1 σ := e27
    subst e27'
    obtain ⟨b1, b2⟩ := a6 g
    refine ⟨b1, ⟨b1.1, ⟨by omega, by omega⟩⟩, ⟨by omega, by omega⟩, fun v34 e34 => ?_⟩
    have e34' : v34 = eB x1 σ := e34
    subst e34'
    refine ⟨⟨⟨by omega, by omega⟩, ⟨by omega, by omega⟩⟩, fun _ => trivial, fun _ => trivial, fun j39 k1 k2 => ⟨?_, rfl⟩⟩
    unfold f_X5_beginOfNext
    rw [if_neg (by omega)]
    by_cases c : eB x1 σ ≤ tB x1 σ
    · rw [k1 c]; omega
    · rw [k2 (by omega)]; omega
theorem c_X5_beginOfNext {G : GG} (hG : GI G) (l : Launch) (x1 : Int) (σ : Mem) (h : pre_X5_beginOfNext (gM G) x1 σ) : CtI G l yX5_beginOfNext cX5_beginOfNext 7 (some .int) 0 [pR 37, pI x1] σ (fun z σ' => z = f_X5_beginOfNext x1 σ ∧ σ' = σ) := by
  refine CtI.of hG (by decide) (Nat.le_of_ble_eq_true rfl) (fun X hl C => ?_)
  show RW G X 7 (QI G X _) 0 [(0, pR 37), (1, pI x1)] [] σ
  exact seg_X5_beginOfNext_0 C x1 σ (ok_X5_beginOfNext_0 h)

/-! X5_fill -/
def pre_X5_fill (M : Nat) (x1 : Int) (σ : Mem) : Prop := RP M σ ∧ inR x1
def post_X5_fill (M : Nat) (x1 : Int) (σ : Mem) (z : Int) (σ' : Mem) : Prop := FM σ σ' ∧ ∃ a', R_fill (gh σ) x1 z a' ∧ RM M a' σ'
def FS0 (σ τ : Mem) : Prop := (∀ c : Int, c ≠ 37 → c ≠ 44 → c ≠ 46 → c ≠ 49 → τ c = σ c) ∧ ∀ i : Int, i ≠ 0 → τ 37 i = σ 37 i
def inv_X5_fill_21 (M : Nat) (x1 : Int) (σ : Mem) (w2 w3 : Int) (τ : Mem) : Prop := FS0 σ τ ∧ wi x1 0 3 ∧ w2 = 0 ∧ 0 ≤ w3 ∧ w3 ≤ 5 ∧ ∀ i, 0 ≤ i → i < w3 → τ 46 i = 0
def mu_X5_fill_21 (x1 : Int) (w2 w3 : Int) (τ : Mem) : Nat := (300000 + (5 - w3)).toNat
def inv_X5_fill_41 (M : Nat) (x1 : Int) (σ : Mem) (w2 w3 : Int) (τ : Mem) : Prop := FS0 σ τ ∧ wi x1 0 3 ∧ w2 = sumI (gh σ 5) 0 w3 ∧ 0 ≤ w3 ∧ w3 ≤ 8 ∧ (∀ i, 0 ≤ i → i < 5 → τ 46 i = 0) ∧ ∀ i, 0 ≤ i → i < w3 → τ 49 i = 0
def mu_X5_fill_41 (x1 : Int) (w2 w3 : Int) (τ : Mem) : Nat := (200000 + (8 - w3)).toNat
def inv_X5_fill_83 (M : Nat) (x1 : Int) (σ : Mem) (w2 w3 : Int) (τ : Mem) : Prop := FS0 σ τ ∧ wi x1 0 3 ∧ w2 = gh σ 1 2 ∧ 0 ≤ w3 ∧ w3 ≤ 48 ∧ (∀ i, 0 ≤ i → i < 5 → τ 46 i = 0) ∧ (∀ i, 0 ≤ i → i < 8 → τ 49 i = 0) ∧ ∀ i, 0 ≤ i → i < w3 → τ 44 i = 0
def mu_X5_fill_83 (x1 : Int) (w2 w3 : Int) (τ : Mem) : Nat := (100000 + (48 - w3)).toNat
/-- after n rounds -/
def FB (M : Nat) (x1 : Int) (σ : Mem) (w2 w3 : Int) (f τ : Mem) : Prop := FM σ τ ∧ wi x1 0 3 ∧ w2 = gh σ 1 2 ∧ 0 ≤ w3 ∧ w3 ≤ w2 ∧ f = fillN x1 (fill0 (gh σ)) w3.toNat ∧ FI M f w3 ∧ RFl M f τ ∧ f 1 2 = gh σ 1 2
def inv_X5_fill_104 (M : Nat) (x1 : Int) (σ : Mem) (w2 w3 : Int) (τ : Mem) : Prop := ∃ f, FB M x1 σ w2 w3 f τ
def mu_X5_fill_104 (x1 : Int) (w2 w3 : Int) (τ : Mem) : Nat := ((48 - w3) * 1000 + 900).toNat
/-- the first to end, of jobs below u -/
def fsU (f : Mem) (w4 w5 u : Int) : Prop := (w4 = -1 ∧ ∀ i, i < u → ¬ hN f i) ∨ (hN f w4 ∧ w4 < u ∧ w5 = enF f w4 ∧ ∀ i, i < u → hN f i → enF f w4 < enF f i ∨ (enF f w4 = enF f i ∧ w4 ≤ i))
def inv_X5_fill_118 (M : Nat) (x1 : Int) (σ : Mem) (w2 w3 w4 w5 w6 : Int) (τ : Mem) : Prop := ∃ f, FB M x1 σ w2 w3 f τ ∧ w3 < w2 ∧ 0 ≤ w6 ∧ w6 ≤ f 1 1 ∧ fsU f w4 w5 w6
def mu_X5_fill_118 (x1 : Int) (w2 w3 w4 w5 w6 : Int) (τ : Mem) : Nat := ((48 - w3) * 1000 + 500 + (8 - w6)).toNat
def chU (rule : Int) (f : Mem) (j0 w7 w8 u : Int) : Prop := (w7 = -1 ∧ ∀ i, i < u → ¬ rvF f j0 i) ∨ (rvF f j0 w7 ∧ w7 < u ∧ w8 = msF rule f w7 ∧ ∀ i, i < u → rvF f j0 i → msF rule f w7 < msF rule f i ∨ (msF rule f w7 = msF rule f i ∧ w7 ≤ i))
def FC2 (M : Nat) (x1 : Int) (σ : Mem) (w2 w3 w4 w5 w6 w7 w8 w9 : Int) (f τ : Mem) : Prop := FB M x1 σ w2 w3 f τ ∧ w3 < w2 ∧ fsF f w4 ∧ w5 = enF f w4 ∧ w6 = f 6 (nxt f w4) ∧ 0 ≤ w9 ∧ w9 ≤ f 1 1 ∧ chU x1 f w4 w7 w8 w9
def inv_X5_fill_226 (M : Nat) (x1 : Int) (σ : Mem) (w2 w3 w4 w5 w6 w7 w8 w9 : Int) (τ : Mem) : Prop := ∃ f, FC2 M x1 σ w2 w3 w4 w5 w6 w7 w8 w9 f τ
def mu_X5_fill_226 (x1 : Int) (w2 w3 w4 w5 w6 w7 w8 w9 : Int) (τ : Mem) : Nat := ((48 - w3) * 1000 + 100 + 2 * (8 - w9) + 1).toNat
def inv_X5_fill_297 (M : Nat) (x1 : Int) (σ : Mem) (w2 w3 w4 w5 w6 w7 w8 w9 w10 : Int) (τ : Mem) : Prop := ∃ f, FC2 M x1 σ w2 w3 w4 w5 w6 w7 w8 w9 f τ ∧ rvF f w4 w9 ∧ w10 = pl (nxt f w9)
def mu_X5_fill_297 (x1 : Int) (w2 w3 w4 w5 w6 w7 w8 w9 w10 : Int) (τ : Mem) : Nat := ((48 - w3) * 1000 + 100 + 2 * (8 - w9)).toNat
theorem FS0.FM {σ τ : Mem} (h : FS0 σ τ) : FM σ τ := fun c hc => h.1 c (by omega) (by omega) (by omega) (by omega)
theorem RFl_0 {M : Nat} {a σ τ : Mem} (h : WF M a) (r : RM M a σ) (hF : FS0 σ τ) (c1 : ∀ i, 0 ≤ i → i < 5 → τ 46 i = 0) (c2 : ∀ i, 0 ≤ i → i < 8 → τ 49 i = 0) (c3 : ∀ i, 0 ≤ i → i < 48 → τ 44 i = 0) : RFl M (fill0 a) τ := by
  obtain ⟨af, a1, a8, a10, a27, a28, a29, -⟩ := fill0_acc a
  obtain ⟨r1, r2, r3, r4, r5, r6, r7⟩ := r
  obtain ⟨f1, f2⟩ := hF
  have hM : M ≤ 5 := h.1.1.2.2.1
  rw [h.1.1.1] at a10
  refine ⟨⟨?_, ?_, fun x x0 x1 => ?_, fun k k0 k1 => ?_, fun i q0 q1 => ?_, fun x x0 x1 => ?_, fun x i hx => ?_⟩, fun x x0 x1 => ?_, fun x x0 x1 x2 => ?_, fun x x0 x1 x2 => ?_⟩
  · rw [f2 1 (by omega)]; exact r1
  · rw [f2 2 (by omega), a1]; simpa using r2
  · rw [f1 38 (by omega) (by omega) (by omega) (by omega), f1 39 (by omega) (by omega) (by omega) (by omega), f1 40 (by omega) (by omega) (by omega) (by omega), f1 41 (by omega) (by omega) (by omega) (by omega), af 2 (by omega), af 3 (by omega), af 4 (by omega), af 5 (by omega)]
    exact r3 x x0 x1
  · have q := r4 k k0 k1
    rw [f1 42 (by omega) (by omega) (by omega) (by omega), f1 43 (by omega) (by omega) (by omega) (by omega), af 6 (by omega), af 7 (by omega), c3 k k0 k1, a8 _ (by unfold tl; omega) (by unfold tl; omega)]
    exact ⟨q.1, q.2.1, rfl⟩
  · rw [f1 45 (by omega) (by omega) (by omega) (by omega), af 11 (by omega)]; exact r5 i q0 q1
  · rw [c1 x x0 (by omega), a10 x x0 x1]
  · obtain ⟨x0, x1, x2, x3⟩ := hx
    rw [a10 x x0 x1] at x3
    omega
  · rw [c2 x x0 x1, a27 x x0 x1]
  · rw [a27 x x0 x1] at x2; omega
  · rw [a10 x x0 x1] at x2; omega
def VC_X5_fill_0 (M : Nat) (K21 : Int → Int → Mem → Prop) (post : Int → Mem → Prop) (x1 : Int) (σ : Mem) : Prop :=
  ∀ s1 : Mem, s1 = up σ 37 0 0 → (pre_X5_in M x1 0 3 s1) ∧ ((P_X5_in x1 0 3 s1 → K21 0 0 s1) ∧ (¬ P_X5_in x1 0 3 s1 → post (-2) s1))
set_option maxRecDepth 20000 in
set_option maxHeartbeats 4000000 in
theorem seg_X5_fill_0 {G : GG} {X : XX} {post : Int → Mem → Prop} (C : CX G X cX5_fill RX5 12 (some .int) 1)   (x1 : Int) (σ : Mem) (vc : VC_X5_fill_0 (gM G) (fun w2 w3 σ => RW G X 12 (QI G X post) 21 [(0, pR 37), (1, pI x1), (2, pI w2), (3, pI w3)] [] σ) post  x1 σ) : RW G X 12 (QI G X post) 0 [(0, pR 37), (1, pI x1)] [] σ := by
  unfold VC_X5_fill_0 at vc
  refine w_aload_n C 0 dX5_fill_0 rfl ?_
  refine w_iconst C dX5_fill_1 ?_
  refine w_putI C 0 dX5_fill_2 pf_X5_69 ob_37 rfl rfl ?_
  refine w_mem (fun s1 hs1 => ?_)
  have vc := vc s1 hs1
  refine w_iload_n C 1 dX5_fill_5 rfl ?_
  refine w_iconst C dX5_fill_6 ?_
  refine w_iconst C dX5_fill_7 ?_
  obtain ⟨sc2, vc⟩ := vc
  refine w_callSI C [pI x1, pI 0, pI 3] [] rfl dX5_fill_8 (c_X5_in C.gi (xL X) x1 0 3 s1 sc2) mw_X5_in ml_X5_75 ss_X5_in (by decide) (Nat.le_of_ble_eq_true rfl) (fun z σ' hz => ?_)
  obtain ⟨hz2, hz⟩ := hz
  have hz2 := hz2.symm
  subst hz2
  rcases hz with ⟨h3, rfl⟩ | ⟨h3, rfl⟩
  · have vc := vc.1 h3
    refine w_if_ne C 17 dX5_fill_11 (by decide) ⟨by omega, by omega⟩ (fun _ => ?_) (fun q => absurd q (by decide))
    refine w_iconst C dX5_fill_17 ?_
    refine w_istore_n C [(2, pI 0), (0, pR 37), (1, pI x1)] dX5_fill_18 (by decide) rfl ?_
    refine w_iconst C dX5_fill_19 ?_
    refine w_istore_n C [(3, pI 0), (2, pI 0), (0, pR 37), (1, pI x1)] dX5_fill_20 (by decide) rfl ?_
    exact w_sub _ [2, 3, 1, 0] rfl vc
  · have vc := vc.2 h3
    refine w_if_ne C 17 dX5_fill_11 (by decide) ⟨by omega, by omega⟩ (fun q => absurd q (by decide)) (fun _ => ?_)
    refine w_bipush C dX5_fill_14 (by decide) ?_
    exact w_ireturn C dX5_fill_16 vc
def VC_X5_fill_21 (M : Nat) (K21 : Int → Int → Mem → Prop) (K41 : Int → Int → Mem → Prop) (post : Int → Mem → Prop) (x1 : Int) (w2 : Int) (w3 : Int) (σ : Mem) : Prop :=
 (inR w3) ∧ ((5 ≤ w3 → K41 w2 0 σ) ∧ (w3 < 5 → (0 ≤ w3 ∧ w3 < 5) ∧ ∀ s5 : Mem, s5 = up σ 46 w3 0 → K21 w2 (w3 + 1) s5))
set_option maxRecDepth 20000 in
set_option maxHeartbeats 4000000 in
theorem seg_X5_fill_21 {G : GG} {X : XX} {post : Int → Mem → Prop} (C : CX G X cX5_fill RX5 12 (some .int) 1)   (x1 : Int) (w2 : Int) (w3 : Int) (σ : Mem) (vc : VC_X5_fill_21 (gM G) (fun w2 w3 σ => RW G X 12 (QI G X post) 21 [(0, pR 37), (1, pI x1), (2, pI w2), (3, pI w3)] [] σ) (fun w2 w3 σ => RW G X 12 (QI G X post) 41 [(0, pR 37), (1, pI x1), (2, pI w2), (3, pI w3)] [] σ) post  x1 w2 w3 σ) : RW G X 12 (QI G X post) 21 [(0, pR 37), (1, pI x1), (2, pI w2), (3, pI w3)] [] σ := by
  unfold VC_X5_fill_21 at vc
  refine w_iload_n C 3 dX5_fill_21 rfl ?_
  refine w_iconst C dX5_fill_22 ?_
  obtain ⟨sc1, vc⟩ := vc
  refine w_icmp_ge C 39 dX5_fill_23 (by decide) sc1 ⟨by omega, by omega⟩ (fun h2 => ?_) (fun h2 => ?_)
  · have vc := vc.1 h2
    refine w_iconst C dX5_fill_39 ?_
    refine w_istore_n C [(3, pI 0), (0, pR 37), (1, pI x1), (2, pI w2)] dX5_fill_40 (by decide) rfl ?_
    exact w_sub _ [1, 2, 3, 0] rfl vc
  · have vc := vc.2 h2
    refine w_aload_n C 0 dX5_fill_26 rfl ?_
    refine w_getR C dX5_fill_27 gf_X5_35 ob_37 rfl ?_
    refine w_iload_n C 3 dX5_fill_30 rfl ?_
    refine w_iconst C dX5_fill_31 ?_
    obtain ⟨⟨sc3, sc4⟩, vc⟩ := vc
    refine w_iast C dX5_fill_32 ia_46 sc3 sc4 ?_
    refine w_mem (fun s5 hs5 => ?_)
    have vc := vc s5 hs5
    refine w_iinc C 3 [(3, pI (w3 + 1)), (0, pR 37), (1, pI x1), (2, pI w2)] dX5_fill_33 rfl (by decide) rfl ?_
    refine w_goto C 21 dX5_fill_36 (by decide) ?_
    exact w_sub _ [1, 2, 3, 0] rfl vc
def VC_X5_fill_41 (M : Nat) (K41 : Int → Int → Mem → Prop) (K83 : Int → Int → Mem → Prop) (post : Int → Mem → Prop) (x1 : Int) (w2 : Int) (w3 : Int) (σ : Mem) : Prop :=
 (inR w3) ∧ ((8 ≤ w3 → K83 w2 0 σ) ∧ (w3 < 8 → (0 ≤ w3 ∧ w3 < 8) ∧ ∀ s5 : Mem, s5 = up σ 49 w3 0 → (inR w3 ∧ inR (s5 37 2)) ∧ (((s5 37 2) ≤ w3 → True) ∧ (w3 < (s5 37 2) → (0 ≤ w3 ∧ w3 < 8) ∧ True) ∧ ∀ j12 : Int, ((s5 37 2) ≤ w3 → j12 = 0) → (w3 < (s5 37 2) → j12 = s5 41 w3) → ∀ v15 : Int, v15 = w2 + j12 → K41 v15 (w3 + 1) s5)))
set_option maxRecDepth 20000 in
set_option maxHeartbeats 4000000 in
theorem seg_X5_fill_41 {G : GG} {X : XX} {post : Int → Mem → Prop} (C : CX G X cX5_fill RX5 12 (some .int) 1)   (x1 : Int) (w2 : Int) (w3 : Int) (σ : Mem) (vc : VC_X5_fill_41 (gM G) (fun w2 w3 σ => RW G X 12 (QI G X post) 41 [(0, pR 37), (1, pI x1), (2, pI w2), (3, pI w3)] [] σ) (fun w2 w3 σ => RW G X 12 (QI G X post) 83 [(0, pR 37), (1, pI x1), (2, pI w2), (3, pI w3)] [] σ) post  x1 w2 w3 σ) : RW G X 12 (QI G X post) 41 [(0, pR 37), (1, pI x1), (2, pI w2), (3, pI w3)] [] σ := by
  unfold VC_X5_fill_41 at vc
  refine w_iload_n C 3 dX5_fill_41 rfl ?_
  refine w_bipush C dX5_fill_42 (by decide) ?_
  obtain ⟨sc1, vc⟩ := vc
  refine w_icmp_ge C 81 dX5_fill_44 (by decide) sc1 ⟨by omega, by omega⟩ (fun h2 => ?_) (fun h2 => ?_)
  · have vc := vc.1 h2
    refine w_iconst C dX5_fill_81 ?_
    refine w_istore_n C [(3, pI 0), (0, pR 37), (1, pI x1), (2, pI w2)] dX5_fill_82 (by decide) rfl ?_
    exact w_sub _ [1, 2, 3, 0] rfl vc
  · have vc := vc.2 h2
    refine w_aload_n C 0 dX5_fill_47 rfl ?_
    refine w_getR C dX5_fill_48 gf_X5_44 ob_37 rfl ?_
    refine w_iload_n C 3 dX5_fill_51 rfl ?_
    refine w_iconst C dX5_fill_52 ?_
    obtain ⟨⟨sc3, sc4⟩, vc⟩ := vc
    refine w_iast C dX5_fill_53 ia_49 sc3 sc4 ?_
    refine w_mem (fun s5 hs5 => ?_)
    have vc := vc s5 hs5
    refine w_iload_n C 2 dX5_fill_54 rfl ?_
    refine w_iload_n C 3 dX5_fill_55 rfl ?_
    refine w_aload_n C 0 dX5_fill_56 rfl ?_
    refine w_getI C 2 dX5_fill_57 gf_X5_72 ob_37 rfl rfl ?_
    obtain ⟨⟨sc6, sc7⟩, vc⟩ := vc
    have key9 : ∀ j12 : Int, ((s5 37 2) ≤ w3 → j12 = 0) → (w3 < (s5 37 2) → j12 = s5 41 w3) → RW G X 12 (QI G X post) 73 [(0, pR 37), (1, pI x1), (2, pI w2), (3, pI w3)] [pI j12, pI w2] s5 := by
      intro j12 hj13 hj14
      have vc := vc.2.2 j12 hj13 hj14
      refine w_iadd C dX5_fill_73 ?_
      refine w_top (fun v15 hv15 => ?_)
      have vc := vc v15 hv15
      refine w_istore_n C [(2, pI v15), (0, pR 37), (1, pI x1), (3, pI w3)] dX5_fill_74 (by decide) rfl ?_
      refine w_iinc C 3 [(3, pI (w3 + 1)), (2, pI v15), (0, pR 37), (1, pI x1)] dX5_fill_75 rfl (by decide) rfl ?_
      refine w_goto C 41 dX5_fill_78 (by decide) ?_
      exact w_sub _ [2, 3, 1, 0] rfl vc
    refine w_icmp_ge C 72 dX5_fill_60 (by decide) sc6 sc7 (fun h8 => ?_) (fun h8 => ?_)
    · have vc := vc.1 h8
      refine w_iconst C dX5_fill_72 ?_
      exact key9 _ (by intros; first | rfl | omega | (exfalso; omega) | contradiction) (by intros; first | rfl | omega | (exfalso; omega) | contradiction)
    · have vc := vc.2.1 h8
      refine w_aload_n C 0 dX5_fill_63 rfl ?_
      refine w_getR C dX5_fill_64 gf_X5_19 ob_37 rfl ?_
      refine w_iload_n C 3 dX5_fill_67 rfl ?_
      obtain ⟨⟨sc10, sc11⟩, vc⟩ := vc
      refine w_iald C dX5_fill_68 ia_41 sc10 sc11 ?_
      refine w_goto C 73 dX5_fill_69 (by decide) ?_
      exact key9 _ (by intros; first | rfl | omega | (exfalso; omega) | contradiction) (by intros; first | rfl | omega | (exfalso; omega) | contradiction)
def VC_X5_fill_83 (M : Nat) (K83 : Int → Int → Mem → Prop) (K104 : Int → Int → Mem → Prop) (post : Int → Mem → Prop) (x1 : Int) (w2 : Int) (w3 : Int) (σ : Mem) : Prop :=
 (inR w3) ∧ ((48 ≤ w3 → K104 w2 0 σ) ∧ (w3 < 48 → (0 ≤ w3 ∧ w3 < 48) ∧ ∀ s5 : Mem, s5 = up σ 44 w3 0 → K83 w2 (w3 + 1) s5))
set_option maxRecDepth 20000 in
set_option maxHeartbeats 4000000 in
theorem seg_X5_fill_83 {G : GG} {X : XX} {post : Int → Mem → Prop} (C : CX G X cX5_fill RX5 12 (some .int) 1)   (x1 : Int) (w2 : Int) (w3 : Int) (σ : Mem) (vc : VC_X5_fill_83 (gM G) (fun w2 w3 σ => RW G X 12 (QI G X post) 83 [(0, pR 37), (1, pI x1), (2, pI w2), (3, pI w3)] [] σ) (fun w2 w3 σ => RW G X 12 (QI G X post) 104 [(0, pR 37), (1, pI x1), (2, pI w2), (3, pI w3)] [] σ) post  x1 w2 w3 σ) : RW G X 12 (QI G X post) 83 [(0, pR 37), (1, pI x1), (2, pI w2), (3, pI w3)] [] σ := by
  unfold VC_X5_fill_83 at vc
  refine w_iload_n C 3 dX5_fill_83 rfl ?_
  refine w_bipush C dX5_fill_84 (by decide) ?_
  obtain ⟨sc1, vc⟩ := vc
  refine w_icmp_ge C 102 dX5_fill_86 (by decide) sc1 ⟨by omega, by omega⟩ (fun h2 => ?_) (fun h2 => ?_)
  · have vc := vc.1 h2
    refine w_iconst C dX5_fill_102 ?_
    refine w_istore_n C [(3, pI 0), (0, pR 37), (1, pI x1), (2, pI w2)] dX5_fill_103 (by decide) rfl ?_
    exact w_sub _ [1, 2, 3, 0] rfl vc
  · have vc := vc.2 h2
    refine w_aload_n C 0 dX5_fill_89 rfl ?_
    refine w_getR C dX5_fill_90 gf_X5_28 ob_37 rfl ?_
    refine w_iload_n C 3 dX5_fill_93 rfl ?_
    refine w_iconst C dX5_fill_94 ?_
    obtain ⟨⟨sc3, sc4⟩, vc⟩ := vc
    refine w_bast C dX5_fill_95 ba_44 sc3 sc4 (Or.inl rfl) ?_
    refine w_mem (fun s5 hs5 => ?_)
    have vc := vc s5 hs5
    refine w_iinc C 3 [(3, pI (w3 + 1)), (0, pR 37), (1, pI x1), (2, pI w2)] dX5_fill_96 rfl (by decide) rfl ?_
    refine w_goto C 83 dX5_fill_99 (by decide) ?_
    exact w_sub _ [1, 2, 3, 0] rfl vc
def VC_X5_fill_104 (M : Nat) (K118 : Int → Int → Int → Int → Int → Mem → Prop) (post : Int → Mem → Prop) (x1 : Int) (w2 : Int) (w3 : Int) (σ : Mem) : Prop :=
 (inR w3 ∧ inR w2) ∧ ((w2 ≤ w3 → post w2 σ) ∧ (w3 < w2 → K118 w2 w3 (-1) 0 0 σ))
set_option maxRecDepth 20000 in
set_option maxHeartbeats 4000000 in
theorem seg_X5_fill_104 {G : GG} {X : XX} {post : Int → Mem → Prop} (C : CX G X cX5_fill RX5 12 (some .int) 1)   (x1 : Int) (w2 : Int) (w3 : Int) (σ : Mem) (vc : VC_X5_fill_104 (gM G) (fun w2 w3 w4 w5 w6 σ => RW G X 12 (QI G X post) 118 [(0, pR 37), (1, pI x1), (2, pI w2), (3, pI w3), (4, pI w4), (5, pI w5), (6, pI w6)] [] σ) post  x1 w2 w3 σ) : RW G X 12 (QI G X post) 104 [(0, pR 37), (1, pI x1), (2, pI w2), (3, pI w3)] [] σ := by
  unfold VC_X5_fill_104 at vc
  refine w_iload_n C 3 dX5_fill_104 rfl ?_
  refine w_iload_n C 2 dX5_fill_105 rfl ?_
  obtain ⟨⟨sc1, sc2⟩, vc⟩ := vc
  refine w_icmp_ge C 467 dX5_fill_106 (by decide) sc1 sc2 (fun h3 => ?_) (fun h3 => ?_)
  · have vc := vc.1 h3
    refine w_iload_n C 2 dX5_fill_467 rfl ?_
    exact w_ireturn C dX5_fill_468 vc
  · have vc := vc.2 h3
    refine w_iconst C dX5_fill_109 ?_
    refine w_istore C [(4, pI (-1)), (0, pR 37), (1, pI x1), (2, pI w2), (3, pI w3)] dX5_fill_110 (by decide) rfl ?_
    refine w_iconst C dX5_fill_112 ?_
    refine w_istore C [(5, pI 0), (4, pI (-1)), (0, pR 37), (1, pI x1), (2, pI w2), (3, pI w3)] dX5_fill_113 (by decide) rfl ?_
    refine w_iconst C dX5_fill_115 ?_
    refine w_istore C [(6, pI 0), (5, pI 0), (4, pI (-1)), (0, pR 37), (1, pI x1), (2, pI w2), (3, pI w3)] dX5_fill_116 (by decide) rfl ?_
    exact w_sub _ [3, 4, 5, 6, 2, 1, 0] rfl vc
def VC_X5_fill_118 (M : Nat) (K118 : Int → Int → Int → Int → Int → Mem → Prop) (K226 : Int → Int → Int → Int → Int → Int → Int → Int → Mem → Prop) (post : Int → Mem → Prop) (x1 : Int) (w2 : Int) (w3 : Int) (w4 : Int) (w5 : Int) (w6 : Int) (σ : Mem) : Prop :=
 (inR w6 ∧ inR (σ 37 2)) ∧ (((σ 37 2) ≤ w6 → (0 ≤ w4 ∧ w4 < 8) ∧ (0 ≤ ((6 * w4) + (σ 49 w4)) ∧ ((6 * w4) + (σ 49 w4)) < 48) ∧ ∀ v8 : Int, v8 = σ 42 ((6 * w4) + (σ 49 w4)) → K226 w2 w3 w4 w5 v8 (-1) 0 0 σ) ∧ (w6 < (σ 37 2) → (0 ≤ w6 ∧ w6 < 8) ∧ (0 ≤ w6 ∧ w6 < 8) ∧ (inR (σ 49 w6) ∧ inR (σ 41 w6)) ∧ (((σ 41 w6) ≤ (σ 49 w6) → K118 w2 w3 w4 w5 (w6 + 1) σ) ∧ ((σ 49 w6) < (σ 41 w6) → (pre_X5_beginOfNext M w6 σ) ∧ (0 ≤ w6 ∧ w6 < 8) ∧ (0 ≤ ((6 * w6) + (σ 49 w6)) ∧ ((6 * w6) + (σ 49 w6)) < 48) ∧ ∀ v21 : Int, v21 = (f_X5_beginOfNext w6 σ) + (σ 43 ((6 * w6) + (σ 49 w6))) → (inR w4) ∧ ((w4 < 0 → K118 w2 w3 w6 v21 (w6 + 1) σ) ∧ (0 ≤ w4 → (inR v21 ∧ inR w5) ∧ ((w5 ≤ v21 → K118 w2 w3 w4 w5 (w6 + 1) σ) ∧ (v21 < w5 → K118 w2 w3 w6 v21 (w6 + 1) σ))))))))
set_option maxRecDepth 20000 in
set_option maxHeartbeats 4000000 in
theorem seg_X5_fill_118 {G : GG} {X : XX} {post : Int → Mem → Prop} (C : CX G X cX5_fill RX5 12 (some .int) 1)   (x1 : Int) (w2 : Int) (w3 : Int) (w4 : Int) (w5 : Int) (w6 : Int) (σ : Mem) (vc : VC_X5_fill_118 (gM G) (fun w2 w3 w4 w5 w6 σ => RW G X 12 (QI G X post) 118 [(0, pR 37), (1, pI x1), (2, pI w2), (3, pI w3), (4, pI w4), (5, pI w5), (6, pI w6)] [] σ) (fun w2 w3 w4 w5 w6 w7 w8 w9 σ => RW G X 12 (QI G X post) 226 [(0, pR 37), (1, pI x1), (2, pI w2), (3, pI w3), (4, pI w4), (5, pI w5), (6, pI w6), (7, pI w7), (8, pI w8), (9, pI w9)] [] σ) post  x1 w2 w3 w4 w5 w6 σ) : RW G X 12 (QI G X post) 118 [(0, pR 37), (1, pI x1), (2, pI w2), (3, pI w3), (4, pI w4), (5, pI w5), (6, pI w6)] [] σ := by
  unfold VC_X5_fill_118 at vc
  refine w_iload C 6 dX5_fill_118 rfl ?_
  refine w_aload_n C 0 dX5_fill_120 rfl ?_
  refine w_getI C 2 dX5_fill_121 gf_X5_72 ob_37 rfl rfl ?_
  obtain ⟨⟨sc1, sc2⟩, vc⟩ := vc
  refine w_icmp_ge C 197 dX5_fill_124 (by decide) sc1 sc2 (fun h3 => ?_) (fun h3 => ?_)
  · have vc := vc.1 h3
    refine w_aload_n C 0 dX5_fill_197 rfl ?_
    refine w_getR C dX5_fill_198 gf_X5_22 ob_37 rfl ?_
    refine w_bipush C dX5_fill_201 (by decide) ?_
    refine w_iload C 4 dX5_fill_203 rfl ?_
    refine w_imul C dX5_fill_205 ?_
    refine w_aload_n C 0 dX5_fill_206 rfl ?_
    refine w_getR C dX5_fill_207 gf_X5_44 ob_37 rfl ?_
    refine w_iload C 4 dX5_fill_210 rfl ?_
    obtain ⟨⟨sc4, sc5⟩, vc⟩ := vc
    refine w_iald C dX5_fill_212 ia_49 sc4 sc5 ?_
    refine w_iadd C dX5_fill_213 ?_
    obtain ⟨⟨sc6, sc7⟩, vc⟩ := vc
    refine w_iald C dX5_fill_214 ia_42 sc6 sc7 ?_
    refine w_top (fun v8 hv8 => ?_)
    have vc := vc v8 hv8
    refine w_istore C [(6, pI v8), (0, pR 37), (1, pI x1), (2, pI w2), (3, pI w3), (4, pI w4), (5, pI w5)] dX5_fill_215 (by decide) rfl ?_
    refine w_iconst C dX5_fill_217 ?_
    refine w_istore C [(7, pI (-1)), (6, pI v8), (0, pR 37), (1, pI x1), (2, pI w2), (3, pI w3), (4, pI w4), (5, pI w5)] dX5_fill_218 (by decide) rfl ?_
    refine w_iconst C dX5_fill_220 ?_
    refine w_istore C [(8, pI 0), (7, pI (-1)), (6, pI v8), (0, pR 37), (1, pI x1), (2, pI w2), (3, pI w3), (4, pI w4), (5, pI w5)] dX5_fill_221 (by decide) rfl ?_
    refine w_iconst C dX5_fill_223 ?_
    refine w_istore C [(9, pI 0), (8, pI 0), (7, pI (-1)), (6, pI v8), (0, pR 37), (1, pI x1), (2, pI w2), (3, pI w3), (4, pI w4), (5, pI w5)] dX5_fill_224 (by decide) rfl ?_
    exact w_sub _ [4, 5, 6, 7, 8, 9, 3, 2, 1, 0] rfl vc
  · have vc := vc.2 h3
    refine w_aload_n C 0 dX5_fill_127 rfl ?_
    refine w_getR C dX5_fill_128 gf_X5_44 ob_37 rfl ?_
    refine w_iload C 6 dX5_fill_131 rfl ?_
    obtain ⟨⟨sc9, sc10⟩, vc⟩ := vc
    refine w_iald C dX5_fill_133 ia_49 sc9 sc10 ?_
    refine w_aload_n C 0 dX5_fill_134 rfl ?_
    refine w_getR C dX5_fill_135 gf_X5_19 ob_37 rfl ?_
    refine w_iload C 6 dX5_fill_138 rfl ?_
    obtain ⟨⟨sc11, sc12⟩, vc⟩ := vc
    refine w_iald C dX5_fill_140 ia_41 sc11 sc12 ?_
    obtain ⟨⟨sc13, sc14⟩, vc⟩ := vc
    refine w_icmp_ge C 191 dX5_fill_141 (by decide) sc13 sc14 (fun h15 => ?_) (fun h15 => ?_)
    · have vc := vc.1 h15
      refine w_iinc C 6 [(6, pI (w6 + 1)), (0, pR 37), (1, pI x1), (2, pI w2), (3, pI w3), (4, pI w4), (5, pI w5)] dX5_fill_191 rfl (by decide) rfl ?_
      refine w_goto C 118 dX5_fill_194 (by decide) ?_
      exact w_sub _ [1, 2, 3, 4, 5, 6, 0] rfl vc
    · have vc := vc.2 h15
      refine w_aload_n C 0 dX5_fill_144 rfl ?_
      refine w_iload C 6 dX5_fill_145 rfl ?_
      obtain ⟨sc16, vc⟩ := vc
      refine w_callVI C [pI w6] [] rfl dX5_fill_147 (c_X5_beginOfNext C.gi (xL X) w6 σ sc16) oc_37 mw_X5_beginOfNext ml_X5_107 im_X5_beginOfNext se_X5_beginOfNext (by decide) (Nat.le_of_ble_eq_true rfl) (fun z σ' hz => ?_)
      obtain ⟨rfl, hz2⟩ := hz
      have hz2 := hz2.symm
      subst hz2
      refine w_aload_n C 0 dX5_fill_150 rfl ?_
      refine w_getR C dX5_fill_151 gf_X5_25 ob_37 rfl ?_
      refine w_bipush C dX5_fill_154 (by decide) ?_
      refine w_iload C 6 dX5_fill_156 rfl ?_
      refine w_imul C dX5_fill_158 ?_
      refine w_aload_n C 0 dX5_fill_159 rfl ?_
      refine w_getR C dX5_fill_160 gf_X5_44 ob_37 rfl ?_
      refine w_iload C 6 dX5_fill_163 rfl ?_
      obtain ⟨⟨sc17, sc18⟩, vc⟩ := vc
      refine w_iald C dX5_fill_165 ia_49 sc17 sc18 ?_
      refine w_iadd C dX5_fill_166 ?_
      obtain ⟨⟨sc19, sc20⟩, vc⟩ := vc
      refine w_iald C dX5_fill_167 ia_43 sc19 sc20 ?_
      refine w_iadd C dX5_fill_168 ?_
      refine w_top (fun v21 hv21 => ?_)
      have vc := vc v21 hv21
      refine w_istore C [(7, pI v21), (0, pR 37), (1, pI x1), (2, pI w2), (3, pI w3), (4, pI w4), (5, pI w5), (6, pI w6)] dX5_fill_169 (by decide) rfl ?_
      refine w_iload C 5 dX5_fill_171 rfl ?_
      obtain ⟨sc22, vc⟩ := vc
      refine w_if_lt C 183 dX5_fill_173 (by decide) sc22 (fun h23 => ?_) (fun h23 => ?_)
      · have vc := vc.1 h23
        refine w_iload C 7 dX5_fill_183 rfl ?_
        refine w_istore C [(4, pI w6), (7, pI v21), (0, pR 37), (1, pI x1), (2, pI w2), (3, pI w3), (5, pI w5), (6, pI w6)] dX5_fill_185 (by decide) rfl ?_
        refine w_iload C 1 dX5_fill_187 rfl ?_
        refine w_istore C [(5, pI v21), (4, pI w6), (7, pI v21), (0, pR 37), (1, pI x1), (2, pI w2), (3, pI w3), (6, pI w6)] dX5_fill_189 (by decide) rfl ?_
        refine w_iinc C 7 [(6, pI (w6 + 1)), (5, pI v21), (4, pI w6), (7, pI v21), (0, pR 37), (1, pI x1), (2, pI w2), (3, pI w3)] dX5_fill_191 rfl (by decide) rfl ?_
        refine w_goto C 118 dX5_fill_194 (by decide) ?_
        exact w_sub _ [4, 5, 6, 7, 2, 1, 0] rfl vc
      · have vc := vc.2 h23
        refine w_iload C 0 dX5_fill_176 rfl ?_
        refine w_iload C 6 dX5_fill_178 rfl ?_
        obtain ⟨⟨sc24, sc25⟩, vc⟩ := vc
        refine w_icmp_ge C 191 dX5_fill_180 (by decide) sc24 sc25 (fun h26 => ?_) (fun h26 => ?_)
        · have vc := vc.1 h26
          refine w_iinc C 7 [(6, pI (w6 + 1)), (7, pI v21), (0, pR 37), (1, pI x1), (2, pI w2), (3, pI w3), (4, pI w4), (5, pI w5)] dX5_fill_191 rfl (by decide) rfl ?_
          refine w_goto C 118 dX5_fill_194 (by decide) ?_
          exact w_sub _ [2, 3, 4, 5, 6, 7, 0] rfl vc
        · have vc := vc.2 h26
          refine w_iload C 7 dX5_fill_183 rfl ?_
          refine w_istore C [(4, pI w6), (7, pI v21), (0, pR 37), (1, pI x1), (2, pI w2), (3, pI w3), (5, pI w5), (6, pI w6)] dX5_fill_185 (by decide) rfl ?_
          refine w_iload C 1 dX5_fill_187 rfl ?_
          refine w_istore C [(5, pI v21), (4, pI w6), (7, pI v21), (0, pR 37), (1, pI x1), (2, pI w2), (3, pI w3), (6, pI w6)] dX5_fill_189 (by decide) rfl ?_
          refine w_iinc C 7 [(6, pI (w6 + 1)), (5, pI v21), (4, pI w6), (7, pI v21), (0, pR 37), (1, pI x1), (2, pI w2), (3, pI w3)] dX5_fill_191 rfl (by decide) rfl ?_
          refine w_goto C 118 dX5_fill_194 (by decide) ?_
          exact w_sub _ [4, 5, 6, 7, 2, 1, 0] rfl vc
def VC_X5_fill_226 (M : Nat) (K104 : Int → Int → Mem → Prop) (K226 : Int → Int → Int → Int → Int → Int → Int → Int → Mem → Prop) (K297 : Int → Int → Int → Int → Int → Int → Int → Int → Int → Mem → Prop) (post : Int → Mem → Prop) (x1 : Int) (w2 : Int) (w3 : Int) (w4 : Int) (w5 : Int) (w6 : Int) (w7 : Int) (w8 : Int) (w9 : Int) (σ : Mem) : Prop :=
 (inR w9 ∧ inR (σ 37 2)) ∧ (((σ 37 2) ≤ w9 → (0 ≤ w7 ∧ w7 < 8) ∧ ∀ v6 : Int, v6 = (6 * w7) + (σ 49 w7) → (pre_X5_beginOfNext M w7 σ) ∧ (0 ≤ v6 ∧ v6 < 48) ∧ (0 ≤ v6 ∧ v6 < 48) ∧ ∀ s12 : Mem, s12 = up σ 48 v6 ((f_X5_beginOfNext w7 σ) + (σ 43 v6)) → (0 ≤ w6 ∧ w6 < 5) ∧ (0 ≤ ((48 * w6) + (s12 46 w6)) ∧ ((48 * w6) + (s12 46 w6)) < 240) ∧ ∀ s17 : Mem, s17 = up s12 47 ((48 * w6) + (s12 46 w6)) v6 → (0 ≤ w6 ∧ w6 < 5) ∧ (0 ≤ w6 ∧ w6 < 5) ∧ ∀ s22 : Mem, s22 = up s17 46 w6 ((s17 46 w6) + 1) → (0 ≤ v6 ∧ v6 < 48) ∧ ∀ s25 : Mem, s25 = up s22 44 v6 1 → (0 ≤ w7 ∧ w7 < 8) ∧ (0 ≤ w7 ∧ w7 < 8) ∧ ∀ s30 : Mem, s30 = up s25 49 w7 ((s25 49 w7) + 1) → K104 w2 (w3 + 1) s30) ∧ (w9 < (σ 37 2) → (0 ≤ w9 ∧ w9 < 8) ∧ ∀ v33 : Int, v33 = (6 * w9) + (σ 49 w9) → (0 ≤ w9 ∧ w9 < 8) ∧ (0 ≤ w9 ∧ w9 < 8) ∧ (inR (σ 49 w9) ∧ inR (σ 41 w9)) ∧ (((σ 41 w9) ≤ (σ 49 w9) → K226 w2 w3 w4 w5 w6 w7 w8 (w9 + 1) σ) ∧ ((σ 49 w9) < (σ 41 w9) → (0 ≤ v33 ∧ v33 < 48) ∧ (inR (σ 42 v33) ∧ inR w6) ∧ ((¬ (σ 42 v33) = w6 → K226 w2 w3 w4 w5 w6 w7 w8 (w9 + 1) σ) ∧ ((σ 42 v33) = w6 → (inR w9 ∧ inR w4) ∧ ((w9 = w4 → K297 w2 w3 w4 w5 w6 w7 w8 w9 v33 σ) ∧ (¬ w9 = w4 → (pre_X5_beginOfNext M w9 σ) ∧ (inR (f_X5_beginOfNext w9 σ) ∧ inR w5) ∧ ((w5 ≤ (f_X5_beginOfNext w9 σ) → K226 w2 w3 w4 w5 w6 w7 w8 (w9 + 1) σ) ∧ ((f_X5_beginOfNext w9 σ) < w5 → K297 w2 w3 w4 w5 w6 w7 w8 w9 v33 σ))))))))))
set_option maxRecDepth 20000 in
set_option maxHeartbeats 4000000 in
theorem seg_X5_fill_226 {G : GG} {X : XX} {post : Int → Mem → Prop} (C : CX G X cX5_fill RX5 12 (some .int) 1)   (x1 : Int) (w2 : Int) (w3 : Int) (w4 : Int) (w5 : Int) (w6 : Int) (w7 : Int) (w8 : Int) (w9 : Int) (σ : Mem) (vc : VC_X5_fill_226 (gM G) (fun w2 w3 σ => RW G X 12 (QI G X post) 104 [(0, pR 37), (1, pI x1), (2, pI w2), (3, pI w3)] [] σ) (fun w2 w3 w4 w5 w6 w7 w8 w9 σ => RW G X 12 (QI G X post) 226 [(0, pR 37), (1, pI x1), (2, pI w2), (3, pI w3), (4, pI w4), (5, pI w5), (6, pI w6), (7, pI w7), (8, pI w8), (9, pI w9)] [] σ) (fun w2 w3 w4 w5 w6 w7 w8 w9 w10 σ => RW G X 12 (QI G X post) 297 [(0, pR 37), (1, pI x1), (2, pI w2), (3, pI w3), (4, pI w4), (5, pI w5), (6, pI w6), (7, pI w7), (8, pI w8), (9, pI w9), (10, pI w10)] [] σ) post  x1 w2 w3 w4 w5 w6 w7 w8 w9 σ) : RW G X 12 (QI G X post) 226 [(0, pR 37), (1, pI x1), (2, pI w2), (3, pI w3), (4, pI w4), (5, pI w5), (6, pI w6), (7, pI w7), (8, pI w8), (9, pI w9)] [] σ := by
  unfold VC_X5_fill_226 at vc
  refine w_iload C 9 dX5_fill_226 rfl ?_
  refine w_aload_n C 0 dX5_fill_228 rfl ?_
  refine w_getI C 2 dX5_fill_229 gf_X5_72 ob_37 rfl rfl ?_
  obtain ⟨⟨sc1, sc2⟩, vc⟩ := vc
  refine w_icmp_ge C 375 dX5_fill_232 (by decide) sc1 sc2 (fun h3 => ?_) (fun h3 => ?_)
  · have vc := vc.1 h3
    refine w_bipush C dX5_fill_375 (by decide) ?_
    refine w_iload C 7 dX5_fill_377 rfl ?_
    refine w_imul C dX5_fill_379 ?_
    refine w_aload_n C 0 dX5_fill_380 rfl ?_
    refine w_getR C dX5_fill_381 gf_X5_44 ob_37 rfl ?_
    refine w_iload C 7 dX5_fill_384 rfl ?_
    obtain ⟨⟨sc4, sc5⟩, vc⟩ := vc
    refine w_iald C dX5_fill_386 ia_49 sc4 sc5 ?_
    refine w_iadd C dX5_fill_387 ?_
    refine w_top (fun v6 hv6 => ?_)
    have vc := vc v6 hv6
    refine w_istore C [(9, pI v6), (0, pR 37), (1, pI x1), (2, pI w2), (3, pI w3), (4, pI w4), (5, pI w5), (6, pI w6), (7, pI w7), (8, pI w8)] dX5_fill_388 (by decide) rfl ?_
    refine w_aload_n C 1 dX5_fill_390 rfl ?_
    refine w_getR C dX5_fill_391 gf_X5_41 ob_37 rfl ?_
    refine w_iload C 0 dX5_fill_394 rfl ?_
    refine w_aload_n C 1 dX5_fill_396 rfl ?_
    refine w_iload C 8 dX5_fill_397 rfl ?_
    obtain ⟨sc7, vc⟩ := vc
    refine w_callVI C [pI w7] [pI v6, pR 48] rfl dX5_fill_399 (c_X5_beginOfNext C.gi (xL X) w7 σ sc7) oc_37 mw_X5_beginOfNext ml_X5_107 im_X5_beginOfNext se_X5_beginOfNext (by decide) (Nat.le_of_ble_eq_true rfl) (fun z σ' hz => ?_)
    obtain ⟨rfl, hz2⟩ := hz
    have hz2 := hz2.symm
    subst hz2
    refine w_aload_n C 1 dX5_fill_402 rfl ?_
    refine w_getR C dX5_fill_403 gf_X5_25 ob_37 rfl ?_
    refine w_iload C 0 dX5_fill_406 rfl ?_
    obtain ⟨⟨sc8, sc9⟩, vc⟩ := vc
    refine w_iald C dX5_fill_408 ia_43 sc8 sc9 ?_
    refine w_iadd C dX5_fill_409 ?_
    obtain ⟨⟨sc10, sc11⟩, vc⟩ := vc
    refine w_iast C dX5_fill_410 ia_48 sc10 sc11 ?_
    refine w_mem (fun s12 hs12 => ?_)
    have vc := vc s12 hs12
    refine w_aload_n C 1 dX5_fill_411 rfl ?_
    refine w_getR C dX5_fill_412 gf_X5_38 ob_37 rfl ?_
    refine w_bipush C dX5_fill_415 (by decide) ?_
    refine w_iload C 7 dX5_fill_417 rfl ?_
    refine w_imul C dX5_fill_419 ?_
    refine w_aload_n C 1 dX5_fill_420 rfl ?_
    refine w_getR C dX5_fill_421 gf_X5_35 ob_37 rfl ?_
    refine w_iload C 7 dX5_fill_424 rfl ?_
    obtain ⟨⟨sc13, sc14⟩, vc⟩ := vc
    refine w_iald C dX5_fill_426 ia_46 sc13 sc14 ?_
    refine w_iadd C dX5_fill_427 ?_
    refine w_iload C 0 dX5_fill_428 rfl ?_
    obtain ⟨⟨sc15, sc16⟩, vc⟩ := vc
    refine w_iast C dX5_fill_430 ia_47 sc15 sc16 ?_
    refine w_mem (fun s17 hs17 => ?_)
    have vc := vc s17 hs17
    refine w_aload_n C 1 dX5_fill_431 rfl ?_
    refine w_getR C dX5_fill_432 gf_X5_35 ob_37 rfl ?_
    refine w_iload C 7 dX5_fill_435 rfl ?_
    refine w_dup2 C dX5_fill_437 rfl rfl ?_
    obtain ⟨⟨sc18, sc19⟩, vc⟩ := vc
    refine w_iald C dX5_fill_438 ia_46 sc18 sc19 ?_
    refine w_iconst C dX5_fill_439 ?_
    refine w_iadd C dX5_fill_440 ?_
    obtain ⟨⟨sc20, sc21⟩, vc⟩ := vc
    refine w_iast C dX5_fill_441 ia_46 sc20 sc21 ?_
    refine w_mem (fun s22 hs22 => ?_)
    have vc := vc s22 hs22
    refine w_aload_n C 1 dX5_fill_442 rfl ?_
    refine w_getR C dX5_fill_443 gf_X5_28 ob_37 rfl ?_
    refine w_iload C 0 dX5_fill_446 rfl ?_
    refine w_iconst C dX5_fill_448 ?_
    obtain ⟨⟨sc23, sc24⟩, vc⟩ := vc
    refine w_bast C dX5_fill_449 ba_44 sc23 sc24 (Or.inr rfl) ?_
    refine w_mem (fun s25 hs25 => ?_)
    have vc := vc s25 hs25
    refine w_aload_n C 1 dX5_fill_450 rfl ?_
    refine w_getR C dX5_fill_451 gf_X5_44 ob_37 rfl ?_
    refine w_iload C 8 dX5_fill_454 rfl ?_
    refine w_dup2 C dX5_fill_456 rfl rfl ?_
    obtain ⟨⟨sc26, sc27⟩, vc⟩ := vc
    refine w_iald C dX5_fill_457 ia_49 sc26 sc27 ?_
    refine w_iconst C dX5_fill_458 ?_
    refine w_iadd C dX5_fill_459 ?_
    obtain ⟨⟨sc28, sc29⟩, vc⟩ := vc
    refine w_iast C dX5_fill_460 ia_49 sc28 sc29 ?_
    refine w_mem (fun s30 hs30 => ?_)
    have vc := vc s30 hs30
    refine w_iinc C 4 [(3, pI (w3 + 1)), (9, pI v6), (0, pR 37), (1, pI x1), (2, pI w2), (4, pI w4), (5, pI w5), (6, pI w6), (7, pI w7), (8, pI w8)] dX5_fill_461 rfl (by decide) rfl ?_
    refine w_goto C 104 dX5_fill_464 (by decide) ?_
    exact w_sub _ [2, 3, 4, 0] rfl vc
  · have vc := vc.2 h3
    refine w_bipush C dX5_fill_235 (by decide) ?_
    refine w_iload C 9 dX5_fill_237 rfl ?_
    refine w_imul C dX5_fill_239 ?_
    refine w_aload_n C 0 dX5_fill_240 rfl ?_
    refine w_getR C dX5_fill_241 gf_X5_44 ob_37 rfl ?_
    refine w_iload C 9 dX5_fill_244 rfl ?_
    obtain ⟨⟨sc31, sc32⟩, vc⟩ := vc
    refine w_iald C dX5_fill_246 ia_49 sc31 sc32 ?_
    refine w_iadd C dX5_fill_247 ?_
    refine w_top (fun v33 hv33 => ?_)
    have vc := vc v33 hv33
    refine w_istore C [(10, pI v33), (0, pR 37), (1, pI x1), (2, pI w2), (3, pI w3), (4, pI w4), (5, pI w5), (6, pI w6), (7, pI w7), (8, pI w8), (9, pI w9)] dX5_fill_248 (by decide) rfl ?_
    refine w_aload_n C 1 dX5_fill_250 rfl ?_
    refine w_getR C dX5_fill_251 gf_X5_44 ob_37 rfl ?_
    refine w_iload C 10 dX5_fill_254 rfl ?_
    obtain ⟨⟨sc34, sc35⟩, vc⟩ := vc
    refine w_iald C dX5_fill_256 ia_49 sc34 sc35 ?_
    refine w_aload_n C 1 dX5_fill_257 rfl ?_
    refine w_getR C dX5_fill_258 gf_X5_19 ob_37 rfl ?_
    refine w_iload C 10 dX5_fill_261 rfl ?_
    obtain ⟨⟨sc36, sc37⟩, vc⟩ := vc
    refine w_iald C dX5_fill_263 ia_41 sc36 sc37 ?_
    obtain ⟨⟨sc38, sc39⟩, vc⟩ := vc
    refine w_icmp_ge C 369 dX5_fill_264 (by decide) sc38 sc39 (fun h40 => ?_) (fun h40 => ?_)
    · have vc := vc.1 h40
      refine w_iinc C 10 [(9, pI (w9 + 1)), (10, pI v33), (0, pR 37), (1, pI x1), (2, pI w2), (3, pI w3), (4, pI w4), (5, pI w5), (6, pI w6), (7, pI w7), (8, pI w8)] dX5_fill_369 rfl (by decide) rfl ?_
      refine w_goto C 226 dX5_fill_372 (by decide) ?_
      exact w_sub _ [2, 3, 4, 5, 6, 7, 8, 9, 10, 0] rfl vc
    · have vc := vc.2 h40
      refine w_aload_n C 1 dX5_fill_267 rfl ?_
      refine w_getR C dX5_fill_268 gf_X5_22 ob_37 rfl ?_
      refine w_iload C 0 dX5_fill_271 rfl ?_
      obtain ⟨⟨sc41, sc42⟩, vc⟩ := vc
      refine w_iald C dX5_fill_273 ia_42 sc41 sc42 ?_
      refine w_iload C 7 dX5_fill_274 rfl ?_
      obtain ⟨⟨sc43, sc44⟩, vc⟩ := vc
      refine w_icmp_ne C 369 dX5_fill_276 (by decide) sc43 sc44 (fun h45 => ?_) (fun h45 => ?_)
      · have vc := vc.1 h45
        refine w_iinc C 10 [(9, pI (w9 + 1)), (10, pI v33), (0, pR 37), (1, pI x1), (2, pI w2), (3, pI w3), (4, pI w4), (5, pI w5), (6, pI w6), (7, pI w7), (8, pI w8)] dX5_fill_369 rfl (by decide) rfl ?_
        refine w_goto C 226 dX5_fill_372 (by decide) ?_
        exact w_sub _ [2, 3, 4, 5, 6, 7, 8, 9, 10, 0] rfl vc
      · have vc := vc.2 h45
        refine w_iload C 10 dX5_fill_279 rfl ?_
        refine w_iload C 5 dX5_fill_281 rfl ?_
        obtain ⟨⟨sc46, sc47⟩, vc⟩ := vc
        refine w_icmp_eq C 297 dX5_fill_283 (by decide) sc46 sc47 (fun h48 => ?_) (fun h48 => ?_)
        · have vc := vc.1 h48
          exact w_sub _ [1, 2, 3, 4, 5, 6, 7, 8, 9, 10, 0] rfl vc
        · have vc := vc.2 h48
          refine w_aload_n C 1 dX5_fill_286 rfl ?_
          refine w_iload C 10 dX5_fill_287 rfl ?_
          obtain ⟨sc49, vc⟩ := vc
          refine w_callVI C [pI w9] [] rfl dX5_fill_289 (c_X5_beginOfNext C.gi (xL X) w9 σ sc49) oc_37 mw_X5_beginOfNext ml_X5_107 im_X5_beginOfNext se_X5_beginOfNext (by decide) (Nat.le_of_ble_eq_true rfl) (fun z σ' hz => ?_)
          obtain ⟨rfl, hz2⟩ := hz
          have hz2 := hz2.symm
          subst hz2
          refine w_iload C 6 dX5_fill_292 rfl ?_
          obtain ⟨⟨sc50, sc51⟩, vc⟩ := vc
          refine w_icmp_ge C 369 dX5_fill_294 (by decide) sc50 sc51 (fun h52 => ?_) (fun h52 => ?_)
          · have vc := vc.1 h52
            refine w_iinc C 10 [(9, pI (w9 + 1)), (10, pI v33), (0, pR 37), (1, pI x1), (2, pI w2), (3, pI w3), (4, pI w4), (5, pI w5), (6, pI w6), (7, pI w7), (8, pI w8)] dX5_fill_369 rfl (by decide) rfl ?_
            refine w_goto C 226 dX5_fill_372 (by decide) ?_
            exact w_sub _ [2, 3, 4, 5, 6, 7, 8, 9, 10, 0] rfl vc
          · have vc := vc.2 h52
            exact w_sub _ [1, 2, 3, 4, 5, 6, 7, 8, 9, 10, 0] rfl vc
def VC_X5_fill_297 (M : Nat) (K226 : Int → Int → Int → Int → Int → Int → Int → Int → Mem → Prop) (post : Int → Mem → Prop) (x1 : Int) (w2 : Int) (w3 : Int) (w4 : Int) (w5 : Int) (w6 : Int) (w7 : Int) (w8 : Int) (w9 : Int) (w10 : Int) (σ : Mem) : Prop :=
 (inR x1) ∧ ((¬ x1 = 0 → (inR x1) ∧ ((¬ x1 = 1 → (inR x1) ∧ ((¬ x1 = 2 → (pre_X5_beginOfNext M w9 σ) ∧ True) ∧ (x1 = 2 → (pre_X5_leftOf M w10 σ) ∧ True))) ∧ (x1 = 1 → (0 ≤ w9 ∧ w9 < 8) ∧ True))) ∧ (x1 = 0 → (0 ≤ w10 ∧ w10 < 48) ∧ True) ∧ ∀ j14 : Int, (¬ x1 = 0 → ¬ x1 = 1 → ¬ x1 = 2 → j14 = f_X5_beginOfNext w9 σ) → (¬ x1 = 0 → ¬ x1 = 1 → x1 = 2 → j14 = -(f_X5_leftOf w10 σ)) → (¬ x1 = 0 → x1 = 1 → j14 = σ 39 w9) → (x1 = 0 → j14 = σ 43 w10) → (inR w7) ∧ ((w7 < 0 → K226 w2 w3 w4 w5 w6 w9 j14 (w9 + 1) σ) ∧ (0 ≤ w7 → (inR j14 ∧ inR w8) ∧ ((w8 ≤ j14 → K226 w2 w3 w4 w5 w6 w7 w8 (w9 + 1) σ) ∧ (j14 < w8 → K226 w2 w3 w4 w5 w6 w9 j14 (w9 + 1) σ)))))
set_option maxRecDepth 20000 in
set_option maxHeartbeats 4000000 in
theorem seg_X5_fill_297 {G : GG} {X : XX} {post : Int → Mem → Prop} (C : CX G X cX5_fill RX5 12 (some .int) 1)   (x1 : Int) (w2 : Int) (w3 : Int) (w4 : Int) (w5 : Int) (w6 : Int) (w7 : Int) (w8 : Int) (w9 : Int) (w10 : Int) (σ : Mem) (vc : VC_X5_fill_297 (gM G) (fun w2 w3 w4 w5 w6 w7 w8 w9 σ => RW G X 12 (QI G X post) 226 [(0, pR 37), (1, pI x1), (2, pI w2), (3, pI w3), (4, pI w4), (5, pI w5), (6, pI w6), (7, pI w7), (8, pI w8), (9, pI w9)] [] σ) post  x1 w2 w3 w4 w5 w6 w7 w8 w9 w10 σ) : RW G X 12 (QI G X post) 297 [(0, pR 37), (1, pI x1), (2, pI w2), (3, pI w3), (4, pI w4), (5, pI w5), (6, pI w6), (7, pI w7), (8, pI w8), (9, pI w9), (10, pI w10)] [] σ := by
  unfold VC_X5_fill_297 at vc
  refine w_iload_n C 1 dX5_fill_297 rfl ?_
  obtain ⟨sc1, vc⟩ := vc
  have key3 : ∀ j14 : Int, (¬ x1 = 0 → ¬ x1 = 1 → ¬ x1 = 2 → j14 = f_X5_beginOfNext w9 σ) → (¬ x1 = 0 → ¬ x1 = 1 → x1 = 2 → j14 = -(f_X5_leftOf w10 σ)) → (¬ x1 = 0 → x1 = 1 → j14 = σ 39 w9) → (x1 = 0 → j14 = σ 43 w10) → RW G X 12 (QI G X post) 347 [(0, pR 37), (1, pI x1), (2, pI w2), (3, pI w3), (4, pI w4), (5, pI w5), (6, pI w6), (7, pI w7), (8, pI w8), (9, pI w9), (10, pI w10)] [pI j14] σ := by
    intro j14 hj15 hj16 hj17 hj18
    have vc := vc.2.2 j14 hj15 hj16 hj17 hj18
    refine w_istore C [(11, pI j14), (0, pR 37), (1, pI x1), (2, pI w2), (3, pI w3), (4, pI w4), (5, pI w5), (6, pI w6), (7, pI w7), (8, pI w8), (9, pI w9), (10, pI w10)] dX5_fill_347 (by decide) rfl ?_
    refine w_iload C 8 dX5_fill_349 rfl ?_
    obtain ⟨sc19, vc⟩ := vc
    refine w_if_lt C 361 dX5_fill_351 (by decide) sc19 (fun h20 => ?_) (fun h20 => ?_)
    · have vc := vc.1 h20
      refine w_iload C 10 dX5_fill_361 rfl ?_
      refine w_istore C [(7, pI w9), (11, pI j14), (0, pR 37), (1, pI x1), (2, pI w2), (3, pI w3), (4, pI w4), (5, pI w5), (6, pI w6), (8, pI w8), (9, pI w9), (10, pI w10)] dX5_fill_363 (by decide) rfl ?_
      refine w_iload C 1 dX5_fill_365 rfl ?_
      refine w_istore C [(8, pI j14), (7, pI w9), (11, pI j14), (0, pR 37), (1, pI x1), (2, pI w2), (3, pI w3), (4, pI w4), (5, pI w5), (6, pI w6), (9, pI w9), (10, pI w10)] dX5_fill_367 (by decide) rfl ?_
      refine w_iinc C 10 [(9, pI (w9 + 1)), (8, pI j14), (7, pI w9), (11, pI j14), (0, pR 37), (1, pI x1), (2, pI w2), (3, pI w3), (4, pI w4), (5, pI w5), (6, pI w6), (10, pI w10)] dX5_fill_369 rfl (by decide) rfl ?_
      refine w_goto C 226 dX5_fill_372 (by decide) ?_
      exact w_sub _ [4, 5, 6, 7, 8, 9, 10, 2, 1, 0] rfl vc
    · have vc := vc.2 h20
      refine w_iload C 0 dX5_fill_354 rfl ?_
      refine w_iload C 9 dX5_fill_356 rfl ?_
      obtain ⟨⟨sc21, sc22⟩, vc⟩ := vc
      refine w_icmp_ge C 369 dX5_fill_358 (by decide) sc21 sc22 (fun h23 => ?_) (fun h23 => ?_)
      · have vc := vc.1 h23
        refine w_iinc C 10 [(9, pI (w9 + 1)), (11, pI j14), (0, pR 37), (1, pI x1), (2, pI w2), (3, pI w3), (4, pI w4), (5, pI w5), (6, pI w6), (7, pI w7), (8, pI w8), (10, pI w10)] dX5_fill_369 rfl (by decide) rfl ?_
        refine w_goto C 226 dX5_fill_372 (by decide) ?_
        exact w_sub _ [2, 3, 4, 5, 6, 7, 8, 9, 10, 0] rfl vc
      · have vc := vc.2 h23
        refine w_iload C 10 dX5_fill_361 rfl ?_
        refine w_istore C [(7, pI w9), (11, pI j14), (0, pR 37), (1, pI x1), (2, pI w2), (3, pI w3), (4, pI w4), (5, pI w5), (6, pI w6), (8, pI w8), (9, pI w9), (10, pI w10)] dX5_fill_363 (by decide) rfl ?_
        refine w_iload C 1 dX5_fill_365 rfl ?_
        refine w_istore C [(8, pI j14), (7, pI w9), (11, pI j14), (0, pR 37), (1, pI x1), (2, pI w2), (3, pI w3), (4, pI w4), (5, pI w5), (6, pI w6), (9, pI w9), (10, pI w10)] dX5_fill_367 (by decide) rfl ?_
        refine w_iinc C 10 [(9, pI (w9 + 1)), (8, pI j14), (7, pI w9), (11, pI j14), (0, pR 37), (1, pI x1), (2, pI w2), (3, pI w3), (4, pI w4), (5, pI w5), (6, pI w6), (10, pI w10)] dX5_fill_369 rfl (by decide) rfl ?_
        refine w_goto C 226 dX5_fill_372 (by decide) ?_
        exact w_sub _ [4, 5, 6, 7, 8, 9, 10, 2, 1, 0] rfl vc
  refine w_if_ne C 311 dX5_fill_298 (by decide) sc1 (fun h2 => ?_) (fun h2 => ?_)
  · have vc := vc.1 h2
    refine w_iload_n C 1 dX5_fill_311 rfl ?_
    refine w_iconst C dX5_fill_312 ?_
    obtain ⟨sc4, vc⟩ := vc
    refine w_icmp_ne C 326 dX5_fill_313 (by decide) sc4 ⟨by omega, by omega⟩ (fun h5 => ?_) (fun h5 => ?_)
    · have vc := vc.1 h5
      refine w_iload_n C 1 dX5_fill_326 rfl ?_
      refine w_iconst C dX5_fill_327 ?_
      obtain ⟨sc6, vc⟩ := vc
      refine w_icmp_ne C 341 dX5_fill_328 (by decide) sc6 ⟨by omega, by omega⟩ (fun h7 => ?_) (fun h7 => ?_)
      · have vc := vc.1 h7
        refine w_aload_n C 0 dX5_fill_341 rfl ?_
        refine w_iload C 9 dX5_fill_342 rfl ?_
        obtain ⟨sc8, vc⟩ := vc
        refine w_callVI C [pI w9] [] rfl dX5_fill_344 (c_X5_beginOfNext C.gi (xL X) w9 σ sc8) oc_37 mw_X5_beginOfNext ml_X5_107 im_X5_beginOfNext se_X5_beginOfNext (by decide) (Nat.le_of_ble_eq_true rfl) (fun z σ' hz => ?_)
        obtain ⟨rfl, hz2⟩ := hz
        have hz2 := hz2.symm
        subst hz2
        exact key3 _ (by intros; first | rfl | omega | (exfalso; omega) | contradiction) (by intros; first | rfl | omega | (exfalso; omega) | contradiction) (by intros; first | rfl | omega | (exfalso; omega) | contradiction) (by intros; first | rfl | omega | (exfalso; omega) | contradiction)
      · have vc := vc.2 h7
        refine w_aload_n C 0 dX5_fill_331 rfl ?_
        refine w_iload C 10 dX5_fill_332 rfl ?_
        obtain ⟨sc9, vc⟩ := vc
        refine w_callVI C [pI w10] [] rfl dX5_fill_334 (c_X5_leftOf C.gi (xL X) w10 σ sc9) oc_37 mw_X5_leftOf ml_X5_110 im_X5_leftOf se_X5_leftOf (by decide) (Nat.le_of_ble_eq_true rfl) (fun z σ' hz => ?_)
        obtain ⟨rfl, hz2⟩ := hz
        have hz2 := hz2.symm
        subst hz2
        refine w_ineg C dX5_fill_337 ?_
        refine w_goto C 347 dX5_fill_338 (by decide) ?_
        exact key3 _ (by intros; first | rfl | omega | (exfalso; omega) | contradiction) (by intros; first | rfl | omega | (exfalso; omega) | contradiction) (by intros; first | rfl | omega | (exfalso; omega) | contradiction) (by intros; first | rfl | omega | (exfalso; omega) | contradiction)
    · have vc := vc.2 h5
      refine w_aload_n C 0 dX5_fill_316 rfl ?_
      refine w_getR C dX5_fill_317 gf_X5_13 ob_37 rfl ?_
      refine w_iload C 9 dX5_fill_320 rfl ?_
      obtain ⟨⟨sc10, sc11⟩, vc⟩ := vc
      refine w_iald C dX5_fill_322 ia_39 sc10 sc11 ?_
      refine w_goto C 347 dX5_fill_323 (by decide) ?_
      exact key3 _ (by intros; first | rfl | omega | (exfalso; omega) | contradiction) (by intros; first | rfl | omega | (exfalso; omega) | contradiction) (by intros; first | rfl | omega | (exfalso; omega) | contradiction) (by intros; first | rfl | omega | (exfalso; omega) | contradiction)
  · have vc := vc.2.1 h2
    refine w_aload_n C 0 dX5_fill_301 rfl ?_
    refine w_getR C dX5_fill_302 gf_X5_25 ob_37 rfl ?_
    refine w_iload C 10 dX5_fill_305 rfl ?_
    obtain ⟨⟨sc12, sc13⟩, vc⟩ := vc
    refine w_iald C dX5_fill_307 ia_43 sc12 sc13 ?_
    refine w_goto C 347 dX5_fill_308 (by decide) ?_
    exact key3 _ (by intros; first | rfl | omega | (exfalso; omega) | contradiction) (by intros; first | rfl | omega | (exfalso; omega) | contradiction) (by intros; first | rfl | omega | (exfalso; omega) | contradiction) (by intros; first | rfl | omega | (exfalso; omega) | contradiction)
set_option maxHeartbeats 1000000 in
theorem ok_X5_fill_0 {M : Nat} {x1 : Int} {σ : Mem} {K21 : Int → Int → Mem → Prop} (h : pre_X5_fill M x1 σ) (hK21 : ∀ (y2 y3 : Int) (τ' : Mem), inv_X5_fill_21 M x1 σ y2 y3 τ' → K21 y2 y3 τ') : VC_X5_fill_0 M K21 (post_X5_fill M x1 σ) x1 σ := by
  obtain ⟨⟨hW, hR⟩, r1⟩ := h
  intro s1 e1
  have f1 : RFr σ s1 := by rw [e1]; exact thr_fr σ 0
  refine ⟨⟨r1, ⟨by omega, by omega⟩, ⟨by omega, by omega⟩⟩, fun g => hK21 _ _ _ ⟨⟨fun c h1 _ _ _ => by rw [e1, up_other _ _ _ h1], fun i hi => by rw [e1, up_ne _ _ (Or.inr hi)]⟩, g, rfl, by omega, by omega, fun i i0 i1 => by omega⟩, fun g => ⟨f1.FM, gh σ, Or.inl ⟨g, rfl, rfl⟩, RM_fr f1 hR⟩⟩
set_option maxHeartbeats 1000000 in
theorem ok_X5_fill_21 {M : Nat} {x1 : Int} {σ : Mem} {w2 w3 : Int} {τ : Mem} {K21 : Int → Int → Mem → Prop} {K41 : Int → Int → Mem → Prop} (h : pre_X5_fill M x1 σ) (hinv : inv_X5_fill_21 M x1 σ w2 w3 τ) (hK21 : ∀ (y2 y3 : Int) (τ' : Mem), inv_X5_fill_21 M x1 σ y2 y3 τ' → mu_X5_fill_21 x1 y2 y3 τ' < mu_X5_fill_21 x1 w2 w3 τ → K21 y2 y3 τ') (hK41 : ∀ (y2 y3 : Int) (τ' : Mem), inv_X5_fill_41 M x1 σ y2 y3 τ' → mu_X5_fill_41 x1 y2 y3 τ' < mu_X5_fill_21 x1 w2 w3 τ → K41 y2 y3 τ') : VC_X5_fill_21 M K21 K41 (post_X5_fill M x1 σ) x1 w2 w3 τ := by
  obtain ⟨hF, hx, rfl, i1, i2, i3⟩ := hinv
  refine ⟨⟨by omega, by omega⟩, fun g => hK41 _ _ _ ⟨hF, hx, (sumI_0 _ (by omega)).symm, by omega, by omega, fun i q0 q1 => i3 i q0 (by omega), fun i q0 q1 => by omega⟩ ?_, fun g => ⟨⟨i1, g⟩, fun s5 e5 => hK21 _ _ _ ⟨⟨fun c h1 h2 h3 h4 => by rw [e5, up_other _ _ _ h3]; exact hF.1 c h1 h2 h3 h4, fun i hi => by rw [e5, up_other _ _ _ (by omega)]; exact hF.2 i hi⟩, hx, rfl, by omega, by omega, fun i q0 q1 => ?_⟩ ?_⟩⟩
  · unfold mu_X5_fill_41 mu_X5_fill_21; omega
  · rw [e5]
    by_cases e : i = w3
    · rw [e, up_self]
    · rw [up_ne _ _ (Or.inr e)]; exact i3 i q0 (by omega)
  · unfold mu_X5_fill_21; omega
set_option maxHeartbeats 1000000 in
theorem ok_X5_fill_41 {M : Nat} {x1 : Int} {σ : Mem} {w2 w3 : Int} {τ : Mem} {K41 : Int → Int → Mem → Prop} {K83 : Int → Int → Mem → Prop} (h : pre_X5_fill M x1 σ) (hinv : inv_X5_fill_41 M x1 σ w2 w3 τ) (hK41 : ∀ (y2 y3 : Int) (τ' : Mem), inv_X5_fill_41 M x1 σ y2 y3 τ' → mu_X5_fill_41 x1 y2 y3 τ' < mu_X5_fill_41 x1 w2 w3 τ → K41 y2 y3 τ') (hK83 : ∀ (y2 y3 : Int) (τ' : Mem), inv_X5_fill_83 M x1 σ y2 y3 τ' → mu_X5_fill_83 x1 y2 y3 τ' < mu_X5_fill_41 x1 w2 w3 τ → K83 y2 y3 τ') : VC_X5_fill_41 M K41 K83 (post_X5_fill M x1 σ) x1 w2 w3 τ := by
  obtain ⟨⟨hW, hR⟩, r1⟩ := h
  obtain ⟨hF, hx, rfl, i1, i2, i3, i4⟩ := hinv
  have hj := hW.1.1.2.2.2.1
  refine ⟨⟨by omega, by omega⟩, fun g => hK83 _ _ _ ⟨hF, hx, ?_, by omega, by omega, i3, fun i q0 q1 => i4 i q0 (by omega), fun i q0 q1 => by omega⟩ ?_, fun g => ⟨⟨i1, g⟩, fun s5 e5 => ?_⟩⟩
  · rw [show w3 = 8 by omega]; exact hW.2.2.2.2.1.symm
  · unfold mu_X5_fill_83 mu_X5_fill_41; omega
  · have e2 : s5 37 2 = gh σ 1 1 := by rw [e5, up_other _ _ _ (by omega), hF.2 2 (by omega)]; exact hR.2.1
    have e41 : s5 41 w3 = gh σ 5 w3 := by rw [e5, up_other _ _ _ (by omega), hF.1 41 (by omega) (by omega) (by omega) (by omega)]; exact (hR.2.2.1 w3 i1 g).2.2.2
    rw [e2, e41]
    refine ⟨⟨⟨by omega, by omega⟩, ⟨by omega, by omega⟩⟩, fun _ => trivial, fun _ => ⟨⟨i1, g⟩, trivial⟩, fun j q1 q2 v e => hK41 _ _ _ ⟨⟨fun c h1 h2 h3 h4 => by rw [e5, up_other _ _ _ h4]; exact hF.1 c h1 h2 h3 h4, fun i hi => by rw [e5, up_other _ _ _ (by omega)]; exact hF.2 i hi⟩, hx, ?_, by omega, by omega, fun i q0 q1 => by rw [e5, up_other _ _ _ (by omega)]; exact i3 i q0 q1, fun i q0 q1 => ?_⟩ ?_⟩
    · rw [e, sumI_s _ i1]
      by_cases c : gh σ 1 1 ≤ w3
      · rw [q1 c, hW.1.2.2.1 w3 c g]
      · rw [q2 (by omega)]
    · rw [e5]
      by_cases e : i = w3
      · rw [e, up_self]
      · rw [up_ne _ _ (Or.inr e)]; exact i4 i q0 (by omega)
    · unfold mu_X5_fill_41; omega
set_option maxHeartbeats 1000000 in
theorem ok_X5_fill_83 {M : Nat} {x1 : Int} {σ : Mem} {w2 w3 : Int} {τ : Mem} {K83 : Int → Int → Mem → Prop} {K104 : Int → Int → Mem → Prop} (h : pre_X5_fill M x1 σ) (hinv : inv_X5_fill_83 M x1 σ w2 w3 τ) (hK83 : ∀ (y2 y3 : Int) (τ' : Mem), inv_X5_fill_83 M x1 σ y2 y3 τ' → mu_X5_fill_83 x1 y2 y3 τ' < mu_X5_fill_83 x1 w2 w3 τ → K83 y2 y3 τ') (hK104 : ∀ (y2 y3 : Int) (τ' : Mem), inv_X5_fill_104 M x1 σ y2 y3 τ' → mu_X5_fill_104 x1 y2 y3 τ' < mu_X5_fill_83 x1 w2 w3 τ → K104 y2 y3 τ') : VC_X5_fill_83 M K83 K104 (post_X5_fill M x1 σ) x1 w2 w3 τ := by
  obtain ⟨⟨hW, hR⟩, r1⟩ := h
  obtain ⟨hF, hx, rfl, i1, i2, i3, i4, i5⟩ := hinv
  have hs := steps_in hW
  obtain ⟨-, a1, -⟩ := fill0_acc (gh σ)
  refine ⟨⟨by omega, by omega⟩, fun g => hK104 _ _ _ ⟨fill0 (gh σ), hF.FM, hx, rfl, by omega, by omega, rfl, FI_0 hW, RFl_0 hW hR hF i3 i4 (fun i q0 q1 => i5 i q0 (by omega)), by rw [a1]; simp⟩ ?_, fun g => ⟨⟨i1, g⟩, fun s5 e5 => hK83 _ _ _ ⟨⟨fun c h1 h2 h3 h4 => by rw [e5, up_other _ _ _ h2]; exact hF.1 c h1 h2 h3 h4, fun i hi => by rw [e5, up_other _ _ _ (by omega)]; exact hF.2 i hi⟩, hx, rfl, by omega, by omega, fun i q0 q1 => by rw [e5, up_other _ _ _ (by omega)]; exact i3 i q0 q1, fun i q0 q1 => by rw [e5, up_other _ _ _ (by omega)]; exact i4 i q0 q1, fun i q0 q1 => ?_⟩ ?_⟩⟩
  · unfold mu_X5_fill_104 mu_X5_fill_83; omega
  · rw [e5]
    by_cases e : i = w3
    · rw [e, up_self]
    · rw [up_ne _ _ (Or.inr e)]; exact i5 i q0 (by omega)
  · unfold mu_X5_fill_83; omega
set_option maxHeartbeats 1000000 in
theorem ok_X5_fill_104 {M : Nat} {x1 : Int} {σ : Mem} {w2 w3 : Int} {τ : Mem} {K118 : Int → Int → Int → Int → Int → Mem → Prop} (h : pre_X5_fill M x1 σ) (hinv : inv_X5_fill_104 M x1 σ w2 w3 τ) (hK118 : ∀ (y2 y3 y4 y5 y6 : Int) (τ' : Mem), inv_X5_fill_118 M x1 σ y2 y3 y4 y5 y6 τ' → mu_X5_fill_118 x1 y2 y3 y4 y5 y6 τ' < mu_X5_fill_104 x1 w2 w3 τ → K118 y2 y3 y4 y5 y6 τ') : VC_X5_fill_104 M K118 (post_X5_fill M x1 σ) x1 w2 w3 τ := by
  obtain ⟨⟨hW, hR⟩, r1⟩ := h
  obtain ⟨f, hB⟩ := hinv
  obtain ⟨hFM, hx, rfl, i1, i2, ef, hI, hL, e12⟩ := id hB
  have hs := steps_in hW
  have hj := hI.1.1.1.2.2.2.1
  refine ⟨⟨⟨by omega, by omega⟩, ⟨by omega, by omega⟩⟩, fun g => ?_, fun g => hK118 _ _ _ _ _ _ ⟨f, hB, g, by omega, by omega, Or.inl ⟨rfl, fun i q1 q2 => by have := q2.1; omega⟩⟩ ?_⟩
  · have : w3 = gh σ 1 2 := by omega
    subst this
    exact ⟨hFM, f, Or.inr ⟨hx, rfl, ef⟩, hL.1⟩
  · unfold mu_X5_fill_118 mu_X5_fill_104; omega
set_option maxHeartbeats 1000000 in
theorem ok_X5_fill_118 {M : Nat} {x1 : Int} {σ : Mem} {w2 w3 w4 w5 w6 : Int} {τ : Mem} {K118 : Int → Int → Int → Int → Int → Mem → Prop} {K226 : Int → Int → Int → Int → Int → Int → Int → Int → Mem → Prop} (h : pre_X5_fill M x1 σ) (hinv : inv_X5_fill_118 M x1 σ w2 w3 w4 w5 w6 τ) (hK118 : ∀ (y2 y3 y4 y5 y6 : Int) (τ' : Mem), inv_X5_fill_118 M x1 σ y2 y3 y4 y5 y6 τ' → mu_X5_fill_118 x1 y2 y3 y4 y5 y6 τ' < mu_X5_fill_118 x1 w2 w3 w4 w5 w6 τ → K118 y2 y3 y4 y5 y6 τ') (hK226 : ∀ (y2 y3 y4 y5 y6 y7 y8 y9 : Int) (τ' : Mem), inv_X5_fill_226 M x1 σ y2 y3 y4 y5 y6 y7 y8 y9 τ' → mu_X5_fill_226 x1 y2 y3 y4 y5 y6 y7 y8 y9 τ' < mu_X5_fill_118 x1 w2 w3 w4 w5 w6 τ → K226 y2 y3 y4 y5 y6 y7 y8 y9 τ') : VC_X5_fill_118 M K118 K226 (post_X5_fill M x1 σ) x1 w2 w3 w4 w5 w6 τ := by
  obtain ⟨⟨hW, hR⟩, r1⟩ := h
  obtain ⟨f, hB, hlt, i5, i6, hU⟩ := hinv
  obtain ⟨hFM, hx, rfl, i1, i2, ef, hI, hL, e12⟩ := id hB
  have hs := steps_in hW
  have hj := hI.1.1.1.2.2.2.1
  have e2 := hL.1.2.1
  refine ⟨⟨⟨by omega, by omega⟩, ⟨by omega, by omega⟩⟩, fun g => ?_, fun g => ?_⟩
  · have e6 : w6 = f 1 1 := by omega
    subst e6
    rcases hU with ⟨-, hU⟩ | ⟨u1, u2, u3, u4⟩
    · obtain ⟨j, q⟩ := FI_more hI (by omega)
      exact absurd q (hU j q.2.1)
    · obtain ⟨b1, b2, b3, b4, b5, b6, b7, b8, b9⟩ := bon_r hI hL u1
      refine ⟨⟨u1.1, by omega⟩, by rw [b6]; exact b8, fun v8 e8 => hK226 _ _ _ _ _ _ _ _ _ ⟨f, hB, hlt, ⟨u1, fun i q => u4 i q.2.1 q⟩, u3, by rw [e8, b4], by omega, by omega, Or.inl ⟨rfl, fun i q1 q2 => by have := q2.1.1; omega⟩⟩ ?_⟩
      unfold mu_X5_fill_226 mu_X5_fill_118; omega
  · have e49 := hL.2.1 w6 i5 (by omega)
    have e41 := (hL.1.2.2.1 w6 i5 (by omega)).2.2.2
    have h27 := hI.2.1 w6 i5 (by omega)
    have h5 := hI.1.1.1.2.2.2.2.1 w6 i5 (by omega)
    have mu : ∀ y4 y5 : Int, mu_X5_fill_118 x1 (gh σ 1 2) w3 y4 y5 (w6 + 1) τ < mu_X5_fill_118 x1 (gh σ 1 2) w3 w4 w5 w6 τ := fun y4 y5 => by unfold mu_X5_fill_118; omega
    refine ⟨⟨i5, by omega⟩, ⟨i5, by omega⟩, ⟨⟨by omega, by omega⟩, ⟨by omega, by omega⟩⟩, fun g2 => hK118 _ _ _ _ _ _ ⟨f, hB, hlt, by omega, by omega, ?_⟩ (mu _ _), fun g2 => ?_⟩
    · have hno : ¬ hN f w6 := fun q => by have := q.2.2; omega
      rcases hU with ⟨u0, hU⟩ | ⟨u1, u2, u3, u4⟩
      · refine Or.inl ⟨u0, fun i q1 q2 => ?_⟩
        by_cases e : i = w6
        · exact hno (by rw [← e]; exact q2)
        · exact hU i (by omega) q2
      · refine Or.inr ⟨u1, by omega, u3, fun i q1 q2 => ?_⟩
        by_cases e : i = w6
        · exact absurd (by rw [← e]; exact q2) hno
        · exact u4 i (by omega) q2
    · have hyes : hN f w6 := ⟨i5, by omega, by omega⟩
      obtain ⟨b1, b2, b3, b4, b5, b6, b7, b8, b9⟩ := bon_r hI hL hyes
      rw [b1, b5, b6]
      refine ⟨b2, ⟨i5, by omega⟩, b8, fun v21 e21 => ?_⟩
      have e21' : v21 = enF f w6 := e21
      -- w6 is the new one
      have new : (∀ i, i < w6 → hN f i → enF f w6 < enF f i) → fsU f w6 v21 (w6 + 1) := fun q => Or.inr ⟨hyes, by omega, e21', fun i q1 q2 => by
        by_cases e : i = w6
        · rw [e]; exact Or.inr ⟨rfl, Int.le_refl _⟩
        · exact Or.inl (q i (by omega) q2)⟩
      rcases hU with ⟨u0, hU⟩ | ⟨u1, u2, u3, u4⟩
      · refine ⟨⟨by omega, by omega⟩, fun g3 => hK118 _ _ _ _ _ _ ⟨f, hB, hlt, by omega, by omega, new (fun i q1 q2 => absurd q2 (hU i q1))⟩ (mu _ _), fun g3 => by omega⟩
      · have w40 := u1.1
        have b3' := (bon_r hI hL u1).2.2.1
        have b7' := (bon_r hI hL u1).2.2.2.2.2.2.1
        have ew5 : w5 = bgF f w4 + f 7 (nxt f w4) := u3
        refine ⟨⟨by omega, by omega⟩, fun g3 => by omega, fun g3 => ⟨⟨⟨by omega, by omega⟩, ⟨by omega, by omega⟩⟩, fun g4 => hK118 _ _ _ _ _ _ ⟨f, hB, hlt, by omega, by omega, Or.inr ⟨u1, by omega, u3, fun i q1 q2 => ?_⟩⟩ (mu _ _), fun g4 => hK118 _ _ _ _ _ _ ⟨f, hB, hlt, by omega, by omega, new (fun i q1 q2 => ?_)⟩ (mu _ _)⟩⟩
        · by_cases e : i = w6
          · rw [e, ← u3, ← e21']
            omega
          · exact u4 i (by omega) q2
        · have := u4 i q1 q2
          rw [← u3] at this
          rw [← e21']
          omega
set_option maxHeartbeats 1000000 in
theorem ok_X5_fill_226 {M : Nat} {x1 : Int} {σ : Mem} {w2 w3 w4 w5 w6 w7 w8 w9 : Int} {τ : Mem} {K104 : Int → Int → Mem → Prop} {K226 : Int → Int → Int → Int → Int → Int → Int → Int → Mem → Prop} {K297 : Int → Int → Int → Int → Int → Int → Int → Int → Int → Mem → Prop} (h : pre_X5_fill M x1 σ) (hinv : inv_X5_fill_226 M x1 σ w2 w3 w4 w5 w6 w7 w8 w9 τ) (hK104 : ∀ (y2 y3 : Int) (τ' : Mem), inv_X5_fill_104 M x1 σ y2 y3 τ' → mu_X5_fill_104 x1 y2 y3 τ' < mu_X5_fill_226 x1 w2 w3 w4 w5 w6 w7 w8 w9 τ → K104 y2 y3 τ') (hK226 : ∀ (y2 y3 y4 y5 y6 y7 y8 y9 : Int) (τ' : Mem), inv_X5_fill_226 M x1 σ y2 y3 y4 y5 y6 y7 y8 y9 τ' → mu_X5_fill_226 x1 y2 y3 y4 y5 y6 y7 y8 y9 τ' < mu_X5_fill_226 x1 w2 w3 w4 w5 w6 w7 w8 w9 τ → K226 y2 y3 y4 y5 y6 y7 y8 y9 τ') (hK297 : ∀ (y2 y3 y4 y5 y6 y7 y8 y9 y10 : Int) (τ' : Mem), inv_X5_fill_297 M x1 σ y2 y3 y4 y5 y6 y7 y8 y9 y10 τ' → mu_X5_fill_297 x1 y2 y3 y4 y5 y6 y7 y8 y9 y10 τ' < mu_X5_fill_226 x1 w2 w3 w4 w5 w6 w7 w8 w9 τ → K297 y2 y3 y4 y5 y6 y7 y8 y9 y10 τ') : VC_X5_fill_226 M K104 K226 K297 (post_X5_fill M x1 σ) x1 w2 w3 w4 w5 w6 w7 w8 w9 τ := by
  obtain ⟨⟨hW, hR⟩, r1⟩ := h
  obtain ⟨f, hC⟩ := hinv
  obtain ⟨hB, hlt, hfs, e5, e6, i5, i6, hU⟩ := id hC
  obtain ⟨hFM, hx, rfl, i1, i2, ef, hI, hL, e12⟩ := id hB
  have hs := steps_in hW
  have hj := hI.1.1.1.2.2.2.1
  have e2 := hL.1.2.1
  obtain ⟨a1, a2, a3, a4, a5, a6, a7, a8, a9⟩ := bon_r hI hL hfs.1
  have ew5 : w5 = bgF f w4 + f 7 (nxt f w4) := e5
  refine ⟨⟨⟨by omega, by omega⟩, ⟨by omega, by omega⟩⟩, fun g => ?_, fun g => ?_⟩
  · have e9 : w9 = f 1 1 := by omega
    subst e9
    have hch : chF x1 f w4 w7 := by
      rcases hU with ⟨-, hU⟩ | ⟨u1, u2, u3, u4⟩
      · exact absurd ⟨hfs.1, rfl, Or.inl rfl⟩ (hU w4 hfs.1.2.1)
      · exact ⟨u1, fun i q => u4 i q.1.2.1 q⟩
    have hn7 := hch.1.1
    have em := hch.1.2.1
    obtain ⟨b1, b2, b3, b4, b5, b6, b7, b8, b9⟩ := bon_r hI hL hn7
    have hii := hN_in hI hn7
    have e6' : w6 = f 6 (nxt f w7) := by rw [e6, em]
    have hm := hii.2.2.2.2.2.2.2.2.1
    have hlts := size_lt hI.1 hii.2.2.1 hii.2.2.2.2.2.2.2.1 hm.1 hm.2
    have hzs := hI.1.1.1.2.2.2.2.2 _ hm.1 hm.2
    have e46 := hL.1.2.2.2.2.2.1 _ hm.1 hm.2
    refine ⟨⟨hii.1, hii.2.1⟩, fun v6 ev6 => ?_⟩
    rw [b6] at ev6
    subst ev6
    rw [b1]
    have b5' : τ 43 (pl (nxt f w7)) = f 7 (nxt f w7) := by rw [← b6]; exact b5
    rw [b5']
    refine ⟨b2, b8, b8, fun s12 e12' => ?_⟩
    have q46 : s12 46 w6 = f 10 (f 6 (nxt f w7)) := by rw [e12', up_other _ _ _ (by omega), e6']; exact e46
    rw [q46]
    refine ⟨by rw [e6']; exact b9, ⟨by omega, by omega⟩, fun s17 e17 => ⟨by rw [e6']; exact b9, by rw [e6']; exact b9, fun s22 e22 => ⟨b8, fun s25 e25 => ⟨⟨hii.1, hii.2.1⟩, ⟨hii.1, hii.2.1⟩, fun s30 e30 => ?_⟩⟩⟩⟩
    have hL' : RFl M (apF f w7) s30 := by
      refine RFl_step hI hL hn7 (fun c h1 h2 h3 h4 h5 => ?_) (fun k => ?_) (fun k => ?_) (fun k => ?_) (fun k => ?_) (fun k => ?_)
      · rw [e30, up_other _ _ _ h5, e25, up_other _ _ _ h1, e22, up_other _ _ _ h2, e17, up_other _ _ _ h3, e12', up_other _ _ _ h4]
      · rw [e30, e25, e22, e17, e12']
        simp only [up, enF]
        grind
      · rw [e30, e25, e22, e17, e12', e6']
        simp only [up]
        grind
      · rw [e30, e25, e22, e17, e12', e6']
        simp only [up]
        grind
      · rw [e30, e25, e22, e17, e12']
        simp only [up]
        grind
      · rw [e30, e25, e22, e17, e12']
        simp only [up]
        grind
    have hnx : fillN x1 (fill0 (gh σ)) (w3 + 1).toNat = apF f w7 := by
      rw [show (w3 + 1).toNat = w3.toNat + 1 by omega]
      show nextF x1 (fillN x1 (fill0 (gh σ)) w3.toNat) = _
      rw [← ef]
      exact nextF_eq hfs hch
    have hI' := FI_step hI hn7
    refine hK104 _ _ _ ⟨apF f w7, fun c hc => ?_, hx, rfl, by omega, by omega, hnx.symm, hI', hL', ?_⟩ ?_
    · rw [e30, up_other _ _ _ (by omega), e25, up_other _ _ _ (by omega), e22, up_other _ _ _ (by omega), e17, up_other _ _ _ (by omega), e12', up_other _ _ _ (by omega)]
      exact hFM c hc
    · obtain ⟨ac, -⟩ := apF_acc f w7 hm.1
      obtain ⟨af, a1', -⟩ := ins_acc (nxt f w7) (f 10 (f 6 (nxt f w7))) f hm.1
      rw [ac 1 (by omega) (by omega) (by omega), a1']
      simpa using e12
    · unfold mu_X5_fill_104 mu_X5_fill_226; omega
  · have e49 := hL.2.1 w9 i5 (by omega)
    have e41 := (hL.1.2.2.1 w9 i5 (by omega)).2.2.2
    have h27 := hI.2.1 w9 i5 (by omega)
    have h5 := hI.1.1.1.2.2.2.2.1 w9 i5 (by omega)
    have skip : ¬ rvF f w4 w9 → K226 (gh σ 1 2) w3 w4 w5 w6 w7 w8 (w9 + 1) τ := fun hno => by
      refine hK226 _ _ _ _ _ _ _ _ _ ⟨f, hB, hlt, hfs, e5, e6, by omega, by omega, ?_⟩ (by unfold mu_X5_fill_226; omega)
      rcases hU with ⟨u0, hU⟩ | ⟨u1, u2, u3, u4⟩
      · refine Or.inl ⟨u0, fun i q1 q2 => ?_⟩
        by_cases e : i = w9
        · exact hno (by rw [← e]; exact q2)
        · exact hU i (by omega) q2
      · refine Or.inr ⟨u1, by omega, u3, fun i q1 q2 => ?_⟩
        by_cases e : i = w9
        · exact absurd (by rw [← e]; exact q2) hno
        · exact u4 i (by omega) q2
    have go : rvF f w4 w9 → ∀ v, v = pl (nxt f w9) → K297 (gh σ 1 2) w3 w4 w5 w6 w7 w8 w9 v τ := fun hr v ev => hK297 _ _ _ _ _ _ _ _ _ _ ⟨f, hC, hr, ev⟩ (by unfold mu_X5_fill_297 mu_X5_fill_226; omega)
    refine ⟨⟨i5, by omega⟩, fun v33 e33 => ⟨⟨i5, by omega⟩, ⟨i5, by omega⟩, ⟨⟨by omega, by omega⟩, ⟨by omega, by omega⟩⟩, fun g2 => skip (fun q => ?_), fun g2 => ?_⟩⟩
    · have := q.1.2.2; omega
    · have hyes : hN f w9 := ⟨i5, by omega, by omega⟩
      obtain ⟨b1, b2, b3, b4, b5, b6, b7, b8, b9⟩ := bon_r hI hL hyes
      rw [b6] at e33
      subst e33
      have b4' : τ 42 (pl (nxt f w9)) = f 6 (nxt f w9) := by rw [← b6]; exact b4
      rw [b4', b1]
      refine ⟨b8, ⟨⟨by omega, by omega⟩, by rw [e6]; exact ⟨by omega, by omega⟩⟩, fun g3 => skip (fun q => g3 (by rw [e6]; exact q.2.1)), fun g3 => ⟨⟨⟨by omega, by omega⟩, by have := hfs.1.1; have := hfs.1.2.1; exact ⟨by omega, by omega⟩⟩, fun g4 => go ⟨hyes, by rw [← e6]; exact g3, Or.inl g4⟩ _ rfl, fun g4 => ⟨b2, ⟨⟨by omega, by omega⟩, ⟨by omega, by omega⟩⟩, fun g5 => skip (fun q => ?_), fun g5 => go ⟨hyes, by rw [← e6]; exact g3, Or.inr (by rw [← e5]; exact g5)⟩ _ rfl⟩⟩⟩
      rcases q.2.2 with z | z
      · exact g4 z
      · rw [← e5] at z; omega
set_option maxHeartbeats 1000000 in
theorem ok_X5_fill_297 {M : Nat} {x1 : Int} {σ : Mem} {w2 w3 w4 w5 w6 w7 w8 w9 w10 : Int} {τ : Mem} {K226 : Int → Int → Int → Int → Int → Int → Int → Int → Mem → Prop} (h : pre_X5_fill M x1 σ) (hinv : inv_X5_fill_297 M x1 σ w2 w3 w4 w5 w6 w7 w8 w9 w10 τ) (hK226 : ∀ (y2 y3 y4 y5 y6 y7 y8 y9 : Int) (τ' : Mem), inv_X5_fill_226 M x1 σ y2 y3 y4 y5 y6 y7 y8 y9 τ' → mu_X5_fill_226 x1 y2 y3 y4 y5 y6 y7 y8 y9 τ' < mu_X5_fill_297 x1 w2 w3 w4 w5 w6 w7 w8 w9 w10 τ → K226 y2 y3 y4 y5 y6 y7 y8 y9 τ') : VC_X5_fill_297 M K226 (post_X5_fill M x1 σ) x1 w2 w3 w4 w5 w6 w7 w8 w9 w10 τ := by
  obtain ⟨⟨hW, hR⟩, r1⟩ := h
  obtain ⟨f, hC, hrv, rfl⟩ := hinv
  obtain ⟨hB, hlt, hfs, e5, e6, i5, i6, hU⟩ := id hC
  obtain ⟨hFM, hx, rfl, i1, i2, ef, hI, hL, e12⟩ := id hB
  have hyes := hrv.1
  have hj := hI.1.1.1.2.2.2.1
  have hs := steps_in hW
  obtain ⟨b1, b2, b3, b4, b5, b6, b7, b8, b9⟩ := bon_r hI hL hyes
  have hii := hN_in hI hyes
  have b5' : τ 43 (pl (nxt f w9)) = f 7 (nxt f w9) := by rw [← b6]; exact b5
  have r3 := hL.1.2.2.1 w9 hii.1 hii.2.1
  have h3 := hI.1.1.2.1 w9 hii.1 hii.2.1
  have h5 := hI.1.1.1.2.2.2.2.1 w9 hii.1 hii.2.1
  have hp := pl_in hI.1.1.1 hii.2.2.1
  have el : f_X5_leftOf (pl (nxt f w9)) τ = sumI (fun p => f 7 (10 * w9 + p)) (f 27 w9) (f 5 w9) := by
    unfold f_X5_leftOf
    rw [hp.2.2.2.1, hii.2.2.2.1, r3.2.2.2, nxt_pl hI hyes]
    exact sum_r hI.1 hL.1 hii.1 hii.2.1 hii.2.2.2.2.2.1 h5.2
  have sb := sumI_bd (f := fun p => f 7 (10 * w9 + p)) (lo := f 27 w9) (hi := f 5 w9) (B := 50) (by omega) (fun p p1 p2 => (hI.1.1.2.2.2.1 (10 * w9 + p) (by omega) (by omega)).2) 6 (by omega)
  have x0 := hx.1
  have x3 := hx.2
  refine ⟨r1, fun g => ⟨r1, fun g2 => ⟨r1, fun g3 => ⟨b2, trivial⟩, fun g3 => ⟨⟨b8.1, b8.2, by rw [hp.2.2.2.1, hii.2.2.2.1, r3.2.2.2]; exact h5.1, by rw [hp.2.2.2.1, hii.2.2.2.1, r3.2.2.2]; exact h5.2⟩, trivial⟩⟩, fun g2 => ⟨⟨hii.1, hii.2.1⟩, trivial⟩⟩, fun g => ⟨b8, trivial⟩, fun j14 q1 q2 q3 q4 => ?_⟩
  have ej : j14 = msF x1 f w9 := by
    unfold msF
    by_cases c0 : x1 = 0
    · rw [if_pos c0, q4 c0, b5']
    · rw [if_neg c0]
      by_cases c1 : x1 = 1
      · rw [if_pos c1, q3 c0 c1]; exact r3.2.1
      · rw [if_neg c1]
        by_cases c2 : x1 = 2
        · rw [if_pos c2, q2 c0 c1 c2, el]
        · rw [if_neg c2, q1 c0 c1 c2, b1]
  have msb : ∀ j, hN f j → -1000 ≤ msF x1 f j ∧ msF x1 f j ≤ 20000 := fun j q => by
    have hi2 := hN_in hI q
    have hb2 := (bon_r hI hL q).2.2.1
    have h3' := hI.1.1.2.1 j hi2.1 hi2.2.1
    have h5' := hI.1.1.1.2.2.2.2.1 j hi2.1 hi2.2.1
    have sb' := sumI_bd (f := fun p => f 7 (10 * j + p)) (lo := f 27 j) (hi := f 5 j) (B := 50) (by omega) (fun p p1 p2 => (hI.1.1.2.2.2.1 (10 * j + p) (by omega) (by omega)).2) 6 (by omega)
    unfold msF
    split
    · omega
    · split
      · omega
      · split <;> omega
  have mb := msb w9 hyes
  have mu : ∀ y7 y8 : Int, mu_X5_fill_226 x1 (gh σ 1 2) w3 w4 w5 w6 y7 y8 (w9 + 1) τ < mu_X5_fill_297 x1 (gh σ 1 2) w3 w4 w5 w6 w7 w8 w9 (pl (nxt f w9)) τ := fun y7 y8 => by unfold mu_X5_fill_226 mu_X5_fill_297; have := hyes.2.1; omega
  have h9 := hyes.2.1
  have new : (∀ i, i < w9 → rvF f w4 i → msF x1 f w9 < msF x1 f i) → chU x1 f w4 w9 j14 (w9 + 1) := fun q => Or.inr ⟨hrv, by omega, ej, fun i q1 q2 => by
    by_cases e : i = w9
    · rw [e]; exact Or.inr ⟨rfl, Int.le_refl _⟩
    · exact Or.inl (q i (by omega) q2)⟩
  rcases hU with ⟨u0, hU⟩ | ⟨u1, u2, u3, u4⟩
  · exact ⟨⟨by omega, by omega⟩, fun g => hK226 _ _ _ _ _ _ _ _ _ ⟨f, hB, hlt, hfs, e5, e6, by omega, by omega, new (fun i q1 q2 => absurd q2 (hU i q1))⟩ (mu _ _), fun g => by omega⟩
  · have w70 := u1.1.1
    have mb7 := msb w7 u1.1
    rw [← u3] at mb7
    rw [← ej] at mb
    refine ⟨⟨by omega, by omega⟩, fun g => by omega, fun g => ⟨⟨⟨by omega, by omega⟩, ⟨by omega, by omega⟩⟩, fun g2 => hK226 _ _ _ _ _ _ _ _ _ ⟨f, hB, hlt, hfs, e5, e6, by omega, by omega, Or.inr ⟨u1, by omega, u3, fun i q1 q2 => ?_⟩⟩ (mu _ _), fun g2 => hK226 _ _ _ _ _ _ _ _ _ ⟨f, hB, hlt, hfs, e5, e6, by omega, by omega, new (fun i q1 q2 => ?_)⟩ (mu _ _)⟩⟩
    · by_cases e : i = w9
      · rw [e, ← u3, ← ej]
        omega
      · exact u4 i (by omega) q2
    · have := u4 i q1 q2
      rw [← u3] at this
      rw [← ej]
      omega
theorem c_X5_fill {G : GG} (hG : GI G) (l : Launch) (x1 : Int) (σ : Mem) (h : pre_X5_fill (gM G) x1 σ) : CtI G l yX5_fill cX5_fill 12 (some .int) 1 [pR 37, pI x1] σ (post_X5_fill (gM G) x1 σ) := by
  refine CtI.of hG (by decide) (Nat.le_of_ble_eq_true rfl) (fun X hl C => ?_)
  show RW G X 12 (QI G X _) 0 [(0, pR 37), (1, pI x1)] [] σ
  have key : ∀ n : Nat, (∀ (w2 w3 : Int) (τ : Mem), inv_X5_fill_21 (gM G) x1 σ w2 w3 τ → mu_X5_fill_21 x1 w2 w3 τ < n → RW G X 12 (QI G X (post_X5_fill (gM G) x1 σ)) 21 [(0, pR 37), (1, pI x1), (2, pI w2), (3, pI w3)] [] τ) ∧ (∀ (w2 w3 : Int) (τ : Mem), inv_X5_fill_41 (gM G) x1 σ w2 w3 τ → mu_X5_fill_41 x1 w2 w3 τ < n → RW G X 12 (QI G X (post_X5_fill (gM G) x1 σ)) 41 [(0, pR 37), (1, pI x1), (2, pI w2), (3, pI w3)] [] τ) ∧ (∀ (w2 w3 : Int) (τ : Mem), inv_X5_fill_83 (gM G) x1 σ w2 w3 τ → mu_X5_fill_83 x1 w2 w3 τ < n → RW G X 12 (QI G X (post_X5_fill (gM G) x1 σ)) 83 [(0, pR 37), (1, pI x1), (2, pI w2), (3, pI w3)] [] τ) ∧ (∀ (w2 w3 : Int) (τ : Mem), inv_X5_fill_104 (gM G) x1 σ w2 w3 τ → mu_X5_fill_104 x1 w2 w3 τ < n → RW G X 12 (QI G X (post_X5_fill (gM G) x1 σ)) 104 [(0, pR 37), (1, pI x1), (2, pI w2), (3, pI w3)] [] τ) ∧ (∀ (w2 w3 w4 w5 w6 : Int) (τ : Mem), inv_X5_fill_118 (gM G) x1 σ w2 w3 w4 w5 w6 τ → mu_X5_fill_118 x1 w2 w3 w4 w5 w6 τ < n → RW G X 12 (QI G X (post_X5_fill (gM G) x1 σ)) 118 [(0, pR 37), (1, pI x1), (2, pI w2), (3, pI w3), (4, pI w4), (5, pI w5), (6, pI w6)] [] τ) ∧ (∀ (w2 w3 w4 w5 w6 w7 w8 w9 : Int) (τ : Mem), inv_X5_fill_226 (gM G) x1 σ w2 w3 w4 w5 w6 w7 w8 w9 τ → mu_X5_fill_226 x1 w2 w3 w4 w5 w6 w7 w8 w9 τ < n → RW G X 12 (QI G X (post_X5_fill (gM G) x1 σ)) 226 [(0, pR 37), (1, pI x1), (2, pI w2), (3, pI w3), (4, pI w4), (5, pI w5), (6, pI w6), (7, pI w7), (8, pI w8), (9, pI w9)] [] τ) ∧ (∀ (w2 w3 w4 w5 w6 w7 w8 w9 w10 : Int) (τ : Mem), inv_X5_fill_297 (gM G) x1 σ w2 w3 w4 w5 w6 w7 w8 w9 w10 τ → mu_X5_fill_297 x1 w2 w3 w4 w5 w6 w7 w8 w9 w10 τ < n → RW G X 12 (QI G X (post_X5_fill (gM G) x1 σ)) 297 [(0, pR 37), (1, pI x1), (2, pI w2), (3, pI w3), (4, pI w4), (5, pI w5), (6, pI w6), (7, pI w7), (8, pI w8), (9, pI w9), (10, pI w10)] [] τ) := by
    intro n
    induction n with
    | zero => exact ⟨fun w2 w3 τ _ h0 => absurd h0 (Nat.not_lt_zero _), fun w2 w3 τ _ h0 => absurd h0 (Nat.not_lt_zero _), fun w2 w3 τ _ h0 => absurd h0 (Nat.not_lt_zero _), fun w2 w3 τ _ h0 => absurd h0 (Nat.not_lt_zero _), fun w2 w3 w4 w5 w6 τ _ h0 => absurd h0 (Nat.not_lt_zero _), fun w2 w3 w4 w5 w6 w7 w8 w9 τ _ h0 => absurd h0 (Nat.not_lt_zero _), fun w2 w3 w4 w5 w6 w7 w8 w9 w10 τ _ h0 => absurd h0 (Nat.not_lt_zero _)⟩
    | succ n ih =>
      exact ⟨(fun w2 w3 τ hinv h0 => seg_X5_fill_21 C x1 w2 w3 τ (ok_X5_fill_21 h hinv (fun y2 y3 τ' hi hm => ih.1 y2 y3 τ' hi (Nat.lt_of_lt_of_le hm (Nat.le_of_lt_succ h0))) (fun y2 y3 τ' hi hm => ih.2.1 y2 y3 τ' hi (Nat.lt_of_lt_of_le hm (Nat.le_of_lt_succ h0))))), (fun w2 w3 τ hinv h0 => seg_X5_fill_41 C x1 w2 w3 τ (ok_X5_fill_41 h hinv (fun y2 y3 τ' hi hm => ih.2.1 y2 y3 τ' hi (Nat.lt_of_lt_of_le hm (Nat.le_of_lt_succ h0))) (fun y2 y3 τ' hi hm => ih.2.2.1 y2 y3 τ' hi (Nat.lt_of_lt_of_le hm (Nat.le_of_lt_succ h0))))), (fun w2 w3 τ hinv h0 => seg_X5_fill_83 C x1 w2 w3 τ (ok_X5_fill_83 h hinv (fun y2 y3 τ' hi hm => ih.2.2.1 y2 y3 τ' hi (Nat.lt_of_lt_of_le hm (Nat.le_of_lt_succ h0))) (fun y2 y3 τ' hi hm => ih.2.2.2.1 y2 y3 τ' hi (Nat.lt_of_lt_of_le hm (Nat.le_of_lt_succ h0))))), (fun w2 w3 τ hinv h0 => seg_X5_fill_104 C x1 w2 w3 τ (ok_X5_fill_104 h hinv (fun y2 y3 y4 y5 y6 τ' hi hm => ih.2.2.2.2.1 y2 y3 y4 y5 y6 τ' hi (Nat.lt_of_lt_of_le hm (Nat.le_of_lt_succ h0))))), (fun w2 w3 w4 w5 w6 τ hinv h0 => seg_X5_fill_118 C x1 w2 w3 w4 w5 w6 τ (ok_X5_fill_118 h hinv (fun y2 y3 y4 y5 y6 τ' hi hm => ih.2.2.2.2.1 y2 y3 y4 y5 y6 τ' hi (Nat.lt_of_lt_of_le hm (Nat.le_of_lt_succ h0))) (fun y2 y3 y4 y5 y6 y7 y8 y9 τ' hi hm => ih.2.2.2.2.2.1 y2 y3 y4 y5 y6 y7 y8 y9 τ' hi (Nat.lt_of_lt_of_le hm (Nat.le_of_lt_succ h0))))), (fun w2 w3 w4 w5 w6 w7 w8 w9 τ hinv h0 => seg_X5_fill_226 C x1 w2 w3 w4 w5 w6 w7 w8 w9 τ (ok_X5_fill_226 h hinv (fun y2 y3 τ' hi hm => ih.2.2.2.1 y2 y3 τ' hi (Nat.lt_of_lt_of_le hm (Nat.le_of_lt_succ h0))) (fun y2 y3 y4 y5 y6 y7 y8 y9 τ' hi hm => ih.2.2.2.2.2.1 y2 y3 y4 y5 y6 y7 y8 y9 τ' hi (Nat.lt_of_lt_of_le hm (Nat.le_of_lt_succ h0))) (fun y2 y3 y4 y5 y6 y7 y8 y9 y10 τ' hi hm => ih.2.2.2.2.2.2 y2 y3 y4 y5 y6 y7 y8 y9 y10 τ' hi (Nat.lt_of_lt_of_le hm (Nat.le_of_lt_succ h0))))), (fun w2 w3 w4 w5 w6 w7 w8 w9 w10 τ hinv h0 => seg_X5_fill_297 C x1 w2 w3 w4 w5 w6 w7 w8 w9 w10 τ (ok_X5_fill_297 h hinv (fun y2 y3 y4 y5 y6 y7 y8 y9 τ' hi hm => ih.2.2.2.2.2.1 y2 y3 y4 y5 y6 y7 y8 y9 τ' hi (Nat.lt_of_lt_of_le hm (Nat.le_of_lt_succ h0)))))⟩
  exact seg_X5_fill_0 C x1 σ (ok_X5_fill_0 h (fun y2 y3 τ' hi => (key _).1 y2 y3 τ' hi (Nat.lt_succ_self _)))
