section RWROWS
variable {G : GG} {X : XX} {cc : ByteArray} {own : String} {nL lev : Nat} {ret : Option FieldType} {Q : State → Prop} {pc : Nat} {lv : List (Nat × PV)} {st : List PV} {σ : Mem}
theorem w_iconst (C : CX G X cc own nL ret lev) {n : Int} (hd : decode cc pc = .ok (.iconst n, 1)) (kk : RW G X nL Q (pc + 1) lv (pI n :: st) σ) : RW G X nL Q pc lv (st) σ := by
  obtain ⟨⟨p, l, e, R, s⟩, ⟨m, args, below, meth, c⟩, A0, ce, sl⟩ := X
  obtain ⟨hx, hb, hml, hown, hts, hK, hG, hAA, hlocks, hr, hR⟩ := C
  intro H locs ls hP hS hl
  exact lv_iconst hx hb hd rfl (kk H locs ls hP hS hl)
theorem w_bipush (C : CX G X cc own nL ret lev) {n : Int} (hd : decode cc pc = .ok (.bipush n, 2)) (hn : (Int8.ofInt n).toInt32 = Int32.ofInt n) (kk : RW G X nL Q (pc + 2) lv (pI n :: st) σ) : RW G X nL Q pc lv (st) σ := by
  obtain ⟨⟨p, l, e, R, s⟩, ⟨m, args, below, meth, c⟩, A0, ce, sl⟩ := X
  obtain ⟨hx, hb, hml, hown, hts, hK, hG, hAA, hlocks, hr, hR⟩ := C
  intro H locs ls hP hS hl
  exact lv_bipush hx hb hd hn (kk H locs ls hP hS hl)
theorem w_sipush (C : CX G X cc own nL ret lev) {n : Int} (hd : decode cc pc = .ok (.sipush n, 3)) (hn : (Int16.ofInt n).toInt32 = Int32.ofInt n) (kk : RW G X nL Q (pc + 3) lv (pI n :: st) σ) : RW G X nL Q pc lv (st) σ := by
  obtain ⟨⟨p, l, e, R, s⟩, ⟨m, args, below, meth, c⟩, A0, ce, sl⟩ := X
  obtain ⟨hx, hb, hml, hown, hts, hK, hG, hAA, hlocks, hr, hR⟩ := C
  intro H locs ls hP hS hl
  exact lv_sipush hx hb hd hn (kk H locs ls hP hS hl)
theorem w_ldc (C : CX G X cc own nL ret lev) {i : Nat} {n : Int} (hd : decode cc pc = .ok (.ldc i, 2)) (hw : Cond.constant own i (Int32.ofInt n) ∈ TB) (kk : RW G X nL Q (pc + 2) lv (pI n :: st) σ) : RW G X nL Q pc lv (st) σ := by
  obtain ⟨⟨p, l, e, R, s⟩, ⟨m, args, below, meth, c⟩, A0, ce, sl⟩ := X
  obtain ⟨hx, hb, hml, hown, hts, hK, hG, hAA, hlocks, hr, hR⟩ := C
  intro H locs ls hP hS hl
  exact lv_ldc hx hb hown (hts _ hw) hd (kk H locs ls hP hS hl)
theorem w_ldc2 (C : CX G X cc own nL ret lev) {i : Nat} {n : Int} (hd : decode cc pc = .ok (.ldc2_w i, 3)) (hw : Cond.constantLong own i (Int64.ofInt n) ∈ TB) (kk : RW G X nL Q (pc + 3) lv (pL n :: st) σ) : RW G X nL Q pc lv (st) σ := by
  obtain ⟨⟨p, l, e, R, s⟩, ⟨m, args, below, meth, c⟩, A0, ce, sl⟩ := X
  obtain ⟨hx, hb, hml, hown, hts, hK, hG, hAA, hlocks, hr, hR⟩ := C
  intro H locs ls hP hS hl
  exact lv_ldc2 hx hb hown (hts _ hw) hd (kk H locs ls hP hS hl)
theorem w_lconst (C : CX G X cc own nL ret lev) {n : Fin 2} {z : Int} (hd : decode cc pc = .ok (.lconst n, 1)) (hn : Int64.ofNat (n : Nat) = Int64.ofInt z) (kk : RW G X nL Q (pc + 1) lv (pL z :: st) σ) : RW G X nL Q pc lv (st) σ := by
  obtain ⟨⟨p, l, e, R, s⟩, ⟨m, args, below, meth, c⟩, A0, ce, sl⟩ := X
  obtain ⟨hx, hb, hml, hown, hts, hK, hG, hAA, hlocks, hr, hR⟩ := C
  intro H locs ls hP hS hl
  exact lv_lconst hx hb hd hn (kk H locs ls hP hS hl)
theorem w_iload (C : CX G X cc own nL ret lev) {i : Nat} (k : Nat) {x : Int} (hd : decode cc pc = .ok (.iload i, 2)) (hk : lv[k]? = some (i, pI x)) (kk : RW G X nL Q (pc + 2) lv (pI x :: st) σ) : RW G X nL Q pc lv (st) σ := by
  obtain ⟨⟨p, l, e, R, s⟩, ⟨m, args, below, meth, c⟩, A0, ce, sl⟩ := X
  obtain ⟨hx, hb, hml, hown, hts, hK, hG, hAA, hlocks, hr, hR⟩ := C
  intro H locs ls hP hS hl
  exact lv_iload hx hb hd (lv_at hl k (denl_get hk)) (kk H locs ls hP hS hl)
theorem w_iload_n (C : CX G X cc own nL ret lev) {j : Fin 4} (k : Nat) {x : Int} (hd : decode cc pc = .ok (.iload_n j, 1)) (hk : lv[k]? = some ((j : Nat), pI x)) (kk : RW G X nL Q (pc + 1) lv (pI x :: st) σ) : RW G X nL Q pc lv (st) σ := by
  obtain ⟨⟨p, l, e, R, s⟩, ⟨m, args, below, meth, c⟩, A0, ce, sl⟩ := X
  obtain ⟨hx, hb, hml, hown, hts, hK, hG, hAA, hlocks, hr, hR⟩ := C
  intro H locs ls hP hS hl
  exact lv_iload_n hx hb hd rfl (lv_at hl k (denl_get hk)) (kk H locs ls hP hS hl)
theorem w_aload (C : CX G X cc own nL ret lev) {i : Nat} (k : Nat) {x : Int} (hd : decode cc pc = .ok (.aload i, 2)) (hk : lv[k]? = some (i, pR x)) (kk : RW G X nL Q (pc + 2) lv (pR x :: st) σ) : RW G X nL Q pc lv (st) σ := by
  obtain ⟨⟨p, l, e, R, s⟩, ⟨m, args, below, meth, c⟩, A0, ce, sl⟩ := X
  obtain ⟨hx, hb, hml, hown, hts, hK, hG, hAA, hlocks, hr, hR⟩ := C
  intro H locs ls hP hS hl
  exact lv_aload hx hb hd (lv_at hl k (denl_get hk)) (kk H locs ls hP hS hl)
theorem w_aload_n (C : CX G X cc own nL ret lev) {j : Fin 4} (k : Nat) {x : Int} (hd : decode cc pc = .ok (.aload_n j, 1)) (hk : lv[k]? = some ((j : Nat), pR x)) (kk : RW G X nL Q (pc + 1) lv (pR x :: st) σ) : RW G X nL Q pc lv (st) σ := by
  obtain ⟨⟨p, l, e, R, s⟩, ⟨m, args, below, meth, c⟩, A0, ce, sl⟩ := X
  obtain ⟨hx, hb, hml, hown, hts, hK, hG, hAA, hlocks, hr, hR⟩ := C
  intro H locs ls hP hS hl
  exact lv_aload_n hx hb hd rfl (lv_at hl k (denl_get hk)) (kk H locs ls hP hS hl)
theorem w_lload (C : CX G X cc own nL ret lev) {i : Nat} (k : Nat) {x : Int} (hd : decode cc pc = .ok (.lload i, 2)) (hk : lv[k]? = some (i, pL x)) (kk : RW G X nL Q (pc + 2) lv (pL x :: st) σ) : RW G X nL Q pc lv (st) σ := by
  obtain ⟨⟨p, l, e, R, s⟩, ⟨m, args, below, meth, c⟩, A0, ce, sl⟩ := X
  obtain ⟨hx, hb, hml, hown, hts, hK, hG, hAA, hlocks, hr, hR⟩ := C
  intro H locs ls hP hS hl
  exact lv_lload hx hb hd (lv_at hl k (denl_get hk)) (kk H locs ls hP hS hl)
theorem w_lload_n (C : CX G X cc own nL ret lev) {j : Fin 4} (k : Nat) {x : Int} (hd : decode cc pc = .ok (.lload_n j, 1)) (hk : lv[k]? = some ((j : Nat), pL x)) (kk : RW G X nL Q (pc + 1) lv (pL x :: st) σ) : RW G X nL Q pc lv (st) σ := by
  obtain ⟨⟨p, l, e, R, s⟩, ⟨m, args, below, meth, c⟩, A0, ce, sl⟩ := X
  obtain ⟨hx, hb, hml, hown, hts, hK, hG, hAA, hlocks, hr, hR⟩ := C
  intro H locs ls hP hS hl
  exact lv_lload_n hx hb hd rfl (lv_at hl k (denl_get hk)) (kk H locs ls hP hS hl)
theorem w_istore (C : CX G X cc own nL ret lev) {i : Nat} {x : Int} (lv' : List (Nat × PV)) (hd : decode cc pc = .ok (.istore i, 2)) (hn : i < nL) (hv : stoI lv i (pI x) = lv') (kk : RW G X nL Q (pc + 2) lv' (st) σ) : RW G X nL Q pc lv (pI x :: st) σ := by
  obtain ⟨⟨p, l, e, R, s⟩, ⟨m, args, below, meth, c⟩, A0, ce, sl⟩ := X
  obtain ⟨hx, hb, hml, hown, hts, hK, hG, hAA, hlocks, hr, hR⟩ := C
  intro H locs ls hP hS hl
  exact lv_istore hx hb hd hl hn (by rw [← hv]; exact (denl_stoI (gA G) lv i (pI x)).symm) (fun ls' hl' => kk H locs ls' hP hS hl')
theorem w_istore_n (C : CX G X cc own nL ret lev) {j : Fin 4} {x : Int} (lv' : List (Nat × PV)) (hd : decode cc pc = .ok (.istore_n j, 1)) (hn : (j : Nat) < nL) (hv : stoI lv j (pI x) = lv') (kk : RW G X nL Q (pc + 1) lv' (st) σ) : RW G X nL Q pc lv (pI x :: st) σ := by
  obtain ⟨⟨p, l, e, R, s⟩, ⟨m, args, below, meth, c⟩, A0, ce, sl⟩ := X
  obtain ⟨hx, hb, hml, hown, hts, hK, hG, hAA, hlocks, hr, hR⟩ := C
  intro H locs ls hP hS hl
  exact lv_istore_n hx hb hd rfl hl hn (by rw [← hv]; exact (denl_stoI (gA G) lv j (pI x)).symm) (fun ls' hl' => kk H locs ls' hP hS hl')
theorem w_astore (C : CX G X cc own nL ret lev) {i : Nat} {x : Int} (lv' : List (Nat × PV)) (hd : decode cc pc = .ok (.astore i, 2)) (hn : i < nL) (hv : stoI lv i (pR x) = lv') (kk : RW G X nL Q (pc + 2) lv' (st) σ) : RW G X nL Q pc lv (pR x :: st) σ := by
  obtain ⟨⟨p, l, e, R, s⟩, ⟨m, args, below, meth, c⟩, A0, ce, sl⟩ := X
  obtain ⟨hx, hb, hml, hown, hts, hK, hG, hAA, hlocks, hr, hR⟩ := C
  intro H locs ls hP hS hl
  exact lv_astore hx hb hd hl hn (by rw [← hv]; exact (denl_stoI (gA G) lv i (pR x)).symm) (fun ls' hl' => kk H locs ls' hP hS hl')
theorem w_astore_n (C : CX G X cc own nL ret lev) {j : Fin 4} {x : Int} (lv' : List (Nat × PV)) (hd : decode cc pc = .ok (.astore_n j, 1)) (hn : (j : Nat) < nL) (hv : stoI lv j (pR x) = lv') (kk : RW G X nL Q (pc + 1) lv' (st) σ) : RW G X nL Q pc lv (pR x :: st) σ := by
  obtain ⟨⟨p, l, e, R, s⟩, ⟨m, args, below, meth, c⟩, A0, ce, sl⟩ := X
  obtain ⟨hx, hb, hml, hown, hts, hK, hG, hAA, hlocks, hr, hR⟩ := C
  intro H locs ls hP hS hl
  exact lv_astore_n hx hb hd rfl hl hn (by rw [← hv]; exact (denl_stoI (gA G) lv j (pR x)).symm) (fun ls' hl' => kk H locs ls' hP hS hl')
theorem w_lstore (C : CX G X cc own nL ret lev) {i : Nat} {x : Int} (lv' : List (Nat × PV)) (hd : decode cc pc = .ok (.lstore i, 2)) (hn : i + 1 < nL) (hv : stoL lv i (pL x) = lv') (kk : RW G X nL Q (pc + 2) lv' (st) σ) : RW G X nL Q pc lv (pL x :: st) σ := by
  obtain ⟨⟨p, l, e, R, s⟩, ⟨m, args, below, meth, c⟩, A0, ce, sl⟩ := X
  obtain ⟨hx, hb, hml, hown, hts, hK, hG, hAA, hlocks, hr, hR⟩ := C
  intro H locs ls hP hS hl
  exact lv_lstore hx hb hd hl hn (by rw [← hv]; exact (denl_stoL (gA G) lv i (pL x)).symm) (fun ls' hl' => kk H locs ls' hP hS hl')
theorem w_lstore_n (C : CX G X cc own nL ret lev) {j : Fin 4} {x : Int} (lv' : List (Nat × PV)) (hd : decode cc pc = .ok (.lstore_n j, 1)) (hn : (j : Nat) + 1 < nL) (hv : stoL lv j (pL x) = lv') (kk : RW G X nL Q (pc + 1) lv' (st) σ) : RW G X nL Q pc lv (pL x :: st) σ := by
  obtain ⟨⟨p, l, e, R, s⟩, ⟨m, args, below, meth, c⟩, A0, ce, sl⟩ := X
  obtain ⟨hx, hb, hml, hown, hts, hK, hG, hAA, hlocks, hr, hR⟩ := C
  intro H locs ls hP hS hl
  exact lv_lstore_n hx hb hd rfl hl hn (by rw [← hv]; exact (denl_stoL (gA G) lv j (pL x)).symm) (fun ls' hl' => kk H locs ls' hP hS hl')
theorem w_iinc (C : CX G X cc own nL ret lev) {i : Nat} {n x : Int} (k : Nat) (lv' : List (Nat × PV)) (hd : decode cc pc = .ok (.iinc i n, 3)) (hk : lv[k]? = some (i, pI x)) (hn : i < nL) (hv : stoI lv i (pI (x + n)) = lv') (kk : RW G X nL Q (pc + 3) lv' (st) σ) : RW G X nL Q pc lv (st) σ := by
  obtain ⟨⟨p, l, e, R, s⟩, ⟨m, args, below, meth, c⟩, A0, ce, sl⟩ := X
  obtain ⟨hx, hb, hml, hown, hts, hK, hG, hAA, hlocks, hr, hR⟩ := C
  intro H locs ls hP hS hl
  exact lv_iinc hx hb hd hl (denl_get hk) (show oI x + oI n = oI (x + n) from oI_add x n) hn (by rw [← hv]; exact (denl_stoI (gA G) lv i (pI (x + n))).symm) (fun ls' hl' => kk H locs ls' hP hS hl')
theorem den_cat1 {ad : Int → Nat} {v : PV} (h : isLg v = false) : (den ad v).category = 1 := by
  rcases v with z | z | z
  · rfl
  · cases h
  · rfl
theorem w_dup (C : CX G X cc own nL ret lev) {v : PV} (hd : decode cc pc = .ok (.dup, 1)) (hv : isLg v = false) (kk : RW G X nL Q (pc + 1) lv (v :: v :: st) σ) : RW G X nL Q pc lv (v :: st) σ := by
  obtain ⟨⟨p, l, e, R, s⟩, ⟨m, args, below, meth, c⟩, A0, ce, sl⟩ := X
  obtain ⟨hx, hb, hml, hown, hts, hK, hG, hAA, hlocks, hr, hR⟩ := C
  intro H locs ls hP hS hl
  exact lv_dup hx hb hd (den_cat1 hv) (kk H locs ls hP hS hl)
theorem w_dup2 (C : CX G X cc own nL ret lev) {v w : PV} (hd : decode cc pc = .ok (.dup2, 1)) (hv : isLg v = false) (hw : isLg w = false) (kk : RW G X nL Q (pc + 1) lv (v :: w :: v :: w :: st) σ) : RW G X nL Q pc lv (v :: w :: st) σ := by
  obtain ⟨⟨p, l, e, R, s⟩, ⟨m, args, below, meth, c⟩, A0, ce, sl⟩ := X
  obtain ⟨hx, hb, hml, hown, hts, hK, hG, hAA, hlocks, hr, hR⟩ := C
  intro H locs ls hP hS hl
  exact lv_dup2_11 hx hb hd (den_cat1 hv) (den_cat1 hw) (kk H locs ls hP hS hl)
theorem w_dup_x1 (C : CX G X cc own nL ret lev) {v w : PV} (hd : decode cc pc = .ok (.dup_x1, 1)) (hv : isLg v = false) (hw : isLg w = false) (kk : RW G X nL Q (pc + 1) lv (v :: w :: v :: st) σ) : RW G X nL Q pc lv (v :: w :: st) σ := by
  obtain ⟨⟨p, l, e, R, s⟩, ⟨m, args, below, meth, c⟩, A0, ce, sl⟩ := X
  obtain ⟨hx, hb, hml, hown, hts, hK, hG, hAA, hlocks, hr, hR⟩ := C
  intro H locs ls hP hS hl
  exact lv_dup_x1 hx hb hd (den_cat1 hv) (den_cat1 hw) (kk H locs ls hP hS hl)
theorem w_dup_x2 (C : CX G X cc own nL ret lev) {v w u : PV} (hd : decode cc pc = .ok (.dup_x2, 1)) (hv : isLg v = false) (hw : isLg w = false) (hu : isLg u = false) (kk : RW G X nL Q (pc + 1) lv (v :: w :: u :: v :: st) σ) : RW G X nL Q pc lv (v :: w :: u :: st) σ := by
  obtain ⟨⟨p, l, e, R, s⟩, ⟨m, args, below, meth, c⟩, A0, ce, sl⟩ := X
  obtain ⟨hx, hb, hml, hown, hts, hK, hG, hAA, hlocks, hr, hR⟩ := C
  intro H locs ls hP hS hl
  exact lv_dup_x2 hx hb hd (den_cat1 hv) (den_cat1 hw) (den_cat1 hu) (kk H locs ls hP hS hl)
theorem w_iadd (C : CX G X cc own nL ret lev) {a b : Int} (hd : decode cc pc = .ok (.iadd, 1)) (kk : RW G X nL Q (pc + 1) lv (pI (a + b) :: st) σ) : RW G X nL Q pc lv (pI b :: pI a :: st) σ := by
  obtain ⟨⟨p, l, e, R, s⟩, ⟨m, args, below, meth, c⟩, A0, ce, sl⟩ := X
  obtain ⟨hx, hb, hml, hown, hts, hK, hG, hAA, hlocks, hr, hR⟩ := C
  intro H locs ls hP hS hl
  have k := kk H locs ls hP hS hl
  exact lv_iadd hx hb hd (by rw [oI_add]; exact k)
theorem w_isub (C : CX G X cc own nL ret lev) {a b : Int} (hd : decode cc pc = .ok (.isub, 1)) (kk : RW G X nL Q (pc + 1) lv (pI (a - b) :: st) σ) : RW G X nL Q pc lv (pI b :: pI a :: st) σ := by
  obtain ⟨⟨p, l, e, R, s⟩, ⟨m, args, below, meth, c⟩, A0, ce, sl⟩ := X
  obtain ⟨hx, hb, hml, hown, hts, hK, hG, hAA, hlocks, hr, hR⟩ := C
  intro H locs ls hP hS hl
  have k := kk H locs ls hP hS hl
  exact lv_isub hx hb hd (by rw [oI_sub]; exact k)
theorem w_imul (C : CX G X cc own nL ret lev) {a b : Int} (hd : decode cc pc = .ok (.imul, 1)) (kk : RW G X nL Q (pc + 1) lv (pI (a * b) :: st) σ) : RW G X nL Q pc lv (pI b :: pI a :: st) σ := by
  obtain ⟨⟨p, l, e, R, s⟩, ⟨m, args, below, meth, c⟩, A0, ce, sl⟩ := X
  obtain ⟨hx, hb, hml, hown, hts, hK, hG, hAA, hlocks, hr, hR⟩ := C
  intro H locs ls hP hS hl
  have k := kk H locs ls hP hS hl
  exact lv_imul hx hb hd (by rw [oI_mul]; exact k)
theorem w_ineg (C : CX G X cc own nL ret lev) {a : Int} (hd : decode cc pc = .ok (.ineg, 1)) (kk : RW G X nL Q (pc + 1) lv (pI (-a) :: st) σ) : RW G X nL Q pc lv (pI a :: st) σ := by
  obtain ⟨⟨p, l, e, R, s⟩, ⟨m, args, below, meth, c⟩, A0, ce, sl⟩ := X
  obtain ⟨hx, hb, hml, hown, hts, hK, hG, hAA, hlocks, hr, hR⟩ := C
  intro H locs ls hP hS hl
  have k := kk H locs ls hP hS hl
  exact lv_ineg hx hb hd (by rw [oI_neg]; exact k)
theorem oI_ne0 {b : Int} (hb : inR b) (h : 0 < b) : ¬ oI b = 0 := fun q => by
  have := (oI_eq hb (show inR 0 from ⟨by omega, by omega⟩)).mp q
  omega
theorem w_idiv (C : CX G X cc own nL ret lev) {a b : Int} (hd : decode cc pc = .ok (.idiv, 1)) (ha : inR a) (hb' : inR b) (h0 : 0 < b) (kk : RW G X nL Q (pc + 1) lv (pI (a.tdiv b) :: st) σ) : RW G X nL Q pc lv (pI b :: pI a :: st) σ := by
  obtain ⟨⟨p, l, e, R, s⟩, ⟨m, args, below, meth, c⟩, A0, ce, sl⟩ := X
  obtain ⟨hx, hb, hml, hown, hts, hK, hG, hAA, hlocks, hr, hR⟩ := C
  intro H locs ls hP hS hl
  have k := kk H locs ls hP hS hl
  exact lv_idiv hx hb hd (oI_ne0 hb' h0) (by rw [oI_div ha hb' h0]; exact k)
theorem w_irem (C : CX G X cc own nL ret lev) {a b : Int} (hd : decode cc pc = .ok (.irem, 1)) (ha : inR a) (hb' : inR b) (h0 : 0 < b) (kk : RW G X nL Q (pc + 1) lv (pI (a.tmod b) :: st) σ) : RW G X nL Q pc lv (pI b :: pI a :: st) σ := by
  obtain ⟨⟨p, l, e, R, s⟩, ⟨m, args, below, meth, c⟩, A0, ce, sl⟩ := X
  obtain ⟨hx, hb, hml, hown, hts, hK, hG, hAA, hlocks, hr, hR⟩ := C
  intro H locs ls hP hS hl
  have k := kk H locs ls hP hS hl
  exact lv_irem hx hb hd (oI_ne0 hb' h0) (by rw [oI_rem ha hb' h0]; exact k)
def bAnd (a b : Int) : Int := (oI a &&& oI b).toInt
def bOr (a b : Int) : Int := (oI a ||| oI b).toInt
def bXor (a b : Int) : Int := (oI a ^^^ oI b).toInt
def bShl (a b : Int) : Int := (oI a <<< (oI b &&& 31)).toInt
def bShr (a b : Int) : Int := (oI a >>> (oI b &&& 31)).toInt
theorem w_iand (C : CX G X cc own nL ret lev) {a b : Int} (hd : decode cc pc = .ok (.iand, 1)) (kk : RW G X nL Q (pc + 1) lv (pI (bAnd a b) :: st) σ) : RW G X nL Q pc lv (pI b :: pI a :: st) σ := by
  obtain ⟨⟨p, l, e, R, s⟩, ⟨m, args, below, meth, c⟩, A0, ce, sl⟩ := X
  obtain ⟨hx, hb, hml, hown, hts, hK, hG, hAA, hlocks, hr, hR⟩ := C
  intro H locs ls hP hS hl
  have k : W p l e R s m args below meth c H locs ce sl Q (F0 m (pc + 1) ls (.int (oI (bAnd a b)) :: dens (gA G) st)) := kk H locs ls hP hS hl
  rw [bAnd, oI_of] at k
  exact lv_iand hx hb hd k
theorem w_ior (C : CX G X cc own nL ret lev) {a b : Int} (hd : decode cc pc = .ok (.ior, 1)) (kk : RW G X nL Q (pc + 1) lv (pI (bOr a b) :: st) σ) : RW G X nL Q pc lv (pI b :: pI a :: st) σ := by
  obtain ⟨⟨p, l, e, R, s⟩, ⟨m, args, below, meth, c⟩, A0, ce, sl⟩ := X
  obtain ⟨hx, hb, hml, hown, hts, hK, hG, hAA, hlocks, hr, hR⟩ := C
  intro H locs ls hP hS hl
  have k : W p l e R s m args below meth c H locs ce sl Q (F0 m (pc + 1) ls (.int (oI (bOr a b)) :: dens (gA G) st)) := kk H locs ls hP hS hl
  rw [bOr, oI_of] at k
  exact lv_ior hx hb hd k
theorem w_ixor (C : CX G X cc own nL ret lev) {a b : Int} (hd : decode cc pc = .ok (.ixor, 1)) (kk : RW G X nL Q (pc + 1) lv (pI (bXor a b) :: st) σ) : RW G X nL Q pc lv (pI b :: pI a :: st) σ := by
  obtain ⟨⟨p, l, e, R, s⟩, ⟨m, args, below, meth, c⟩, A0, ce, sl⟩ := X
  obtain ⟨hx, hb, hml, hown, hts, hK, hG, hAA, hlocks, hr, hR⟩ := C
  intro H locs ls hP hS hl
  have k : W p l e R s m args below meth c H locs ce sl Q (F0 m (pc + 1) ls (.int (oI (bXor a b)) :: dens (gA G) st)) := kk H locs ls hP hS hl
  rw [bXor, oI_of] at k
  exact lv_ixor hx hb hd k
theorem w_ishl (C : CX G X cc own nL ret lev) {a b : Int} (hd : decode cc pc = .ok (.ishl, 1)) (kk : RW G X nL Q (pc + 1) lv (pI (bShl a b) :: st) σ) : RW G X nL Q pc lv (pI b :: pI a :: st) σ := by
  obtain ⟨⟨p, l, e, R, s⟩, ⟨m, args, below, meth, c⟩, A0, ce, sl⟩ := X
  obtain ⟨hx, hb, hml, hown, hts, hK, hG, hAA, hlocks, hr, hR⟩ := C
  intro H locs ls hP hS hl
  have k : W p l e R s m args below meth c H locs ce sl Q (F0 m (pc + 1) ls (.int (oI (bShl a b)) :: dens (gA G) st)) := kk H locs ls hP hS hl
  rw [bShl, oI_of] at k
  exact lv_ishl hx hb hd k
theorem w_ishr (C : CX G X cc own nL ret lev) {a b : Int} (hd : decode cc pc = .ok (.ishr, 1)) (kk : RW G X nL Q (pc + 1) lv (pI (bShr a b) :: st) σ) : RW G X nL Q pc lv (pI b :: pI a :: st) σ := by
  obtain ⟨⟨p, l, e, R, s⟩, ⟨m, args, below, meth, c⟩, A0, ce, sl⟩ := X
  obtain ⟨hx, hb, hml, hown, hts, hK, hG, hAA, hlocks, hr, hR⟩ := C
  intro H locs ls hP hS hl
  have k : W p l e R s m args below meth c H locs ce sl Q (F0 m (pc + 1) ls (.int (oI (bShr a b)) :: dens (gA G) st)) := kk H locs ls hP hS hl
  rw [bShr, oI_of] at k
  exact lv_ishr hx hb hd k
theorem oI_l {a : Int} (ha : inR a) : (oI a).toInt64 = oL a := by
  apply Int64.toInt.inj
  rw [Int32.toInt_toInt64, oI_toInt ha, oL_toInt ⟨by have := ha.1; omega, by have := ha.2; omega⟩]
theorem w_i2l (C : CX G X cc own nL ret lev) {a : Int} (hd : decode cc pc = .ok (.i2l, 1)) (ha : inR a) (kk : RW G X nL Q (pc + 1) lv (pL a :: st) σ) : RW G X nL Q pc lv (pI a :: st) σ := by
  obtain ⟨⟨p, l, e, R, s⟩, ⟨m, args, below, meth, c⟩, A0, ce, sl⟩ := X
  obtain ⟨hx, hb, hml, hown, hts, hK, hG, hAA, hlocks, hr, hR⟩ := C
  intro H locs ls hP hS hl
  exact lv_i2l hx hb hd (oI_l ha) (kk H locs ls hP hS hl)
theorem w_ladd (C : CX G X cc own nL ret lev) {a b : Int} (hd : decode cc pc = .ok (.ladd, 1)) (kk : RW G X nL Q (pc + 1) lv (pL (a + b) :: st) σ) : RW G X nL Q pc lv (pL b :: pL a :: st) σ := by
  obtain ⟨⟨p, l, e, R, s⟩, ⟨m, args, below, meth, c⟩, A0, ce, sl⟩ := X
  obtain ⟨hx, hb, hml, hown, hts, hK, hG, hAA, hlocks, hr, hR⟩ := C
  intro H locs ls hP hS hl
  have k := kk H locs ls hP hS hl
  exact lv_ladd hx hb hd (by rw [oL_add]; exact k)
theorem w_lmul (C : CX G X cc own nL ret lev) {a b : Int} (hd : decode cc pc = .ok (.lmul, 1)) (kk : RW G X nL Q (pc + 1) lv (pL (a * b) :: st) σ) : RW G X nL Q pc lv (pL b :: pL a :: st) σ := by
  obtain ⟨⟨p, l, e, R, s⟩, ⟨m, args, below, meth, c⟩, A0, ce, sl⟩ := X
  obtain ⟨hx, hb, hml, hown, hts, hK, hG, hAA, hlocks, hr, hR⟩ := C
  intro H locs ls hP hS hl
  have k := kk H locs ls hP hS hl
  exact lv_lmul hx hb hd (by rw [oL_mul]; exact k)
theorem oL_eq {a b : Int} (ha : inL a) (hb : inL b) : oL a = oL b ↔ a = b := by
  constructor
  · intro h
    have := congrArg Int64.toInt h
    rwa [oL_toInt ha, oL_toInt hb] at this
  · intro h; rw [h]
theorem oL_lt {a b : Int} (ha : inL a) (hb : inL b) : oL a < oL b ↔ a < b := by rw [Int64.lt_iff_toInt_lt, oL_toInt ha, oL_toInt hb]
theorem oL_div {a b : Int} (ha : inL a) (hb : inL b) (h : 0 < b) : oL a / oL b = oL (a.tdiv b) := by
  apply Int64.toInt.inj
  rw [Int64.toInt_div, oL_toInt ha, oL_toInt hb, oL, Int64.toInt_ofInt]
theorem w_ldiv (C : CX G X cc own nL ret lev) {a b : Int} (hd : decode cc pc = .ok (.ldiv, 1)) (ha : inL a) (hb' : inL b) (h0 : 0 < b) (kk : RW G X nL Q (pc + 1) lv (pL (a.tdiv b) :: st) σ) : RW G X nL Q pc lv (pL b :: pL a :: st) σ := by
  obtain ⟨⟨p, l, e, R, s⟩, ⟨m, args, below, meth, c⟩, A0, ce, sl⟩ := X
  obtain ⟨hx, hb, hml, hown, hts, hK, hG, hAA, hlocks, hr, hR⟩ := C
  intro H locs ls hP hS hl
  have k := kk H locs ls hP hS hl
  exact lv_ldiv hx hb hd (fun q => by have := (oL_eq hb' (show inL 0 from ⟨by omega, by omega⟩)).mp q; omega) (by rw [oL_div ha hb' h0]; exact k)
def sgn (a b : Int) : Int := if b < a then 1 else if a = b then 0 else -1
theorem w_lcmp (C : CX G X cc own nL ret lev) {a b : Int} (hd : decode cc pc = .ok (.lcmp, 1)) (ha : inL a) (hb' : inL b) (kk : RW G X nL Q (pc + 1) lv (pI (sgn a b) :: st) σ) : RW G X nL Q pc lv (pL b :: pL a :: st) σ := by
  obtain ⟨⟨p, l, e, R, s⟩, ⟨m, args, below, meth, c⟩, A0, ce, sl⟩ := X
  obtain ⟨hx, hb, hml, hown, hts, hK, hG, hAA, hlocks, hr, hR⟩ := C
  intro H locs ls hP hS hl
  have k : W p l e R s m args below meth c H locs ce sl Q (F0 m (pc + 1) ls (.int (oI (sgn a b)) :: dens (gA G) st)) := kk H locs ls hP hS hl
  have e : lg_cmp (oL a) (oL b) = oI (sgn a b) := by
    unfold lg_cmp sgn
    by_cases h1 : b < a
    · rw [if_pos h1, if_pos (show oL a > oL b from (oL_lt hb' ha).mpr h1)]; rfl
    · rw [if_neg h1, if_neg (show ¬ oL a > oL b from fun q => h1 ((oL_lt hb' ha).mp q))]
      by_cases h2 : a = b
      · rw [if_pos h2, if_pos ((oL_eq ha hb').mpr h2)]; rfl
      · rw [if_neg h2, if_neg (fun q => h2 ((oL_eq ha hb').mp q))]; rfl
  rw [← e] at k
  exact W.lcmp hx hb hd k
theorem w_icmp_eq (C : CX G X cc own nL ret lev) {a b : Int} {off : Int} (tgt : Nat) (hd : decode cc pc = .ok (.if_icmp .eq off, 3)) (ht : (pc : Int) + off = (tgt : Int)) (ha : inR a) (hb' : inR b) (kt : a = b → RW G X nL Q tgt lv st σ) (kf : ¬ a = b → RW G X nL Q (pc + 3) lv st σ) : RW G X nL Q pc lv (pI b :: pI a :: st) σ := by
  obtain ⟨⟨p, l, e, R, s⟩, ⟨m, args, below, meth, c⟩, A0, ce, sl⟩ := X
  obtain ⟨hx, hb, hml, hown, hts, hK, hG, hAA, hlocks, hr, hR⟩ := C
  intro H locs ls hP hS hl
  exact lv_icmp_eq hx hb hd ht (fun q => kt ((oI_eq ha hb').mp q) H locs ls hP hS hl) (fun q => kf (fun z => q ((oI_eq ha hb').mpr z)) H locs ls hP hS hl)
theorem w_icmp_ne (C : CX G X cc own nL ret lev) {a b : Int} {off : Int} (tgt : Nat) (hd : decode cc pc = .ok (.if_icmp .ne off, 3)) (ht : (pc : Int) + off = (tgt : Int)) (ha : inR a) (hb' : inR b) (kt : ¬ a = b → RW G X nL Q tgt lv st σ) (kf : a = b → RW G X nL Q (pc + 3) lv st σ) : RW G X nL Q pc lv (pI b :: pI a :: st) σ := by
  obtain ⟨⟨p, l, e, R, s⟩, ⟨m, args, below, meth, c⟩, A0, ce, sl⟩ := X
  obtain ⟨hx, hb, hml, hown, hts, hK, hG, hAA, hlocks, hr, hR⟩ := C
  intro H locs ls hP hS hl
  exact lv_icmp_ne hx hb hd ht (fun q => kt (fun z => q ((oI_eq ha hb').mpr z)) H locs ls hP hS hl) (fun q => kf ((oI_eq ha hb').mp q) H locs ls hP hS hl)
theorem w_icmp_lt (C : CX G X cc own nL ret lev) {a b : Int} {off : Int} (tgt : Nat) (hd : decode cc pc = .ok (.if_icmp .lt off, 3)) (ht : (pc : Int) + off = (tgt : Int)) (ha : inR a) (hb' : inR b) (kt : a < b → RW G X nL Q tgt lv st σ) (kf : b ≤ a → RW G X nL Q (pc + 3) lv st σ) : RW G X nL Q pc lv (pI b :: pI a :: st) σ := by
  obtain ⟨⟨p, l, e, R, s⟩, ⟨m, args, below, meth, c⟩, A0, ce, sl⟩ := X
  obtain ⟨hx, hb, hml, hown, hts, hK, hG, hAA, hlocks, hr, hR⟩ := C
  intro H locs ls hP hS hl
  exact lv_icmp_lt hx hb hd ht (fun q => kt ((oI_lt ha hb').mp q) H locs ls hP hS hl) (fun q => kf (Int.not_lt.mp (fun z => q ((oI_lt ha hb').mpr z))) H locs ls hP hS hl)
theorem w_icmp_ge (C : CX G X cc own nL ret lev) {a b : Int} {off : Int} (tgt : Nat) (hd : decode cc pc = .ok (.if_icmp .ge off, 3)) (ht : (pc : Int) + off = (tgt : Int)) (ha : inR a) (hb' : inR b) (kt : b ≤ a → RW G X nL Q tgt lv st σ) (kf : a < b → RW G X nL Q (pc + 3) lv st σ) : RW G X nL Q pc lv (pI b :: pI a :: st) σ := by
  obtain ⟨⟨p, l, e, R, s⟩, ⟨m, args, below, meth, c⟩, A0, ce, sl⟩ := X
  obtain ⟨hx, hb, hml, hown, hts, hK, hG, hAA, hlocks, hr, hR⟩ := C
  intro H locs ls hP hS hl
  exact lv_icmp_ge hx hb hd ht (fun q => kt ((oI_le hb' ha).mp q) H locs ls hP hS hl) (fun q => kf (Int.not_le.mp (fun z => q ((oI_le hb' ha).mpr z))) H locs ls hP hS hl)
theorem w_icmp_gt (C : CX G X cc own nL ret lev) {a b : Int} {off : Int} (tgt : Nat) (hd : decode cc pc = .ok (.if_icmp .gt off, 3)) (ht : (pc : Int) + off = (tgt : Int)) (ha : inR a) (hb' : inR b) (kt : b < a → RW G X nL Q tgt lv st σ) (kf : a ≤ b → RW G X nL Q (pc + 3) lv st σ) : RW G X nL Q pc lv (pI b :: pI a :: st) σ := by
  obtain ⟨⟨p, l, e, R, s⟩, ⟨m, args, below, meth, c⟩, A0, ce, sl⟩ := X
  obtain ⟨hx, hb, hml, hown, hts, hK, hG, hAA, hlocks, hr, hR⟩ := C
  intro H locs ls hP hS hl
  exact lv_icmp_gt hx hb hd ht (fun q => kt ((oI_lt hb' ha).mp q) H locs ls hP hS hl) (fun q => kf (Int.not_lt.mp (fun z => q ((oI_lt hb' ha).mpr z))) H locs ls hP hS hl)
theorem w_icmp_le (C : CX G X cc own nL ret lev) {a b : Int} {off : Int} (tgt : Nat) (hd : decode cc pc = .ok (.if_icmp .le off, 3)) (ht : (pc : Int) + off = (tgt : Int)) (ha : inR a) (hb' : inR b) (kt : a ≤ b → RW G X nL Q tgt lv st σ) (kf : b < a → RW G X nL Q (pc + 3) lv st σ) : RW G X nL Q pc lv (pI b :: pI a :: st) σ := by
  obtain ⟨⟨p, l, e, R, s⟩, ⟨m, args, below, meth, c⟩, A0, ce, sl⟩ := X
  obtain ⟨hx, hb, hml, hown, hts, hK, hG, hAA, hlocks, hr, hR⟩ := C
  intro H locs ls hP hS hl
  exact lv_icmp_le hx hb hd ht (fun q => kt ((oI_le ha hb').mp q) H locs ls hP hS hl) (fun q => kf (Int.not_le.mp (fun z => q ((oI_le ha hb').mpr z))) H locs ls hP hS hl)
theorem inR0 : inR 0 := ⟨by omega, by omega⟩
theorem w_if_eq (C : CX G X cc own nL ret lev) {a : Int} {off : Int} (tgt : Nat) (hd : decode cc pc = .ok (.ifCond .eq off, 3)) (ht : (pc : Int) + off = (tgt : Int)) (ha : inR a) (kt : a = 0 → RW G X nL Q tgt lv st σ) (kf : ¬ a = 0 → RW G X nL Q (pc + 3) lv st σ) : RW G X nL Q pc lv (pI a :: st) σ := by
  obtain ⟨⟨p, l, e, R, s⟩, ⟨m, args, below, meth, c⟩, A0, ce, sl⟩ := X
  obtain ⟨hx, hb, hml, hown, hts, hK, hG, hAA, hlocks, hr, hR⟩ := C
  intro H locs ls hP hS hl
  exact lv_if_eq hx hb hd ht (fun q => kt ((oI_eq ha inR0).mp q) H locs ls hP hS hl) (fun q => kf (fun z => q ((oI_eq ha inR0).mpr z)) H locs ls hP hS hl)
theorem w_if_ne (C : CX G X cc own nL ret lev) {a : Int} {off : Int} (tgt : Nat) (hd : decode cc pc = .ok (.ifCond .ne off, 3)) (ht : (pc : Int) + off = (tgt : Int)) (ha : inR a) (kt : ¬ a = 0 → RW G X nL Q tgt lv st σ) (kf : a = 0 → RW G X nL Q (pc + 3) lv st σ) : RW G X nL Q pc lv (pI a :: st) σ := by
  obtain ⟨⟨p, l, e, R, s⟩, ⟨m, args, below, meth, c⟩, A0, ce, sl⟩ := X
  obtain ⟨hx, hb, hml, hown, hts, hK, hG, hAA, hlocks, hr, hR⟩ := C
  intro H locs ls hP hS hl
  exact lv_if_ne hx hb hd ht (fun q => kt (fun z => q ((oI_eq ha inR0).mpr z)) H locs ls hP hS hl) (fun q => kf ((oI_eq ha inR0).mp q) H locs ls hP hS hl)
theorem w_if_lt (C : CX G X cc own nL ret lev) {a : Int} {off : Int} (tgt : Nat) (hd : decode cc pc = .ok (.ifCond .lt off, 3)) (ht : (pc : Int) + off = (tgt : Int)) (ha : inR a) (kt : a < 0 → RW G X nL Q tgt lv st σ) (kf : 0 ≤ a → RW G X nL Q (pc + 3) lv st σ) : RW G X nL Q pc lv (pI a :: st) σ := by
  obtain ⟨⟨p, l, e, R, s⟩, ⟨m, args, below, meth, c⟩, A0, ce, sl⟩ := X
  obtain ⟨hx, hb, hml, hown, hts, hK, hG, hAA, hlocks, hr, hR⟩ := C
  intro H locs ls hP hS hl
  exact lv_if_lt hx hb hd ht (fun q => kt ((oI_lt ha inR0).mp q) H locs ls hP hS hl) (fun q => kf (Int.not_lt.mp (fun z => q ((oI_lt ha inR0).mpr z))) H locs ls hP hS hl)
theorem w_if_ge (C : CX G X cc own nL ret lev) {a : Int} {off : Int} (tgt : Nat) (hd : decode cc pc = .ok (.ifCond .ge off, 3)) (ht : (pc : Int) + off = (tgt : Int)) (ha : inR a) (kt : 0 ≤ a → RW G X nL Q tgt lv st σ) (kf : a < 0 → RW G X nL Q (pc + 3) lv st σ) : RW G X nL Q pc lv (pI a :: st) σ := by
  obtain ⟨⟨p, l, e, R, s⟩, ⟨m, args, below, meth, c⟩, A0, ce, sl⟩ := X
  obtain ⟨hx, hb, hml, hown, hts, hK, hG, hAA, hlocks, hr, hR⟩ := C
  intro H locs ls hP hS hl
  exact lv_if_ge hx hb hd ht (fun q => kt ((oI_le inR0 ha).mp q) H locs ls hP hS hl) (fun q => kf (Int.not_le.mp (fun z => q ((oI_le inR0 ha).mpr z))) H locs ls hP hS hl)
theorem w_if_gt (C : CX G X cc own nL ret lev) {a : Int} {off : Int} (tgt : Nat) (hd : decode cc pc = .ok (.ifCond .gt off, 3)) (ht : (pc : Int) + off = (tgt : Int)) (ha : inR a) (kt : 0 < a → RW G X nL Q tgt lv st σ) (kf : a ≤ 0 → RW G X nL Q (pc + 3) lv st σ) : RW G X nL Q pc lv (pI a :: st) σ := by
  obtain ⟨⟨p, l, e, R, s⟩, ⟨m, args, below, meth, c⟩, A0, ce, sl⟩ := X
  obtain ⟨hx, hb, hml, hown, hts, hK, hG, hAA, hlocks, hr, hR⟩ := C
  intro H locs ls hP hS hl
  exact lv_if_gt hx hb hd ht (fun q => kt ((oI_lt inR0 ha).mp q) H locs ls hP hS hl) (fun q => kf (Int.not_lt.mp (fun z => q ((oI_lt inR0 ha).mpr z))) H locs ls hP hS hl)
theorem w_if_le (C : CX G X cc own nL ret lev) {a : Int} {off : Int} (tgt : Nat) (hd : decode cc pc = .ok (.ifCond .le off, 3)) (ht : (pc : Int) + off = (tgt : Int)) (ha : inR a) (kt : a ≤ 0 → RW G X nL Q tgt lv st σ) (kf : 0 < a → RW G X nL Q (pc + 3) lv st σ) : RW G X nL Q pc lv (pI a :: st) σ := by
  obtain ⟨⟨p, l, e, R, s⟩, ⟨m, args, below, meth, c⟩, A0, ce, sl⟩ := X
  obtain ⟨hx, hb, hml, hown, hts, hK, hG, hAA, hlocks, hr, hR⟩ := C
  intro H locs ls hP hS hl
  exact lv_if_le hx hb hd ht (fun q => kt ((oI_le ha inR0).mp q) H locs ls hP hS hl) (fun q => kf (Int.not_le.mp (fun z => q ((oI_le ha inR0).mpr z))) H locs ls hP hS hl)
theorem w_goto (C : CX G X cc own nL ret lev) {off : Int} (tgt : Nat) (hd : decode cc pc = .ok (.goto off, 3)) (ht : (pc : Int) + off = (tgt : Int)) (kk : RW G X nL Q tgt lv st σ) : RW G X nL Q pc lv st σ := by
  obtain ⟨⟨p, l, e, R, s⟩, ⟨m, args, below, meth, c⟩, A0, ce, sl⟩ := X
  obtain ⟨hx, hb, hml, hown, hts, hK, hG, hAA, hlocks, hr, hR⟩ := C
  intro H locs ls hP hS hl
  exact lv_goto hx hb hd ht (kk H locs ls hP hS hl)
theorem w_tabIn (C : CX G X cc own nL ret lev) {dflt lo hi a : Int} {offs : Array Int} {len : Nat} {off : Int} (tgt : Nat) (hd : decode cc pc = .ok (.tableswitch dflt lo hi offs, len)) (ha : inR a) (h1 : lo ≤ a) (h2 : a ≤ hi) (ho : offs[(a - lo).toNat]? = some off) (ht : (pc : Int) + off = (tgt : Int)) (kk : RW G X nL Q tgt lv st σ) : RW G X nL Q pc lv (pI a :: st) σ := by
  obtain ⟨⟨p, l, e, R, s⟩, ⟨m, args, below, meth, c⟩, A0, ce, sl⟩ := X
  obtain ⟨hx, hb, hml, hown, hts, hK, hG, hAA, hlocks, hr, hR⟩ := C
  intro H locs ls hP hS hl
  exact lv_tableIn hx hb hd (by rw [oI_toInt ha]; omega) (by rw [oI_toInt ha]; omega) (by rw [oI_toInt ha]; exact ho) ht (kk H locs ls hP hS hl)
theorem w_tabOut (C : CX G X cc own nL ret lev) {dflt lo hi a : Int} {offs : Array Int} {len : Nat} (tgt : Nat) (hd : decode cc pc = .ok (.tableswitch dflt lo hi offs, len)) (ha : inR a) (h : a < lo ∨ hi < a) (ht : (pc : Int) + dflt = (tgt : Int)) (kk : RW G X nL Q tgt lv st σ) : RW G X nL Q pc lv (pI a :: st) σ := by
  obtain ⟨⟨p, l, e, R, s⟩, ⟨m, args, below, meth, c⟩, A0, ce, sl⟩ := X
  obtain ⟨hx, hb, hml, hown, hts, hK, hG, hAA, hlocks, hr, hR⟩ := C
  intro H locs ls hP hS hl
  exact lv_tableOut hx hb hd (by rw [oI_toInt ha]; exact h) ht (kk H locs ls hP hS hl)
theorem w_sub (lv' : List (Nat × PV)) (ks : List Nat) (hk : ks.filterMap (fun k => lv[k]?) = lv') (kk : RW G X nL Q pc lv' st σ) : RW G X nL Q pc lv st σ := by
  obtain ⟨⟨p, l, e, R, s⟩, ⟨m, args, below, meth, c⟩, A0, ce, sl⟩ := X
  intro H locs ls hP hS hl
  refine kk H locs ls hP hS (lv_sub hl ks ?_)
  rw [← hk]
  unfold lv_pick denl
  rw [List.map_filterMap]
  congr 1
  funext k
  simp
def GF (own : String) (idx ci k : Nat) : Prop := ∃ (Cn : String) (T : u_T) (N : Nat), vwCl[ci]? = some (Cn, T, N) ∧ (∀ w ∈ u_ws Cn T N, w ∈ TB) ∧ k < N ∧ Cond.fieldLink own idx (T k).1 (T k).2.1 (T k).2.2.1 ∈ TB
def PF (own : String) (idx ci k : Nat) : Prop := ∃ (Cn : String) (T : u_T) (N : Nat) (ty0 : Nat → FieldType), vwCl[ci]? = some (Cn, T, N) ∧ (∀ w ∈ u_ws Cn T N, w ∈ TB) ∧ k < N ∧ Cond.fieldLink own idx (T k).1 (T k).2.1 (T k).2.2.1 ∈ TB ∧ (∀ k, k < N → parseFieldDescriptor (T k).2.2.1 = some (ty0 k)) ∧ (∀ a, a < N → ∀ b, b < N → a ≠ b → (T a).2.1 ≠ (T b).2.1) ∧ (T k).2.2.2 = false ∧ parseFieldDescriptor (T k).2.2.1 = some .int
theorem w_getI (C : CX G X cc own nL ret lev) {o : Int} (j : Int) {idx ci k : Nat} {fs : List (Option Int)} (hd : decode cc pc = .ok (.getfield idx, 3)) (hg : GF own idx ci k) (ho : IsOb G o ci fs) (hf : fs[k]? = some none) (hj : ((k : Nat) : Int) = j) (kk : RW G X nL Q (pc + 3) lv (pI (σ o j) :: st) σ) : RW G X nL Q pc lv (pR o :: st) σ := by
  obtain ⟨⟨p, l, e, R, s⟩, ⟨m, args, below, meth, c⟩, A0, ce, sl⟩ := X
  obtain ⟨hx, hb, hml, hown, hts, hK, hG, hAA, hlocks, hr, hR⟩ := C
  intro H locs ls hP hS hl
  subst hj
  obtain ⟨Cn, T, N, h1, h2, h3, h4⟩ := hg
  obtain ⟨q, rfl, hq, hs⟩ := ho
  obtain ⟨hk, hk'⟩ := List.getElem?_eq_some_iff.mp hf
  have he : (WS G σ)[q]? = some (gA G q, obE (gA G) ci fs (σ q)) := by rw [WS_get G σ hq, hs]
  exact va_get hx hb hts h2 hown hK hP q he h1 k h3 (hts _ h4) (fun _ h9 => h9) (v := .int (oI (σ q k))) (by simp [hk, fld, hk']) hd (kk H locs ls hP hS hl)
theorem w_getR (C : CX G X cc own nL ret lev) {o c' : Int} {idx ci k : Nat} {fs : List (Option Int)} (hd : decode cc pc = .ok (.getfield idx, 3)) (hg : GF own idx ci k) (ho : IsOb G o ci fs) (hf : fs[k]? = some (some c')) (kk : RW G X nL Q (pc + 3) lv (pR c' :: st) σ) : RW G X nL Q pc lv (pR o :: st) σ := by
  obtain ⟨⟨p, l, e, R, s⟩, ⟨m, args, below, meth, c⟩, A0, ce, sl⟩ := X
  obtain ⟨hx, hb, hml, hown, hts, hK, hG, hAA, hlocks, hr, hR⟩ := C
  intro H locs ls hP hS hl
  obtain ⟨Cn, T, N, h1, h2, h3, h4⟩ := hg
  obtain ⟨q, rfl, hq, hs⟩ := ho
  obtain ⟨hk, hk'⟩ := List.getElem?_eq_some_iff.mp hf
  have he : (WS G σ)[q]? = some (gA G q, obE (gA G) ci fs (σ q)) := by rw [WS_get G σ hq, hs]
  exact va_get hx hb hts h2 hown hK hP q he h1 k h3 (hts _ h4) (fun _ h9 => h9) (v := .ref (gA G c')) (by simp [hk, fld, hk']) hd (kk H locs ls hP hS hl)
theorem w_putI (C : CX G X cc own nL ret lev) {o v : Int} (j : Int) {idx ci k : Nat} {fs : List (Option Int)} (hd : decode cc pc = .ok (.putfield idx, 3)) (hg : PF own idx ci k) (ho : IsOb G o ci fs) (hf : fs[k]? = some none) (hj : ((k : Nat) : Int) = j) (kk : RW G X nL Q (pc + 3) lv (st) (up σ o j v)) : RW G X nL Q pc lv (pI v :: pR o :: st) σ := by
  obtain ⟨⟨p, l, e, R, s⟩, ⟨m, args, below, meth, c⟩, A0, ce, sl⟩ := X
  obtain ⟨hx, hb, hml, hown, hts, hK, hG, hAA, hlocks, hr, hR⟩ := C
  intro H locs ls hP hS hl
  subst hj
  obtain ⟨Cn, T, N, ty0, h1, h2, h3, h4, h5, h6, h7, h8⟩ := hg
  obtain ⟨q, rfl, hq, hs⟩ := ho
  obtain ⟨hk, hk'⟩ := List.getElem?_eq_some_iff.mp hf
  have he : (WS G σ)[q]? = some (gA G q, obE (gA G) ci fs (σ q)) := by rw [WS_get G σ hq, hs]
  refine va_put hx hb hts h2 ty0 h5 h6 hown hK hP (WS_D hG σ hAA) hS q he h1 k h3 (hts _ h4) (fun _ h9 => h9) h7 h8 (v := .int (oI v)) rfl rfl (by simp [hk]) hd (fun H1 locs1 hP1 hD1 hS1 => kk H1 locs1 ls ?_ hS1 hl)
  rw [WS_set G σ (up σ q k v)] at hP1
  · exact hP1
  · intro j hj
    exact up_other σ _ _ (by omega)
  · rw [hs]
    unfold obE
    congr 2
    apply List.ext_getElem?
    intro j
    by_cases hj : j < fs.length
    · by_cases e : j = k
      · subst e
        rw [List.getElem?_set_self (by simpa using hj)]
        simp [hj, fld, hk', up_self]
      · rw [List.getElem?_set_ne (fun q => e q.symm)]
        simp only [List.getElem?_map, List.getElem?_range hj, Option.map_some]
        congr 1
        unfold fld
        cases fs.getD j none with
        | none => simp only; rw [up_ne σ v (Or.inr (by omega))]
        | some z => rfl
    · rw [List.getElem?_eq_none (by simp; omega), List.getElem?_eq_none (by simp; omega)]
theorem w_iald (C : CX G X cc own nL ret lev) {c' i : Int} {n : Nat} (hd : decode cc pc = .ok (.iaload, 1)) (hA : IsIA G c' n) (h0 : 0 ≤ i) (h1 : i < n) (kk : RW G X nL Q (pc + 1) lv (pI (σ c' i) :: st) σ) : RW G X nL Q pc lv (pI i :: pR c' :: st) σ := by
  obtain ⟨⟨p, l, e, R, s⟩, ⟨m, args, below, meth, c⟩, A0, ce, sl⟩ := X
  obtain ⟨hx, hb, hml, hown, hts, hK, hG, hAA, hlocks, hr, hR⟩ := C
  intro H locs ls hP hS hl
  obtain ⟨q, rfl, hq, hs, hn⟩ := hA
  obtain ⟨g1, g2⟩ := oI_in h0 h1 hn
  have he : (WS G σ)[q]? = some (gA G q, iaE (gC G 0) n (σ q)) := by rw [WS_get G σ hq, hs]
  have k : W p l e R s m args below meth c H locs ce sl Q (F0 m (pc + 1) ls (.int (oI (σ q i)) :: dens (gA G) st)) := kk H locs ls hP hS hl
  refine va_iald hx hb hK hP q 0 he rfl g1 hd ?_
  rw [g2, Int.toNat_of_nonneg h0]
  exact k
theorem w_bald (C : CX G X cc own nL ret lev) {c' i : Int} {n : Nat} (hd : decode cc pc = .ok (.baload, 1)) (hA : IsBA G c' n) (h0 : 0 ≤ i) (h1 : i < n) (kk : RW G X nL Q (pc + 1) lv (pI (σ c' i) :: st) σ) : RW G X nL Q pc lv (pI i :: pR c' :: st) σ := by
  obtain ⟨⟨p, l, e, R, s⟩, ⟨m, args, below, meth, c⟩, A0, ce, sl⟩ := X
  obtain ⟨hx, hb, hml, hown, hts, hK, hG, hAA, hlocks, hr, hR⟩ := C
  intro H locs ls hP hS hl
  obtain ⟨q, rfl, hq, hs, hn⟩ := hA
  obtain ⟨g1, g2⟩ := oI_in h0 h1 hn
  have he : (WS G σ)[q]? = some (gA G q, iaE (gC G 1) n (σ q)) := by rw [WS_get G σ hq, hs]
  have k : W p l e R s m args below meth c H locs ce sl Q (F0 m (pc + 1) ls (.int (oI (σ q i)) :: dens (gA G) st)) := kk H locs ls hP hS hl
  refine va_zald hx hb hK hP q 1 he rfl g1 hd ?_
  rw [g2, Int.toNat_of_nonneg h0]
  exact k
theorem w_lald (C : CX G X cc own nL ret lev) {c' i : Int} {n : Nat} (hd : decode cc pc = .ok (.laload, 1)) (hA : IsLA G c' n) (h0 : 0 ≤ i) (h1 : i < n) (kk : RW G X nL Q (pc + 1) lv (pL (σ c' i) :: st) σ) : RW G X nL Q pc lv (pI i :: pR c' :: st) σ := by
  obtain ⟨⟨p, l, e, R, s⟩, ⟨m, args, below, meth, c⟩, A0, ce, sl⟩ := X
  obtain ⟨hx, hb, hml, hown, hts, hK, hG, hAA, hlocks, hr, hR⟩ := C
  intro H locs ls hP hS hl
  obtain ⟨q, rfl, hq, hs, hn⟩ := hA
  obtain ⟨g1, g2⟩ := oI_in h0 h1 hn
  have he : (WS G σ)[q]? = some (gA G q, laE (gC G 2) n (σ q)) := by rw [WS_get G σ hq, hs]
  have k : W p l e R s m args below meth c H locs ce sl Q (F0 m (pc + 1) ls (.long (oL (σ q i)) :: dens (gA G) st)) := kk H locs ls hP hS hl
  refine va_lald hx hb hK hP q 2 he rfl g1 hd ?_
  rw [g2, Int.toNat_of_nonneg h0]
  exact k
theorem w_iast (C : CX G X cc own nL ret lev) {c' i v : Int} {n : Nat} (hd : decode cc pc = .ok (.iastore, 1)) (hA : IsIA G c' n) (h0 : 0 ≤ i) (h1 : i < n) (kk : RW G X nL Q (pc + 1) lv (st) (up σ c' i v)) : RW G X nL Q pc lv (pI v :: pI i :: pR c' :: st) σ := by
  obtain ⟨⟨p, l, e, R, s⟩, ⟨m, args, below, meth, c⟩, A0, ce, sl⟩ := X
  obtain ⟨hx, hb, hml, hown, hts, hK, hG, hAA, hlocks, hr, hR⟩ := C
  intro H locs ls hP hS hl
  obtain ⟨q, rfl, hq, hs, hn⟩ := hA
  obtain ⟨g1, g2⟩ := oI_in h0 h1 hn
  have he : (WS G σ)[q]? = some (gA G q, iaE (gC G 0) n (σ q)) := by rw [WS_get G σ hq, hs]
  refine va_iast hx hb hK hP (WS_D hG σ hAA) hS q 0 he rfl g1 hd (fun H1 locs1 hP1 hD1 hS1 => kk H1 locs1 ls ?_ hS1 hl)
  rw [WS_set G σ (up σ q i v)] at hP1
  · exact hP1
  · intro j hj
    exact up_other σ _ _ (by omega)
  · rw [hs]
    unfold iaE
    congr 4
    funext j
    rw [g2]
    unfold upd
    by_cases e : j = i.toNat
    · subst e
      rw [if_pos rfl, Int.toNat_of_nonneg h0, up_self]
    · rw [if_neg e, up_ne σ v (Or.inr (by omega))]
theorem w_bast (C : CX G X cc own nL ret lev) {c' i v : Int} {n : Nat} (hd : decode cc pc = .ok (.bastore, 1)) (hA : IsBA G c' n) (h0 : 0 ≤ i) (h1 : i < n) (hv : v = 0 ∨ v = 1) (kk : RW G X nL Q (pc + 1) lv (st) (up σ c' i v)) : RW G X nL Q pc lv (pI v :: pI i :: pR c' :: st) σ := by
  obtain ⟨⟨p, l, e, R, s⟩, ⟨m, args, below, meth, c⟩, A0, ce, sl⟩ := X
  obtain ⟨hx, hb, hml, hown, hts, hK, hG, hAA, hlocks, hr, hR⟩ := C
  intro H locs ls hP hS hl
  obtain ⟨q, rfl, hq, hs, hn⟩ := hA
  obtain ⟨g1, g2⟩ := oI_in h0 h1 hn
  have he : (WS G σ)[q]? = some (gA G q, iaE (gC G 1) n (σ q)) := by rw [WS_get G σ hq, hs]
  refine va_zast hx hb hK hP (WS_D hG σ hAA) hS q 1 he rfl g1 hd (fun H1 locs1 hP1 hD1 hS1 => kk H1 locs1 ls ?_ hS1 hl)
  rw [WS_set G σ (up σ q i v)] at hP1
  · exact hP1
  · intro j hj
    exact up_other σ _ _ (by omega)
  · rw [hs]
    unfold iaE
    congr 4
    funext j
    rw [g2]
    unfold upd
    by_cases e : j = i.toNat
    · subst e
      rw [if_pos rfl, Int.toNat_of_nonneg h0, up_self]
      rcases hv with rfl | rfl <;> decide
    · rw [if_neg e, up_ne σ v (Or.inr (by omega))]
theorem w_last (C : CX G X cc own nL ret lev) {c' i v : Int} {n : Nat} (hd : decode cc pc = .ok (.lastore, 1)) (hA : IsLA G c' n) (h0 : 0 ≤ i) (h1 : i < n) (kk : RW G X nL Q (pc + 1) lv (st) (up σ c' i v)) : RW G X nL Q pc lv (pL v :: pI i :: pR c' :: st) σ := by
  obtain ⟨⟨p, l, e, R, s⟩, ⟨m, args, below, meth, c⟩, A0, ce, sl⟩ := X
  obtain ⟨hx, hb, hml, hown, hts, hK, hG, hAA, hlocks, hr, hR⟩ := C
  intro H locs ls hP hS hl
  obtain ⟨q, rfl, hq, hs, hn⟩ := hA
  obtain ⟨g1, g2⟩ := oI_in h0 h1 hn
  have he : (WS G σ)[q]? = some (gA G q, laE (gC G 2) n (σ q)) := by rw [WS_get G σ hq, hs]
  refine va_last hx hb hK hP (WS_D hG σ hAA) hS q 2 he rfl g1 hd (fun H1 locs1 hP1 hD1 hS1 => kk H1 locs1 ls ?_ hS1 hl)
  rw [WS_set G σ (up σ q i v)] at hP1
  · exact hP1
  · intro j hj
    exact up_other σ _ _ (by omega)
  · rw [hs]
    unfold laE
    congr 5
    funext j
    rw [g2]
    unfold vp_updL
    by_cases e : j = i.toNat
    · subst e
      rw [if_pos rfl, Int.toNat_of_nonneg h0, up_self]
    · rw [if_neg e, up_ne σ v (Or.inr (by omega))]
theorem w_aald (C : CX G X cc own nL ret lev) {c' i : Int} (hd : decode cc pc = .ok (.aaload, 1)) (hA : IsRA G c') (h0 : 0 ≤ i) (h1 : i < gM G) (kk : RW G X nL Q (pc + 1) lv (pR (57 + i) :: st) σ) : RW G X nL Q pc lv (pI i :: pR c' :: st) σ := by
  obtain ⟨⟨p, l, e, R, s⟩, ⟨m, args, below, meth, c⟩, A0, ce, sl⟩ := X
  obtain ⟨hx, hb, hml, hown, hts, hK, hG, hAA, hlocks, hr, hR⟩ := C
  intro H locs ls hP hS hl
  obtain ⟨q, rfl, hq, hs, hn⟩ := hA
  obtain ⟨g1, g2⟩ := oI_in h0 h1 hn
  have he : (WS G σ)[q]? = some (gA G q, raE (gC G 3) (gM G) (gA G) (σ q)) := by rw [WS_get G σ hq, hs]
  have k : W p l e R s m args below meth c H locs ce sl Q (F0 m (pc + 1) ls (.ref (gA G (57 + i)) :: dens (gA G) st)) := kk H locs ls hP hS hl
  have hlt : i.toNat < gM G := by omega
  refine W.aald (v := .ref (gA G (57 + i))) (ty := .array .int) hx hb (hP q _ he) ((hK.2 3 _ rfl).1 _ _) rfl (fun q => by cases q) (by show ¬ (oI i < 0 ∨ (arrV _ _ _).slots.size ≤ _); rw [arrV_size]; exact g1) ?_ rfl rfl hd k
  show (arrV _ _ _).slots[_]? = _
  rw [g2, arrV_read _ _ hlt]
  simp only [hlt, if_true]
  rw [Int.toNat_of_nonneg h0]
  rfl
theorem w_alen (C : CX G X cc own nL ret lev) {c' : Int} {n : Nat} (hd : decode cc pc = .ok (.arraylength, 1)) (hA : IsIA G c' n) (kk : RW G X nL Q (pc + 1) lv (pI n :: st) σ) : RW G X nL Q pc lv (pR c' :: st) σ := by
  obtain ⟨⟨p, l, e, R, s⟩, ⟨m, args, below, meth, c⟩, A0, ce, sl⟩ := X
  obtain ⟨hx, hb, hml, hown, hts, hK, hG, hAA, hlocks, hr, hR⟩ := C
  intro H locs ls hP hS hl
  obtain ⟨q, rfl, hq, hs, hn⟩ := hA
  have he : (WS G σ)[q]? = some (gA G q, iaE (gC G 0) n (σ q)) := by rw [WS_get G σ hq, hs]
  exact va_alen hx hb hK hP q 0 he rfl (v := oI n) rfl hd (kk H locs ls hP hS hl)
theorem w_top {a : Int} (k : ∀ x : Int, x = a → RW G X nL Q pc lv (pI x :: st) σ) : RW G X nL Q pc lv (pI a :: st) σ := k a rfl
theorem w_topl {a : Int} (k : ∀ x : Int, x = a → RW G X nL Q pc lv (pL x :: st) σ) : RW G X nL Q pc lv (pL a :: st) σ := k a rfl
theorem w_mem (k : ∀ τ : Mem, τ = σ → RW G X nL Q pc lv st τ) : RW G X nL Q pc lv st σ := k σ rfl
theorem w_idivN (C : CX G X cc own nL ret lev) {a b : Int} (hd : decode cc pc = .ok (.idiv, 1)) (h : 0 ≤ a) (ha : inR a) (hb' : inR b) (h0 : 0 < b) (kk : RW G X nL Q (pc + 1) lv (pI (a / b) :: st) σ) : RW G X nL Q pc lv (pI b :: pI a :: st) σ := by
  obtain ⟨⟨p, l, e, R, s⟩, ⟨m, args, below, meth, c⟩, A0, ce, sl⟩ := X
  obtain ⟨hx, hb, hml, hown, hts, hK, hG, hAA, hlocks, hr, hR⟩ := C
  intro H locs ls hP hS hl
  have k := kk H locs ls hP hS hl
  exact lv_idiv hx hb hd (oI_ne0 hb' h0) (by rw [oI_div ha hb' h0, Int.tdiv_eq_ediv_of_nonneg h]; exact k)
theorem w_iremN (C : CX G X cc own nL ret lev) {a b : Int} (hd : decode cc pc = .ok (.irem, 1)) (h : 0 ≤ a) (ha : inR a) (hb' : inR b) (h0 : 0 < b) (kk : RW G X nL Q (pc + 1) lv (pI (a % b) :: st) σ) : RW G X nL Q pc lv (pI b :: pI a :: st) σ := by
  obtain ⟨⟨p, l, e, R, s⟩, ⟨m, args, below, meth, c⟩, A0, ce, sl⟩ := X
  obtain ⟨hx, hb, hml, hown, hts, hK, hG, hAA, hlocks, hr, hR⟩ := C
  intro H locs ls hP hS hl
  have k := kk H locs ls hP hS hl
  exact lv_irem hx hb hd (oI_ne0 hb' h0) (by rw [oI_rem ha hb' h0, Int.tmod_eq_emod_of_nonneg h]; exact k)
theorem w_ldivN (C : CX G X cc own nL ret lev) {a b : Int} (hd : decode cc pc = .ok (.ldiv, 1)) (h : 0 ≤ a) (ha : inL a) (hb' : inL b) (h0 : 0 < b) (kk : RW G X nL Q (pc + 1) lv (pL (a / b) :: st) σ) : RW G X nL Q pc lv (pL b :: pL a :: st) σ := by
  obtain ⟨⟨p, l, e, R, s⟩, ⟨m, args, below, meth, c⟩, A0, ce, sl⟩ := X
  obtain ⟨hx, hb, hml, hown, hts, hK, hG, hAA, hlocks, hr, hR⟩ := C
  intro H locs ls hP hS hl
  have k := kk H locs ls hP hS hl
  exact lv_ldiv hx hb hd (fun q => by have := (oL_eq hb' (show inL 0 from ⟨by omega, by omega⟩)).mp q; omega) (by rw [oL_div ha hb' h0, Int.tdiv_eq_ediv_of_nonneg h]; exact k)
theorem CX.gi (C : CX G X cc own nL ret lev) : GI G := by
  obtain ⟨⟨p, l, e, R, s⟩, ⟨m, args, below, meth, c⟩, A0, ce, sl⟩ := X
  exact C.2.2.2.2.2.2.1
end RWROWS
