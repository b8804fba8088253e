/-! contracts, returns, calls -/
def rmL (d : Nat) : Room := { frames := d + 1, cells := 0, slots := 0, locals := 34 * (d + 1) }
def wsY (y : MethodName) (cc : ByteArray) (maxL : Nat) (ret : Option FieldType) : List Cond := .code y cc maxL ret :: TB
def PcG (G : GG) (as : List PV) (σ : Mem) : Array Value → State → Prop := va_Pc (dens (gA G) as) (fun U => va_P (gD G) vwCl (WS G σ) U.heap ∧ va_K (gD G) vwCl (tyG G) U)
def CtI (G : GG) (l : Launch) (y : MethodName) (cc : ByteArray) (maxL : Nat) (ret : Option FieldType) (d : Nat) (as : List PV) (σ : Mem) (post : Int → Mem → Prop) : Prop :=
  Met l y (wsY y cc maxL ret) (rmL d) (PcG G as σ) (va_Qi (fun r (u : Mem) => ∃ z, r = oI z ∧ post z u) (fun u t => va_P (gD G) vwCl (WS G u) t.heap) (AA G)) 0 0 (AA G)
def CtL (G : GG) (l : Launch) (y : MethodName) (cc : ByteArray) (maxL : Nat) (ret : Option FieldType) (d : Nat) (as : List PV) (σ : Mem) (post : Int → Mem → Prop) : Prop :=
  Met l y (wsY y cc maxL ret) (rmL d) (PcG G as σ) (va_Ql (fun r (u : Mem) => ∃ z, r = oL z ∧ post z u) (fun u t => va_P (gD G) vwCl (WS G u) t.heap) (AA G)) 0 0 (AA G)
def CtV (G : GG) (l : Launch) (y : MethodName) (cc : ByteArray) (maxL : Nat) (ret : Option FieldType) (d : Nat) (as : List PV) (σ : Mem) (post : Mem → Prop) : Prop :=
  Met l y (wsY y cc maxL ret) (rmL d) (PcG G as σ) (va_Qv post (fun u t => va_P (gD G) vwCl (WS G u) t.heap) (AA G)) 0 0 (AA G)
def QI (G : GG) (X : XX) (post : Int → Mem → Prop) : State → Prop := match X with
  | ((_, _, _, _, s), (_, args, below, _, _), A0, ce, sl) => MQ below (va_Qi (fun r (u : Mem) => ∃ z, r = oI z ∧ post z u) (fun u t => va_P (gD G) vwCl (WS G u) t.heap) A0) args s ce sl A0
def QL (G : GG) (X : XX) (post : Int → Mem → Prop) : State → Prop := match X with
  | ((_, _, _, _, s), (_, args, below, _, _), A0, ce, sl) => MQ below (va_Ql (fun r (u : Mem) => ∃ z, r = oL z ∧ post z u) (fun u t => va_P (gD G) vwCl (WS G u) t.heap) A0) args s ce sl A0
def QV (G : GG) (X : XX) (post : Mem → Prop) : State → Prop := match X with
  | ((_, _, _, _, s), (_, args, below, _, _), A0, ce, sl) => MQ below (va_Qv post (fun u t => va_P (gD G) vwCl (WS G u) t.heap) A0) args s ce sl A0
section RET
variable {G : GG} {X : XX} {cc : ByteArray} {own : String} {nL lev : Nat} {pc : Nat} {lv : List (Nat × PV)} {σ : Mem} {z : Int}
theorem w_ireturn (C : CX G X cc own nL (some .int) lev) {post : Int → Mem → Prop} (hd : decode cc pc = .ok (.ireturn, 1)) (hp : post z σ) : RW G X nL (QI G X post) pc lv [pI z] σ := by
  obtain ⟨⟨p, l, e, R, s⟩, ⟨m, args, below, meth, c⟩, A0, ce, sl⟩ := X
  obtain ⟨hx, hb, hml, hown, hts, hK, hG, hAA, hlocks, hr, hR⟩ := C
  intro H locs ls hP hS hl
  exact W.iret hx hb hr (fun t ht hw => ⟨⟨oI z, σ, rfl, ⟨z, rfl, hp⟩, by show va_P (gD G) vwCl (WS G σ) t.heap; rw [ht]; exact hP⟩, hS.F ht⟩) hS.2.2 hd (hlocks := hlocks)
theorem w_zreturn (C : CX G X cc own nL (some .boolean) lev) {post : Int → Mem → Prop} (hd : decode cc pc = .ok (.ireturn, 1)) (hz : z = 0 ∨ z = 1) (hp : post z σ) : RW G X nL (QI G X post) pc lv [pI z] σ := by
  obtain ⟨⟨p, l, e, R, s⟩, ⟨m, args, below, meth, c⟩, A0, ce, sl⟩ := X
  obtain ⟨hx, hb, hml, hown, hts, hK, hG, hAA, hlocks, hr, hR⟩ := C
  intro H locs ls hP hS hl
  exact W.zret hx hb hr (by rcases hz with rfl | rfl <;> decide) (fun t ht hw => ⟨⟨oI z, σ, rfl, ⟨z, rfl, hp⟩, by show va_P (gD G) vwCl (WS G σ) t.heap; rw [ht]; exact hP⟩, hS.F ht⟩) hS.2.2 hd (hlocks := hlocks)
theorem w_lreturn (C : CX G X cc own nL (some .long) lev) {post : Int → Mem → Prop} (hd : decode cc pc = .ok (.lreturn, 1)) (hp : post z σ) : RW G X nL (QL G X post) pc lv [pL z] σ := by
  obtain ⟨⟨p, l, e, R, s⟩, ⟨m, args, below, meth, c⟩, A0, ce, sl⟩ := X
  obtain ⟨hx, hb, hml, hown, hts, hK, hG, hAA, hlocks, hr, hR⟩ := C
  intro H locs ls hP hS hl
  exact W.lret hx hb hr (fun t ht hw => ⟨⟨oL z, σ, rfl, ⟨z, rfl, hp⟩, by show va_P (gD G) vwCl (WS G σ) t.heap; rw [ht]; exact hP⟩, hS.F ht⟩) hS.2.2 hd (hlocks := hlocks)
theorem w_vreturn (C : CX G X cc own nL none lev) {post : Mem → Prop} (hd : decode cc pc = .ok (.return_, 1)) (hp : post σ) : RW G X nL (QV G X post) pc lv [] σ := by
  obtain ⟨⟨p, l, e, R, s⟩, ⟨m, args, below, meth, c⟩, A0, ce, sl⟩ := X
  obtain ⟨hx, hb, hml, hown, hts, hK, hG, hAA, hlocks, hr, hR⟩ := C
  intro H locs ls hP hS hl
  exact W.vret hx hb hr (fun t ht hw => ⟨⟨σ, rfl, hp, by show va_P (gD G) vwCl (WS G σ) t.heap; rw [ht]; exact hP⟩, hS.F ht⟩) hS.2.2 hd (hlocks := hlocks)
end RET
def aL : Nat → List PV → List (Nat × PV)
  | _, [] => []
  | i, v :: vs => (i, v) :: aL (if isLg v = true then i + 2 else i + 1) vs
theorem den_cat2 (ad : Int → Nat) (v : PV) : (den ad v).category = if isLg v = true then 2 else 1 := by
  rcases v with z | z | z <;> rfl
theorem aL_den (ad : Int → Nat) (as : List PV) : ∀ i, denl ad (aL i as) = lv_args i (dens ad as) := by
  induction as with
  | nil => intro i; rfl
  | cons v vs ih =>
    intro i
    show (i, den ad v) :: denl ad (aL _ vs) = (i, den ad v) :: lv_args _ (dens ad vs)
    rw [ih, den_cat2]
    cases isLg v <;> rfl
def aN (as : List PV) : Nat := (as.map (fun v => if isLg v = true then 2 else 1)).sum
theorem aN_len (ad : Int → Nat) (as : List PV) : (lg_sl (dens ad as)).length = aN as := by
  induction as with
  | nil => rfl
  | cons v vs ih =>
    show ((if (den ad v).category = 2 then [Slot.val (den ad v), .second] else [.val (den ad v)]) ++ lg_sl (dens ad vs)).length = (if isLg v = true then 2 else 1) + aN vs
    rw [List.length_append, ih, den_cat2]
    cases isLg v <;> rfl
theorem body_of {G : GG} {l : Launch} {y : MethodName} {cc : ByteArray} {maxL d : Nat} {ret : Option FieldType} {as : List PV} {σ : Mem} {Qc : Array Value → State → Outcome → State → Prop} (hG : GI G) (hy : plainName y.cls = true) (ha : aN as ≤ maxL)
    (QQ : XX → State → Prop) (hQ : ∀ p e R s m args below meth c, QQ ((p, l, e, R, s), (m, args, below, meth, c), AA G, 0, 0) = MQ below Qc args s 0 0 (AA G))
    (body : ∀ X : XX, xL X = l → CX G X cc y.cls maxL ret d → RW G X maxL (QQ X) 0 (aL 0 as) [] σ) :
    Met l y (wsY y cc maxL ret) (rmL d) (PcG G as σ) Qc 0 0 (AA G) := by
  refine Met.ofW (cc := cc) (maxL := maxL) (ret := ret) hy rfl ?_
  intro p e s m args below meth c s₁ B hml hv
  obtain ⟨rfl, hP, hK⟩ := hv
  have hts0 := atoms_spec (ws := wsY y cc maxL ret) B.pre
  have hown : s.vm.findClass y.cls = some m.cls := findClass_of_methodNamed B.named
  have hl := lv_entry (dens (gA G) as) (n := maxL) (by rw [aN_len]; exact ha)
  rw [lg_entry_eq]
  generalize (lg_sl (dens (gA G) as) ++ List.replicate (maxL - (lg_sl (dens (gA G) as)).length) Slot.unset).toArray = ls at hl ⊢
  rw [← aL_den] at hl
  have key := body ((p, l, e, (headSpec (wsY y cc maxL ret) (rmL d)).room, s), (m, (dens (gA G) as).toArray, below, meth, c), AA G, 0, 0) rfl
    ⟨B.exec, B.bytes, hml, hown, fun w h => hts0 w (List.mem_cons_of_mem _ h), hK, hG, fun _ h => h, B.notSynchronized, B.returns, Nat.le_refl _, Nat.le_refl _, Nat.le_refl _, Nat.le_refl _⟩ s.heap [] ls hP va_S.rf hl
  rw [hQ] at key
  exact key
theorem CtI.of {G : GG} {l : Launch} {y : MethodName} {cc : ByteArray} {maxL d : Nat} {ret : Option FieldType} {as : List PV} {σ : Mem} {post : Int → Mem → Prop} (hG : GI G) (hy : plainName y.cls = true) (ha : aN as ≤ maxL)
    (body : ∀ X : XX, xL X = l → CX G X cc y.cls maxL ret d → RW G X maxL (QI G X post) 0 (aL 0 as) [] σ) : CtI G l y cc maxL ret d as σ post :=
  body_of hG hy ha (fun X => QI G X post) (fun _ _ _ _ _ _ _ _ _ => rfl) body
theorem CtL.of {G : GG} {l : Launch} {y : MethodName} {cc : ByteArray} {maxL d : Nat} {ret : Option FieldType} {as : List PV} {σ : Mem} {post : Int → Mem → Prop} (hG : GI G) (hy : plainName y.cls = true) (ha : aN as ≤ maxL)
    (body : ∀ X : XX, xL X = l → CX G X cc y.cls maxL ret d → RW G X maxL (QL G X post) 0 (aL 0 as) [] σ) : CtL G l y cc maxL ret d as σ post :=
  body_of hG hy ha (fun X => QL G X post) (fun _ _ _ _ _ _ _ _ _ => rfl) body
theorem CtV.of {G : GG} {l : Launch} {y : MethodName} {cc : ByteArray} {maxL d : Nat} {ret : Option FieldType} {as : List PV} {σ : Mem} {post : Mem → Prop} (hG : GI G) (hy : plainName y.cls = true) (ha : aN as ≤ maxL)
    (body : ∀ X : XX, xL X = l → CX G X cc y.cls maxL ret d → RW G X maxL (QV G X post) 0 (aL 0 as) [] σ) : CtV G l y cc maxL ret d as σ post :=
  body_of hG hy ha (fun X => QV G X post) (fun _ _ _ _ _ _ _ _ _ => rfl) body
/-- the words of a method that is called: by any caller -/
def MW (y : MethodName) (ccy : ByteArray) (maxL : Nat) (rety : Option FieldType) (n : Nat) : Prop := Cond.initialized y.cls ∈ TB ∧ Cond.code y ccy maxL rety ∈ TB ∧ y.cls ≠ "java/lang/invoke/MethodHandle" ∧ y.cls ≠ "java/lang/invoke/VarHandle" ∧ (parseMethodDescriptor y.desc).map (fun d => d.parameters.length) = some n ∧ maxL ≤ 15
theorem TB_good : GoodIn TB TB := fun w h => ⟨h, good_of_word (List.mem_filter.mp h).2⟩
theorem callB_TB {R : Room} {s : State} {args : Array Value} {own : String} {idx : Nat} {y : MethodName} {ccy : ByteArray} {maxL n d lev : Nat} {rety : Option FieldType} (hts : ∀ w ∈ TB, w.before args s = true) (hw : MW y ccy maxL rety n) (hl : Cond.methodLink own idx y ∈ TB) (hlev : d < lev) (hR : lev + 1 ≤ R.frames ∧ 34 * (lev + 1) ≤ R.locals) :
    CallB R s args own idx y ccy maxL rety (wsY y ccy maxL rety) (rmL d) 0 0 n := by
  obtain ⟨h1, h2, h3, h4, h5, h6⟩ := hw
  refine callB_of (Ts := TB) (ws' := TB) n hts (fun w h => ?_) rfl rfl rfl (hts _ h1) (hts _ hl) ⟨h3, h4, h5⟩ ⟨?_, ?_⟩
  · rcases List.mem_cons.mp h with rfl | h
    · exact TB_good _ h2
    · exact TB_good _ h
  · show d + 1 + 1 ≤ R.frames
    omega
  · show 8 + (maxL + 11) + 34 * (d + 1) ≤ R.locals
    omega
theorem PcG_blind (G : GG) (as : List PV) (σ : Mem) : FrameBlind (PcG G as σ) := fun a U g mk q => by
  obtain ⟨q0, qP, qK⟩ := q
  exact ⟨q0, qP, va_K.moved (u := U) (U := U.calling g mk a) (Vm.Alike.refl U.vm) qK⟩
def sC (st : List PV) : Nat := (st.map (fun v => if isLg v = true then 2 else 1)).sum
theorem sC_eq (ad : Int → Nat) (st : List PV) : ((dens ad st).map fun v => v.category).sum = sC st := by
  unfold sC
  congr 1
  rw [List.map_map]
  apply List.map_congr_left
  intro v _
  exact den_cat2 ad v
def OC (G : GG) (o : Int) (C : String) : Prop := ∃ (ci : Nat) (fs : List (Option Int)) (q : vw_C), IsOb G o ci fs ∧ vwCl[ci]? = some q ∧ q.1 = C
section CALLS
variable {G : GG} {X : XX} {cc : ByteArray} {own : String} {nL lev : Nat} {ret : Option FieldType} {Q : State → Prop} {pc : Nat} {lv : List (Nat × PV)} {σ : Mem}
theorem run_V {Qc : Array Value → State → Outcome → State → Prop} {p : Program} {l : Launch} {e : Env} {R : Room} {s : State} {m : MethodId} {args : Array Value} {below : List Frame} {meth : Method} {c : Code} {H : Heap} {locs : List Loc} {ls : Array Slot} {ce sl : Nat} {idx : Nat} {y : MethodName} {ccy : ByteArray} {maxL d : Nat} {rety : Option FieldType} {o : Int} (as st : List PV)
    (hx : p.tables.exec = Jvm.exec) (hb : c.code = cc) (hml : c.maxLocals = nL) (hown : s.vm.findClass own = some m.cls) (hts : ∀ w ∈ TB, w.before args s = true) (hK : va_K (gD G) vwCl (tyG G) s) (hR : lev + 1 ≤ R.frames ∧ 34 * (lev + 1) ≤ R.locals ∧ ce ≤ R.cells ∧ sl ≤ R.slots)
    (hd : decode cc pc = .ok (.invokevirtual idx, 3)) (hM : Met l y (wsY y ccy maxL rety) (rmL d) (PcG G (pR o :: as) σ) Qc 0 0 (AA G)) (ho : OC G o y.cls) (hw : MW y ccy maxL rety as.length) (hl1 : Cond.methodLink own idx y ∈ TB) (hl2 : Cond.instanceMethod y ∈ TB) (hl3 : Cond.selects y.cls y y ∈ TB) (hlev : d < lev) (hst : sC st ≤ 8)
    (hP : va_P (gD G) vwCl (WS G σ) H) (hls : ls.size = nL) : va_Run p l e R s m args below meth c H locs ce sl 0 0 (F0 m pc ls (dens (gA G) (as.reverse ++ pR o :: st))) (dens (gA G) st) (Qc (dens (gA G) (pR o :: as)).toArray) (AA G) := by
  obtain ⟨ci, fs, q, ⟨k, rfl, hq, hs⟩, hcl, hqc⟩ := ho
  have he : (WS G σ)[k]? = some (gA G k, obE (gA G) ci fs (σ k)) := by rw [WS_get G σ hq, hs]
  refine va_runV (As := dens (gA G) as) (rest := dens (gA G) st) (Ts := TB) ⟨hx, hb, hml, hown, hts⟩ hM ⟨callB_TB hts hw hl1 hlev ⟨hR.1, hR.2.1⟩, hts _ hl2, hts _ hl3⟩ ⟨PcG_blind _ _ _, hqc ▸ va_recv hK hP hcl he, fun U hU hW => ⟨rfl, by rw [hU]; exact hP, va_K.moved hW.alike hK⟩⟩ rfl (by simp) hls ?_ ?_ hd ⟨hR.2.2.1, hR.2.2.2⟩
  · simp [dens, den]
  · exact lv_room (by rw [sC_eq]; exact hst)
theorem run_S {Qc : Array Value → State → Outcome → State → Prop} {p : Program} {l : Launch} {e : Env} {R : Room} {s : State} {m : MethodId} {args : Array Value} {below : List Frame} {meth : Method} {c : Code} {H : Heap} {locs : List Loc} {ls : Array Slot} {ce sl : Nat} {idx : Nat} {y : MethodName} {ccy : ByteArray} {maxL d : Nat} {rety : Option FieldType} (as st : List PV)
    (hx : p.tables.exec = Jvm.exec) (hb : c.code = cc) (hml : c.maxLocals = nL) (hown : s.vm.findClass own = some m.cls) (hts : ∀ w ∈ TB, w.before args s = true) (hK : va_K (gD G) vwCl (tyG G) s) (hR : lev + 1 ≤ R.frames ∧ 34 * (lev + 1) ≤ R.locals ∧ ce ≤ R.cells ∧ sl ≤ R.slots)
    (hd : decode cc pc = .ok (.invokestatic idx, 3)) (hM : Met l y (wsY y ccy maxL rety) (rmL d) (PcG G as σ) Qc 0 0 (AA G)) (hw : MW y ccy maxL rety as.length) (hl1 : Cond.methodLink own idx y ∈ TB) (hl2 : Cond.static y ∈ TB) (hlev : d < lev) (hst : sC st ≤ 8)
    (hP : va_P (gD G) vwCl (WS G σ) H) (hls : ls.size = nL) : va_Run p l e R s m args below meth c H locs ce sl 0 0 (F0 m pc ls (dens (gA G) (as.reverse ++ st))) (dens (gA G) st) (Qc (dens (gA G) as).toArray) (AA G) := by
  refine va_runS (As := dens (gA G) as) (rest := dens (gA G) st) (Ts := TB) ⟨hx, hb, hml, hown, hts⟩ hM ⟨callB_TB hts hw hl1 hlev ⟨hR.1, hR.2.1⟩, hts _ hl2⟩ ⟨PcG_blind _ _ _, fun U hU hW => ⟨rfl, by rw [hU]; exact hP, va_K.moved hW.alike hK⟩⟩ rfl (by simp) hls ?_ ?_ hd ⟨hR.2.2.1, hR.2.2.2⟩
  · simp [dens]
  · exact lv_room (by rw [sC_eq]; exact hst)
theorem w_callVI (C : CX G X cc own nL ret lev) {idx : Nat} {y : MethodName} {ccy : ByteArray} {maxL d : Nat} {rety : Option FieldType} {o : Int} {stk : List PV} {post : Int → Mem → Prop} (as st : List PV) (hsk : stk = as.reverse ++ pR o :: st) (hd : decode cc pc = .ok (.invokevirtual idx, 3)) (hM : CtI G (xL X) y ccy maxL rety d (pR o :: as) σ post) (ho : OC G o y.cls) (hw : MW y ccy maxL rety as.length) (hl1 : Cond.methodLink own idx y ∈ TB) (hl2 : Cond.instanceMethod y ∈ TB) (hl3 : Cond.selects y.cls y y ∈ TB) (hlev : d < lev) (hst : sC st ≤ 8)
    (kk : ∀ (z : Int) (σ' : Mem), post z σ' → RW G X nL Q (pc + 3) lv (pI z :: st) σ') : RW G X nL Q pc lv stk σ := by
  obtain ⟨⟨p, l, e, R, s⟩, ⟨m, args, below, meth, c⟩, A0, ce, sl⟩ := X
  obtain ⟨hx, hb, hml, hown, hts, hK, hG, hAA, hlocks, hr, hR⟩ := C
  subst hsk
  intro H locs ls hP hS hl
  refine va_calli (run_V as st hx hb hml hown hts hK hR hd hM ho hw hl1 hl2 hl3 hlev hst hP hl.1) hS (fun q _ h => hAA q h) hAA (fun r u t H1 locs1 ht hvm hpost hB hz1 hk1 hS1 => ?_)
  obtain ⟨z, rfl, hp⟩ := hpost
  exact kk z u hp H1 locs1 ls (by rw [← ht]; exact hB) hS1 hl
theorem w_callSI (C : CX G X cc own nL ret lev) {idx : Nat} {y : MethodName} {ccy : ByteArray} {maxL d : Nat} {rety : Option FieldType} {stk : List PV} {post : Int → Mem → Prop} (as st : List PV) (hsk : stk = as.reverse ++ st) (hd : decode cc pc = .ok (.invokestatic idx, 3)) (hM : CtI G (xL X) y ccy maxL rety d as σ post) (hw : MW y ccy maxL rety as.length) (hl1 : Cond.methodLink own idx y ∈ TB) (hl2 : Cond.static y ∈ TB) (hlev : d < lev) (hst : sC st ≤ 8)
    (kk : ∀ (z : Int) (σ' : Mem), post z σ' → RW G X nL Q (pc + 3) lv (pI z :: st) σ') : RW G X nL Q pc lv stk σ := by
  obtain ⟨⟨p, l, e, R, s⟩, ⟨m, args, below, meth, c⟩, A0, ce, sl⟩ := X
  obtain ⟨hx, hb, hml, hown, hts, hK, hG, hAA, hlocks, hr, hR⟩ := C
  subst hsk
  intro H locs ls hP hS hl
  refine va_calli (run_S as st hx hb hml hown hts hK hR hd hM hw hl1 hl2 hlev hst hP hl.1) hS (fun q _ h => hAA q h) hAA (fun r u t H1 locs1 ht hvm hpost hB hz1 hk1 hS1 => ?_)
  obtain ⟨z, rfl, hp⟩ := hpost
  exact kk z u hp H1 locs1 ls (by rw [← ht]; exact hB) hS1 hl

theorem w_callVL (C : CX G X cc own nL ret lev) {idx : Nat} {y : MethodName} {ccy : ByteArray} {maxL d : Nat} {rety : Option FieldType} {o : Int} {stk : List PV} {post : Int → Mem → Prop} (as st : List PV) (hsk : stk = as.reverse ++ pR o :: st) (hd : decode cc pc = .ok (.invokevirtual idx, 3)) (hM : CtL G (xL X) y ccy maxL rety d (pR o :: as) σ post) (ho : OC G o y.cls) (hw : MW y ccy maxL rety as.length) (hl1 : Cond.methodLink own idx y ∈ TB) (hl2 : Cond.instanceMethod y ∈ TB) (hl3 : Cond.selects y.cls y y ∈ TB) (hlev : d < lev) (hst : sC st ≤ 8)
    (kk : ∀ (z : Int) (σ' : Mem), post z σ' → RW G X nL Q (pc + 3) lv (pL z :: st) σ') : RW G X nL Q pc lv stk σ := by
  obtain ⟨⟨p, l, e, R, s⟩, ⟨m, args, below, meth, c⟩, A0, ce, sl⟩ := X
  obtain ⟨hx, hb, hml, hown, hts, hK, hG, hAA, hlocks, hr, hR⟩ := C
  subst hsk
  intro H locs ls hP hS hl
  refine va_calll (run_V as st hx hb hml hown hts hK hR hd hM ho hw hl1 hl2 hl3 hlev hst hP hl.1) hS (fun q _ h => hAA q h) hAA (fun r u t H1 locs1 ht hvm hpost hB hz1 hk1 hS1 => ?_)
  obtain ⟨z, rfl, hp⟩ := hpost
  exact kk z u hp H1 locs1 ls (by rw [← ht]; exact hB) hS1 hl
theorem w_callSL (C : CX G X cc own nL ret lev) {idx : Nat} {y : MethodName} {ccy : ByteArray} {maxL d : Nat} {rety : Option FieldType} {stk : List PV} {post : Int → Mem → Prop} (as st : List PV) (hsk : stk = as.reverse ++ st) (hd : decode cc pc = .ok (.invokestatic idx, 3)) (hM : CtL G (xL X) y ccy maxL rety d as σ post) (hw : MW y ccy maxL rety as.length) (hl1 : Cond.methodLink own idx y ∈ TB) (hl2 : Cond.static y ∈ TB) (hlev : d < lev) (hst : sC st ≤ 8)
    (kk : ∀ (z : Int) (σ' : Mem), post z σ' → RW G X nL Q (pc + 3) lv (pL z :: st) σ') : RW G X nL Q pc lv stk σ := by
  obtain ⟨⟨p, l, e, R, s⟩, ⟨m, args, below, meth, c⟩, A0, ce, sl⟩ := X
  obtain ⟨hx, hb, hml, hown, hts, hK, hG, hAA, hlocks, hr, hR⟩ := C
  subst hsk
  intro H locs ls hP hS hl
  refine va_calll (run_S as st hx hb hml hown hts hK hR hd hM hw hl1 hl2 hlev hst hP hl.1) hS (fun q _ h => hAA q h) hAA (fun r u t H1 locs1 ht hvm hpost hB hz1 hk1 hS1 => ?_)
  obtain ⟨z, rfl, hp⟩ := hpost
  exact kk z u hp H1 locs1 ls (by rw [← ht]; exact hB) hS1 hl

theorem w_callVV (C : CX G X cc own nL ret lev) {idx : Nat} {y : MethodName} {ccy : ByteArray} {maxL d : Nat} {rety : Option FieldType} {o : Int} {stk : List PV} {post : Mem → Prop} (as st : List PV) (hsk : stk = as.reverse ++ pR o :: st) (hd : decode cc pc = .ok (.invokevirtual idx, 3)) (hM : CtV G (xL X) y ccy maxL rety d (pR o :: as) σ post) (ho : OC G o y.cls) (hw : MW y ccy maxL rety as.length) (hl1 : Cond.methodLink own idx y ∈ TB) (hl2 : Cond.instanceMethod y ∈ TB) (hl3 : Cond.selects y.cls y y ∈ TB) (hlev : d < lev) (hst : sC st ≤ 8)
    (kk : ∀ (σ' : Mem), post σ' → RW G X nL Q (pc + 3) lv st σ') : RW G X nL Q pc lv stk σ := by
  obtain ⟨⟨p, l, e, R, s⟩, ⟨m, args, below, meth, c⟩, A0, ce, sl⟩ := X
  obtain ⟨hx, hb, hml, hown, hts, hK, hG, hAA, hlocks, hr, hR⟩ := C
  subst hsk
  intro H locs ls hP hS hl
  refine va_callv (run_V as st hx hb hml hown hts hK hR hd hM ho hw hl1 hl2 hl3 hlev hst hP hl.1) hS (fun q _ h => hAA q h) hAA (fun u t H1 locs1 ht hvm hpost hB hz1 hk1 hS1 => ?_)
  exact kk u hpost H1 locs1 ls (by rw [← ht]; exact hB) hS1 hl
theorem w_callSV (C : CX G X cc own nL ret lev) {idx : Nat} {y : MethodName} {ccy : ByteArray} {maxL d : Nat} {rety : Option FieldType} {stk : List PV} {post : Mem → Prop} (as st : List PV) (hsk : stk = as.reverse ++ st) (hd : decode cc pc = .ok (.invokestatic idx, 3)) (hM : CtV G (xL X) y ccy maxL rety d as σ post) (hw : MW y ccy maxL rety as.length) (hl1 : Cond.methodLink own idx y ∈ TB) (hl2 : Cond.static y ∈ TB) (hlev : d < lev) (hst : sC st ≤ 8)
    (kk : ∀ (σ' : Mem), post σ' → RW G X nL Q (pc + 3) lv st σ') : RW G X nL Q pc lv stk σ := by
  obtain ⟨⟨p, l, e, R, s⟩, ⟨m, args, below, meth, c⟩, A0, ce, sl⟩ := X
  obtain ⟨hx, hb, hml, hown, hts, hK, hG, hAA, hlocks, hr, hR⟩ := C
  subst hsk
  intro H locs ls hP hS hl
  refine va_callv (run_S as st hx hb hml hown hts hK hR hd hM hw hl1 hl2 hlev hst hP hl.1) hS (fun q _ h => hAA q h) hAA (fun u t H1 locs1 ht hvm hpost hB hz1 hk1 hS1 => ?_)
  exact kk u hpost H1 locs1 ls (by rw [← ht]; exact hB) hS1 hl

theorem w_max (C : CX G X cc own nL ret lev) {idx : Nat} {a b : Int} {st : List PV} (hd : decode cc pc = .ok (.invokestatic idx, 3)) (hl1 : Cond.methodLink own idx Lib.Math.max.name ∈ TB) (hw : Cond.static Lib.Math.max.name ∈ TB ∧ Cond.initialized "java/lang/Math" ∈ TB ∧ Cond.code Lib.Math.max.name Lib.Math.max.code 2 (some .int) ∈ TB) (ha : inR a) (hb' : inR b) (hst : sC st ≤ 20) (kk : RW G X nL Q (pc + 3) lv (pI (max a b) :: st) σ) : RW G X nL Q pc lv (pI b :: pI a :: st) σ := by
  obtain ⟨⟨p, l, e, R, s⟩, ⟨m, args, below, meth, c⟩, A0, ce, sl⟩ := X
  obtain ⟨hx, hb, hml, hown, hts, hK, hG, hAA, hlocks, hr, hR⟩ := C
  intro H locs ls hP hS hl
  have k : W p l e R s m args below meth c H locs ce sl Q (F0 m (pc + 3) ls (.int (oI (max a b)) :: dens (gA G) st)) := kk H locs ls hP hS hl
  have e1 : oI (max a b) = if oI a < oI b then oI b else oI a := by
    by_cases h : oI a < oI b
    · rw [if_pos h]; congr 1; have := (oI_lt ha hb' ).mp h; omega
    · rw [if_neg h]; congr 1; have := mt (oI_lt ha hb' ).mpr h; omega
  rw [e1] at k
  exact va_mmax hx hb (by rw [hml, hl.1]) hown (hts _ hl1) (hts _ hw.1) (hts _ hw.2.1) (hts _ hw.2.2) (by omega) (by rw [sC_eq]; omega) hR.2.2.1 hR.2.2.2 hd k

theorem w_min (C : CX G X cc own nL ret lev) {idx : Nat} {a b : Int} {st : List PV} (hd : decode cc pc = .ok (.invokestatic idx, 3)) (hl1 : Cond.methodLink own idx Lib.Math.min.name ∈ TB) (hw : Cond.static Lib.Math.min.name ∈ TB ∧ Cond.initialized "java/lang/Math" ∈ TB ∧ Cond.code Lib.Math.min.name Lib.Math.min.code 2 (some .int) ∈ TB) (ha : inR a) (hb' : inR b) (hst : sC st ≤ 20) (kk : RW G X nL Q (pc + 3) lv (pI (min a b) :: st) σ) : RW G X nL Q pc lv (pI b :: pI a :: st) σ := by
  obtain ⟨⟨p, l, e, R, s⟩, ⟨m, args, below, meth, c⟩, A0, ce, sl⟩ := X
  obtain ⟨hx, hb, hml, hown, hts, hK, hG, hAA, hlocks, hr, hR⟩ := C
  intro H locs ls hP hS hl
  have k : W p l e R s m args below meth c H locs ce sl Q (F0 m (pc + 3) ls (.int (oI (min a b)) :: dens (gA G) st)) := kk H locs ls hP hS hl
  have e1 : oI (min a b) = if oI b < oI a then oI b else oI a := by
    by_cases h : oI b < oI a
    · rw [if_pos h]; congr 1; have := (oI_lt hb' ha).mp h; omega
    · rw [if_neg h]; congr 1; have := mt (oI_lt hb' ha).mpr h; omega
  rw [e1] at k
  exact va_mmin hx hb (by rw [hml, hl.1]) hown (hts _ hl1) (hts _ hw.1) (hts _ hw.2.1) (hts _ hw.2.2) (by omega) (by rw [sC_eq]; omega) hR.2.2.1 hR.2.2.2 hd k

def cpM (σ : Mem) (c1 c2 : Int) (n : Nat) : Mem := fun c i => if c = c2 ∧ 0 ≤ i ∧ i < n then σ c1 i else σ c i
theorem w_acopy (C : CX G X cc own nL ret lev) {idx : Nat} {c1 c2 k : Int} {n1 n2 n : Nat} {st : List PV} (hk : k = n) (hd : decode cc pc = .ok (.invokestatic idx, 3)) (hl1 : Cond.methodLink own idx arraycopyName ∈ TB) (hw : Cond.native arraycopyName ∈ TB ∧ Cond.static arraycopyName ∈ TB ∧ Cond.initialized "java/lang/System" ∈ TB) (h1 : IsIA G c1 n1) (h2 : IsIA G c2 n2) (g1 : n ≤ n1) (g2 : n ≤ n2) (hst : sC st ≤ 8) (kk : RW G X nL Q (pc + 3) lv st (cpM σ c1 c2 n)) : RW G X nL Q pc lv (pI k :: pI 0 :: pR c2 :: pI 0 :: pR c1 :: st) σ := by
  obtain ⟨⟨p, l, e, R, s⟩, ⟨m, args, below, meth, c⟩, A0, ce, sl⟩ := X
  obtain ⟨hx, hb, hml, hown, hts, hK, hG, hAA, hlocks, hr, hR⟩ := C
  intro H locs ls hP hS hl
  obtain ⟨q1, rfl, hq1, hs1, hn1⟩ := h1
  obtain ⟨q2, rfl, hq2, hs2, hn2⟩ := h2
  subst hk
  have he1 : (WS G σ)[q1]? = some (gA G q1, iaE (gC G 0) n1 (σ q1)) := by rw [WS_get G σ hq1, hs1]
  have he2 : (WS G σ)[q2]? = some (gA G q2, iaE (gC G 0) n2 (σ q2)) := by rw [WS_get G σ hq2, hs2]
  have e0 : (oI 0).toNatClampNeg = 0 := by decide
  have hrn : inR (n : Int) := ⟨by omega, by omega⟩
  have en : (oI (n : Int)).toNatClampNeg = n := by rw [← Int32.toNat_toInt, oI_toInt hrn]; rfl
  refine va_copyi hx hb (by rw [hml, hl.1]) hown (hts _ hl1) (hts _ hw.1) (hts _ hw.2.1) (hts _ hw.2.2) hK hP (WS_D hG σ hAA) hS q1 q2 0 0 he1 he2 rfl rfl rfl (by decide) (by decide) (by rw [show (0 : Int32) = oI 0 from rfl, oI_lt hrn inR0]; omega) (by rw [e0, en]; omega) (by rw [e0, en]; omega) (fun i hi => rfl) (by omega) ?_ hd (fun H1 locs1 hP1 hD1 hS1 => kk H1 locs1 ls ?_ hS1 hl)
  · rw [sC_eq]
    have : nativeFrameWords "java/lang/System" "arraycopy" 5 ≤ 15 := by decide
    omega
  · rw [WS_set G σ (cpM σ q1 q2 n)] at hP1
    · exact hP1
    · intro j hj
      funext i
      unfold cpM
      rw [if_neg]
      rintro ⟨h, -⟩
      omega
    · rw [hs2]
      unfold iaE
      congr 4
      funext j
      rw [e0, en]
      unfold va_cpy cpM
      by_cases h : j < n
      · rw [if_pos ⟨by omega, by omega⟩, if_pos ⟨rfl, by omega, by omega⟩]
        congr 2
        omega
      · rw [if_neg (by omega), if_neg (by omega)]
end CALLS
