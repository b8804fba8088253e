/-! constructors: worlds that grow -/
abbrev YY : Type := (Program × Launch × Env × Room × State) × (MethodId × Array Value × List Frame × Method × Code) × (Nat → Prop) × va_G × (Nat → ClassId)
def tyC (cy : Nat → ClassId) : List (ClassId × FieldType) := [(cy 0, .int), (cy 1, .boolean), (cy 2, .long), (cy 3, .array .int)]
abbrev yC (Y : YY) : Nat → ClassId := Y.2.2.2.2
def RC (Y : YY) (nL : Nat) (Q : State → Prop) (pc : Nat) (lv : List (Nat × Value)) (st : List Value) (w : va_W) (ce sl : Nat) : Prop := match Y with
  | ((p, l, e, R, s), (m, args, below, meth, c), A, D, _) => ∀ (H : Heap) (locs : List Loc) (ls : Array Slot), va_P D vwCl w H → va_D A w → va_S A s.heap H locs → lv_has ls nL lv → W p l e R s m args below meth c H locs ce sl Q (F0 m pc ls st)
def CY (Y : YY) (cc : ByteArray) (own : String) (nL lev mc ms : Nat) : Prop := match Y with
  | ((p, l, e, R, s), (m, args, below, meth, c), A, D, cy) => p.tables.exec = Jvm.exec ∧ c.code = cc ∧ c.maxLocals = nL ∧ s.vm.findClass own = some m.cls ∧ (∀ w ∈ TB, w.before args s = true) ∧ va_K D vwCl (tyC cy) s ∧ (∀ q, s.heap.size ≤ q → A q) ∧ meth.locks = false ∧ (lev + 1 ≤ R.frames ∧ 34 * (lev + 1) ≤ R.locals ∧ mc ≤ R.cells ∧ ms ≤ R.slots)
def inI (Y : YY) : Prop := Y.2.1.2.2.2.1.name = "<init>"
theorem w_oi : Cond.instanceMethod objectInit ∈ TB ∧ Cond.code objectInit ⟨#[0xb1]⟩ 1 none ∈ TB := by decide +kernel
theorem w_ac0 : Cond.arrayClass .int ∈ TB := TB_of 152 (by decide +kernel) rfl
theorem w_ac1 : Cond.arrayClass .boolean ∈ TB := TB_of 153 (by decide +kernel) rfl
theorem w_ac2 : Cond.arrayClass .long ∈ TB := TB_of 850 (by decide +kernel) rfl
/-- a field of a reference, written once -/
def PFr (own : String) (idx ci k : Nat) (ty : FieldType) : Prop := ∃ (Cn : String) (T : u_T) (N : Nat) (ty0 : Nat → FieldType), vwCl[ci]? = some (Cn, T, N) ∧ (∀ w ∈ u_ws Cn T N, w ∈ TB) ∧ k < N ∧ Cond.fieldLink own idx (T k).1 (T k).2.1 (T k).2.2.1 ∈ TB ∧ (∀ k, k < N → parseFieldDescriptor (T k).2.2.1 = some (ty0 k)) ∧ (∀ a, a < N → ∀ b, b < N → a ≠ b → (T a).2.1 ≠ (T b).2.1) ∧ (T k).2.2.2 = true ∧ (T k).1 = own ∧ parseFieldDescriptor (T k).2.2.1 = some ty
def NWc (own : String) (idx ci : Nat) (fs : List Value) : Prop := ∃ (Cn : String) (T : u_T) (N : Nat) (ty0 : Nat → FieldType), vwCl[ci]? = some (Cn, T, N) ∧ (∀ w ∈ u_ws Cn T N, w ∈ TB) ∧ (∀ k, k < N → parseFieldDescriptor (T k).2.2.1 = some (ty0 k)) ∧ Cond.classLink own idx Cn ∈ TB ∧ Cond.instantiable Cn N ∈ TB ∧ Cond.initialized Cn ∈ TB ∧ (∀ j, j < N → defaultValue (ty0 j) = vp_V fs j) ∧ N = fs.length
section RCR
variable {Y : YY} {cc : ByteArray} {own : String} {nL lev mc ms : Nat} {Q : State → Prop} {pc : Nat} {lv : List (Nat × Value)} {st : List Value} {w : va_W} {ce sl : Nat}
theorem r_aload_n (C : CY Y cc own nL lev mc ms) {j : Fin 4} (k : Nat) {x : Nat} (hd : decode cc pc = .ok (.aload_n j, 1)) (hk : lv[k]? = some ((j : Nat), .ref x)) (kk : RC Y nL Q (pc + 1) lv (.ref x :: st) w ce sl) : RC Y nL Q pc lv st w ce sl := by
  obtain ⟨⟨p, l, e, R, s⟩, ⟨m, args, below, meth, c⟩, A, D, cy⟩ := Y
  obtain ⟨hx, hb, hml, hown, hts, hK, hA, hlocks, hR⟩ := C
  intro H locs ls hP hD hS hl
  exact lv_aload_n hx hb hd rfl (lv_at hl k hk) (kk H locs ls hP hD hS hl)
theorem r_iload_n (C : CY Y cc own nL lev mc ms) {j : Fin 4} (k : Nat) {x : Int32} (hd : decode cc pc = .ok (.iload_n j, 1)) (hk : lv[k]? = some ((j : Nat), .int x)) (kk : RC Y nL Q (pc + 1) lv (.int x :: st) w ce sl) : RC Y nL Q pc lv st w ce sl := by
  obtain ⟨⟨p, l, e, R, s⟩, ⟨m, args, below, meth, c⟩, A, D, cy⟩ := Y
  obtain ⟨hx, hb, hml, hown, hts, hK, hA, hlocks, hR⟩ := C
  intro H locs ls hP hD hS hl
  exact lv_iload_n hx hb hd rfl (lv_at hl k hk) (kk H locs ls hP hD hS hl)
theorem r_iconst (C : CY Y cc own nL lev mc ms) {n : Int} (hd : decode cc pc = .ok (.iconst n, 1)) (kk : RC Y nL Q (pc + 1) lv (.int (oI n) :: st) w ce sl) : RC Y nL Q pc lv st w ce sl := by
  obtain ⟨⟨p, l, e, R, s⟩, ⟨m, args, below, meth, c⟩, A, D, cy⟩ := Y
  obtain ⟨hx, hb, hml, hown, hts, hK, hA, hlocks, hR⟩ := C
  intro H locs ls hP hD hS hl
  exact lv_iconst hx hb hd rfl (kk H locs ls hP hD hS hl)
theorem r_bipush (C : CY Y cc own nL lev mc ms) {n : Int} (hd : decode cc pc = .ok (.bipush n, 2)) (hn : (Int8.ofInt n).toInt32 = Int32.ofInt n) (kk : RC Y nL Q (pc + 2) lv (.int (oI n) :: st) w ce sl) : RC Y nL Q pc lv st w ce sl := by
  obtain ⟨⟨p, l, e, R, s⟩, ⟨m, args, below, meth, c⟩, A, D, cy⟩ := Y
  obtain ⟨hx, hb, hml, hown, hts, hK, hA, hlocks, hR⟩ := C
  intro H locs ls hP hD hS hl
  exact lv_bipush hx hb hd hn (kk H locs ls hP hD hS hl)
theorem r_sipush (C : CY Y cc own nL lev mc ms) {n : Int} (hd : decode cc pc = .ok (.sipush n, 3)) (hn : (Int16.ofInt n).toInt32 = Int32.ofInt n) (kk : RC Y nL Q (pc + 3) lv (.int (oI n) :: st) w ce sl) : RC Y nL Q pc lv st w ce sl := by
  obtain ⟨⟨p, l, e, R, s⟩, ⟨m, args, below, meth, c⟩, A, D, cy⟩ := Y
  obtain ⟨hx, hb, hml, hown, hts, hK, hA, hlocks, hR⟩ := C
  intro H locs ls hP hD hS hl
  exact lv_sipush hx hb hd hn (kk H locs ls hP hD hS hl)
theorem r_dup (C : CY Y cc own nL lev mc ms) {v : Value} (hd : decode cc pc = .ok (.dup, 1)) (hv : v.category = 1) (kk : RC Y nL Q (pc + 1) lv (v :: v :: st) w ce sl) : RC Y nL Q pc lv (v :: st) w ce sl := by
  obtain ⟨⟨p, l, e, R, s⟩, ⟨m, args, below, meth, c⟩, A, D, cy⟩ := Y
  obtain ⟨hx, hb, hml, hown, hts, hK, hA, hlocks, hR⟩ := C
  intro H locs ls hP hD hS hl
  exact lv_dup hx hb hd hv (kk H locs ls hP hD hS hl)
theorem r_imul (C : CY Y cc own nL lev mc ms) {a b : Int} (hd : decode cc pc = .ok (.imul, 1)) (kk : RC Y nL Q (pc + 1) lv (.int (oI (a * b)) :: st) w ce sl) : RC Y nL Q pc lv (.int (oI b) :: .int (oI a) :: st) w ce sl := by
  obtain ⟨⟨p, l, e, R, s⟩, ⟨m, args, below, meth, c⟩, A, D, cy⟩ := Y
  obtain ⟨hx, hb, hml, hown, hts, hK, hA, hlocks, hR⟩ := C
  intro H locs ls hP hD hS hl
  refine lv_imul hx hb hd ?_
  rw [oI_mul]
  exact kk H locs ls hP hD hS hl
theorem r_objInit (C : CY Y cc own nL lev mc ms) {idx a : Nat} (hd : decode cc pc = .ok (.invokespecial idx, 3)) (hw : Cond.methodLink own idx objectInit ∈ TB) (hst : (st.map fun v => v.category).sum ≤ 8) (kk : RC Y nL Q (pc + 3) lv st w ce sl) : RC Y nL Q pc lv (.ref a :: st) w ce sl := by
  obtain ⟨⟨p, l, e, R, s⟩, ⟨m, args, below, meth, c⟩, A, D, cy⟩ := Y
  obtain ⟨hx, hb, hml, hown, hts, hK, hA, hlocks, hR⟩ := C
  intro H locs ls hP hD hS hl
  refine W.objInit hx hb hown (hts _ hw) (hts _ w_oi.1) (hts _ w_oi.2) rfl (by rw [hml]; exact hl.1) rfl hd (by omega) ?_ (kk H locs ls hP hD hS hl)
  have : 2 * (F0 m pc ls (.ref a :: st)).monitorRoom + (st.map fun v => v.category).sum ≤ 8 := lv_room hst
  omega
theorem r_newI (C : CY Y cc own nL lev mc ms) {n : Int} {N : Nat} (hd : decode cc pc = .ok (.newarray .int, 2)) (hn : n = N) (hN : N ≤ 400) (h1 : ce + 1 ≤ mc) (h2 : sl + N ≤ ms) (kk : ∀ q : Nat, RC Y nL Q (pc + 2) lv (.ref q :: st) (w ++ [(q, iaE (yC Y 0) N (fun _ => 0))]) (ce + 1) (sl + N)) : RC Y nL Q pc lv (.int (oI n) :: st) w ce sl := by
  obtain ⟨⟨p, l, e, R, s⟩, ⟨m, args, below, meth, c⟩, A, D, cy⟩ := Y
  obtain ⟨hx, hb, hml, hown, hts, hK, hA, hlocks, hR⟩ := C
  intro H locs ls hP hD hS hl
  subst hn
  have hr : inR (N : Int) := ⟨by omega, by omega⟩
  refine va_newa (atype := .int) (a0 := (N, .inl (fun _ => oI 0))) hx hb (hts _ w_ac0) (ty := .int) rfl hK hP hD hS hA (fun cA => rfl) (by rw [show (0 : Int32) = oI 0 from rfl, oI_lt hr inR0]; omega) (by rw [← Int32.toNat_toInt, oI_toInt hr]; rfl) (by show N * 4 ≤ _; omega) (by omega) (by omega) hd (fun q cA H1 hK1 hP1 hD1 hS1 => ?_)
  have e1 := (hK1.2 4 _ rfl).2
  have e2 := (hK.2 0 _ rfl).2
  have ec : cA = cy 0 := Option.some.inj (e1.symm.trans e2)
  subst ec
  exact kk q H1 locs ls hP1 hD1 hS1 hl
theorem r_newB (C : CY Y cc own nL lev mc ms) {n : Int} {N : Nat} (hd : decode cc pc = .ok (.newarray .boolean, 2)) (hn : n = N) (hN : N ≤ 400) (h1 : ce + 1 ≤ mc) (h2 : sl + N ≤ ms) (kk : ∀ q : Nat, RC Y nL Q (pc + 2) lv (.ref q :: st) (w ++ [(q, iaE (yC Y 1) N (fun _ => 0))]) (ce + 1) (sl + N)) : RC Y nL Q pc lv (.int (oI n) :: st) w ce sl := by
  obtain ⟨⟨p, l, e, R, s⟩, ⟨m, args, below, meth, c⟩, A, D, cy⟩ := Y
  obtain ⟨hx, hb, hml, hown, hts, hK, hA, hlocks, hR⟩ := C
  intro H locs ls hP hD hS hl
  subst hn
  have hr : inR (N : Int) := ⟨by omega, by omega⟩
  refine va_newa (atype := .boolean) (a0 := (N, .inl (fun _ => oI 0))) hx hb (hts _ w_ac1) (ty := .boolean) rfl hK hP hD hS hA (fun cA => rfl) (by rw [show (0 : Int32) = oI 0 from rfl, oI_lt hr inR0]; omega) (by rw [← Int32.toNat_toInt, oI_toInt hr]; rfl) (by show N * 1 ≤ _; omega) (by omega) (by omega) hd (fun q cA H1 hK1 hP1 hD1 hS1 => ?_)
  have e1 := (hK1.2 4 _ rfl).2
  have e2 := (hK.2 1 _ rfl).2
  have ec : cA = cy 1 := Option.some.inj (e1.symm.trans e2)
  subst ec
  exact kk q H1 locs ls hP1 hD1 hS1 hl
theorem r_newL (C : CY Y cc own nL lev mc ms) {n : Int} {N : Nat} (hd : decode cc pc = .ok (.newarray .long, 2)) (hn : n = N) (hN : N ≤ 400) (h1 : ce + 1 ≤ mc) (h2 : sl + N ≤ ms) (kk : ∀ q : Nat, RC Y nL Q (pc + 2) lv (.ref q :: st) (w ++ [(q, laE (yC Y 2) N (fun _ => 0))]) (ce + 1) (sl + N)) : RC Y nL Q pc lv (.int (oI n) :: st) w ce sl := by
  obtain ⟨⟨p, l, e, R, s⟩, ⟨m, args, below, meth, c⟩, A, D, cy⟩ := Y
  obtain ⟨hx, hb, hml, hown, hts, hK, hA, hlocks, hR⟩ := C
  intro H locs ls hP hD hS hl
  subst hn
  have hr : inR (N : Int) := ⟨by omega, by omega⟩
  refine va_newa (atype := .long) (a0 := (N, .inr (.inl (fun _ => oL 0)))) hx hb (hts _ w_ac2) (ty := .long) rfl hK hP hD hS hA (fun cA => rfl) (by rw [show (0 : Int32) = oI 0 from rfl, oI_lt hr inR0]; omega) (by rw [← Int32.toNat_toInt, oI_toInt hr]; rfl) (by show N * 8 ≤ _; omega) (by omega) (by omega) hd (fun q cA H1 hK1 hP1 hD1 hS1 => ?_)
  have e1 := (hK1.2 4 _ rfl).2
  have e2 := (hK.2 2 _ rfl).2
  have ec : cA = cy 2 := Option.some.inj (e1.symm.trans e2)
  subst ec
  exact kk q H1 locs ls hP1 hD1 hS1 hl
theorem r_putF (C : CY Y cc own nL lev mc ms) (hin : inI Y) {idx ci k a : Nat} {v : Value} {fs : List Value} {ty : FieldType} (q0 : Nat) (w' : va_W) (hd : decode cc pc = .ok (.putfield idx, 3)) (hg : PFr own idx ci k ty) (he : w[q0]? = some (a, .inr (ci, fs))) (hn : narrow ty v = v) (hfit : fits ty v = true) (hl0 : k < fs.length) (hw : w.set q0 (a, .inr (ci, fs.set k v)) = w') (kk : RC Y nL Q (pc + 3) lv st w' ce sl) : RC Y nL Q pc lv (v :: .ref a :: st) w ce sl := by
  obtain ⟨⟨p, l, e, R, s⟩, ⟨m, args, below, meth, c⟩, A, D, cy⟩ := Y
  obtain ⟨hx, hb, hml, hown, hts, hK, hA, hlocks, hR⟩ := C
  intro H locs ls hP hD hS hl
  obtain ⟨Cn, T, N, ty0, h1, h2, h3, h4, h5, h6, h7, h8, h9⟩ := hg
  exact va_putF hx hb hts h2 ty0 h5 h6 hown hK hP hD hS q0 he h1 k h3 (hts _ h4) (fun _ h9 => h9) h7 hin h8 h9 hn hfit hl0 hd (fun H1 locs1 hP1 hD1 hS1 => kk H1 locs1 ls (hw ▸ hP1) (hw ▸ hD1) hS1 hl)
theorem r_putI (C : CY Y cc own nL lev mc ms) {idx ci k a : Nat} {z : Int} {fs : List Value} (q0 : Nat) (w' : va_W) (hd : decode cc pc = .ok (.putfield idx, 3)) (hg : PF own idx ci k) (he : w[q0]? = some (a, .inr (ci, fs))) (hl0 : k < fs.length) (hw : w.set q0 (a, .inr (ci, fs.set k (.int (oI z)))) = w') (kk : RC Y nL Q (pc + 3) lv st w' ce sl) : RC Y nL Q pc lv (.int (oI z) :: .ref a :: st) w ce sl := by
  obtain ⟨⟨p, l, e, R, s⟩, ⟨m, args, below, meth, c⟩, A, D, cy⟩ := Y
  obtain ⟨hx, hb, hml, hown, hts, hK, hA, hlocks, hR⟩ := C
  intro H locs ls hP hD hS hl
  obtain ⟨Cn, T, N, ty0, h1, h2, h3, h4, h5, h6, h7, h8⟩ := hg
  exact va_put hx hb hts h2 ty0 h5 h6 hown hK hP hD hS q0 he h1 k h3 (hts _ h4) (fun _ h9 => h9) h7 h8 rfl rfl hl0 hd (fun H1 locs1 hP1 hD1 hS1 => kk H1 locs1 ls (hw ▸ hP1) (hw ▸ hD1) hS1 hl)
theorem r_get (C : CY Y cc own nL lev mc ms) {idx ci k a : Nat} {v : Value} {fs : List Value} (q0 : Nat) (hd : decode cc pc = .ok (.getfield idx, 3)) (hg : GF own idx ci k) (he : w[q0]? = some (a, .inr (ci, fs))) (hv : fs[k]? = some v) (kk : RC Y nL Q (pc + 3) lv (v :: st) w ce sl) : RC Y nL Q pc lv (.ref a :: st) w ce sl := by
  obtain ⟨⟨p, l, e, R, s⟩, ⟨m, args, below, meth, c⟩, A, D, cy⟩ := Y
  obtain ⟨hx, hb, hml, hown, hts, hK, hA, hlocks, hR⟩ := C
  intro H locs ls hP hD hS hl
  obtain ⟨Cn, T, N, h1, h2, h3, h4⟩ := hg
  exact va_get hx hb hts h2 hown hK hP q0 he h1 k h3 (hts _ h4) (fun _ h9 => h9) hv hd (kk H locs ls hP hD hS hl)
theorem r_new (C : CY Y cc own nL lev mc ms) {idx ci : Nat} {fs : List Value} (hd : decode cc pc = .ok (.new idx, 3)) (hg : NWc own idx ci fs) (h1 : ce + 1 ≤ mc) (h2 : sl + fs.length ≤ ms) (kk : ∀ q : Nat, RC Y nL Q (pc + 3) lv (.ref q :: st) (w ++ [(q, .inr (ci, fs))]) (ce + 1) (sl + fs.length)) : RC Y nL Q pc lv st w ce sl := by
  obtain ⟨⟨p, l, e, R, s⟩, ⟨m, args, below, meth, c⟩, A, D, cy⟩ := Y
  obtain ⟨hx, hb, hml, hown, hts, hK, hA, hlocks, hR⟩ := C
  intro H locs ls hP hD hS hl
  obtain ⟨Cn, T, N, ty0, g1, g2, g3, g4, g5, g6, g7, rfl⟩ := hg
  exact va_new hx hb hts g2 ty0 g3 hown (hts _ g4) (hts _ g5) (hts _ g6) hK hP hD hS hA g1 g7 (by omega) (by omega) hd (fun q H1 hP1 hD1 hS1 => kk q H1 locs ls hP1 hD1 hS1 hl)
theorem r_mna (C : CY Y cc own nL lev mc ms) (hao : va_AOA .int Y.1.2.2.2.2) {idx M K : Nat} (hd : decode cc pc = .ok (.multianewarray idx 2, 4)) (hw : Cond.classLink own idx ("[" ++ (FieldType.array .int).toString) ∈ TB) (hM : M ≤ 400) (hk : K ≤ 400) (h1 : ce + (1 + M) ≤ mc) (h2 : sl + (M + M * K) ≤ ms)
    (kk : ∀ (q : Nat) (r : Nat → Nat), RC Y nL Q (pc + 4) lv (.ref q :: st) ((w ++ [(q, .inl (yC Y 3, M, .inr (.inr (.inr (.inr (fun i => if i < M then some (r i) else none))))))]) ++ (List.range M).map (fun i => (r i, iaE (yC Y 0) K (fun _ => 0)))) (ce + 1 + M) (sl + M + M * K)) : RC Y nL Q pc lv (.int (oI K) :: .int (oI M) :: st) w ce sl := by
  obtain ⟨⟨p, l, e, R, s⟩, ⟨m, args, below, meth, c⟩, A, D, cy⟩ := Y
  obtain ⟨hx, hb, hml, hown, hts, hK, hA, hlocks, hR⟩ := C
  intro H locs ls hP hD hS hl
  have hr : inR (M : Int) := ⟨by omega, by omega⟩
  have hr2 : inR (K : Int) := ⟨by omega, by omega⟩
  have e2 := (hK.2 0 _ rfl).2
  have e3 := (hK.2 3 _ rfl).2
  have e0 : va_pl [] (fun _ => (.inr (0, []) : va_E)) = [] := rfl
  refine va_mna (X := w) (L := []) (f := fun _ => .inr (0, [])) (cy := cy 0) (z := (K, .inl (fun _ => oI 0))) (N' := M) (K' := K) hx hb hown (hts _ hw) hao (hts _ w_ac0) e2 hK (by rw [e0, List.append_nil]; exact hP) (by rw [e0, List.append_nil]; exact hD) hS hA (by rw [show (0 : Int32) = oI 0 from rfl, oI_lt hr inR0]; omega) (by rw [show (0 : Int32) = oI 0 from rfl, oI_lt hr2 inR0]; omega) (by rw [← Int32.toNat_toInt, oI_toInt hr]; rfl) (by rw [← Int32.toNat_toInt, oI_toInt hr2]; rfl) (by omega) (by show K * 4 ≤ _; omega) (by omega) rfl (by omega) (by omega) (fun c9 => ?_) hd (fun q r cA H1 hr1 hr3 hK1 hP1 hD1 hS1 => ?_)
  · rw [vp_cell_i]
    rfl
  · have e1 := (hK1.2 4 _ rfl).2
    have ec : cA = cy 3 := Option.some.inj (e1.symm.trans e3)
    subst ec
    have ev : va_pl ([] ++ (List.range M).map r) (vr_up (fun _ => (.inr (0, []) : va_E)) ((List.range M).map r) (.inl (cy 0, (K, .inl (fun _ => oI 0))))) = (List.range M).map (fun i => (r i, iaE (cy 0) K (fun _ => 0))) := by
      unfold va_pl
      rw [List.nil_append, List.map_map]
      apply List.map_congr_left
      intro i hi
      show (r i, vr_up _ _ _ (r i)) = _
      rw [vr_up_in (List.mem_map.mpr ⟨i, hi, rfl⟩)]
      rfl
    rw [ev] at hP1 hD1
    exact kk q r H1 locs ls hP1 hD1 hS1 hl
theorem r_vret {Qc : Array Value → State → Outcome → State → Prop} (C : CY Y cc own nL lev mc ms) (hr : Y.2.1.2.2.2.1.sig.returnType = none) (hd : decode cc pc = .ok (.return_, 1)) (hq : ∀ (t : State) (H : Heap) (locs : List Loc), t.heap = H → Y.1.2.2.2.2.WarmedH t.vm → va_P Y.2.2.2.1 vwCl w H → va_D Y.2.2.1 w → va_S Y.2.2.1 Y.1.2.2.2.2.heap H locs → Qc Y.2.1.2.1 Y.1.2.2.2.2 (.returned none) t) : RC Y nL (MQ Y.2.1.2.2.1 Qc Y.2.1.2.1 Y.1.2.2.2.2 ce sl Y.2.2.1) pc lv [] w ce sl := by
  obtain ⟨⟨p, l, e, R, s⟩, ⟨m, args, below, meth, c⟩, A, D, cy⟩ := Y
  obtain ⟨hx, hb, hml, hown, hts, hK, hA, hlocks, hR⟩ := C
  intro H locs ls hP hD hS hl
  exact W.vret hx hb hr (fun t ht hw => hq t H locs ht hw hP hD hS) hS.2.2 hd (hlocks := hlocks)
end RCR
