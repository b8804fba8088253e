def va_AOA (ty : FieldType) (U : State) : Prop := (Cond.arrayOver (.array ty)).before #[] U = true
theorem va_AOA.of {ty : FieldType} {A : Array Value} {U : State} (h : (Cond.arrayOver (.array ty)).before A U = true) : va_AOA ty U := h
theorem va_AOA.use {ty : FieldType} {A : Array Value} {U : State} (h : va_AOA ty U) : (Cond.arrayOver (.array ty)).before A U = true := h
theorem aoa_spec {ty : FieldType} {U : State} (h : va_AOA ty U) : ∃ comp c k, U.vm.findClass (FieldType.array ty).toString = some comp ∧ (U.vm.classes.findIdx? fun (x : Class) => match x.kind with | .array component _ => component == comp | _ => false) = some c ∧ U.vm.classes[c]? = some k ∧ k.kind = .array comp (.array ty) ∧ U.vm.findClass ("[" ++ (FieldType.array ty).toString) = some c := by
  unfold va_AOA Cond.before at h
  simp only [Cond.holds, Cond.value, beq_iff_eq] at h
  cases hc : U.vm.findClass (FieldType.array ty).toString with
  | none => simp [hc] at h
  | some comp =>
    simp only [hc, Option.bind_some, Option.bind_eq_some_iff, Option.map_eq_some_iff] at h
    obtain ⟨c, hi, k, hk, hb⟩ := h
    obtain ⟨hlt, hp, -⟩ := Array.findIdx?_eq_some_iff_getElem.mp hi
    have hkk : U.vm.classes[c] = k := (Array.getElem?_eq_some_iff.mp hk).2
    rw [hkk] at hp
    cases hkind : k.kind with
    | array component ty2 =>
      rw [hkind] at hb hp
      simp at hb hp
      exact ⟨comp, c, k, rfl, hi, hk, by rw [hkind, hp, hb.1], hb.2⟩
    | _ => rw [hkind] at hb; simp at hb
theorem va_AOA.moved {ty : FieldType} {u U : State} (hvm : u.vm.Alike U.vm) (h : va_AOA ty u) : va_AOA ty U := by
  obtain ⟨comp, c, k, h1, h2, h3, h4, h5⟩ := aoa_spec h
  obtain ⟨k', hk', he⟩ := hvm.2.2 _ _ h3
  have hi : (U.vm.classes.findIdx? fun (x : Class) => match x.kind with | .array component _ => component == comp | _ => false) = some c := by
    have e1 := va_idx_bare U.vm comp
    have e2 := va_idx_bare u.vm comp
    have e3 : U.vm.bare = u.vm.bare := by first | exact hvm.bare_eq | exact hvm.bare_eq.symm
    rw [e3] at e1
    exact e1.symm.trans (e2.trans h2)
  have hkind : k'.kind = .array comp (.array ty) := by rw [he]; exact h4
  have f1 : U.vm.findClass (FieldType.array ty).toString = some comp := by rw [hvm.findClass]; exact h1
  have f2 : U.vm.findClass ("[" ++ (FieldType.array ty).toString) = some c := by rw [hvm.findClass]; exact h5
  unfold va_AOA Cond.before Cond.holds
  simp only [Cond.value]
  rw [f1, Option.bind_some]
  refine (congrArg (fun o : Option Nat => (o.bind (fun c => (U.vm.classes[c]?).map fun (k : Class) => match k.kind with | .array _ ty9 => decide (ty9 = FieldType.array ty) && decide (U.vm.findClass ("[" ++ (FieldType.array ty).toString) = some c) | _ => false) == some true)) hi).trans ?_
  simp [hk', hkind, f2]
/-- f, but v at every address of l -/
def vr_up {α : Type} (f : Nat → α) (l : List Nat) (v : α) : Nat → α := fun a => if a ∈ l then v else f a
theorem vr_up_in {α : Type} {f : Nat → α} {l : List Nat} {v : α} {a : Nat} (h : a ∈ l) : vr_up f l v a = v := if_pos h
theorem vr_up_ne {α : Type} {f : Nat → α} {l : List Nat} {v : α} {a : Nat} (h : a ∉ l) : vr_up f l v a = f a := if_neg h
theorem vr_rows {L l : List Nat} {f : Nat → va_E} {e : va_E} (h : ∀ a, a ∈ l → a ∉ L) : va_pl L f ++ l.map (fun a => (a, e)) = va_pl (L ++ l) (vr_up f l e) := by
  unfold va_pl
  rw [List.map_append]
  congr 1
  · apply List.map_congr_left
    intro a ha
    rw [vr_up_ne (fun q => h a q ha)]
  · apply List.map_congr_left
    intro a ha
    rw [vr_up_in ha]
theorem vr_lay {X rows : va_W} {x : Nat × va_E} {pl : va_W} {D : va_G} {cl : List vw_C} {H : Heap} (hP : va_P D cl (((X ++ pl) ++ [x]) ++ rows) H) : va_P D cl ((X ++ [x]) ++ (pl ++ rows)) H := by
  rw [List.append_assoc (X ++ pl)] at hP
  have h := va_P.swap hP
  rw [← List.append_assoc X] at h
  have h2 := va_P.swap h
  rw [List.append_assoc (X ++ [x])] at h2
  exact h2
theorem vr_layD {X rows : va_W} {x : Nat × va_E} {pl : va_W} {A : Nat → Prop} (hD : va_D A (((X ++ pl) ++ [x]) ++ rows)) : va_D A ((X ++ [x]) ++ (pl ++ rows)) := by
  rw [List.append_assoc (X ++ pl)] at hD
  have h := va_D.swap hD
  rw [← List.append_assoc X] at h
  have h2 := va_D.swap h
  rw [List.append_assoc (X ++ [x])] at h2
  exact h2
/-- the outer row, a reference at each of its first i places -/
def vr_o (h i : Nat) : Nat → Value := fun j => va_rf (if j < i then some (h + 1 + j) else none)
theorem vr_o_none (h : Nat) : vr_o h 0 = fun _ => Value.null := by
  funext j
  unfold vr_o
  rw [if_neg (Nat.not_lt_zero j)]
  rfl
theorem vr_o_next (h i : Nat) : updV (vr_o h i) i (.ref (h + 1 + i)) = vr_o h (i + 1) := by
  funext j
  unfold updV vr_o
  by_cases e : j = i
  · subst e
    rw [if_pos rfl, if_pos (Nat.lt_succ_self _)]
    rfl
  · rw [if_neg e]
    by_cases h9 : j < i
    · rw [if_pos h9, if_pos (Nat.lt_succ_of_lt h9)]
    · rw [if_neg h9, if_neg (by omega)]
/-- the state when i rows have been made and hung in -/
def vr_st (T : State) (cA cy : ClassId) (N K : Nat) (dv : Value) : Nat → State
  | 0 => T.pushCell (arrV cA N (vr_o T.heap.size 0))
  | i + 1 => ((vr_st T cA cy N K dv i).pushCell (arrV cy K (fun _ => dv))).setCell T.heap.size (arrV cA N (vr_o T.heap.size (i + 1)))
/-- what stands at x there -/
def vr_see (H : Heap) (cA cy : ClassId) (N K : Nat) (dv : Value) (i x : Nat) : Option Cell :=
  if x < H.size then H[x]? else if x = H.size then some (arrV cA N (vr_o H.size i)) else if x < H.size + 1 + i then some (arrV cy K (fun _ => dv)) else none
theorem vr_st_see (T : State) (cA cy : ClassId) (N K : Nat) (dv : Value) : ∀ i : Nat, (vr_st T cA cy N K dv i).heap.size = T.heap.size + 1 + i ∧ ∀ x : Nat, (vr_st T cA cy N K dv i).heap[x]? = vr_see T.heap cA cy N K dv i x
  | 0 => by
    refine ⟨by show (T.heap.push _).size = _; rw [Array.size_push], fun x => ?_⟩
    show (T.heap.push _)[x]? = _
    rw [Array.getElem?_push]
    unfold vr_see
    by_cases h : x = T.heap.size
    · rw [if_pos h, if_neg (by omega), if_pos h]
    · rw [if_neg h]
      by_cases h2 : x < T.heap.size
      · rw [if_pos h2]
      · rw [if_neg h2, if_neg h, if_neg (by omega)]
        exact Array.getElem?_eq_none (by omega)
  | i + 1 => by
    obtain ⟨a, b⟩ := vr_st_see T cA cy N K dv i
    refine ⟨by show ((Array.push _ _).setIfInBounds _ _).size = _; rw [Array.size_setIfInBounds, Array.size_push, a]; omega, fun x => ?_⟩
    show (((vr_st T cA cy N K dv i).heap.push _).setIfInBounds _ _)[x]? = _
    rw [Array.getElem?_setIfInBounds, Array.size_push, Array.getElem?_push, b, a]
    unfold vr_see
    by_cases h : T.heap.size = x
    · rw [if_pos h, if_pos (by omega), if_neg (by omega), if_pos h.symm]
    · have h1 : ¬ x = T.heap.size := fun q => h q.symm
      rw [if_neg h]
      by_cases h2 : x < T.heap.size
      · rw [if_neg (by omega), if_pos h2, if_pos h2]
      · by_cases h3 : x = T.heap.size + 1 + i
        · rw [if_pos h3, if_neg h2, if_neg h1, if_pos (by omega)]
        · rw [if_neg h3, if_neg h2, if_neg h2, if_neg h1, if_neg h1]
          by_cases h4 : x < T.heap.size + 1 + i
          · rw [if_pos h4, if_pos (by omega)]
          · rw [if_neg h4, if_neg (by omega)]
theorem vr_see_old {H : Heap} {cA cy : ClassId} {N K : Nat} {dv : Value} {i x : Nat} (h : x < H.size) : vr_see H cA cy N K dv i x = H[x]? := if_pos h
theorem vr_see_out {H : Heap} {cA cy : ClassId} {N K : Nat} {dv : Value} {i : Nat} : vr_see H cA cy N K dv i H.size = some (arrV cA N (vr_o H.size i)) := by
  unfold vr_see
  rw [if_neg (Nat.lt_irrefl _), if_pos rfl]
theorem vr_see_row {H : Heap} {cA cy : ClassId} {N K : Nat} {dv : Value} {i j : Nat} (h : j < i) : vr_see H cA cy N K dv i (H.size + 1 + j) = some (arrV cy K (fun _ => dv)) := by
  unfold vr_see
  rw [if_neg (by omega), if_neg (by omega), if_pos (by omega)]
theorem vr_st_use (T : State) (cA cy : ClassId) (N K : Nat) (dv : Value) : ∀ i : Nat, (vr_st T cA cy N K dv i).vm = T.vm ∧ (vr_st T cA cy N K dv i).slotsUsed = T.slotsUsed + N + i * K
  | 0 => ⟨rfl, by show T.slotsUsed + (arrV _ _ _).slots.size = _; rw [arrV_size]; omega⟩
  | i + 1 => by
    obtain ⟨a, b⟩ := vr_st_use T cA cy N K dv i
    refine ⟨a, ?_⟩
    show (vr_st T cA cy N K dv i).slotsUsed + (arrV _ _ _).slots.size = _
    rw [arrV_size, b, Nat.succ_mul]
    omega
theorem vr_st_top (T : State) (f : JFrame) (cA cy : ClassId) (N K : Nat) (dv : Value) : ∀ i : Nat, vr_st (T.setTop f) cA cy N K dv i = (vr_st T cA cy N K dv i).setTop f
  | 0 => rfl
  | i + 1 => by
    show ((vr_st (T.setTop f) cA cy N K dv i).pushCell _).setCell _ _ = _
    rw [vr_st_top T f cA cy N K dv i]
    rfl
theorem vr_st_out (T : State) (cA cy : ClassId) (N K : Nat) (dv : Value) (i : Nat) (z : Cell) : ((vr_st T cA cy N K dv i).pushCell z).heap[T.heap.size]? = some (arrV cA N (vr_o T.heap.size i)) := by
  obtain ⟨a, b⟩ := vr_st_see T cA cy N K dv i
  show ((vr_st T cA cy N K dv i).heap.push z)[T.heap.size]? = _
  rw [Array.getElem?_push, a, if_neg (by omega), b, vr_see_out]
section VRW
variable {E : CtlPost} {e : Env} {d : Bool} {acts : List Action} {U : State} {cA cy cz : ClassId} {kA kC : Class} {ty : FieldType} {n k : Int32} {Q : Addr → Pre}
theorem vr_make1 (hC : U.vm.classes[cy]? = some kC) (hC2 : kC.kind = .array cz ty) (hk : ¬ k < 0) (l2 : ¬ k.toNatClampNeg > e.platform.arrayLengthLimit) (b2 : ¬ k.toNatClampNeg * componentBytes ty > e.platform.maxHeapBytes) (hf : fits ty (defaultValue ty) = true)
    (hc : U.heap.size < e.platform.maxCells) (hs : U.slotsUsed + k.toNatClampNeg ≤ e.platform.maxSlots) (hq : ∀ acts', Q U.heap.size d acts' (U.pushCell (arrV cy k.toNatClampNeg (fun _ => defaultValue ty)))) : Sem.wp (Jvm.Op.multianewarray.make cy [k]) Q E e d acts U := by
  rw [Jvm.Op.multianewarray.make]
  simp only [wp_bind', W.ite, hk, if_false, wp_pure', W.theClass, hC, hC2, Option.some.injEq, exists_eq_left']
  refine W.newArray_of hC hC2 l2 b2 hc hs hf (fun acts' => ?_)
  rw [arrV_new]
  exact hq acts'
theorem vr_make2 (hA : U.vm.classes[cA]? = some kA) (hA2 : kA.kind = .array cy (.array ty)) (hC : U.vm.classes[cy]? = some kC) (hC2 : kC.kind = .array cz ty) (hn : ¬ n < 0) (hk : ¬ k < 0)
    (l1 : ¬ n.toNatClampNeg > e.platform.arrayLengthLimit) (b1 : ¬ n.toNatClampNeg * componentBytes (.array ty) > e.platform.maxHeapBytes) (l2 : ¬ k.toNatClampNeg > e.platform.arrayLengthLimit) (b2 : ¬ k.toNatClampNeg * componentBytes ty > e.platform.maxHeapBytes) (hf : fits ty (defaultValue ty) = true)
    (hc : U.heap.size + (1 + n.toNatClampNeg) ≤ e.platform.maxCells) (hs : U.slotsUsed + (n.toNatClampNeg + n.toNatClampNeg * k.toNatClampNeg) ≤ e.platform.maxSlots)
    (hq : ∀ d' acts', Q U.heap.size d' acts' (vr_st U cA cy n.toNatClampNeg k.toNatClampNeg (defaultValue ty) n.toNatClampNeg)) : Sem.wp (Jvm.Op.multianewarray.make cA [n, k]) Q E e d acts U := by
  have hfd : ([k].find? (fun x => decide (x < 0))) = none := by simp [hk]
  rw [Jvm.Op.multianewarray.make]
  simp only [wp_bind', W.ite, hn, if_false, wp_pure', W.theClass, hA, hA2, Option.some.injEq, exists_eq_left']
  refine W.newArray_of hA hA2 l1 b1 (by omega) (by omega) rfl (fun acts' => ?_)
  rw [arrV_new, ← vr_o_none U.heap.size]
  simp only [hfd]
  rw [ite_self, wp_bind', Std.Legacy.Range.forIn_eq_forIn_range']
  have hsz : ([:n.toNatClampNeg] : Std.Legacy.Range).size = n.toNatClampNeg := by simp [Std.Legacy.Range.size]
  rw [hsz]
  refine wp_forIn_inv (fun todo V => ∃ i, todo = List.range' i (n.toNatClampNeg - i) ∧ V = vr_st U cA cy n.toNatClampNeg k.toNatClampNeg (defaultValue ty) i ∧ i ≤ n.toNatClampNeg) _ _ ⟨0, rfl, rfl, Nat.zero_le _⟩ ?_ ?_
  · rintro x todo V d' acts2 Q' ⟨i, hl, rfl, hi⟩ hnext
    have hlt : i < n.toNatClampNeg := by
      by_cases h : i < n.toNatClampNeg
      · exact h
      · rw [show n.toNatClampNeg - i = 0 by omega] at hl
        cases hl
    rw [show n.toNatClampNeg - i = (n.toNatClampNeg - (i + 1)) + 1 by omega, List.range'_succ] at hl
    obtain ⟨e1, e2⟩ := List.cons.inj hl
    subst e1
    subst e2
    obtain ⟨s1, s2⟩ := vr_st_see U cA cy n.toNatClampNeg k.toNatClampNeg (defaultValue ty) x
    obtain ⟨u1, u2⟩ := vr_st_use U cA cy n.toNatClampNeg k.toNatClampNeg (defaultValue ty) x
    have hmul : x * k.toNatClampNeg + k.toNatClampNeg ≤ n.toNatClampNeg * k.toNatClampNeg := by
      rw [← Nat.succ_mul]
      exact Nat.mul_le_mul_right _ hlt
    simp only [wp_bind']
    refine vr_make1 (by rw [u1]; exact hC) hC2 hk l2 b2 hf (by rw [s1]; omega) (by rw [u2]; omega) (fun acts3 => ?_)
    simp only [wp_bind', W.writeLoc, wp_pure']
    refine ⟨_, vr_st_out U cA cy _ _ _ x _, (fun q => by cases q), by rw [arrV_size]; exact hlt, ?_, hnext _ _ _ ⟨x + 1, rfl, ?_, hlt⟩⟩
    · simp [State.fitsSlot, State.slotType?, u1, arrV, hA, hA2, fits]
    · rw [arrV_store, s1, vr_o_next]
      rfl
  · rintro V d' acts2 ⟨i, hl, rfl, hi⟩
    have hin : i = n.toNatClampNeg := by
      by_cases h : i < n.toNatClampNeg
      · rw [show n.toNatClampNeg - i = (n.toNatClampNeg - (i + 1)) + 1 by omega, List.range'_succ] at hl
        cases hl
      · omega
    rw [hin]
    simp only [wp_pure']
    exact hq _ _
end VRW
section VRS
variable {p : Program} {l : Launch} {e : Env} {R : Room} {s : State} {m : MethodId} {args : Array Value} {below : List Frame} {meth : Method} {c : Code} {T : State} {locs : List Loc} {cells slots : Nat}
theorem vr_stand (X : Stand p l e R s m args below meth c T locs cells slots) (cA cy : ClassId) (N K : Nat) (dv : Value) : ∀ i : Nat, Stand p l e R s m args below meth c (vr_st T cA cy N K dv i) locs (cells + 1 + i) (slots + N + i * K)
  | 0 => by
    have h := X.pushed (arrV cA N (vr_o T.heap.size 0))
    rw [arrV_size] at h
    rw [Nat.zero_mul]
    exact h
  | i + 1 => by
    have h := (vr_stand X cA cy N K dv i).pushed (arrV cy K (fun _ => dv))
    rw [arrV_size] at h
    have h2 := (h.stored (vr_st_out T cA cy N K dv i _) i (.ref (T.heap.size + 1 + i))).dropFresh (fun x hx => by rw [List.mem_singleton.mp hx]; exact X.heapGrown)
    rw [arrV_store, vr_o_next] at h2
    rw [Nat.succ_mul, ← Nat.add_assoc, ← Nat.add_assoc]
    exact h2
/-- 'new T[n][k]': two counts that aren't negative, with room -/
theorem vr_mna (X : Stand p l e R s m args below meth c T locs cells slots) (hexec : p.tables.exec = Jvm.exec) {own : String} {index : Nat} {ty : FieldType} (hown : s.vm.findClass own = some m.cls) (hclink : (Cond.classLink own index ("[" ++ (FieldType.array ty).toString)).before args s = true) (hover : va_AOA ty s) (harr : (Cond.arrayClass ty).before args s = true)
    {g : JFrame} (hg : g.method = m) (hdg : decode c.code g.pc = .ok (.multianewarray index 2, 4)) {n k : Int32} {rest : List Value} (hst : g.stack = .int k :: .int n :: rest) (hn : ¬ n < 0) (hk : ¬ k < 0) (hb1 : n.toNatClampNeg * 4 ≤ 536870912) (hb2 : k.toNatClampNeg * componentBytes ty ≤ 536870912) (hb3 : k.toNatClampNeg ≤ 536870912)
    (hdf : fits ty (defaultValue ty) = true) (hcells : cells + (1 + n.toNatClampNeg) ≤ R.cells) (hslots : slots + (n.toNatClampNeg + n.toNatClampNeg * k.toNatClampNeg) ≤ R.slots) :
    ∃ (vm₁ : Vm) (cA cy : ClassId) (kA : Class), s.vm.findClass ("[" ++ (FieldType.array ty).toString) = some cA ∧ s.vm.findClass (FieldType.array ty).toString = some cy ∧ s.vm.classes[cA]? = some kA ∧ kA.kind = .array cy (.array ty) ∧
      Stand p l e R s m args below meth c (vr_st (T.setVm vm₁) cA cy n.toNatClampNeg k.toNatClampNeg (defaultValue ty) n.toNatClampNeg) locs (cells + 1 + n.toNatClampNeg) (slots + n.toNatClampNeg + n.toNatClampNeg * k.toNatClampNeg) ∧
      ∀ target, Steps p.tables e below ((vr_st (T.setVm vm₁) cA cy n.toNatClampNeg k.toNatClampNeg (defaultValue ty) n.toNatClampNeg).setTop { g with pc := g.pc + 4, stack := .ref T.heap.size :: rest }) target → Steps p.tables e below (T.setTop g) target := by
  subst hg
  obtain ⟨cy, cA, kA, hcy, -, hkA, hkA2, hcA⟩ := aoa_spec hover
  obtain ⟨cy', kC, cz, hcy', hkC, hkC2⟩ := Cond.arrayClass_spec harr
  have ey : cy' = cy := Option.some.inj (hcy'.symm.trans hcy)
  subst ey
  obtain ⟨c0, hc0, hlinks⟩ := Cond.classLink_spec hown hclink e.platform (by rw [X.admits.platform])
  have e0 : c0 = cA := Option.some.inj (hc0.symm.trans hcA)
  subst e0
  obtain ⟨hgives, hwarm, -⟩ := State.classEntry (e := e) X.warmed hlinks
  generalize T.vm.noted g.method.cls index (.cls c0) = vm₁ at hgives hwarm
  obtain ⟨kA₁, hA, eA⟩ := hwarm.alike.2.2 _ _ hkA
  obtain ⟨kC₁, hC, eC⟩ := hwarm.alike.2.2 _ _ hkC
  have XF := vr_stand (X.noted hwarm) c0 cy' n.toNatClampNeg k.toNatClampNeg (defaultValue ty) n.toNatClampNeg
  obtain ⟨r1, r2⟩ := X.roomAbove hcells hslots
  refine ⟨vm₁, c0, cy', kA, hcA, hcy, hkA, hkA2, XF, fun target hrest => ?_⟩
  have hl := Launch.admits_arrayLengthLimit X.admits
  have hm := Launch.admits_maxHeapBytes X.admits
  jvm_step X.here [hexec, hdg]
  simp only [Jvm.Op.multianewarray.sem, wp_bind', W.resolveClassAt_links (State.method?_setTop g X.here.top) hgives]
  rw [W.popN, if_neg (by decide)]
  refine ⟨g, State.topJava?_setTop' (s := T.setVm vm₁) g X.here.top, [.int n, .int k], rest, rfl, hst, ?_⟩
  simp only [List.mapM_cons, List.mapM_nil, wp_bind', wp_pure']
  refine vr_make2 (kA := kA₁) (kC := kC₁) (cy := cy') (cz := cz) (ty := ty) hA (by rw [eA]; exact hkA2) hC (by rw [eC]; exact hkC2) hn hk (by rw [hl]; omega) (by rw [hm]; show ¬ n.toNatClampNeg * 4 > _; omega) (by rw [hl]; omega) (by rw [hm]; omega) hdf r1 r2 (fun d' acts' => ?_)
  show Sem.wp _ _ _ _ _ _ (vr_st (((T.setVm vm₁).setTop g).setTop { g with stack := rest }) _ _ _ _ _ _)
  rw [State.setTop_setTop, vr_st_top]
  simp only [wp_bind', W.mark, W.pushRef, State.topJava?_setTop' _ XF.here.top, Option.some.injEq, exists_eq_left', State.setTop_setTop, State.heap_setTop]
  intro acts2
  simp [jvm, XF.here.top]
  exact hrest
end VRS
section VGM
variable {p : Program} {l : Launch} {e : Env} {R : Room} {s : State} {m : MethodId} {args : Array Value} {below : List Frame} {meth : Method} {c : Code} {H : Heap} {locs : List Loc} {cells slots : Nat} {Q : State → Prop}
variable {cc : ByteArray} {pc : Nat} {ls : Array Slot} {rest : List Value} {D : va_G} {cl : List vw_C} {A : Nat → Prop} {a : Nat} {tys : List (ClassId × FieldType)} {ws : va_W} {H0 : Heap}
theorem va_mna {X : va_W} {L : List Nat} {f : Nat → va_E} {cc : ByteArray} (hexec : p.tables.exec = Jvm.exec) (hb : c.code = cc) {own : String} {index : Nat} {ty : FieldType} {cy : ClassId} (hown : s.vm.findClass own = some m.cls) (hclink : (Cond.classLink own index ("[" ++ (FieldType.array ty).toString)).before args s = true) (hover : va_AOA ty s) (harr : (Cond.arrayClass ty).before args s = true) (hcy : s.vm.findClass (FieldType.array ty).toString = some cy)
    (hK : va_K D cl tys s) (hP : va_P D cl (X ++ va_pl L f) H) (hD : va_D A (X ++ va_pl L f)) (hS : va_S A H0 H locs) (hA : ∀ q, H0.size ≤ q → A q) {n k : Int32} {N' K' : Nat} {z : vp_A} (hn : ¬ n < 0) (hk : ¬ k < 0) (hN : n.toNatClampNeg = N') (hM : k.toNatClampNeg = K')
    (hb1 : N' * 4 ≤ 536870912) (hb2 : K' * componentBytes ty ≤ 536870912) (hb3 : K' ≤ 536870912) (hdf : fits ty (defaultValue ty) = true) (hcells : cells + (1 + N') ≤ R.cells) (hslots : slots + (N' + N' * K') ≤ R.slots) (hz : ∀ c : ClassId, arrV c K' (fun _ => defaultValue ty) = vp_cell c z) (hdg : decode cc pc = .ok (.multianewarray index 2, 4))
    (kk : ∀ (q : Nat) (r : Nat → Nat) (cA : ClassId) (H1 : Heap), (∀ i j : Nat, i < N' → j < N' → r i = r j → i = j) → (∀ i : Nat, i < N' → r i ∉ L) → va_K D cl (tys ++ [(cA, .array ty)]) s →
      va_P D cl ((X ++ [(q, .inl (cA, N', .inr (.inr (.inr (.inr (fun i => if i < N' then some (r i) else none))))))]) ++ va_pl (L ++ (List.range N').map r) (vr_up f ((List.range N').map r) (.inl (cy, z)))) H1 → va_D A ((X ++ [(q, .inl (cA, N', .inr (.inr (.inr (.inr (fun i => if i < N' then some (r i) else none))))))]) ++ va_pl (L ++ (List.range N').map r) (vr_up f ((List.range N').map r) (.inl (cy, z)))) → va_S A H0 H1 locs →
      W p l e R s m args below meth c H1 locs (cells + 1 + N') (slots + N' + N' * K') Q (F0 m (pc + 4) ls (.ref q :: rest))) : W p l e R s m args below meth c H locs cells slots Q (F0 m pc ls (.int k :: .int n :: rest)) := by
  subst hN
  subst hM
  intro T hT Xs
  obtain ⟨vm₁, cA, comp, kA, fA, fC, hkA, hkA2, X', step⟩ := vr_mna Xs hexec hown hclink hover harr (g := F0 m pc ls (.int k :: .int n :: rest)) rfl (by rw [hb]; exact hdg) rfl hn hk hb1 hb2 hb3 hdf hcells hslots
  have ec : some cy = some comp := hcy.symm.trans fC
  cases ec
  have hTh : (T.setVm vm₁).heap = H := hT
  obtain ⟨f1, hsee⟩ := vr_st_see (T.setVm vm₁) cA cy n.toNatClampNeg k.toNatClampNeg (defaultValue ty) n.toNatClampNeg
  generalize hF : vr_st (T.setVm vm₁) cA cy n.toNatClampNeg k.toNatClampNeg (defaultValue ty) n.toNatClampNeg = F at X' step f1 hsee
  rw [hTh] at f1 hsee
  have hold : ∀ x : Nat, x < H.size → F.heap[x]? = H[x]? := fun x hx => by rw [hsee, vr_see_old hx]
  have hrow : ∀ j : Nat, j < n.toNatClampNeg → F.heap[H.size + 1 + j]? = some (vp_cell cy z) := fun j hj => by rw [hsee, vr_see_row hj, hz]
  have f2 : F.heap[H.size]? = some (vp_cell cA (n.toNatClampNeg, .inr (.inr (.inr (.inr (fun i => if i < n.toNatClampNeg then some (H.size + 1 + i) else none)))))) := by
    rw [hsee, vr_see_out, vp_cell_q]
    rfl
  have hlt : ∀ a, a ∈ L → a < H.size := fun a ha => by
    obtain ⟨k9, hk9⟩ := va_pl_get (X := X) (f := f) ha
    exact (hP k9 _ hk9).lt
  have hnl : ∀ i : Nat, i < n.toNatClampNeg → H.size + 1 + i ∉ L := fun i _ h => by
    have := hlt _ h
    omega
  have hnm : ∀ a, a ∈ (List.range n.toNatClampNeg).map (fun i => H.size + 1 + i) → a ∉ L := fun a ha h => by
    obtain ⟨i, -, rfl⟩ := List.mem_map.mp ha
    have := hlt _ h
    omega
  have hP0 : va_P D cl (X ++ va_pl L f) F.heap := hP.kept (fun k9 x hx => hold x.1 ((hP k9 x hx).lt))
  have hP1 : va_P D cl ((X ++ va_pl L f) ++ [(H.size, .inl (cA, n.toNatClampNeg, .inr (.inr (.inr (.inr (fun i => if i < n.toNatClampNeg then some (H.size + 1 + i) else none))))))]) F.heap := hP0.app (fun k9 x hx => by
    have h0 : k9 < 1 := (List.getElem?_eq_some_iff.mp hx).1
    rw [show k9 = 0 by omega] at hx
    cases hx
    exact f2)
  have hP2 : va_P D cl (((X ++ va_pl L f) ++ [(H.size, .inl (cA, n.toNatClampNeg, .inr (.inr (.inr (.inr (fun i => if i < n.toNatClampNeg then some (H.size + 1 + i) else none))))))]) ++ ((List.range n.toNatClampNeg).map (fun i => H.size + 1 + i)).map (fun a => (a, .inl (cy, z)))) F.heap := hP1.app (fun k9 x hx => by
    obtain ⟨a, ha, rfl⟩ := List.mem_map.mp (List.mem_of_getElem? hx)
    obtain ⟨i, hi, rfl⟩ := List.mem_map.mp ha
    exact hrow i (List.mem_range.mp hi))
  have hD2 : va_D A (((X ++ va_pl L f) ++ [(H.size, .inl (cA, n.toNatClampNeg, .inr (.inr (.inr (.inr (fun i => if i < n.toNatClampNeg then some (H.size + 1 + i) else none))))))]) ++ ((List.range n.toNatClampNeg).map (fun i => H.size + 1 + i)).map (fun a => (a, .inl (cy, z)))) := by
    have hD1 := hD.push (e := .inl (cA, n.toNatClampNeg, .inr (.inr (.inr (.inr (fun i => if i < n.toNatClampNeg then some (H.size + 1 + i) else none)))))) hP rfl (hA _ hS.1)
    generalize hW1 : (X ++ va_pl L f) ++ [(H.size, .inl (cA, n.toNatClampNeg, .inr (.inr (.inr (.inr (fun i => if i < n.toNatClampNeg then some (H.size + 1 + i) else none))))))] = W1 at hD1 hP1 ⊢
    have hle : ∀ (k9 : Nat) (x : Nat × va_E), W1[k9]? = some x → x.1 ≤ H.size := fun k9 x hx => by
      rw [← hW1] at hx
      by_cases hl : k9 < (X ++ va_pl L f).length
      · rw [List.getElem?_append_left hl] at hx
        exact Nat.le_of_lt ((hP k9 x hx).lt)
      · rw [List.getElem?_append_right (by omega)] at hx
        have h0 : k9 - (X ++ va_pl L f).length < 1 := (List.getElem?_eq_some_iff.mp hx).1
        rw [show k9 - (X ++ va_pl L f).length = 0 by omega] at hx
        cases hx
        exact Nat.le_refl _
    have hr : ∀ (k9 : Nat) (x : Nat × va_E), (((List.range n.toNatClampNeg).map (fun i => H.size + 1 + i)).map (fun a => ((a, .inl (cy, z)) : Nat × va_E)))[k9]? = some x → x.1 = H.size + 1 + k9 := fun k9 x hx => by
      rw [List.getElem?_map, List.getElem?_map] at hx
      by_cases h9 : k9 < n.toNatClampNeg
      · rw [List.getElem?_range h9] at hx
        cases hx
        rfl
      · have hn0 : (List.range n.toNatClampNeg)[k9]? = none := List.getElem?_eq_none (by rw [List.length_range]; omega)
        rw [hn0] at hx
        cases hx
    refine ⟨fun i j x y hi hj hxy => ?_, fun k9 x hx => ?_⟩
    · by_cases h1 : i < W1.length <;> by_cases h2 : j < W1.length
      · rw [List.getElem?_append_left h1] at hi
        rw [List.getElem?_append_left h2] at hj
        exact hD1.1 i j x y hi hj hxy
      · rw [List.getElem?_append_left h1] at hi
        rw [List.getElem?_append_right (by omega)] at hj
        have := hle _ _ hi
        have := hr _ _ hj
        omega
      · rw [List.getElem?_append_right (by omega)] at hi
        rw [List.getElem?_append_left h2] at hj
        have := hle _ _ hj
        have := hr _ _ hi
        omega
      · rw [List.getElem?_append_right (by omega)] at hi hj
        have := hr _ _ hi
        have := hr _ _ hj
        omega
    · by_cases h1 : k9 < W1.length
      · rw [List.getElem?_append_left h1] at hx
        exact hD1.2 k9 x hx
      · rw [List.getElem?_append_right (by omega)] at hx
        have := hr _ _ hx
        exact hA _ (by have := hS.1; omega)
  have hAr : ArrOfT s cA (.array ty) := fun N9 z9 => by
    exact ⟨(fun q hq => by cases hq), kA, hkA, cy, hkA2⟩
  have hK2 : va_K D cl (tys ++ [(cA, .array ty)]) s := ⟨hK.1, fun k9 x hx => by
    by_cases hl : k9 < tys.length
    · rw [List.getElem?_append_left hl] at hx
      exact hK.2 k9 x hx
    · rw [List.getElem?_append_right (by omega)] at hx
      have h0 : k9 - tys.length < 1 := (List.getElem?_eq_some_iff.mp hx).1
      rw [show k9 - tys.length = 0 by omega] at hx
      cases hx
      exact ⟨hAr, fA⟩⟩
  obtain ⟨t, a1, b1⟩ := kk H.size (fun i => H.size + 1 + i) cA F.heap (fun i j _ _ h => by have h9 : H.size + 1 + i = H.size + 1 + j := h; omega) hnl hK2 (by rw [← vr_rows hnm]; exact vr_lay hP2) (by rw [← vr_rows hnm]; exact vr_layD hD2) ⟨by rw [f1]; have := hS.1; omega, fun x h1 h2 => (hold x (Nat.lt_of_lt_of_le h1 hS.1)).trans (hS.2.1 x h1 h2), hS.2.2⟩ F rfl X'
  refine ⟨t, step t ?_, b1⟩
  have e : T.heap.size = H.size := by rw [hT]
  rw [e]
  exact a1
end VGM
