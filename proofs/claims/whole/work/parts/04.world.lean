/-! the fixed world: 57 cells and a row of each machine -/
def fld (ad : Int → Nat) (f : Int → Int) (j : Nat) (o : Option Int) : Value := match o with
  | none => .int (oI (f j))
  | some c => .ref (ad c)
def obE (ad : Int → Nat) (ci : Nat) (fs : List (Option Int)) (f : Int → Int) : va_E := .inr (ci, (List.range fs.length).map (fun j => fld ad f j (fs.getD j none)))
def iaE (cA : ClassId) (n : Nat) (f : Int → Int) : va_E := .inl (cA, n, .inl (fun j => oI (f j)))
def laE (cA : ClassId) (n : Nat) (f : Int → Int) : va_E := .inl (cA, n, .inr (.inl (fun j => oL (f j))))
def raE (cA : ClassId) (n : Nat) (ad : Int → Nat) (_ : Int → Int) : va_E := .inl (cA, n, .inr (.inr (.inr (.inr (fun j => if j < n then some (ad (57 + j)) else none)))))
def fsPlan (t : Int) : List (Option Int) := [some 1, none, some (t + 1), some (t + 2), some (t + 3), some (t + 4), none, some (t + 5), some (t + 6)]
def fsSR : List (Option Int) := [some 1, some 12, some 19, some 26, some 31]
def fsShop : List (Option Int) := [none, none, none, none, some 2, some 3, some 4, some 5, some 6, some 7, some 8, some 9, some 10, some 11]
def fsFill : List (Option Int) := [some 1, some 27, some 28, some 29, some 30]
def fsBnd : List (Option Int) := [some 1, some 32, none, some 33, some 34, some 35, some 36]
def fsMod : List (Option Int) := [none, none, none, some 38, some 39, some 40, some 41, some 42, some 43, some 44, some 45, some 46, some 47, some 48, some 49, none, none, some 50, some 51, some 52, some 53, none, some 54, some 55]
def shl (G : GG) : List ((Int → Int) → va_E) := [
  obE (gA G) 4 fsSR,
  obE (gA G) 3 fsShop,
  iaE (gC G 0) 8, iaE (gC G 0) 8, iaE (gC G 0) 8, iaE (gC G 0) 8, iaE (gC G 0) 80, iaE (gC G 0) 80, iaE (gC G 1) 80, raE (gC G 3) (gM G) (gA G), iaE (gC G 0) (gM G), iaE (gC G 0) (64 * gM G),
  obE (gA G) 2 (fsPlan 12),
  iaE (gC G 0) 80, iaE (gC G 0) 80, iaE (gC G 0) 80, iaE (gC G 0) 48, iaE (gC G 0) 8, iaE (gC G 0) 5,
  obE (gA G) 2 (fsPlan 19),
  iaE (gC G 0) 80, iaE (gC G 0) 80, iaE (gC G 0) 80, iaE (gC G 0) 48, iaE (gC G 0) 8, iaE (gC G 0) 5,
  obE (gA G) 1 fsFill,
  iaE (gC G 0) 8, iaE (gC G 0) 8, iaE (gC G 0) 5, iaE (gC G 0) 8,
  obE (gA G) 0 fsBnd,
  iaE (gC G 0) 5, iaE (gC G 0) 8, iaE (gC G 0) 8, iaE (gC G 0) 8, iaE (gC G 0) 256,
  obE (gA G) 5 fsMod,
  iaE (gC G 0) 8, iaE (gC G 0) 8, iaE (gC G 0) 8, iaE (gC G 0) 8, iaE (gC G 0) 48, iaE (gC G 0) 48, iaE (gC G 1) 48, iaE (gC G 0) 320, iaE (gC G 0) 5, iaE (gC G 0) 240, iaE (gC G 0) 48, iaE (gC G 0) 8, iaE (gC G 1) 48, iaE (gC G 0) 48, iaE (gC G 0) 48, iaE (gC G 0) 48, iaE (gC G 0) 48, iaE (gC G 0) 256,
  laE (gC G 2) 1]
def shw (G : GG) (k : Nat) : (Int → Int) → va_E := (shl G).getD k (iaE (gC G 0) 48)
def WS (G : GG) (σ : Mem) : va_W := (List.range (57 + gM G)).map (fun (k : Nat) => (gA G (k : Int), shw G k (σ (k : Int))))
theorem WS_get (G : GG) (σ : Mem) {k : Nat} (h : k < 57 + gM G) : (WS G σ)[k]? = some (gA G k, shw G k (σ k)) := by
  simp [WS, h]
theorem WS_set (G : GG) (σ σ' : Mem) {k : Nat} (h : ∀ j : Nat, j ≠ k → σ' j = σ j) {e : va_E} (he : e = shw G k (σ' k)) : (WS G σ).set k (gA G k, e) = WS G σ' := by
  subst he
  apply List.ext_getElem?
  intro j
  by_cases hj : j < 57 + gM G
  · rw [WS_get G σ' hj]
    by_cases e : j = k
    · subst e
      rw [List.getElem?_set_self (by simp [WS]; exact hj)]
    · rw [List.getElem?_set_ne (fun q => e q.symm), WS_get G σ hj, h j e]
  · rw [List.getElem?_eq_none (by simp [WS]; omega), List.getElem?_eq_none (by simp [WS]; omega)]
def GI (G : GG) : Prop := gM G ≤ 5 ∧ ∀ i j : Nat, i < 57 + gM G → j < 57 + gM G → gA G i = gA G j → i = j
def AA (G : GG) : Nat → Prop := fun q => ∃ k : Nat, k < 57 + gM G ∧ q = gA G k
theorem WS_D {G : GG} (hG : GI G) (σ : Mem) {A : Nat → Prop} (hA : ∀ q, AA G q → A q) : va_D A (WS G σ) := by
  have key : ∀ (i : Nat) (p : Nat × va_E), (WS G σ)[i]? = some p → i < 57 + gM G ∧ p.1 = gA G i := by
    intro i p h
    by_cases hi : i < 57 + gM G
    · rw [WS_get G σ hi] at h
      cases h
      exact ⟨hi, rfl⟩
    · rw [List.getElem?_eq_none (by simp [WS]; omega)] at h
      cases h
  refine ⟨fun i j p q hp hq e => ?_, fun k q h => ?_⟩
  · obtain ⟨h1, h2⟩ := key i p hp
    obtain ⟨h3, h4⟩ := key j q hq
    exact hG.2 i j h1 h3 (by rw [← h2, ← h4, e])
  · obtain ⟨h1, h2⟩ := key k q h
    exact hA _ ⟨k, h1, h2⟩
def tyG (G : GG) : List (ClassId × FieldType) := [(gC G 0, .int), (gC G 1, .boolean), (gC G 2, .long), (gC G 3, .array .int)]
def up (σ : Mem) (c i v : Int) : Mem := fun c' i' => if c' = c ∧ i' = i then v else σ c' i'
theorem up_self (σ : Mem) (c i v : Int) : up σ c i v c i = v := by simp [up]
theorem up_other (σ : Mem) {c c' : Int} (i v : Int) (h : c' ≠ c) : up σ c i v c' = σ c' := by funext j; simp [up, h]
theorem up_ne (σ : Mem) {c c' i i' : Int} (v : Int) (h : c' ≠ c ∨ i' ≠ i) : up σ c i v c' i' = σ c' i' := by
  unfold up
  rw [if_neg]
  rintro ⟨a, b⟩
  rcases h with h | h
  · exact h a
  · exact h b
def IsIA (G : GG) (c : Int) (n : Nat) : Prop := ∃ k : Nat, c = k ∧ k < 57 + gM G ∧ shw G k = iaE (gC G 0) n ∧ n < 2147483648
def IsBA (G : GG) (c : Int) (n : Nat) : Prop := ∃ k : Nat, c = k ∧ k < 57 + gM G ∧ shw G k = iaE (gC G 1) n ∧ n < 2147483648
def IsLA (G : GG) (c : Int) (n : Nat) : Prop := ∃ k : Nat, c = k ∧ k < 57 + gM G ∧ shw G k = laE (gC G 2) n ∧ n < 2147483648
def IsRA (G : GG) (c : Int) : Prop := ∃ k : Nat, c = k ∧ k < 57 + gM G ∧ shw G k = raE (gC G 3) (gM G) (gA G) ∧ gM G < 2147483648
def IsOb (G : GG) (c : Int) (ci : Nat) (fs : List (Option Int)) : Prop := ∃ k : Nat, c = k ∧ k < 57 + gM G ∧ shw G k = obE (gA G) ci fs
/-! the machine's judgement over that world -/
abbrev XX : Type := (Program × Launch × Env × Room × State) × (MethodId × Array Value × List Frame × Method × Code) × (Nat → Prop) × Nat × Nat
def den (ad : Int → Nat) (v : PV) : Value := match v with
  | .inl z => .int (oI z)
  | .inr (.inl z) => .long (oL z)
  | .inr (.inr c) => .ref (ad c)
abbrev dens (ad : Int → Nat) (st : List PV) : List Value := st.map (den ad)
def denl (ad : Int → Nat) (lv : List (Nat × PV)) : List (Nat × Value) := lv.map (fun q => (q.1, den ad q.2))
def TB : List Cond := lw_tbl.filter goodWord
theorem TB_of {w : Cond} (i : Nat) (h : lw_tbl[i]? = some w) (g : goodWord w = true) : w ∈ TB := List.mem_filter.mpr ⟨List.mem_of_getElem? h, g⟩
def RW (G : GG) (X : XX) (nL : Nat) (Q : State → Prop) (pc : Nat) (lv : List (Nat × PV)) (st : List PV) (σ : Mem) : Prop := match X with
  | ((p, l, e, R, s), (m, args, below, meth, c), A0, ce, sl) => ∀ (H : Heap) (locs : List Loc) (ls : Array Slot), va_P (gD G) vwCl (WS G σ) H → va_S A0 s.heap H locs → lv_has ls nL (denl (gA G) lv) → W p l e R s m args below meth c H locs ce sl Q (F0 m pc ls (dens (gA G) st))
def CX (G : GG) (X : XX) (cc : ByteArray) (own : String) (nL : Nat) (ret : Option FieldType) (lev : Nat) : Prop := match X with
  | ((p, l, e, R, s), (m, args, below, meth, c), A0, ce, sl) => p.tables.exec = Jvm.exec ∧ c.code = cc ∧ c.maxLocals = nL ∧ s.vm.findClass own = some m.cls ∧ (∀ w ∈ TB, w.before args s = true) ∧ va_K (gD G) vwCl (tyG G) s ∧ GI G ∧ (∀ q, AA G q → A0 q) ∧ meth.locks = false ∧ meth.sig.returnType = ret ∧ (lev + 1 ≤ R.frames ∧ 34 * (lev + 1) ≤ R.locals ∧ ce ≤ R.cells ∧ sl ≤ R.slots)
def xL (X : XX) : Launch := X.1.2.1
theorem denl_get {ad : Int → Nat} {lv : List (Nat × PV)} {k i : Nat} {v : PV} (h : lv[k]? = some (i, v)) : (denl ad lv)[k]? = some (i, den ad v) := by
  simp [denl, h]
def isLg (v : PV) : Bool := match v with
  | .inr (.inl _) => true
  | _ => false
theorem den_cat (ad : Int → Nat) (v : PV) : ((den ad v).category == 2) = isLg v := by
  rcases v with z | z | z <;> rfl
def stoI (lv : List (Nat × PV)) (i : Nat) (v : PV) : List (Nat × PV) := (i, v) :: lv.filter (fun q => !(q.1 == i) && !(q.1 + 1 == i && isLg q.2))
def stoL (lv : List (Nat × PV)) (i : Nat) (v : PV) : List (Nat × PV) := (i, v) :: lv.filter (fun q => !(q.1 == i) && (!(q.1 == i + 1) && !(q.1 + 1 == i && isLg q.2)))
theorem denl_stoI (ad : Int → Nat) (lv : List (Nat × PV)) (i : Nat) (v : PV) : denl ad (stoI lv i v) = (i, den ad v) :: (denl ad lv).filter (fun q => !(q.1 == i) && !(q.1 + 1 == i && q.2.category == 2)) := by
  unfold denl stoI
  rw [List.map_cons, List.filter_map]
  congr 3
  funext q
  show _ = (!(q.1 == i) && !(q.1 + 1 == i && (den ad q.2).category == 2))
  rw [den_cat]
theorem denl_stoL (ad : Int → Nat) (lv : List (Nat × PV)) (i : Nat) (v : PV) : denl ad (stoL lv i v) = (i, den ad v) :: (denl ad lv).filter (fun q => !(q.1 == i) && (!(q.1 == i + 1) && !(q.1 + 1 == i && q.2.category == 2))) := by
  unfold denl stoL
  rw [List.map_cons, List.filter_map]
  congr 3
  funext q
  show _ = (!(q.1 == i) && (!(q.1 == i + 1) && !(q.1 + 1 == i && (den ad q.2).category == 2)))
  rw [den_cat]
