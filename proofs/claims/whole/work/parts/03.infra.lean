/-! values, memory, the world -/
abbrev PV : Type := Int ⊕ (Int ⊕ Int)
abbrev pI (z : Int) : PV := .inl z
abbrev pL (z : Int) : PV := .inr (.inl z)
abbrev pR (c : Int) : PV := .inr (.inr c)
abbrev Mem : Type := Int → Int → Int
abbrev GG : Type := va_G × (Int → Nat) × Nat × (Nat → ClassId)
abbrev gD (G : GG) : va_G := G.1
abbrev gA (G : GG) : Int → Nat := G.2.1
abbrev gM (G : GG) : Nat := G.2.2.1
abbrev gC (G : GG) : Nat → ClassId := G.2.2.2
def oI (z : Int) : Int32 := Int32.ofInt z
def oL (z : Int) : Int64 := Int64.ofInt z
def inR (z : Int) : Prop := -2147483648 ≤ z ∧ z ≤ 2147483647
def inL (z : Int) : Prop := -9223372036854775808 ≤ z ∧ z ≤ 9223372036854775807
theorem oI_toInt {z : Int} (h : inR z) : (oI z).toInt = z := Int32.toInt_ofInt_of_le (by have := h.1; omega) (by have := h.2; omega)
theorem oL_toInt {z : Int} (h : inL z) : (oL z).toInt = z := Int64.toInt_ofInt_of_le (by have := h.1; omega) (by have := h.2; omega)
theorem oI_add (a b : Int) : oI a + oI b = oI (a + b) := (Int32.ofInt_add a b).symm
theorem oI_sub (a b : Int) : oI a - oI b = oI (a - b) := by
  apply Int32.toInt.inj
  simp [oI, Int32.toInt_sub, Int32.toInt_ofInt, Int.bmod_sub_bmod]
theorem oI_mul (a b : Int) : oI a * oI b = oI (a * b) := (Int32.ofInt_mul a b).symm
theorem oI_neg (a : Int) : - oI a = oI (-a) := by
  apply Int32.toInt.inj
  simp [oI, Int32.toInt_neg, Int32.toInt_ofInt]
theorem oL_add (a b : Int) : oL a + oL b = oL (a + b) := (Int64.ofInt_add a b).symm
theorem oL_mul (a b : Int) : oL a * oL b = oL (a * b) := (Int64.ofInt_mul a b).symm
theorem oI_lt {a b : Int} (ha : inR a) (hb : inR b) : oI a < oI b ↔ a < b := by rw [Int32.lt_iff_toInt_lt, oI_toInt ha, oI_toInt hb]
theorem oI_le {a b : Int} (ha : inR a) (hb : inR b) : oI a ≤ oI b ↔ a ≤ b := by rw [Int32.le_iff_toInt_le, oI_toInt ha, oI_toInt hb]
theorem oI_eq {a b : Int} (ha : inR a) (hb : inR b) : oI a = oI b ↔ a = b := by
  constructor
  · intro h
    have := congrArg Int32.toInt h
    rwa [oI_toInt ha, oI_toInt hb] at this
  · intro h; rw [h]
theorem oI_of (x : Int32) : oI x.toInt = x := Int32.ofInt_toInt x
theorem inR_of (x : Int32) : inR x.toInt := ⟨x.le_toInt, by have := x.toInt_lt; omega⟩
theorem oI_div {a b : Int} (ha : inR a) (hb : inR b) (h : 0 < b) : oI a / oI b = oI (a.tdiv b) := by
  apply Int32.toInt.inj
  rw [Int32.toInt_div, oI_toInt ha, oI_toInt hb, oI, Int32.toInt_ofInt]
theorem oI_rem {a b : Int} (ha : inR a) (hb : inR b) (h : 0 < b) : oI a - oI a / oI b * oI b = oI (a.tmod b) := by
  rw [oI_div ha hb h, oI_mul, oI_sub]
  congr 1
  have := Int.tmod_def a b
  rw [this, Int.mul_comm]
theorem oI_in {i : Int} {n : Nat} (h0 : 0 ≤ i) (h1 : i < n) (hn : n < 2147483648) : vp_in (oI i) n ∧ (oI i).toNatClampNeg = i.toNat := by
  have hr : inR i := ⟨by omega, by omega⟩
  constructor
  · rw [vp_in_iff, oI_toInt hr]; exact ⟨h0, h1⟩
  · rw [← Int32.toNat_toInt, oI_toInt hr]
