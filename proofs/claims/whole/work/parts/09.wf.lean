/-! the shop's well-formedness, in the class's own cells -/
def VS (a : Mem) (s : Int) : Prop := 0 ≤ s ∧ s / 10 < a 1 1 ∧ s % 10 < a 5 (s / 10)
/-- numbers within their bounds -/
def WN (M : Nat) (a : Mem) : Prop := SB M a
  ∧ (∀ j : Int, 0 ≤ j → j < 8 → (0 ≤ a 2 j ∧ a 2 j ≤ 1000) ∧ (0 ≤ a 3 j ∧ a 3 j ≤ 1000) ∧ (0 ≤ a 4 j ∧ a 4 j ≤ 20))
  ∧ (∀ j : Int, a 1 1 ≤ j → j < 8 → a 5 j = 0)
  ∧ (∀ s : Int, 0 ≤ s → s < 80 → (0 ≤ a 6 s ∧ a 6 s < M) ∧ (0 ≤ a 7 s ∧ a 7 s ≤ 50))
  ∧ (∀ i : Int, 0 ≤ i → i < 64 * M → 0 ≤ a 11 i ∧ a 11 i ≤ 50)
  ∧ (∀ m j : Int, 0 ≤ m → m < M → 0 ≤ j → j < 8 → a 11 ((m * 8 + j) * 8 + j) = 0)
/-- the orders: each entry is a step of this machine that is put, none twice -/
def WO (M : Nat) (a : Mem) : Prop :=
  (∀ m i : Int, 0 ≤ m → m < M → 0 ≤ i → i < a 10 m → VS a (a (57 + m) i) ∧ a 6 (a (57 + m) i) = m ∧ a 8 (a (57 + m) i) = 1)
  ∧ (∀ m i i' : Int, 0 ≤ m → m < M → 0 ≤ i → i < a 10 m → 0 ≤ i' → i' < a 10 m → a (57 + m) i = a (57 + m) i' → i = i')
/-- what is put stands in its order; counts -/
def WP (M : Nat) (a : Mem) : Prop :=
  (∀ s : Int, 0 ≤ s → s < 80 → a 8 s = 0 ∨ (a 8 s = 1 ∧ VS a s))
  ∧ (∀ s : Int, VS a s → a 8 s = 1 → ∃ i : Int, 0 ≤ i ∧ i < a 10 (a 6 s) ∧ a (57 + a 6 s) i = s)
  ∧ a 1 2 = sumI (fun j => a 5 j) 0 8
  ∧ a 1 3 = sumI (fun s => a 8 s) 0 80
  ∧ (∀ m : Int, 0 ≤ m → m < M → a 10 m = sumI (fun s => if a 6 s = m then a 8 s else 0) 0 80)
def WF (M : Nat) (a : Mem) : Prop := WN M a ∧ WO M a ∧ WP M a
theorem VS_in {M : Nat} {a : Mem} (h : SB M a) {s : Int} (hs : VS a s) : 0 ≤ s ∧ s < 80 ∧ 0 ≤ s / 10 ∧ s / 10 < 8 ∧ 0 ≤ s % 10 ∧ s % 10 < 6 := by
  obtain ⟨a1, a2, a3, a4, a5, a6⟩ := h
  obtain ⟨h1, h2, h3⟩ := hs
  have := a5 (s / 10) (by omega) (by omega)
  omega
/-- a and b agree on the shop's cells -/
def SE (a b : Mem) : Prop := ∀ c : Int, (1 ≤ c ∧ c ≤ 11) ∨ 57 ≤ c → a c = b c
theorem SE.refl (a : Mem) : SE a a := fun _ _ => rfl
theorem SE.symm {a b : Mem} (h : SE a b) : SE b a := fun c hc => (h c hc).symm
theorem SE.trans {a b c : Mem} (h : SE a b) (g : SE b c) : SE a c := fun d hd => (h d hd).trans (g d hd)
theorem SE_SB {M : Nat} {a b : Mem} (h : SE a b) (g : SB M a) : SB M b := by
  have e1 := h 1 (by omega)
  have e5 := h 5 (by omega)
  have e10 := h 10 (by omega)
  unfold SB at *
  rw [e1, e5, e10] at g
  exact g
theorem SE_VS {a b : Mem} (h : SE a b) (s : Int) : VS a s ↔ VS b s := by
  have e1 := h 1 (by omega)
  have e5 := h 5 (by omega)
  unfold VS
  rw [e1, e5]
theorem SE_WN {M : Nat} {a b : Mem} (h : SE a b) (g : WN M a) : WN M b := by
  have e1 := h 1 (by omega)
  have e2 := h 2 (by omega)
  have e3 := h 3 (by omega)
  have e4 := h 4 (by omega)
  have e5 := h 5 (by omega)
  have e6 := h 6 (by omega)
  have e7 := h 7 (by omega)
  have e11 := h 11 (by omega)
  refine ⟨SE_SB h g.1, ?_⟩
  have g2 := g.2
  rw [e1, e2, e3, e4, e5, e6, e7, e11] at g2
  exact g2
theorem SE_row {a b : Mem} (h : SE a b) {m : Int} (hm : 0 ≤ m) : a (57 + m) = b (57 + m) := h _ (by omega)
theorem SE_WO {M : Nat} {a b : Mem} (h : SE a b) (g : WO M a) : WO M b := by
  have e6 := h 6 (by omega)
  have e8 := h 8 (by omega)
  have e10 := h 10 (by omega)
  obtain ⟨g1, g2⟩ := g
  refine ⟨fun m i h1 h2 h3 h4 => ?_, fun m i i' h1 h2 h3 h4 h5 h6 => ?_⟩
  · have := g1 m i h1 h2 h3 (by rw [e10]; exact h4)
    rw [SE_VS h, SE_row h h1, e6, e8] at this
    exact this
  · have := g2 m i i' h1 h2 h3 (by rw [e10]; exact h4) h5 (by rw [e10]; exact h6)
    rw [SE_row h h1] at this
    exact this
theorem SE_WP {M : Nat} {a b : Mem} (h : SE a b) (hN : WN M a) (g : WP M a) : WP M b := by
  have e1 := h 1 (by omega)
  have e5 := h 5 (by omega)
  have e6 := h 6 (by omega)
  have e8 := h 8 (by omega)
  have e10 := h 10 (by omega)
  obtain ⟨g1, g2, g3, g4, g5⟩ := g
  refine ⟨fun s h1 h2 => ?_, fun s h1 h2 => ?_, ?_, ?_, fun m h1 h2 => ?_⟩
  · have := g1 s h1 h2
    rw [SE_VS h, e8] at this
    exact this
  · have hv := (SE_VS h s).mpr h1
    obtain ⟨i, q1, q2, q3⟩ := g2 s hv (by rw [e8]; exact h2)
    have hs := VS_in hN.1 hv
    have hm := (hN.2.2.2.1 s hs.1 hs.2.1).1.1
    refine ⟨i, q1, ?_, ?_⟩
    · rw [← e10, ← e6]; exact q2
    · rw [← e6, ← SE_row h hm]; exact q3
  · rw [← e1, ← e5]; exact g3
  · rw [← e1, ← e8]; exact g4
  · have := g5 m h1 h2
    rw [e10, e6, e8] at this
    exact this
theorem SE_WF {M : Nat} {a b : Mem} (h : SE a b) (g : WF M a) : WF M b := ⟨SE_WN h g.1, SE_WO h g.2.1, SE_WP h g.1 g.2.2⟩
