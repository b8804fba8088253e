/-! sums and small arithmetic -/
def sumN (f : Int → Int) (lo : Int) : Nat → Int
  | 0 => 0
  | n + 1 => sumN f lo n + f (lo + n)
def sumI (f : Int → Int) (lo hi : Int) : Int := sumN f lo (hi - lo).toNat
theorem sumI_0 (f : Int → Int) {lo hi : Int} (h : hi ≤ lo) : sumI f lo hi = 0 := by
  unfold sumI
  rw [show (hi - lo).toNat = 0 by omega]
  rfl
theorem sumI_s (f : Int → Int) {lo hi : Int} (h : lo ≤ hi) : sumI f lo (hi + 1) = sumI f lo hi + f hi := by
  unfold sumI
  rw [show (hi + 1 - lo).toNat = (hi - lo).toNat + 1 by omega]
  show sumN f lo (hi - lo).toNat + f (lo + ((hi - lo).toNat : Int)) = _
  rw [show lo + ((hi - lo).toNat : Int) = hi by omega]
theorem sumN_congr {f g : Int → Int} {lo : Int} : ∀ {n : Nat}, (∀ i : Int, lo ≤ i → i < lo + n → f i = g i) → sumN f lo n = sumN g lo n
  | 0, _ => rfl
  | n + 1, h => by
    show sumN f lo n + f (lo + n) = sumN g lo n + g (lo + n)
    rw [sumN_congr (fun i h1 h2 => h i h1 (by omega)), h (lo + n) (by omega) (by omega)]
theorem sumI_congr {f g : Int → Int} {lo hi : Int} (h : ∀ i, lo ≤ i → i < hi → f i = g i) : sumI f lo hi = sumI g lo hi :=
  sumN_congr (fun i h1 h2 => h i h1 (by omega))
theorem sumN_bd {f : Int → Int} {lo B : Int} : ∀ {n : Nat}, (∀ i : Int, lo ≤ i → i < lo + n → 0 ≤ f i ∧ f i ≤ B) → 0 ≤ sumN f lo n ∧ sumN f lo n ≤ B * n
  | 0, _ => by simp [sumN]
  | n + 1, h => by
    have h1 := sumN_bd (f := f) (lo := lo) (B := B) (n := n) (fun i a b => h i a (by omega))
    have h2 := h (lo + n) (by omega) (by omega)
    show 0 ≤ sumN f lo n + f (lo + n) ∧ sumN f lo n + f (lo + n) ≤ B * ((n + 1 : Nat) : Int)
    rw [show B * ((n + 1 : Nat) : Int) = B * n + B by rw [Int.natCast_add, Int.mul_add]; simp]
    omega
theorem sumI_bd {f : Int → Int} {lo hi B : Int} (hB : 0 ≤ B) (h : ∀ i, lo ≤ i → i < hi → 0 ≤ f i ∧ f i ≤ B) (n : Nat) (hn : hi - lo ≤ n) : 0 ≤ sumI f lo hi ∧ sumI f lo hi ≤ B * n := by
  have h1 := sumN_bd (f := f) (lo := lo) (B := B) (n := (hi - lo).toNat) (fun i a b => h i a (by omega))
  have h2 : B * ((hi - lo).toNat : Int) ≤ B * (n : Int) := Int.mul_le_mul_of_nonneg_left (by omega) hB
  unfold sumI
  omega
/-- what a shop's numbers keep to, as far as indices and ranges need it -/
def SB (M : Nat) (σ : Mem) : Prop := σ 1 0 = M ∧ 1 ≤ M ∧ M ≤ 5 ∧ (0 ≤ σ 1 1 ∧ σ 1 1 ≤ 8) ∧ (∀ j : Int, 0 ≤ j → j < 8 → 0 ≤ σ 5 j ∧ σ 5 j ≤ 6) ∧ (∀ m : Int, 0 ≤ m → m < M → 0 ≤ σ 10 m ∧ σ 10 m ≤ 48)
