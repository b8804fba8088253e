/-! sets as numbers -/
def pw (k : Int) : Int := 2 ^ k.toNat
def bt (S k : Int) : Prop := S / pw k % 2 = 1
theorem pw_c : pw 0 = 1 ∧ pw 1 = 2 ∧ pw 2 = 4 ∧ pw 3 = 8 ∧ pw 4 = 16 ∧ pw 5 = 32 ∧ pw 6 = 64 ∧ pw 7 = 128 ∧ pw 8 = 256 := by decide
theorem k_cases {k : Int} (h0 : 0 ≤ k) (h1 : k < 8) : k = 0 ∨ k = 1 ∨ k = 2 ∨ k = 3 ∨ k = 4 ∨ k = 5 ∨ k = 6 ∨ k = 7 := by omega
theorem bits_or0 : ∀ s : Nat, s < 256 → ∀ k : Nat, k < 8 → bOr (s : Int) (bShl 1 (k : Int)) = if (s : Int) / pw k % 2 = 1 then (s : Int) else s + pw k := by decide +kernel
theorem bits_shl0 : ∀ k : Nat, k < 9 → bShl 1 (k : Int) = pw k := by decide +kernel
theorem bits_and0 : ∀ s : Nat, s < 256 → ∀ k : Nat, k < 8 → bAnd (bShr (s : Int) (k : Int)) 1 = (s : Int) / pw k % 2 := by decide +kernel
theorem bits_not0 : ∀ s : Nat, s < 256 → ∀ k : Nat, k < 8 → (s : Int) / pw k % 2 = 1 → bAnd (s : Int) (bXor (bShl 1 (k : Int)) (-1)) = (s : Int) - pw k := by decide +kernel
theorem bits_or {S k : Int} (h0 : 0 ≤ S) (h1 : S < 256) (k0 : 0 ≤ k) (k1 : k < 8) : (bt S k → bOr S (bShl 1 k) = S) ∧ (¬ bt S k → bOr S (bShl 1 k) = S + pw k) := by
  obtain ⟨s, rfl⟩ := Int.eq_ofNat_of_zero_le h0
  obtain ⟨j, rfl⟩ := Int.eq_ofNat_of_zero_le k0
  have := bits_or0 s (by omega) j (by omega)
  rw [this]
  exact ⟨fun h => if_pos h, fun h => if_neg h⟩
theorem bits_shl {k : Int} (k0 : 0 ≤ k) (k1 : k < 9) : bShl 1 k = pw k := by
  obtain ⟨j, rfl⟩ := Int.eq_ofNat_of_zero_le k0
  exact bits_shl0 j (by omega)
theorem bits_and {S k : Int} (h0 : 0 ≤ S) (h1 : S < 256) (k0 : 0 ≤ k) (k1 : k < 8) : bAnd (bShr S k) 1 = S / pw k % 2 := by
  obtain ⟨s, rfl⟩ := Int.eq_ofNat_of_zero_le h0
  obtain ⟨j, rfl⟩ := Int.eq_ofNat_of_zero_le k0
  exact bits_and0 s (by omega) j (by omega)
theorem bits_not {S k : Int} (h0 : 0 ≤ S) (h1 : S < 256) (k0 : 0 ≤ k) (k1 : k < 8) (h : bt S k) : bAnd S (bXor (bShl 1 k) (-1)) = S - pw k := by
  obtain ⟨s, rfl⟩ := Int.eq_ofNat_of_zero_le h0
  obtain ⟨j, rfl⟩ := Int.eq_ofNat_of_zero_le k0
  exact bits_not0 s (by omega) j (by omega) h
theorem pw_pos {k : Int} (k0 : 0 ≤ k) (k1 : k < 9) : 1 ≤ pw k ∧ pw k ≤ 256 := by
  obtain ⟨e0, e1, e2, e3, e4, e5, e6, e7, e8⟩ := pw_c
  rcases (show k = 8 ∨ k < 8 by omega) with rfl | h
  · omega
  · rcases k_cases k0 h with rfl | rfl | rfl | rfl | rfl | rfl | rfl | rfl <;> omega
theorem pw_s {k : Int} (k0 : 0 ≤ k) (k1 : k < 8) : pw (k + 1) = 2 * pw k := by
  unfold pw
  rw [show (k + 1).toNat = k.toNat + 1 by omega, Int.pow_succ]
  omega
/-- adding a bit that isn't there -/
theorem bt_add {S k : Int} (h0 : 0 ≤ S) (k0 : 0 ≤ k) (k1 : k < 8) (h : ¬ bt S k) : bt (S + pw k) k := by
  obtain ⟨e0, e1, e2, e3, e4, e5, e6, e7, e8⟩ := pw_c
  unfold bt at *
  rcases k_cases k0 k1 with rfl | rfl | rfl | rfl | rfl | rfl | rfl | rfl <;> simp only [e0, e1, e2, e3, e4, e5, e6, e7] at * <;> omega
theorem bt_add_ne {S k i : Int} (h0 : 0 ≤ S) (k0 : 0 ≤ k) (k1 : k < 8) (i0 : 0 ≤ i) (i1 : i < 8) (h : ¬ bt S k) (hne : i ≠ k) : bt (S + pw k) i ↔ bt S i := by
  obtain ⟨e0, e1, e2, e3, e4, e5, e6, e7, e8⟩ := pw_c
  unfold bt at *
  rcases k_cases k0 k1 with rfl | rfl | rfl | rfl | rfl | rfl | rfl | rfl <;> rcases k_cases i0 i1 with rfl | rfl | rfl | rfl | rfl | rfl | rfl | rfl <;> simp only [e0, e1, e2, e3, e4, e5, e6, e7] at * <;> omega
theorem bt_sub {S k : Int} (h0 : 0 ≤ S) (k0 : 0 ≤ k) (k1 : k < 8) (h : bt S k) : pw k ≤ S ∧ ¬ bt (S - pw k) k := by
  obtain ⟨e0, e1, e2, e3, e4, e5, e6, e7, e8⟩ := pw_c
  unfold bt at *
  rcases k_cases k0 k1 with rfl | rfl | rfl | rfl | rfl | rfl | rfl | rfl <;> simp only [e0, e1, e2, e3, e4, e5, e6, e7] at * <;> omega
theorem bt_room {S k n : Int} (h0 : 0 ≤ S) (n0 : 0 ≤ n) (n1 : n ≤ 8) (hS : S < pw n) (k0 : 0 ≤ k) (k1 : k < n) (h : ¬ bt S k) : S + pw k < pw n := by
  obtain ⟨e0, e1, e2, e3, e4, e5, e6, e7, e8⟩ := pw_c
  unfold bt at *
  rcases (show n = 0 ∨ n = 1 ∨ n = 2 ∨ n = 3 ∨ n = 4 ∨ n = 5 ∨ n = 6 ∨ n = 7 ∨ n = 8 by omega) with rfl | rfl | rfl | rfl | rfl | rfl | rfl | rfl | rfl <;> rcases k_cases k0 (by omega) with rfl | rfl | rfl | rfl | rfl | rfl | rfl | rfl <;> simp only [e0, e1, e2, e3, e4, e5, e6, e7, e8] at * <;> omega
theorem bt_full {k n : Int} (n1 : n ≤ 8) (k0 : 0 ≤ k) (k1 : k < n) : bt (pw n - 1) k := by
  obtain ⟨e0, e1, e2, e3, e4, e5, e6, e7, e8⟩ := pw_c
  unfold bt
  rcases (show n = 1 ∨ n = 2 ∨ n = 3 ∨ n = 4 ∨ n = 5 ∨ n = 6 ∨ n = 7 ∨ n = 8 by omega) with rfl | rfl | rfl | rfl | rfl | rfl | rfl | rfl <;> rcases k_cases k0 (by omega) with rfl | rfl | rfl | rfl | rfl | rfl | rfl | rfl <;> simp only [e0, e1, e2, e3, e4, e5, e6, e7, e8] <;> omega
theorem bt_low {k : Int} (k0 : 0 ≤ k) (k1 : k < 8) : ¬ bt (pw k - 1) k := by
  obtain ⟨e0, e1, e2, e3, e4, e5, e6, e7, e8⟩ := pw_c
  unfold bt
  rcases k_cases k0 k1 with rfl | rfl | rfl | rfl | rfl | rfl | rfl | rfl <;> simp only [e0, e1, e2, e3, e4, e5, e6, e7, e8] <;> omega
theorem bt_zero (k : Int) : ¬ bt 0 k := by unfold bt; simp
/-! orders of one machine's steps, the last one first -/
def sqE (h t : Int → Int) : List Int → Int
  | [] => 0
  | k :: ks => max (sqE h t ks) (h k) + t k
def sqOk (h t q : Int → Int) (L : Int) : List Int → Prop
  | [] => True
  | k :: ks => sqOk h t q L ks ∧ sqE h t (k :: ks) + q k ≤ L
def sqS : List Int → Int
  | [] => 0
  | k :: ks => sqS ks + pw k
def sqW (n : Int) : List Int → Prop
  | [] => True
  | k :: ks => sqW n ks ∧ 0 ≤ k ∧ k < n ∧ ¬ bt (sqS ks) k
def Fit (n : Int) (h t q : Int → Int) (L : Int) : Prop := ∃ l : List Int, sqW n l ∧ sqOk h t q L l ∧ sqS l = pw n - 1
/-- the machine's bound -/
def IsB (n : Int) (h t q : Int → Int) (b : Int) : Prop := 0 ≤ b ∧ Fit n h t q b ∧ ∀ L : Int, 0 ≤ L → L < b → ¬ Fit n h t q L
theorem IsB_uniq {n : Int} {h t q : Int → Int} {b b' : Int} (x : IsB n h t q b) (y : IsB n h t q b') : b = b' := by
  apply Classical.byContradiction
  intro e
  rcases (show b < b' ∨ b' < b by omega) with z | z
  · exact y.2.2 b x.1 z x.2.1
  · exact x.2.2 b' y.1 z y.2.1
theorem sqS_in {n : Int} (n0 : 0 ≤ n) (n1 : n ≤ 8) : ∀ l : List Int, sqW n l → 0 ≤ sqS l ∧ sqS l < pw n
  | [], _ => by have := pw_pos n0 (by omega); simp only [sqS]; omega
  | k :: ks, h => by
    obtain ⟨h1, h2, h3, h4⟩ := h
    have ih := sqS_in n0 n1 ks h1
    have := bt_room ih.1 n0 n1 ih.2 h2 h3 h4
    have := pw_pos h2 (by omega)
    simp only [sqS]
    omega
theorem sqOk_mono {h t q : Int → Int} {L L' : Int} (hL : L ≤ L') : ∀ l : List Int, sqOk h t q L l → sqOk h t q L' l
  | [], _ => trivial
  | k :: ks, x => ⟨sqOk_mono hL ks x.1, by have := x.2; omega⟩
theorem Fit_mono {n : Int} {h t q : Int → Int} {L L' : Int} (hL : L ≤ L') : Fit n h t q L → Fit n h t q L' := fun ⟨l, a, b, c⟩ => ⟨l, a, sqOk_mono hL l b, c⟩
theorem sqE_ge {h t : Int → Int} (ht : ∀ k, 0 ≤ t k) : ∀ l : List Int, 0 ≤ sqE h t l
  | [] => Int.le_refl _
  | k :: ks => by have := sqE_ge (h := h) ht ks; have := ht k; simp only [sqE]; omega
theorem sqE_ge' {n : Int} {h t : Int → Int} (ht : ∀ k, 0 ≤ k → k < n → 0 ≤ t k) : ∀ l : List Int, sqW n l → 0 ≤ sqE h t l
  | [], _ => Int.le_refl _
  | k :: ks, w => by have := sqE_ge' (h := h) ht ks w.1; have := ht k w.2.1 w.2.2.1; simp only [sqE]; omega
theorem Fit_low {n : Int} {h t q : Int → Int} {L : Int} (n0 : 0 ≤ n) (n1 : n ≤ 8) (x : Fit n h t q L) {k : Int} (k0 : 0 ≤ k) (k1 : k < n) : h k + t k + q k ≤ L := by
  obtain ⟨l, a, b, c⟩ := x
  have key : ∀ l : List Int, sqW n l → sqOk h t q L l → bt (sqS l) k → h k + t k + q k ≤ L := by
    intro l
    induction l with
    | nil => intro _ _ z; exact absurd z (bt_zero k)
    | cons k' ks ih =>
      intro w o z
      obtain ⟨w1, w2, w3, w4⟩ := w
      have hb := sqS_in n0 n1 ks w1
      by_cases e : k = k'
      · subst e
        have := o.2
        simp only [sqE] at this
        omega
      · exact ih w1 o.1 ((bt_add_ne hb.1 w2 (by omega) k0 (by omega) w4 e).mp z)
  exact key l a b (by rw [c]; exact bt_full n1 k0 k1)
/-- one behind the other in the order of their numbers -/
def preL : Nat → List Int
  | 0 => []
  | k + 1 => (k : Int) :: preL k
theorem preL_ok {n : Int} (n1 : n ≤ 8) : ∀ k : Nat, (k : Int) ≤ n → sqW n (preL k) ∧ sqS (preL k) = pw k - 1
  | 0, _ => ⟨trivial, by decide⟩
  | k + 1, hk => by
    have ih := preL_ok n1 k (by omega)
    have e := pw_s (k := (k : Int)) (by omega) (by omega)
    refine ⟨⟨ih.1, by omega, by omega, ?_⟩, ?_⟩
    · rw [ih.2]; exact bt_low (by omega) (by omega)
    · show sqS (preL k) + pw k = pw ((k + 1 : Nat) : Int) - 1
      rw [ih.2, show ((k + 1 : Nat) : Int) = (k : Int) + 1 by omega, e]
      omega
theorem Fit_congr {n : Int} {h t q h' t' q' : Int → Int} {L : Int} (e : ∀ k : Int, 0 ≤ k → k < n → h k = h' k ∧ t k = t' k ∧ q k = q' k) (x : Fit n h t q L) : Fit n h' t' q' L := by
  obtain ⟨l, a, b, c⟩ := x
  have key : ∀ l : List Int, sqW n l → sqE h t l = sqE h' t' l ∧ (sqOk h t q L l → sqOk h' t' q' L l) := by
    intro l
    induction l with
    | nil => intro _; exact ⟨rfl, id⟩
    | cons k ks ih =>
      intro w
      obtain ⟨w1, w2, w3, w4⟩ := w
      obtain ⟨i1, i2⟩ := ih w1
      obtain ⟨e1, e2, e3⟩ := e k w2 w3
      have ee : sqE h t (k :: ks) = sqE h' t' (k :: ks) := by simp only [sqE]; rw [i1, e1, e2]
      exact ⟨ee, fun o => ⟨i2 o.1, by rw [← ee, ← e3]; exact o.2⟩⟩
  exact ⟨l, a, (key l a).2 b, c⟩
theorem IsB_congr {n : Int} {h t q h' t' q' : Int → Int} {b : Int} (e : ∀ k : Int, 0 ≤ k → k < n → h k = h' k ∧ t k = t' k ∧ q k = q' k) (x : IsB n h t q b) : IsB n h' t' q' b :=
  ⟨x.1, Fit_congr e x.2.1, fun L l0 l1 z => x.2.2 L l0 l1 (Fit_congr (fun k k0 k1 => ⟨(e k k0 k1).1.symm, (e k k0 k1).2.1.symm, (e k k0 k1).2.2.symm⟩) z)⟩
/-! the steps of a machine, in the order of their numbers -/
def oc (a : Mem) (m s : Int) : Int := if s / 10 < a 1 1 ∧ s % 10 < a 5 (s / 10) ∧ a 6 s = m then 1 else 0
def cU (a : Mem) (m u : Int) : Int := sumI (oc a m) 0 u
def ow (a : Mem) (m s : Int) : Prop := VS a s ∧ a 6 s = m
def hdA (a : Mem) (s : Int) : Int := a 2 (s / 10) + sumI (fun p => a 7 (10 * (s / 10) + p)) 0 (s % 10)
def tlA (a : Mem) (s : Int) : Int := sumI (fun p => a 7 (10 * (s / 10) + p)) (s % 10 + 1) (a 5 (s / 10))
def colR (a : Mem) (m : Int) (h t q : Int → Int) : Prop := ∀ s : Int, ow a m s → h (cU a m s) = hdA a s ∧ t (cU a m s) = a 7 s ∧ q (cU a m s) = tlA a s
/-- THE BOUND of machine m is b -/
def BND (a : Mem) (m b : Int) : Prop := ∃ h t q : Int → Int, colR a m h t q ∧ IsB (cU a m 80) h t q b
theorem cU_s (a : Mem) (m : Int) {u : Int} (h : 0 ≤ u) : cU a m (u + 1) = cU a m u + oc a m u := sumI_s _ h
theorem oc_ow {a : Mem} {m s : Int} (h : ow a m s) : oc a m s = 1 := if_pos ⟨h.1.2.1, h.1.2.2, h.2⟩
theorem oc_no {a : Mem} {m s : Int} (h0 : 0 ≤ s) (h : ¬ ow a m s) : oc a m s = 0 := if_neg (fun z => h ⟨⟨h0, z.1, z.2.1⟩, z.2.2⟩)
theorem oc_in (a : Mem) (m s : Int) : 0 ≤ oc a m s ∧ oc a m s ≤ 1 := by unfold oc; split <;> omega
theorem cU_mono {a : Mem} {m u v : Int} (h0 : 0 ≤ u) (h : u ≤ v) : cU a m u ≤ cU a m v := by
  obtain ⟨k, hk⟩ : ∃ k : Nat, v = u + k := ⟨(v - u).toNat, by omega⟩
  subst hk
  clear h
  induction k with
  | zero => simp
  | succ k ih =>
    rw [show u + ((k + 1 : Nat) : Int) = u + k + 1 by omega, cU_s _ _ (by omega)]
    have := oc_in a m (u + k)
    omega
theorem cU_0 (a : Mem) (m : Int) : cU a m 0 = 0 := sumI_0 _ (by omega)
theorem cU_ge {a : Mem} {m u : Int} (h : 0 ≤ u) : 0 ≤ cU a m u := by have := cU_mono (a := a) (m := m) (Int.le_refl 0) h; rw [cU_0] at this; exact this
/-- each number below the count is a step's -/
theorem cU_sur {a : Mem} {m : Int} : ∀ n : Nat, ∀ k : Int, 0 ≤ k → k < cU a m n → ∃ s : Int, 0 ≤ s ∧ s < n ∧ ow a m s ∧ cU a m s = k := by
  intro n
  induction n with
  | zero => intro k h0 h1; rw [show ((0 : Nat) : Int) = 0 from rfl, cU_0] at h1; omega
  | succ n ih =>
    intro k h0 h1
    rw [show ((n + 1 : Nat) : Int) = (n : Int) + 1 by omega, cU_s _ _ (by omega)] at h1
    by_cases e : k < cU a m n
    · obtain ⟨s, s0, s1, s2, s3⟩ := ih k h0 e
      exact ⟨s, s0, by omega, s2, s3⟩
    · have hi := oc_in a m n
      have e1 : oc a m n = 1 := by omega
      have : ow a m n := by
        apply Classical.byContradiction
        intro z
        have := oc_no (a := a) (m := m) (s := (n : Int)) (by omega) z
        omega
      exact ⟨n, by omega, by omega, this, by omega⟩
theorem cU_in {M : Nat} {a : Mem} {m s : Int} (hB : SB M a) (h : ow a m s) : 0 ≤ cU a m s ∧ cU a m s < cU a m 80 := by
  have hb := VS_in hB h.1
  refine ⟨cU_ge hb.1, ?_⟩
  have := cU_mono (a := a) (m := m) (u := s + 1) (v := 80) (by omega) (by omega)
  rw [cU_s _ _ hb.1, oc_ow h] at this
  omega
theorem BND_uniq {a : Mem} {m b b' : Int} (x : BND a m b) (y : BND a m b') : b = b' := by
  obtain ⟨h, t, q, c, z⟩ := x
  obtain ⟨h', t', q', c', z'⟩ := y
  refine IsB_uniq z (IsB_congr (fun k k0 k1 => ?_) z')
  obtain ⟨s, s0, s1, s2, s3⟩ := cU_sur (a := a) (m := m) 80 k k0 k1
  have x1 := c s s2
  have x2 := c' s s2
  rw [s3] at x1 x2
  exact ⟨x2.1.trans x1.1.symm, x2.2.1.trans x1.2.1.symm, x2.2.2.trans x1.2.2.symm⟩
theorem SE_ow {a b : Mem} (h : SE a b) (m s : Int) : ow a m s ↔ ow b m s := by unfold ow; rw [SE_VS h, h 6 (by omega)]
theorem SE_cU {a b : Mem} (h : SE a b) (m u : Int) : cU a m u = cU b m u := by
  unfold cU
  refine sumI_congr (fun i _ _ => ?_)
  unfold oc
  rw [h 1 (by omega), h 5 (by omega), h 6 (by omega)]
theorem SE_BND {a b : Mem} (g : SE a b) {m z : Int} (x : BND a m z) : BND b m z := by
  obtain ⟨h, t, q, c, y⟩ := x
  refine ⟨h, t, q, fun s hs => ?_, by rw [← SE_cU g]; exact y⟩
  have := c s ((SE_ow g m s).mpr hs)
  unfold hdA tlA at *
  rw [← SE_cU g, ← g 2 (by omega), ← g 7 (by omega), ← g 5 (by omega)]
  exact this
theorem hd_in {M : Nat} {a : Mem} (hN : WN M a) {s : Int} (hs : VS a s) : (0 ≤ hdA a s ∧ hdA a s ≤ 1300) ∧ (0 ≤ tlA a s ∧ tlA a s ≤ 300) ∧ (0 ≤ a 7 s ∧ a 7 s ≤ 50) := by
  have hb := VS_in hN.1 hs
  have h2 := (hN.2.1 _ hb.2.2.1 hb.2.2.2.1).1
  have h5 := hN.1.2.2.2.2.1 _ hb.2.2.1 hb.2.2.2.1
  have a1 := sumI_bd (f := fun p => a 7 (10 * (s / 10) + p)) (lo := 0) (hi := s % 10) (B := 50) (by omega) (fun p p1 p2 => (hN.2.2.2.1 (10 * (s / 10) + p) (by omega) (by omega)).2) 6 (by omega)
  have a2 := sumI_bd (f := fun p => a 7 (10 * (s / 10) + p)) (lo := s % 10 + 1) (hi := a 5 (s / 10)) (B := 50) (by omega) (fun p p1 p2 => (hN.2.2.2.1 (10 * (s / 10) + p) (by omega) (by omega)).2) 6 (by omega)
  unfold hdA tlA
  exact ⟨⟨by omega, by omega⟩, ⟨by omega, by omega⟩, (hN.2.2.2.1 s hb.1 hb.2.1).2⟩
theorem cU_skip {a : Mem} {m u v : Int} (h0 : 0 ≤ u) (h : u ≤ v) (hn : ∀ s : Int, u ≤ s → s < v → ¬ ow a m s) : cU a m u = cU a m v := by
  obtain ⟨k, hk⟩ : ∃ k : Nat, v = u + k := ⟨(v - u).toNat, by omega⟩
  subst hk
  clear h
  induction k with
  | zero => simp
  | succ k ih =>
    rw [show u + ((k + 1 : Nat) : Int) = u + k + 1 by omega, cU_s _ _ (by omega), oc_no (by omega) (hn (u + k) (by omega) (by omega)), Int.add_zero]
    exact ih (fun s s0 s1 => hn s s0 (by omega))
theorem cU_le {a : Mem} {m : Int} : ∀ n : Nat, cU a m n ≤ n := by
  intro n
  induction n with
  | zero => rw [show ((0 : Nat) : Int) = 0 from rfl, cU_0]; omega
  | succ n ih =>
    rw [show ((n + 1 : Nat) : Int) = (n : Int) + 1 by omega, cU_s _ _ (by omega)]
    have := oc_in a m n
    omega
/-- past a job's steps; past the jobs -/
theorem cU_job {M : Nat} {a : Mem} (hN : WN M a) {m j : Int} (h0 : 0 ≤ j) (h1 : j < 8) : cU a m (10 * j + a 5 j) = cU a m (10 * (j + 1)) := by
  have h5 := hN.1.2.2.2.2.1 j h0 h1
  refine cU_skip (by omega) (by omega) (fun s s0 s1 z => ?_)
  have e : s / 10 = j := by omega
  have := z.1.2.2
  rw [e] at this
  omega
theorem cU_end {M : Nat} {a : Mem} (hN : WN M a) {m : Int} : cU a m (10 * a 1 1) = cU a m 80 := by
  have h1 := hN.1.2.2.2.1
  refine cU_skip (by omega) (by omega) (fun s s0 s1 z => ?_)
  have := z.1.2.1
  omega

/-! X0_forget -/
def m_X0_forget (σ : Mem) : Mem := m_J7_fill_53178 32 5 (-1) σ
def pre_X0_forget (M : Nat) (σ : Mem) : Prop := True
def VC_X0_forget_0 (M : Nat) (post : Mem → Prop)  (σ : Mem) : Prop :=
 (pre_J7_fill_53178 M 32 5 (-1) σ) ∧ ∀ s2 : Mem, s2 = m_J7_fill_53178 32 5 (-1) σ → post s2
set_option maxRecDepth 20000 in
set_option maxHeartbeats 4000000 in
theorem seg_X0_forget_0 {G : GG} {X : XX} {post : Mem → Prop} (C : CX G X cX0_forget RX0 1 none 1)    (σ : Mem) (vc : VC_X0_forget_0 (gM G)  post   σ) : RW G X 1 (QV G X post) 0 [(0, pR 31)] [] σ := by
  unfold VC_X0_forget_0 at vc
  refine w_aload_n C 0 dX0_forget_0 rfl ?_
  refine w_getR C dX0_forget_1 gf_X0_9 ob_31 rfl ?_
  refine w_iconst C dX0_forget_4 ?_
  obtain ⟨sc1, vc⟩ := vc
  refine w_callSV C [pR 32, pI (-1)] [] rfl dX0_forget_5 (c_J7_fill_53178 C.gi (xL X) 32 5 (-1) σ ia_32 sc1) mw_J7_fill_53178 ml_X0_35 ss_J7_fill_53178 (by decide) (Nat.le_of_ble_eq_true rfl) (fun s2 hs2 => ?_)
  have vc := vc s2 hs2
  exact w_vreturn C dX0_forget_8 vc
set_option maxHeartbeats 1000000 in
theorem ok_X0_forget_0 {M : Nat} {σ : Mem} (h : pre_X0_forget M σ) : VC_X0_forget_0 M (fun σ' => σ' = m_X0_forget σ) σ := by
  exact ⟨by unfold pre_J7_fill_53178; omega, fun s e => e⟩
theorem c_X0_forget {G : GG} (hG : GI G) (l : Launch) (σ : Mem) (h : pre_X0_forget (gM G) σ) : CtV G l yX0_forget cX0_forget 1 none 1 [pR 31] σ (fun σ' => σ' = m_X0_forget σ) := by
  refine CtV.of hG (by decide) (Nat.le_of_ble_eq_true rfl) (fun X hl C => ?_)
  show RW G X 1 (QV G X _) 0 [(0, pR 31)] [] σ
  exact seg_X0_forget_0 C σ (ok_X0_forget_0 h)

/-! X0_hasOne -/
def P_X0_hasOne (x1 : Int) (σ : Mem) : Prop := cU σ x1 80 ≤ 8
def pre_X0_hasOne (M : Nat) (x1 : Int) (σ : Mem) : Prop := WN M σ ∧ inR x1
def inv_X0_hasOne_4 (M : Nat) (x1 : Int) (σ : Mem) (w2 w3 : Int) (τ : Mem) : Prop := τ = σ ∧ 0 ≤ w3 ∧ w3 ≤ σ 1 1 ∧ w2 = cU σ x1 (10 * w3)
def mu_X0_hasOne_4 (x1 : Int) (w2 w3 : Int) (τ : Mem) : Nat := ((8 - w3) * 10 + 9).toNat
def inv_X0_hasOne_18 (M : Nat) (x1 : Int) (σ : Mem) (w2 w3 w4 : Int) (τ : Mem) : Prop := τ = σ ∧ 0 ≤ w3 ∧ w3 < σ 1 1 ∧ 0 ≤ w4 ∧ w4 ≤ σ 5 w3 ∧ w2 = cU σ x1 (10 * w3 + w4)
def mu_X0_hasOne_18 (x1 : Int) (w2 w3 w4 : Int) (τ : Mem) : Nat := ((8 - w3) * 10 + 8 - w4).toNat
def VC_X0_hasOne_0 (M : Nat) (K4 : Int → Int → Mem → Prop) (post : Int → Mem → Prop) (x1 : Int) (σ : Mem) : Prop :=
  K4 0 0 σ
set_option maxRecDepth 20000 in
set_option maxHeartbeats 4000000 in
theorem seg_X0_hasOne_0 {G : GG} {X : XX} {post : Int → Mem → Prop} (C : CX G X cX0_hasOne RX0 5 (some .boolean) 0)   (x1 : Int) (σ : Mem) (vc : VC_X0_hasOne_0 (gM G) (fun w2 w3 σ => RW G X 5 (QI G X post) 4 [(0, pR 31), (1, pI x1), (2, pI w2), (3, pI w3)] [] σ) post  x1 σ) : RW G X 5 (QI G X post) 0 [(0, pR 31), (1, pI x1)] [] σ := by
  unfold VC_X0_hasOne_0 at vc
  refine w_iconst C dX0_hasOne_0 ?_
  refine w_istore_n C [(2, pI 0), (0, pR 31), (1, pI x1)] dX0_hasOne_1 (by decide) rfl ?_
  refine w_iconst C dX0_hasOne_2 ?_
  refine w_istore_n C [(3, pI 0), (2, pI 0), (0, pR 31), (1, pI x1)] dX0_hasOne_3 (by decide) rfl ?_
  exact w_sub _ [2, 3, 1, 0] rfl vc
def VC_X0_hasOne_4 (M : Nat) (K18 : Int → Int → Int → Mem → Prop) (post : Int → Mem → Prop) (x1 : Int) (w2 : Int) (w3 : Int) (σ : Mem) : Prop :=
 (inR w3 ∧ inR (σ 1 1)) ∧ (((σ 1 1) ≤ w3 → (inR w2) ∧ ((8 < w2 → post 0 σ) ∧ (w2 ≤ 8 → post 1 σ))) ∧ (w3 < (σ 1 1) → K18 w2 w3 0 σ))
set_option maxRecDepth 20000 in
set_option maxHeartbeats 4000000 in
theorem seg_X0_hasOne_4 {G : GG} {X : XX} {post : Int → Mem → Prop} (C : CX G X cX0_hasOne RX0 5 (some .boolean) 0)   (x1 : Int) (w2 : Int) (w3 : Int) (σ : Mem) (vc : VC_X0_hasOne_4 (gM G) (fun w2 w3 w4 σ => RW G X 5 (QI G X post) 18 [(0, pR 31), (1, pI x1), (2, pI w2), (3, pI w3), (4, pI w4)] [] σ) post  x1 w2 w3 σ) : RW G X 5 (QI G X post) 4 [(0, pR 31), (1, pI x1), (2, pI w2), (3, pI w3)] [] σ := by
  unfold VC_X0_hasOne_4 at vc
  refine w_iload_n C 3 dX0_hasOne_4 rfl ?_
  refine w_aload_n C 0 dX0_hasOne_5 rfl ?_
  refine w_getR C dX0_hasOne_6 gf_X0_31 ob_31 rfl ?_
  refine w_getI C 1 dX0_hasOne_9 gf_X0_60 ob_1 rfl rfl ?_
  obtain ⟨⟨sc1, sc2⟩, vc⟩ := vc
  refine w_icmp_ge C 66 dX0_hasOne_12 (by decide) sc1 sc2 (fun h3 => ?_) (fun h3 => ?_)
  · have vc := vc.1 h3
    refine w_iload_n C 2 dX0_hasOne_66 rfl ?_
    refine w_bipush C dX0_hasOne_67 (by decide) ?_
    obtain ⟨sc4, vc⟩ := vc
    refine w_icmp_gt C 76 dX0_hasOne_69 (by decide) sc4 ⟨by omega, by omega⟩ (fun h5 => ?_) (fun h5 => ?_)
    · have vc := vc.1 h5
      refine w_iconst C dX0_hasOne_76 ?_
      exact w_zreturn C dX0_hasOne_77 (Or.inl rfl) vc
    · have vc := vc.2 h5
      refine w_iconst C dX0_hasOne_72 ?_
      refine w_goto C 77 dX0_hasOne_73 (by decide) ?_
      exact w_zreturn C dX0_hasOne_77 (Or.inr rfl) vc
  · have vc := vc.2 h3
    refine w_iconst C dX0_hasOne_15 ?_
    refine w_istore C [(4, pI 0), (0, pR 31), (1, pI x1), (2, pI w2), (3, pI w3)] dX0_hasOne_16 (by decide) rfl ?_
    exact w_sub _ [1, 2, 3, 4, 0] rfl vc
def VC_X0_hasOne_18 (M : Nat) (K4 : Int → Int → Mem → Prop) (K18 : Int → Int → Int → Mem → Prop) (post : Int → Mem → Prop) (x1 : Int) (w2 : Int) (w3 : Int) (w4 : Int) (σ : Mem) : Prop :=
 (0 ≤ w3 ∧ w3 < 8) ∧ (inR w4 ∧ inR (σ 5 w3)) ∧ (((σ 5 w3) ≤ w4 → K4 w2 (w3 + 1) σ) ∧ (w4 < (σ 5 w3) → (0 ≤ ((10 * w3) + w4) ∧ ((10 * w3) + w4) < 80) ∧ (inR (σ 6 ((10 * w3) + w4)) ∧ inR x1) ∧ ((¬ (σ 6 ((10 * w3) + w4)) = x1 → K18 w2 w3 (w4 + 1) σ) ∧ ((σ 6 ((10 * w3) + w4)) = x1 → K18 (w2 + 1) w3 (w4 + 1) σ))))
set_option maxRecDepth 20000 in
set_option maxHeartbeats 4000000 in
theorem seg_X0_hasOne_18 {G : GG} {X : XX} {post : Int → Mem → Prop} (C : CX G X cX0_hasOne RX0 5 (some .boolean) 0)   (x1 : Int) (w2 : Int) (w3 : Int) (w4 : Int) (σ : Mem) (vc : VC_X0_hasOne_18 (gM G) (fun w2 w3 σ => RW G X 5 (QI G X post) 4 [(0, pR 31), (1, pI x1), (2, pI w2), (3, pI w3)] [] σ) (fun w2 w3 w4 σ => RW G X 5 (QI G X post) 18 [(0, pR 31), (1, pI x1), (2, pI w2), (3, pI w3), (4, pI w4)] [] σ) post  x1 w2 w3 w4 σ) : RW G X 5 (QI G X post) 18 [(0, pR 31), (1, pI x1), (2, pI w2), (3, pI w3), (4, pI w4)] [] σ := by
  unfold VC_X0_hasOne_18 at vc
  refine w_iload C 4 dX0_hasOne_18 rfl ?_
  refine w_aload_n C 0 dX0_hasOne_20 rfl ?_
  refine w_getR C dX0_hasOne_21 gf_X0_31 ob_31 rfl ?_
  refine w_getR C dX0_hasOne_24 gf_X0_63 ob_1 rfl ?_
  refine w_iload_n C 3 dX0_hasOne_27 rfl ?_
  obtain ⟨⟨sc1, sc2⟩, vc⟩ := vc
  refine w_iald C dX0_hasOne_28 ia_5 sc1 sc2 ?_
  obtain ⟨⟨sc3, sc4⟩, vc⟩ := vc
  refine w_icmp_ge C 60 dX0_hasOne_29 (by decide) sc3 sc4 (fun h5 => ?_) (fun h5 => ?_)
  · have vc := vc.1 h5
    refine w_iinc C 3 [(3, pI (w3 + 1)), (0, pR 31), (1, pI x1), (2, pI w2), (4, pI w4)] dX0_hasOne_60 rfl (by decide) rfl ?_
    refine w_goto C 4 dX0_hasOne_63 (by decide) ?_
    exact w_sub _ [1, 2, 3, 0] rfl vc
  · have vc := vc.2 h5
    refine w_aload_n C 0 dX0_hasOne_32 rfl ?_
    refine w_getR C dX0_hasOne_33 gf_X0_31 ob_31 rfl ?_
    refine w_getR C dX0_hasOne_36 gf_X0_73 ob_1 rfl ?_
    refine w_bipush C dX0_hasOne_39 (by decide) ?_
    refine w_iload_n C 3 dX0_hasOne_41 rfl ?_
    refine w_imul C dX0_hasOne_42 ?_
    refine w_iload C 4 dX0_hasOne_43 rfl ?_
    refine w_iadd C dX0_hasOne_45 ?_
    obtain ⟨⟨sc6, sc7⟩, vc⟩ := vc
    refine w_iald C dX0_hasOne_46 ia_6 sc6 sc7 ?_
    refine w_iload_n C 1 dX0_hasOne_47 rfl ?_
    obtain ⟨⟨sc8, sc9⟩, vc⟩ := vc
    refine w_icmp_ne C 54 dX0_hasOne_48 (by decide) sc8 sc9 (fun h10 => ?_) (fun h10 => ?_)
    · have vc := vc.1 h10
      refine w_iinc C 4 [(4, pI (w4 + 1)), (0, pR 31), (1, pI x1), (2, pI w2), (3, pI w3)] dX0_hasOne_54 rfl (by decide) rfl ?_
      refine w_goto C 18 dX0_hasOne_57 (by decide) ?_
      exact w_sub _ [1, 2, 3, 4, 0] rfl vc
    · have vc := vc.2 h10
      refine w_iinc C 2 [(2, pI (w2 + 1)), (0, pR 31), (1, pI x1), (3, pI w3), (4, pI w4)] dX0_hasOne_51 rfl (by decide) rfl ?_
      refine w_iinc C 4 [(4, pI (w4 + 1)), (2, pI (w2 + 1)), (0, pR 31), (1, pI x1), (3, pI w3)] dX0_hasOne_54 rfl (by decide) rfl ?_
      refine w_goto C 18 dX0_hasOne_57 (by decide) ?_
      exact w_sub _ [2, 3, 1, 4, 0] rfl vc
set_option maxHeartbeats 1000000 in
theorem ok_X0_hasOne_0 {M : Nat} {x1 : Int} {σ : Mem} {K4 : Int → Int → Mem → Prop} (h : pre_X0_hasOne M x1 σ) (hK4 : ∀ (y2 y3 : Int) (τ' : Mem), inv_X0_hasOne_4 M x1 σ y2 y3 τ' → K4 y2 y3 τ') : VC_X0_hasOne_0 M K4 (fun z σ' => σ' = σ ∧ (P_X0_hasOne x1 σ ∧ z = 1 ∨ ¬ P_X0_hasOne x1 σ ∧ z = 0)) x1 σ := by
  obtain ⟨hN, hr⟩ := h
  have := hN.1.2.2.2.1
  exact hK4 _ _ _ ⟨rfl, by omega, by omega, (cU_0 σ x1).symm⟩
set_option maxHeartbeats 1000000 in
theorem ok_X0_hasOne_4 {M : Nat} {x1 : Int} {σ : Mem} {w2 w3 : Int} {τ : Mem} {K18 : Int → Int → Int → Mem → Prop} (h : pre_X0_hasOne M x1 σ) (hinv : inv_X0_hasOne_4 M x1 σ w2 w3 τ) (hK18 : ∀ (y2 y3 y4 : Int) (τ' : Mem), inv_X0_hasOne_18 M x1 σ y2 y3 y4 τ' → mu_X0_hasOne_18 x1 y2 y3 y4 τ' < mu_X0_hasOne_4 x1 w2 w3 τ → K18 y2 y3 y4 τ') : VC_X0_hasOne_4 M K18 (fun z σ' => σ' = σ ∧ (P_X0_hasOne x1 σ ∧ z = 1 ∨ ¬ P_X0_hasOne x1 σ ∧ z = 0)) x1 w2 w3 τ := by
  obtain ⟨hN, hr⟩ := h
  obtain ⟨rfl, i1, i2, rfl⟩ := hinv
  have hj := hN.1.2.2.2.1
  refine ⟨⟨⟨by omega, by omega⟩, ⟨by omega, by omega⟩⟩, fun g => ?_, fun g => hK18 _ _ _ _ ⟨rfl, i1, g, by omega, (hN.1.2.2.2.2.1 w3 i1 (by omega)).1, by simp⟩ ?_⟩
  · have e : w3 = τ 1 1 := by omega
    rw [e, cU_end hN]
    have : cU τ x1 80 ≤ 80 := cU_le (a := τ) (m := x1) 80
    have := cU_ge (a := τ) (m := x1) (u := 80) (by omega)
    exact ⟨⟨by omega, by omega⟩, fun g2 => ⟨rfl, Or.inr ⟨fun z => by unfold P_X0_hasOne at z; omega, rfl⟩⟩, fun g2 => ⟨rfl, Or.inl ⟨g2, rfl⟩⟩⟩
  · unfold mu_X0_hasOne_18 mu_X0_hasOne_4; omega
set_option maxHeartbeats 1000000 in
theorem ok_X0_hasOne_18 {M : Nat} {x1 : Int} {σ : Mem} {w2 w3 w4 : Int} {τ : Mem} {K4 : Int → Int → Mem → Prop} {K18 : Int → Int → Int → Mem → Prop} (h : pre_X0_hasOne M x1 σ) (hinv : inv_X0_hasOne_18 M x1 σ w2 w3 w4 τ) (hK4 : ∀ (y2 y3 : Int) (τ' : Mem), inv_X0_hasOne_4 M x1 σ y2 y3 τ' → mu_X0_hasOne_4 x1 y2 y3 τ' < mu_X0_hasOne_18 x1 w2 w3 w4 τ → K4 y2 y3 τ') (hK18 : ∀ (y2 y3 y4 : Int) (τ' : Mem), inv_X0_hasOne_18 M x1 σ y2 y3 y4 τ' → mu_X0_hasOne_18 x1 y2 y3 y4 τ' < mu_X0_hasOne_18 x1 w2 w3 w4 τ → K18 y2 y3 y4 τ') : VC_X0_hasOne_18 M K4 K18 (fun z σ' => σ' = σ ∧ (P_X0_hasOne x1 σ ∧ z = 1 ∨ ¬ P_X0_hasOne x1 σ ∧ z = 0)) x1 w2 w3 w4 τ := by
  obtain ⟨hN, hr⟩ := h
  obtain ⟨rfl, i1, i2, i3, i4, rfl⟩ := hinv
  have hj := hN.1.2.2.2.1
  have h5 := hN.1.2.2.2.2.1 w3 i1 (by omega)
  have hM : M ≤ 5 := hN.1.2.2.1
  refine ⟨⟨i1, by omega⟩, ⟨⟨by omega, by omega⟩, ⟨by omega, by omega⟩⟩, fun g => hK4 _ _ _ ⟨rfl, by omega, by omega, ?_⟩ ?_, fun g => ⟨⟨by omega, by omega⟩, ⟨?_, hr⟩, fun g2 => hK18 _ _ _ _ ⟨rfl, i1, i2, by omega, by omega, ?_⟩ ?_, fun g2 => hK18 _ _ _ _ ⟨rfl, i1, i2, by omega, by omega, ?_⟩ ?_⟩⟩
  · have : w4 = τ 5 w3 := by omega
    rw [this, cU_job hN i1 (by omega)]
  · unfold mu_X0_hasOne_18 mu_X0_hasOne_4; omega
  · have := (hN.2.2.2.1 (10 * w3 + w4) (by omega) (by omega)).1
    exact ⟨by omega, by omega⟩
  · rw [show 10 * w3 + (w4 + 1) = 10 * w3 + w4 + 1 by omega, cU_s _ _ (by omega), oc_no (by omega) (fun z => g2 z.2), Int.add_zero]
  · unfold mu_X0_hasOne_18; omega
  · rw [show 10 * w3 + (w4 + 1) = 10 * w3 + w4 + 1 by omega, cU_s _ _ (by omega), oc_ow ⟨⟨by omega, by rw [show (10 * w3 + w4) / 10 = w3 by omega]; exact i2, by rw [show (10 * w3 + w4) / 10 = w3 by omega]; omega⟩, g2⟩]
  · unfold mu_X0_hasOne_18; omega
theorem c_X0_hasOne {G : GG} (hG : GI G) (l : Launch) (x1 : Int) (σ : Mem) (h : pre_X0_hasOne (gM G) x1 σ) : CtI G l yX0_hasOne cX0_hasOne 5 (some .boolean) 0 [pR 31, pI x1] σ (fun z σ' => σ' = σ ∧ (P_X0_hasOne x1 σ ∧ z = 1 ∨ ¬ P_X0_hasOne x1 σ ∧ z = 0)) := by
  refine CtI.of hG (by decide) (Nat.le_of_ble_eq_true rfl) (fun X hl C => ?_)
  show RW G X 5 (QI G X _) 0 [(0, pR 31), (1, pI x1)] [] σ
  have key : ∀ n : Nat, (∀ (w2 w3 : Int) (τ : Mem), inv_X0_hasOne_4 (gM G) x1 σ w2 w3 τ → mu_X0_hasOne_4 x1 w2 w3 τ < n → RW G X 5 (QI G X (fun z σ' => σ' = σ ∧ (P_X0_hasOne x1 σ ∧ z = 1 ∨ ¬ P_X0_hasOne x1 σ ∧ z = 0))) 4 [(0, pR 31), (1, pI x1), (2, pI w2), (3, pI w3)] [] τ) ∧ (∀ (w2 w3 w4 : Int) (τ : Mem), inv_X0_hasOne_18 (gM G) x1 σ w2 w3 w4 τ → mu_X0_hasOne_18 x1 w2 w3 w4 τ < n → RW G X 5 (QI G X (fun z σ' => σ' = σ ∧ (P_X0_hasOne x1 σ ∧ z = 1 ∨ ¬ P_X0_hasOne x1 σ ∧ z = 0))) 18 [(0, pR 31), (1, pI x1), (2, pI w2), (3, pI w3), (4, pI w4)] [] τ) := by
    intro n
    induction n with
    | zero => exact ⟨fun w2 w3 τ _ h0 => absurd h0 (Nat.not_lt_zero _), fun w2 w3 w4 τ _ h0 => absurd h0 (Nat.not_lt_zero _)⟩
    | succ n ih =>
      exact ⟨(fun w2 w3 τ hinv h0 => seg_X0_hasOne_4 C x1 w2 w3 τ (ok_X0_hasOne_4 h hinv (fun y2 y3 y4 τ' hi hm => ih.2 y2 y3 y4 τ' hi (Nat.lt_of_lt_of_le hm (Nat.le_of_lt_succ h0))))), (fun w2 w3 w4 τ hinv h0 => seg_X0_hasOne_18 C x1 w2 w3 w4 τ (ok_X0_hasOne_18 h hinv (fun y2 y3 τ' hi hm => ih.1 y2 y3 τ' hi (Nat.lt_of_lt_of_le hm (Nat.le_of_lt_succ h0))) (fun y2 y3 y4 τ' hi hm => ih.2 y2 y3 y4 τ' hi (Nat.lt_of_lt_of_le hm (Nat.le_of_lt_succ h0)))))⟩
  exact seg_X0_hasOne_0 C x1 σ (ok_X0_hasOne_0 h (fun y2 y3 τ' hi => (key _).1 y2 y3 τ' hi (Nat.lt_succ_self _)))

/-! X0_collect -/
def CO (σ τ : Mem) : Prop := ∀ c : Int, c ≠ 31 → c ≠ 33 → c ≠ 34 → c ≠ 35 → τ c = σ c
theorem CO.SE {σ τ : Mem} (h : CO σ τ) : SE σ τ := fun c hc => (h c (by omega) (by omega) (by omega) (by omega)).symm
def pre_X0_collect (M : Nat) (x1 : Int) (σ : Mem) : Prop := WN M σ ∧ inR x1 ∧ cU σ x1 80 ≤ 8
def post_X0_collect (M : Nat) (x1 : Int) (σ σ' : Mem) : Prop := CO σ σ' ∧ σ' 31 2 = cU σ x1 80 ∧ colR σ x1 (σ' 33) (σ' 34) (σ' 35)
def cI (x1 : Int) (σ : Mem) (u : Int) (τ : Mem) : Prop := CO σ τ ∧ τ 31 2 = cU σ x1 u ∧ ∀ s : Int, s < u → ow σ x1 s → τ 33 (cU σ x1 s) = hdA σ s ∧ τ 34 (cU σ x1 s) = σ 7 s ∧ τ 35 (cU σ x1 s) = tlA σ s
def inv_X0_collect_7 (M : Nat) (x1 : Int) (σ : Mem) (w2 : Int) (τ : Mem) : Prop := 0 ≤ w2 ∧ w2 ≤ σ 1 1 ∧ cI x1 σ (10 * w2) τ
def mu_X0_collect_7 (x1 : Int) (w2 : Int) (τ : Mem) : Nat := ((8 - w2) * 10 + 9).toNat
def inv_X0_collect_20 (M : Nat) (x1 : Int) (σ : Mem) (w2 w3 : Int) (τ : Mem) : Prop := 0 ≤ w2 ∧ w2 < σ 1 1 ∧ 0 ≤ w3 ∧ w3 ≤ σ 5 w2 ∧ cI x1 σ (10 * w2 + w3) τ
def mu_X0_collect_20 (x1 : Int) (w2 w3 : Int) (τ : Mem) : Nat := ((8 - w2) * 10 + 8 - w3).toNat
theorem cI_skip {x1 u v : Int} {σ τ : Mem} (h : cI x1 σ u τ) (e : cU σ x1 u = cU σ x1 v) (hn : ∀ s, u ≤ s → s < v → ¬ ow σ x1 s) : cI x1 σ v τ :=
  ⟨h.1, by rw [← e]; exact h.2.1, fun s hs ho => h.2.2 s (Int.not_le.mp (fun z => hn s z hs ho)) ho⟩
def VC_X0_collect_0 (M : Nat) (K7 : Int → Mem → Prop) (post : Mem → Prop) (x1 : Int) (σ : Mem) : Prop :=
  ∀ s1 : Mem, s1 = up σ 31 2 0 → K7 0 s1
set_option maxRecDepth 20000 in
set_option maxHeartbeats 4000000 in
theorem seg_X0_collect_0 {G : GG} {X : XX} {post : Mem → Prop} (C : CX G X cX0_collect RX0 5 none 2)   (x1 : Int) (σ : Mem) (vc : VC_X0_collect_0 (gM G) (fun w2 σ => RW G X 5 (QV G X post) 7 [(0, pR 31), (1, pI x1), (2, pI w2)] [] σ) post  x1 σ) : RW G X 5 (QV G X post) 0 [(0, pR 31), (1, pI x1)] [] σ := by
  unfold VC_X0_collect_0 at vc
  refine w_aload_n C 0 dX0_collect_0 rfl ?_
  refine w_iconst C dX0_collect_1 ?_
  refine w_putI C 2 dX0_collect_2 pf_X0_15 ob_31 rfl rfl ?_
  refine w_mem (fun s1 hs1 => ?_)
  have vc := vc s1 hs1
  refine w_iconst C dX0_collect_5 ?_
  refine w_istore_n C [(2, pI 0), (0, pR 31), (1, pI x1)] dX0_collect_6 (by decide) rfl ?_
  exact w_sub _ [1, 2, 0] rfl vc
def VC_X0_collect_7 (M : Nat) (K20 : Int → Int → Mem → Prop) (post : Mem → Prop) (x1 : Int) (w2 : Int) (σ : Mem) : Prop :=
 (inR w2 ∧ inR (σ 1 1)) ∧ (((σ 1 1) ≤ w2 → post σ) ∧ (w2 < (σ 1 1) → K20 w2 0 σ))
set_option maxRecDepth 20000 in
set_option maxHeartbeats 4000000 in
theorem seg_X0_collect_7 {G : GG} {X : XX} {post : Mem → Prop} (C : CX G X cX0_collect RX0 5 none 2)   (x1 : Int) (w2 : Int) (σ : Mem) (vc : VC_X0_collect_7 (gM G) (fun w2 w3 σ => RW G X 5 (QV G X post) 20 [(0, pR 31), (1, pI x1), (2, pI w2), (3, pI w3)] [] σ) post  x1 w2 σ) : RW G X 5 (QV G X post) 7 [(0, pR 31), (1, pI x1), (2, pI w2)] [] σ := by
  unfold VC_X0_collect_7 at vc
  refine w_iload_n C 2 dX0_collect_7 rfl ?_
  refine w_aload_n C 0 dX0_collect_8 rfl ?_
  refine w_getR C dX0_collect_9 gf_X0_31 ob_31 rfl ?_
  refine w_getI C 1 dX0_collect_12 gf_X0_60 ob_1 rfl rfl ?_
  obtain ⟨⟨sc1, sc2⟩, vc⟩ := vc
  refine w_icmp_ge C 141 dX0_collect_15 (by decide) sc1 sc2 (fun h3 => ?_) (fun h3 => ?_)
  · have vc := vc.1 h3
    exact w_vreturn C dX0_collect_141 vc
  · have vc := vc.2 h3
    refine w_iconst C dX0_collect_18 ?_
    refine w_istore_n C [(3, pI 0), (0, pR 31), (1, pI x1), (2, pI w2)] dX0_collect_19 (by decide) rfl ?_
    exact w_sub _ [1, 2, 3, 0] rfl vc
def VC_X0_collect_20 (M : Nat) (K7 : Int → Mem → Prop) (K20 : Int → Int → Mem → Prop) (post : Mem → Prop) (x1 : Int) (w2 : Int) (w3 : Int) (σ : Mem) : Prop :=
 (0 ≤ w2 ∧ w2 < 8) ∧ (inR w3 ∧ inR (σ 5 w2)) ∧ (((σ 5 w2) ≤ w3 → K7 (w2 + 1) σ) ∧ (w3 < (σ 5 w2) → ∀ v6 : Int, v6 = (10 * w2) + w3 → (0 ≤ v6 ∧ v6 < 80) ∧ (inR (σ 6 v6) ∧ inR x1) ∧ ((¬ (σ 6 v6) = x1 → K20 w2 (w3 + 1) σ) ∧ ((σ 6 v6) = x1 → (inR (σ 31 2)) ∧ ((8 ≤ (σ 31 2) → K20 w2 (w3 + 1) σ) ∧ ((σ 31 2) < 8 → (pre_X3_headOf M v6 σ) ∧ (0 ≤ (σ 31 2) ∧ (σ 31 2) < 8) ∧ ∀ s17 : Mem, s17 = up σ 33 (σ 31 2) (f_X3_headOf v6 σ) → (0 ≤ v6 ∧ v6 < 80) ∧ (0 ≤ (s17 31 2) ∧ (s17 31 2) < 8) ∧ ∀ s22 : Mem, s22 = up s17 34 (s17 31 2) (s17 7 v6) → (pre_X3_tailOf M v6 s22) ∧ (0 ≤ (s22 31 2) ∧ (s22 31 2) < 8) ∧ ∀ s26 : Mem, s26 = up s22 35 (s22 31 2) (f_X3_tailOf v6 s22) → ∀ s27 : Mem, s27 = up s26 31 2 ((s26 31 2) + 1) → K20 w2 (w3 + 1) s27))))))
set_option maxRecDepth 20000 in
set_option maxHeartbeats 4000000 in
theorem seg_X0_collect_20 {G : GG} {X : XX} {post : Mem → Prop} (C : CX G X cX0_collect RX0 5 none 2)   (x1 : Int) (w2 : Int) (w3 : Int) (σ : Mem) (vc : VC_X0_collect_20 (gM G) (fun w2 σ => RW G X 5 (QV G X post) 7 [(0, pR 31), (1, pI x1), (2, pI w2)] [] σ) (fun w2 w3 σ => RW G X 5 (QV G X post) 20 [(0, pR 31), (1, pI x1), (2, pI w2), (3, pI w3)] [] σ) post  x1 w2 w3 σ) : RW G X 5 (QV G X post) 20 [(0, pR 31), (1, pI x1), (2, pI w2), (3, pI w3)] [] σ := by
  unfold VC_X0_collect_20 at vc
  refine w_iload_n C 3 dX0_collect_20 rfl ?_
  refine w_aload_n C 0 dX0_collect_21 rfl ?_
  refine w_getR C dX0_collect_22 gf_X0_31 ob_31 rfl ?_
  refine w_getR C dX0_collect_25 gf_X0_63 ob_1 rfl ?_
  refine w_iload_n C 2 dX0_collect_28 rfl ?_
  obtain ⟨⟨sc1, sc2⟩, vc⟩ := vc
  refine w_iald C dX0_collect_29 ia_5 sc1 sc2 ?_
  obtain ⟨⟨sc3, sc4⟩, vc⟩ := vc
  refine w_icmp_ge C 135 dX0_collect_30 (by decide) sc3 sc4 (fun h5 => ?_) (fun h5 => ?_)
  · have vc := vc.1 h5
    refine w_iinc C 2 [(2, pI (w2 + 1)), (0, pR 31), (1, pI x1), (3, pI w3)] dX0_collect_135 rfl (by decide) rfl ?_
    refine w_goto C 7 dX0_collect_138 (by decide) ?_
    exact w_sub _ [1, 2, 0] rfl vc
  · have vc := vc.2 h5
    refine w_bipush C dX0_collect_33 (by decide) ?_
    refine w_iload_n C 2 dX0_collect_35 rfl ?_
    refine w_imul C dX0_collect_36 ?_
    refine w_iload_n C 3 dX0_collect_37 rfl ?_
    refine w_iadd C dX0_collect_38 ?_
    refine w_top (fun v6 hv6 => ?_)
    have vc := vc v6 hv6
    refine w_istore C [(4, pI v6), (0, pR 31), (1, pI x1), (2, pI w2), (3, pI w3)] dX0_collect_39 (by decide) rfl ?_
    refine w_aload_n C 1 dX0_collect_41 rfl ?_
    refine w_getR C dX0_collect_42 gf_X0_31 ob_31 rfl ?_
    refine w_getR C dX0_collect_45 gf_X0_73 ob_1 rfl ?_
    refine w_iload C 0 dX0_collect_48 rfl ?_
    obtain ⟨⟨sc7, sc8⟩, vc⟩ := vc
    refine w_iald C dX0_collect_50 ia_6 sc7 sc8 ?_
    refine w_iload_n C 2 dX0_collect_51 rfl ?_
    obtain ⟨⟨sc9, sc10⟩, vc⟩ := vc
    refine w_icmp_ne C 129 dX0_collect_52 (by decide) sc9 sc10 (fun h11 => ?_) (fun h11 => ?_)
    · have vc := vc.1 h11
      refine w_iinc C 4 [(3, pI (w3 + 1)), (4, pI v6), (0, pR 31), (1, pI x1), (2, pI w2)] dX0_collect_129 rfl (by decide) rfl ?_
      refine w_goto C 20 dX0_collect_132 (by decide) ?_
      exact w_sub _ [2, 3, 4, 0] rfl vc
    · have vc := vc.2 h11
      refine w_aload_n C 1 dX0_collect_55 rfl ?_
      refine w_getI C 2 dX0_collect_56 gf_X0_15 ob_31 rfl rfl ?_
      refine w_bipush C dX0_collect_59 (by decide) ?_
      obtain ⟨sc12, vc⟩ := vc
      refine w_icmp_ge C 129 dX0_collect_61 (by decide) sc12 ⟨by omega, by omega⟩ (fun h13 => ?_) (fun h13 => ?_)
      · have vc := vc.1 h13
        refine w_iinc C 4 [(3, pI (w3 + 1)), (4, pI v6), (0, pR 31), (1, pI x1), (2, pI w2)] dX0_collect_129 rfl (by decide) rfl ?_
        refine w_goto C 20 dX0_collect_132 (by decide) ?_
        exact w_sub _ [2, 3, 4, 0] rfl vc
      · have vc := vc.2 h13
        refine w_aload_n C 1 dX0_collect_64 rfl ?_
        refine w_getR C dX0_collect_65 gf_X0_19 ob_31 rfl ?_
        refine w_aload_n C 1 dX0_collect_68 rfl ?_
        refine w_getI C 2 dX0_collect_69 gf_X0_15 ob_31 rfl rfl ?_
        refine w_aload_n C 1 dX0_collect_72 rfl ?_
        refine w_getR C dX0_collect_73 gf_X0_31 ob_31 rfl ?_
        refine w_iload C 0 dX0_collect_76 rfl ?_
        obtain ⟨sc14, vc⟩ := vc
        refine w_callVI C [pI v6] [pI (σ 31 2), pR 33] rfl dX0_collect_78 (c_X3_headOf C.gi (xL X) v6 σ sc14) oc_1 mw_X3_headOf ml_X0_84 im_X3_headOf se_X3_headOf (by decide) (Nat.le_of_ble_eq_true rfl) (fun z σ' hz => ?_)
        obtain ⟨rfl, hz2⟩ := hz
        have hz2 := hz2.symm
        subst hz2
        obtain ⟨⟨sc15, sc16⟩, vc⟩ := vc
        refine w_iast C dX0_collect_81 ia_33 sc15 sc16 ?_
        refine w_mem (fun s17 hs17 => ?_)
        have vc := vc s17 hs17
        refine w_aload_n C 1 dX0_collect_82 rfl ?_
        refine w_getR C dX0_collect_83 gf_X0_22 ob_31 rfl ?_
        refine w_aload_n C 1 dX0_collect_86 rfl ?_
        refine w_getI C 2 dX0_collect_87 gf_X0_15 ob_31 rfl rfl ?_
        refine w_aload_n C 1 dX0_collect_90 rfl ?_
        refine w_getR C dX0_collect_91 gf_X0_31 ob_31 rfl ?_
        refine w_getR C dX0_collect_94 gf_X0_87 ob_1 rfl ?_
        refine w_iload C 0 dX0_collect_97 rfl ?_
        obtain ⟨⟨sc18, sc19⟩, vc⟩ := vc
        refine w_iald C dX0_collect_99 ia_7 sc18 sc19 ?_
        obtain ⟨⟨sc20, sc21⟩, vc⟩ := vc
        refine w_iast C dX0_collect_100 ia_34 sc20 sc21 ?_
        refine w_mem (fun s22 hs22 => ?_)
        have vc := vc s22 hs22
        refine w_aload_n C 1 dX0_collect_101 rfl ?_
        refine w_getR C dX0_collect_102 gf_X0_25 ob_31 rfl ?_
        refine w_aload_n C 1 dX0_collect_105 rfl ?_
        refine w_getI C 2 dX0_collect_106 gf_X0_15 ob_31 rfl rfl ?_
        refine w_aload_n C 1 dX0_collect_109 rfl ?_
        refine w_getR C dX0_collect_110 gf_X0_31 ob_31 rfl ?_
        refine w_iload C 0 dX0_collect_113 rfl ?_
        obtain ⟨sc23, vc⟩ := vc
        refine w_callVI C [pI v6] [pI (s22 31 2), pR 35] rfl dX0_collect_115 (c_X3_tailOf C.gi (xL X) v6 s22 sc23) oc_1 mw_X3_tailOf ml_X0_88 im_X3_tailOf se_X3_tailOf (by decide) (Nat.le_of_ble_eq_true rfl) (fun z σ' hz => ?_)
        obtain ⟨rfl, hz2⟩ := hz
        have hz2 := hz2.symm
        subst hz2
        obtain ⟨⟨sc24, sc25⟩, vc⟩ := vc
        refine w_iast C dX0_collect_118 ia_35 sc24 sc25 ?_
        refine w_mem (fun s26 hs26 => ?_)
        have vc := vc s26 hs26
        refine w_aload_n C 1 dX0_collect_119 rfl ?_
        refine w_dup C dX0_collect_120 rfl ?_
        refine w_getI C 2 dX0_collect_121 gf_X0_15 ob_31 rfl rfl ?_
        refine w_iconst C dX0_collect_124 ?_
        refine w_iadd C dX0_collect_125 ?_
        refine w_putI C 2 dX0_collect_126 pf_X0_15 ob_31 rfl rfl ?_
        refine w_mem (fun s27 hs27 => ?_)
        have vc := vc s27 hs27
        refine w_iinc C 4 [(3, pI (w3 + 1)), (4, pI v6), (0, pR 31), (1, pI x1), (2, pI w2)] dX0_collect_129 rfl (by decide) rfl ?_
        refine w_goto C 20 dX0_collect_132 (by decide) ?_
        exact w_sub _ [2, 3, 4, 0] rfl vc
set_option maxHeartbeats 1000000 in
theorem ok_X0_collect_0 {M : Nat} {x1 : Int} {σ : Mem} {K7 : Int → Mem → Prop} (h : pre_X0_collect M x1 σ) (hK7 : ∀ (y2 : Int) (τ' : Mem), inv_X0_collect_7 M x1 σ y2 τ' → K7 y2 τ') : VC_X0_collect_0 M K7 (post_X0_collect M x1 σ) x1 σ := by
  obtain ⟨hN, hr, hc⟩ := h
  have := hN.1.2.2.2.1
  intro s1 e1
  refine hK7 _ _ ⟨by omega, by omega, fun c h1 _ _ _ => by rw [e1, up_other _ _ _ h1], by rw [e1, up_self]; exact (cU_0 σ x1).symm, fun s hs ho => ?_⟩
  have := ho.1.1
  omega
set_option maxHeartbeats 1000000 in
theorem ok_X0_collect_7 {M : Nat} {x1 : Int} {σ : Mem} {w2 : Int} {τ : Mem} {K20 : Int → Int → Mem → Prop} (h : pre_X0_collect M x1 σ) (hinv : inv_X0_collect_7 M x1 σ w2 τ) (hK20 : ∀ (y2 y3 : Int) (τ' : Mem), inv_X0_collect_20 M x1 σ y2 y3 τ' → mu_X0_collect_20 x1 y2 y3 τ' < mu_X0_collect_7 x1 w2 τ → K20 y2 y3 τ') : VC_X0_collect_7 M K20 (post_X0_collect M x1 σ) x1 w2 τ := by
  obtain ⟨hN, hr, hc⟩ := h
  obtain ⟨i1, i2, hI⟩ := hinv
  have hj := hN.1.2.2.2.1
  have e1 : τ 1 1 = σ 1 1 := by rw [hI.1 1 (by omega) (by omega) (by omega) (by omega)]
  refine ⟨⟨⟨by omega, by omega⟩, ⟨by omega, by omega⟩⟩, fun g => ?_, fun g => hK20 _ _ _ ⟨i1, by omega, by omega, (hN.1.2.2.2.2.1 w2 i1 (by omega)).1, by simpa using hI⟩ ?_⟩
  · have e : w2 = σ 1 1 := by omega
    rw [e] at hI
    have := cI_skip hI (cU_end hN) (fun s s0 s1 z => by have := z.1.2.1; omega)
    exact ⟨this.1, this.2.1, fun s ho => this.2.2 s (VS_in hN.1 ho.1).2.1 ho⟩
  · unfold mu_X0_collect_20 mu_X0_collect_7; omega
set_option maxHeartbeats 1000000 in
theorem ok_X0_collect_20 {M : Nat} {x1 : Int} {σ : Mem} {w2 w3 : Int} {τ : Mem} {K7 : Int → Mem → Prop} {K20 : Int → Int → Mem → Prop} (h : pre_X0_collect M x1 σ) (hinv : inv_X0_collect_20 M x1 σ w2 w3 τ) (hK7 : ∀ (y2 : Int) (τ' : Mem), inv_X0_collect_7 M x1 σ y2 τ' → mu_X0_collect_7 x1 y2 τ' < mu_X0_collect_20 x1 w2 w3 τ → K7 y2 τ') (hK20 : ∀ (y2 y3 : Int) (τ' : Mem), inv_X0_collect_20 M x1 σ y2 y3 τ' → mu_X0_collect_20 x1 y2 y3 τ' < mu_X0_collect_20 x1 w2 w3 τ → K20 y2 y3 τ') : VC_X0_collect_20 M K7 K20 (post_X0_collect M x1 σ) x1 w2 w3 τ := by
  obtain ⟨hN, hr, hc⟩ := h
  obtain ⟨i1, i2, i3, i4, hI⟩ := hinv
  have hj := hN.1.2.2.2.1
  have hM : M ≤ 5 := hN.1.2.2.1
  have h5 := hN.1.2.2.2.2.1 w2 i1 (by omega)
  have hSE := hI.1.SE
  have hN' := SE_WN hSE hN
  have f5 : τ 5 = σ 5 := (hSE 5 (by omega)).symm
  have f6 : τ 6 = σ 6 := (hSE 6 (by omega)).symm
  have f7 : τ 7 = σ 7 := (hSE 7 (by omega)).symm
  have f2 : τ 2 = σ 2 := (hSE 2 (by omega)).symm
  refine ⟨⟨i1, by omega⟩, ⟨⟨by omega, by omega⟩, by rw [f5]; exact ⟨by omega, by omega⟩⟩, fun g => hK7 _ _ ⟨by omega, by omega, ?_⟩ ?_, fun g v6 e6 => ?_⟩
  · rw [f5] at g
    have e : w3 = σ 5 w2 := by omega
    rw [e] at hI
    refine cI_skip hI (cU_job hN i1 (by omega)) (fun s s0 s1 z => ?_)
    have e2 : s / 10 = w2 := by omega
    have := z.1.2.2
    rw [e2] at this
    omega
  · unfold mu_X0_collect_20 mu_X0_collect_7; omega
  · rw [f5] at g
    subst e6
    have ed : (10 * w2 + w3) / 10 = w2 := by omega
    have em : (10 * w2 + w3) % 10 = w3 := by omega
    have hv : VS σ (10 * w2 + w3) := ⟨by omega, by rw [ed]; exact i2, by rw [ed, em]; exact g⟩
    have h6 := (hN.2.2.2.1 (10 * w2 + w3) (by omega) (by omega)).1
    refine ⟨⟨by omega, by omega⟩, ⟨by rw [f6]; exact ⟨by omega, by omega⟩, hr⟩, fun g2 => hK20 _ _ _ ⟨i1, i2, by omega, by omega, ?_⟩ ?_, fun g2 => ?_⟩
    · rw [f6] at g2
      have hno : ¬ ow σ x1 (10 * w2 + w3) := fun z => g2 z.2
      refine cI_skip hI ?_ (fun s s0 s1 => ?_)
      · rw [show 10 * w2 + (w3 + 1) = 10 * w2 + w3 + 1 by omega, cU_s _ _ (by omega), oc_no (by omega) hno, Int.add_zero]
      · rw [show s = 10 * w2 + w3 by omega]; exact hno
    · unfold mu_X0_collect_20; omega
    · rw [f6] at g2
      have ho : ow σ x1 (10 * w2 + w3) := ⟨hv, g2⟩
      have hci := cU_in hN.1 ho
      have hcnt := hI.2.1
      refine ⟨⟨by omega, by omega⟩, fun g3 => by omega, fun g3 => ⟨⟨by omega, by omega⟩, ⟨by omega, by omega⟩, fun s17 e17 => ?_⟩⟩
      have q17 : s17 31 2 = cU σ x1 (10 * w2 + w3) := by rw [e17, up_ne _ _ (Or.inl (by omega)), hcnt]
      refine ⟨⟨by omega, by omega⟩, ⟨by omega, by omega⟩, fun s22 e22 => ?_⟩
      have q22 : s22 31 2 = cU σ x1 (10 * w2 + w3) := by rw [e22, up_ne _ _ (Or.inl (by omega)), q17]
      have s22SE : SE σ s22 := by
        intro c hcc
        rw [e22, up_other _ _ _ (by omega), e17, up_other _ _ _ (by omega)]
        exact hSE c hcc
      refine ⟨⟨SE_SB s22SE hN.1, by omega, by omega⟩, ⟨by omega, by omega⟩, fun s26 e26 s27 e27 => ?_⟩
      have q26 : s26 31 2 = cU σ x1 (10 * w2 + w3) := by rw [e26, up_ne _ _ (Or.inl (by omega)), q22]
      have eh : f_X3_headOf (10 * w2 + w3) τ = hdA σ (10 * w2 + w3) := by
        show τ 2 _ + sumI (fun p => τ 7 _) _ _ = _
        rw [f2, f7]; rfl
      have et : f_X3_tailOf (10 * w2 + w3) s22 = tlA σ (10 * w2 + w3) := by
        show sumI (fun p => s22 7 _) _ (s22 5 _) = _
        rw [← s22SE 7 (by omega), ← s22SE 5 (by omega)]; rfl
      have e7 : s17 7 (10 * w2 + w3) = σ 7 (10 * w2 + w3) := by rw [e17, up_ne _ _ (Or.inl (by omega)), f7]
      rw [q26] at e27
      rw [q22, et] at e26
      rw [q17, e7] at e22
      rw [hcnt, eh] at e17
      have a33 : ∀ x, s27 33 x = if x = cU σ x1 (10 * w2 + w3) then hdA σ (10 * w2 + w3) else τ 33 x := by
        intro x
        rw [e27, up_ne _ _ (Or.inl (by omega)), e26, up_ne _ _ (Or.inl (by omega)), e22, up_ne _ _ (Or.inl (by omega)), e17]
        simp [up]
      have a34 : ∀ x, s27 34 x = if x = cU σ x1 (10 * w2 + w3) then σ 7 (10 * w2 + w3) else τ 34 x := by
        intro x
        rw [e27, up_ne _ _ (Or.inl (by omega)), e26, up_ne _ _ (Or.inl (by omega)), e22, e17]
        simp [up]
      have a35 : ∀ x, s27 35 x = if x = cU σ x1 (10 * w2 + w3) then tlA σ (10 * w2 + w3) else τ 35 x := by
        intro x
        rw [e27, up_ne _ _ (Or.inl (by omega)), e26, e22, e17]
        simp [up]
      refine hK20 _ _ _ ⟨i1, i2, by omega, by omega, fun c c1 c2 c3 c4 => ?_, ?_, fun s hs hos => ?_⟩ ?_
      · rw [e27, up_other _ _ _ c1, e26, up_other _ _ _ c4, e22, up_other _ _ _ c3, e17, up_other _ _ _ c2]
        exact hI.1 c c1 c2 c3 c4
      · rw [e27, up_self, show 10 * w2 + (w3 + 1) = 10 * w2 + w3 + 1 by omega, cU_s _ _ (by omega), oc_ow ho]
      · rw [a33, a34, a35]
        by_cases e : s = 10 * w2 + w3
        · subst e; simp
        · have hlt : s < 10 * w2 + w3 := by omega
          have hne : cU σ x1 s ≠ cU σ x1 (10 * w2 + w3) := by
            have := cU_mono (a := σ) (m := x1) (u := s + 1) (v := 10 * w2 + w3) (by have := hos.1.1; omega) (by omega)
            rw [cU_s _ _ hos.1.1, oc_ow hos] at this
            omega
          rw [if_neg hne, if_neg hne, if_neg hne]
          exact hI.2.2 s hlt hos
      · unfold mu_X0_collect_20; omega
theorem c_X0_collect {G : GG} (hG : GI G) (l : Launch) (x1 : Int) (σ : Mem) (h : pre_X0_collect (gM G) x1 σ) : CtV G l yX0_collect cX0_collect 5 none 2 [pR 31, pI x1] σ (post_X0_collect (gM G) x1 σ) := by
  refine CtV.of hG (by decide) (Nat.le_of_ble_eq_true rfl) (fun X hl C => ?_)
  show RW G X 5 (QV G X _) 0 [(0, pR 31), (1, pI x1)] [] σ
  have key : ∀ n : Nat, (∀ (w2 : Int) (τ : Mem), inv_X0_collect_7 (gM G) x1 σ w2 τ → mu_X0_collect_7 x1 w2 τ < n → RW G X 5 (QV G X (post_X0_collect (gM G) x1 σ)) 7 [(0, pR 31), (1, pI x1), (2, pI w2)] [] τ) ∧ (∀ (w2 w3 : Int) (τ : Mem), inv_X0_collect_20 (gM G) x1 σ w2 w3 τ → mu_X0_collect_20 x1 w2 w3 τ < n → RW G X 5 (QV G X (post_X0_collect (gM G) x1 σ)) 20 [(0, pR 31), (1, pI x1), (2, pI w2), (3, pI w3)] [] τ) := by
    intro n
    induction n with
    | zero => exact ⟨fun w2 τ _ h0 => absurd h0 (Nat.not_lt_zero _), fun w2 w3 τ _ h0 => absurd h0 (Nat.not_lt_zero _)⟩
    | succ n ih =>
      exact ⟨(fun w2 τ hinv h0 => seg_X0_collect_7 C x1 w2 τ (ok_X0_collect_7 h hinv (fun y2 y3 τ' hi hm => ih.2 y2 y3 τ' hi (Nat.lt_of_lt_of_le hm (Nat.le_of_lt_succ h0))))), (fun w2 w3 τ hinv h0 => seg_X0_collect_20 C x1 w2 w3 τ (ok_X0_collect_20 h hinv (fun y2 τ' hi hm => ih.1 y2 τ' hi (Nat.lt_of_lt_of_le hm (Nat.le_of_lt_succ h0))) (fun y2 y3 τ' hi hm => ih.2 y2 y3 τ' hi (Nat.lt_of_lt_of_le hm (Nat.le_of_lt_succ h0)))))⟩
  exact seg_X0_collect_0 C x1 σ (ok_X0_collect_0 h (fun y2 τ' hi => (key _).1 y2 τ' hi (Nat.lt_succ_self _)))

/-! X0_fits -/
/-- heads, times and tails that are collected: n of them -/
def BD (n : Int) (h t q : Int → Int) : Prop := 0 ≤ n ∧ n ≤ 8 ∧ ∀ k : Int, 0 ≤ k → k < n → (0 ≤ h k ∧ h k ≤ 1300) ∧ (0 ≤ t k ∧ t k ≤ 50) ∧ (0 ≤ q k ∧ q k ≤ 300)
def C36 (σ τ : Mem) : Prop := ∀ c : Int, c ≠ 36 → τ c = σ c
def pre_X0_fits (M : Nat) (x1 : Int) (σ : Mem) : Prop := BD (σ 31 2) (σ 33) (σ 34) (σ 35) ∧ 0 ≤ x1 ∧ x1 ≤ 10000
def post_X0_fits (M : Nat) (x1 : Int) (σ : Mem) (z : Int) (σ' : Mem) : Prop := C36 σ σ' ∧ ((z = 1 ∧ Fit (σ 31 2) (σ 33) (σ 34) (σ 35) x1) ∨ (z = 0 ∧ ¬ Fit (σ 31 2) (σ 33) (σ 34) (σ 35) x1))
/-- what the table holds: ends that some order has; none is later than an order whose start (all but the last) lies below S, or is S with a last one below k -/
def TI (x1 : Int) (σ : Mem) (S k : Int) (τ : Mem) : Prop :=
  (∀ T : Int, 0 ≤ T → T < 256 → 0 ≤ τ 36 T ∧ τ 36 T ≤ 1000000)
  ∧ (∀ T : Int, 0 ≤ T → T < 256 → τ 36 T ≠ 1000000 → ∃ l : List Int, sqW (σ 31 2) l ∧ sqOk (σ 33) (σ 34) (σ 35) x1 l ∧ sqS l = T ∧ sqE (σ 33) (σ 34) l = τ 36 T)
  ∧ τ 36 0 = 0
  ∧ ∀ (i : Int) (ks : List Int), sqW (σ 31 2) (i :: ks) → sqOk (σ 33) (σ 34) (σ 35) x1 (i :: ks) → sqS ks < S ∨ (sqS ks = S ∧ i < k) → τ 36 (sqS (i :: ks)) ≤ sqE (σ 33) (σ 34) (i :: ks)
def inv_X0_fits_27 (M : Nat) (x1 : Int) (σ : Mem) (w2 w3 : Int) (τ : Mem) : Prop := C36 σ τ ∧ w2 = pw (σ 31 2) - 1 ∧ 0 ≤ w3 ∧ w3 ≤ w2 ∧ TI x1 σ w3 0 τ
def mu_X0_fits_27 (x1 : Int) (w2 w3 : Int) (τ : Mem) : Nat := ((256 - w3) * 10 + 9).toNat
def inv_X0_fits_49 (M : Nat) (x1 : Int) (σ : Mem) (w2 w3 w4 : Int) (τ : Mem) : Prop := C36 σ τ ∧ w2 = pw (σ 31 2) - 1 ∧ 0 ≤ w3 ∧ w3 < w2 ∧ 0 ≤ w4 ∧ w4 ≤ σ 31 2 ∧ τ 36 w3 ≠ 1000000 ∧ TI x1 σ w3 w4 τ
def mu_X0_fits_49 (x1 : Int) (w2 w3 w4 : Int) (τ : Mem) : Nat := ((256 - w3) * 10 + 8 - w4).toNat
/-- complete at S itself -/
theorem TI_at {x1 : Int} {σ τ : Mem} {S k : Int} (hk : 0 ≤ k) (h : TI x1 σ S k τ) (hB : BD (σ 31 2) (σ 33) (σ 34) (σ 35)) : ∀ l : List Int, sqW (σ 31 2) l → sqOk (σ 33) (σ 34) (σ 35) x1 l → sqS l ≤ S → τ 36 (sqS l) ≤ sqE (σ 33) (σ 34) l
  | [], _, _, _ => by rw [show sqS [] = 0 from rfl, h.2.2.1]; exact Int.le_refl _
  | i :: ks, w, o, e => by
    refine h.2.2.2 i ks w o (Or.inl ?_)
    have := pw_pos w.2.1 (by have := w.2.2.1; have := hB.2.1; omega)
    have e' : sqS ks + pw i ≤ S := e
    omega
theorem sq_lt {x1 : Int} {n : Int} {h t q : Int → Int} (hB : BD n h t q) (h0 : x1 ≤ 10000) : ∀ l : List Int, sqW n l → sqOk h t q x1 l → sqE h t l ≤ 10000
  | [], _, _ => by simp [sqE]
  | i :: ks, w, o => by
    have := o.2
    have := (hB.2.2 i w.2.1 w.2.2.1).2.2
    omega
def VC_X0_fits_0 (M : Nat) (K27 : Int → Int → Mem → Prop) (post : Int → Mem → Prop) (x1 : Int) (σ : Mem) : Prop :=
  ∀ v1 : Int, v1 = (bShl 1 (σ 31 2)) - 1 → (pre_J7_fill_53178 M 36 256 1000000 σ) ∧ ∀ s3 : Mem, s3 = m_J7_fill_53178 36 256 1000000 σ → ∀ s4 : Mem, s4 = up s3 36 0 0 → K27 v1 0 s4
set_option maxRecDepth 20000 in
set_option maxHeartbeats 4000000 in
theorem seg_X0_fits_0 {G : GG} {X : XX} {post : Int → Mem → Prop} (C : CX G X cX0_fits RX0 7 (some .boolean) 1)   (x1 : Int) (σ : Mem) (vc : VC_X0_fits_0 (gM G) (fun w2 w3 σ => RW G X 7 (QI G X post) 27 [(0, pR 31), (1, pI x1), (2, pI w2), (3, pI w3)] [] σ) post  x1 σ) : RW G X 7 (QI G X post) 0 [(0, pR 31), (1, pI x1)] [] σ := by
  unfold VC_X0_fits_0 at vc
  refine w_iconst C dX0_fits_0 ?_
  refine w_aload_n C 0 dX0_fits_1 rfl ?_
  refine w_getI C 2 dX0_fits_2 gf_X0_15 ob_31 rfl rfl ?_
  refine w_ishl C dX0_fits_5 ?_
  refine w_iconst C dX0_fits_6 ?_
  refine w_isub C dX0_fits_7 ?_
  refine w_top (fun v1 hv1 => ?_)
  have vc := vc v1 hv1
  refine w_istore_n C [(2, pI v1), (0, pR 31), (1, pI x1)] dX0_fits_8 (by decide) rfl ?_
  refine w_aload_n C 1 dX0_fits_9 rfl ?_
  refine w_getR C dX0_fits_10 gf_X0_28 ob_31 rfl ?_
  refine w_ldc (n := 1000000) C dX0_fits_13 cs_X0_94 ?_
  obtain ⟨sc2, vc⟩ := vc
  refine w_callSV C [pR 36, pI 1000000] [] rfl dX0_fits_15 (c_J7_fill_53178 C.gi (xL X) 36 256 1000000 σ ia_36 sc2) mw_J7_fill_53178 ml_X0_35 ss_J7_fill_53178 (by decide) (Nat.le_of_ble_eq_true rfl) (fun s3 hs3 => ?_)
  have vc := vc s3 hs3
  refine w_aload_n C 1 dX0_fits_18 rfl ?_
  refine w_getR C dX0_fits_19 gf_X0_28 ob_31 rfl ?_
  refine w_iconst C dX0_fits_22 ?_
  refine w_iconst C dX0_fits_23 ?_
  refine w_iast C dX0_fits_24 ia_36 (by omega) (by omega) ?_
  refine w_mem (fun s4 hs4 => ?_)
  have vc := vc s4 hs4
  refine w_iconst C dX0_fits_25 ?_
  refine w_istore_n C [(3, pI 0), (2, pI v1), (0, pR 31), (1, pI x1)] dX0_fits_26 (by decide) rfl ?_
  exact w_sub _ [2, 3, 1, 0] rfl vc
def VC_X0_fits_27 (M : Nat) (K27 : Int → Int → Mem → Prop) (K49 : Int → Int → Int → Mem → Prop) (post : Int → Mem → Prop) (x1 : Int) (w2 : Int) (w3 : Int) (σ : Mem) : Prop :=
 (inR w3 ∧ inR w2) ∧ ((w2 ≤ w3 → (0 ≤ w2 ∧ w2 < 256) ∧ (inR (σ 36 w2)) ∧ (((σ 36 w2) = 1000000 → post 0 σ) ∧ (¬ (σ 36 w2) = 1000000 → post 1 σ))) ∧ (w3 < w2 → (0 ≤ w3 ∧ w3 < 256) ∧ (inR (σ 36 w3)) ∧ ((¬ (σ 36 w3) = 1000000 → K49 w2 w3 0 σ) ∧ ((σ 36 w3) = 1000000 → K27 w2 (w3 + 1) σ))))
set_option maxRecDepth 20000 in
set_option maxHeartbeats 4000000 in
theorem seg_X0_fits_27 {G : GG} {X : XX} {post : Int → Mem → Prop} (C : CX G X cX0_fits RX0 7 (some .boolean) 1)   (x1 : Int) (w2 : Int) (w3 : Int) (σ : Mem) (vc : VC_X0_fits_27 (gM G) (fun w2 w3 σ => RW G X 7 (QI G X post) 27 [(0, pR 31), (1, pI x1), (2, pI w2), (3, pI w3)] [] σ) (fun w2 w3 w4 σ => RW G X 7 (QI G X post) 49 [(0, pR 31), (1, pI x1), (2, pI w2), (3, pI w3), (4, pI w4)] [] σ) post  x1 w2 w3 σ) : RW G X 7 (QI G X post) 27 [(0, pR 31), (1, pI x1), (2, pI w2), (3, pI w3)] [] σ := by
  unfold VC_X0_fits_27 at vc
  refine w_iload_n C 3 dX0_fits_27 rfl ?_
  refine w_iload_n C 2 dX0_fits_28 rfl ?_
  obtain ⟨⟨sc1, sc2⟩, vc⟩ := vc
  refine w_icmp_ge C 145 dX0_fits_29 (by decide) sc1 sc2 (fun h3 => ?_) (fun h3 => ?_)
  · have vc := vc.1 h3
    refine w_aload_n C 0 dX0_fits_145 rfl ?_
    refine w_getR C dX0_fits_146 gf_X0_28 ob_31 rfl ?_
    refine w_iload_n C 2 dX0_fits_149 rfl ?_
    obtain ⟨⟨sc4, sc5⟩, vc⟩ := vc
    refine w_iald C dX0_fits_150 ia_36 sc4 sc5 ?_
    refine w_ldc (n := 1000000) C dX0_fits_151 cs_X0_94 ?_
    obtain ⟨sc6, vc⟩ := vc
    refine w_icmp_eq C 160 dX0_fits_153 (by decide) sc6 ⟨by omega, by omega⟩ (fun h7 => ?_) (fun h7 => ?_)
    · have vc := vc.1 h7
      refine w_iconst C dX0_fits_160 ?_
      exact w_zreturn C dX0_fits_161 (Or.inl rfl) vc
    · have vc := vc.2 h7
      refine w_iconst C dX0_fits_156 ?_
      refine w_goto C 161 dX0_fits_157 (by decide) ?_
      exact w_zreturn C dX0_fits_161 (Or.inr rfl) vc
  · have vc := vc.2 h3
    refine w_aload_n C 0 dX0_fits_32 rfl ?_
    refine w_getR C dX0_fits_33 gf_X0_28 ob_31 rfl ?_
    refine w_iload_n C 3 dX0_fits_36 rfl ?_
    obtain ⟨⟨sc8, sc9⟩, vc⟩ := vc
    refine w_iald C dX0_fits_37 ia_36 sc8 sc9 ?_
    refine w_ldc (n := 1000000) C dX0_fits_38 cs_X0_94 ?_
    obtain ⟨sc10, vc⟩ := vc
    refine w_icmp_ne C 46 dX0_fits_40 (by decide) sc10 ⟨by omega, by omega⟩ (fun h11 => ?_) (fun h11 => ?_)
    · have vc := vc.1 h11
      refine w_iconst C dX0_fits_46 ?_
      refine w_istore C [(4, pI 0), (0, pR 31), (1, pI x1), (2, pI w2), (3, pI w3)] dX0_fits_47 (by decide) rfl ?_
      exact w_sub _ [1, 2, 3, 4, 0] rfl vc
    · have vc := vc.2 h11
      refine w_goto C 139 dX0_fits_43 (by decide) ?_
      refine w_iinc C 3 [(3, pI (w3 + 1)), (0, pR 31), (1, pI x1), (2, pI w2)] dX0_fits_139 rfl (by decide) rfl ?_
      refine w_goto C 27 dX0_fits_142 (by decide) ?_
      exact w_sub _ [1, 2, 3, 0] rfl vc
def VC_X0_fits_49 (M : Nat) (K27 : Int → Int → Mem → Prop) (K49 : Int → Int → Int → Mem → Prop) (post : Int → Mem → Prop) (x1 : Int) (w2 : Int) (w3 : Int) (w4 : Int) (σ : Mem) : Prop :=
 (inR w4 ∧ inR (σ 31 2)) ∧ (((σ 31 2) ≤ w4 → K27 w2 (w3 + 1) σ) ∧ (w4 < (σ 31 2) → ∀ v4 : Int, v4 = bOr w3 (bShl 1 w4) → (0 ≤ w3 ∧ w3 < 256) ∧ (0 ≤ w4 ∧ w4 < 8) ∧ (inR (σ 36 w3) ∧ inR (σ 33 w4)) ∧ (0 ≤ w4 ∧ w4 < 8) ∧ ∀ v13 : Int, v13 = (max (σ 36 w3) (σ 33 w4)) + (σ 34 w4) → (inR v4 ∧ inR w3) ∧ ((v4 = w3 → K49 w2 w3 (w4 + 1) σ) ∧ (¬ v4 = w3 → (0 ≤ w4 ∧ w4 < 8) ∧ (inR (v13 + (σ 35 w4)) ∧ inR x1) ∧ ((x1 < (v13 + (σ 35 w4)) → K49 w2 w3 (w4 + 1) σ) ∧ ((v13 + (σ 35 w4)) ≤ x1 → (0 ≤ v4 ∧ v4 < 256) ∧ (inR v13 ∧ inR (σ 36 v4)) ∧ (((σ 36 v4) ≤ v13 → K49 w2 w3 (w4 + 1) σ) ∧ (v13 < (σ 36 v4) → (0 ≤ v4 ∧ v4 < 256) ∧ ∀ s29 : Mem, s29 = up σ 36 v4 v13 → K49 w2 w3 (w4 + 1) s29))))))))
set_option maxRecDepth 20000 in
set_option maxHeartbeats 4000000 in
theorem seg_X0_fits_49 {G : GG} {X : XX} {post : Int → Mem → Prop} (C : CX G X cX0_fits RX0 7 (some .boolean) 1)   (x1 : Int) (w2 : Int) (w3 : Int) (w4 : Int) (σ : Mem) (vc : VC_X0_fits_49 (gM G) (fun w2 w3 σ => RW G X 7 (QI G X post) 27 [(0, pR 31), (1, pI x1), (2, pI w2), (3, pI w3)] [] σ) (fun w2 w3 w4 σ => RW G X 7 (QI G X post) 49 [(0, pR 31), (1, pI x1), (2, pI w2), (3, pI w3), (4, pI w4)] [] σ) post  x1 w2 w3 w4 σ) : RW G X 7 (QI G X post) 49 [(0, pR 31), (1, pI x1), (2, pI w2), (3, pI w3), (4, pI w4)] [] σ := by
  unfold VC_X0_fits_49 at vc
  refine w_iload C 4 dX0_fits_49 rfl ?_
  refine w_aload_n C 0 dX0_fits_51 rfl ?_
  refine w_getI C 2 dX0_fits_52 gf_X0_15 ob_31 rfl rfl ?_
  obtain ⟨⟨sc1, sc2⟩, vc⟩ := vc
  refine w_icmp_ge C 139 dX0_fits_55 (by decide) sc1 sc2 (fun h3 => ?_) (fun h3 => ?_)
  · have vc := vc.1 h3
    refine w_iinc C 3 [(3, pI (w3 + 1)), (0, pR 31), (1, pI x1), (2, pI w2), (4, pI w4)] dX0_fits_139 rfl (by decide) rfl ?_
    refine w_goto C 27 dX0_fits_142 (by decide) ?_
    exact w_sub _ [1, 2, 3, 0] rfl vc
  · have vc := vc.2 h3
    refine w_iload_n C 3 dX0_fits_58 rfl ?_
    refine w_iconst C dX0_fits_59 ?_
    refine w_iload C 4 dX0_fits_60 rfl ?_
    refine w_ishl C dX0_fits_62 ?_
    refine w_ior C dX0_fits_63 ?_
    refine w_top (fun v4 hv4 => ?_)
    have vc := vc v4 hv4
    refine w_istore C [(5, pI v4), (0, pR 31), (1, pI x1), (2, pI w2), (3, pI w3), (4, pI w4)] dX0_fits_64 (by decide) rfl ?_
    refine w_aload_n C 1 dX0_fits_66 rfl ?_
    refine w_getR C dX0_fits_67 gf_X0_28 ob_31 rfl ?_
    refine w_iload_n C 4 dX0_fits_70 rfl ?_
    obtain ⟨⟨sc5, sc6⟩, vc⟩ := vc
    refine w_iald C dX0_fits_71 ia_36 sc5 sc6 ?_
    refine w_aload_n C 1 dX0_fits_72 rfl ?_
    refine w_getR C dX0_fits_73 gf_X0_19 ob_31 rfl ?_
    refine w_iload C 5 dX0_fits_76 rfl ?_
    obtain ⟨⟨sc7, sc8⟩, vc⟩ := vc
    refine w_iald C dX0_fits_78 ia_33 sc7 sc8 ?_
    obtain ⟨⟨sc9, sc10⟩, vc⟩ := vc
    refine w_max C dX0_fits_79 ml_X0_54 mt_max sc9 sc10 (Nat.le_of_ble_eq_true rfl) ?_
    refine w_aload_n C 1 dX0_fits_82 rfl ?_
    refine w_getR C dX0_fits_83 gf_X0_22 ob_31 rfl ?_
    refine w_iload C 5 dX0_fits_86 rfl ?_
    obtain ⟨⟨sc11, sc12⟩, vc⟩ := vc
    refine w_iald C dX0_fits_88 ia_34 sc11 sc12 ?_
    refine w_iadd C dX0_fits_89 ?_
    refine w_top (fun v13 hv13 => ?_)
    have vc := vc v13 hv13
    refine w_istore C [(6, pI v13), (5, pI v4), (0, pR 31), (1, pI x1), (2, pI w2), (3, pI w3), (4, pI w4)] dX0_fits_90 (by decide) rfl ?_
    refine w_iload C 1 dX0_fits_92 rfl ?_
    refine w_iload_n C 5 dX0_fits_94 rfl ?_
    obtain ⟨⟨sc14, sc15⟩, vc⟩ := vc
    refine w_icmp_eq C 133 dX0_fits_95 (by decide) sc14 sc15 (fun h16 => ?_) (fun h16 => ?_)
    · have vc := vc.1 h16
      refine w_iinc C 6 [(4, pI (w4 + 1)), (6, pI v13), (5, pI v4), (0, pR 31), (1, pI x1), (2, pI w2), (3, pI w3)] dX0_fits_133 rfl (by decide) rfl ?_
      refine w_goto C 49 dX0_fits_136 (by decide) ?_
      exact w_sub _ [3, 4, 5, 6, 0] rfl vc
    · have vc := vc.2 h16
      refine w_iload C 0 dX0_fits_98 rfl ?_
      refine w_aload_n C 2 dX0_fits_100 rfl ?_
      refine w_getR C dX0_fits_101 gf_X0_25 ob_31 rfl ?_
      refine w_iload C 6 dX0_fits_104 rfl ?_
      obtain ⟨⟨sc17, sc18⟩, vc⟩ := vc
      refine w_iald C dX0_fits_106 ia_35 sc17 sc18 ?_
      refine w_iadd C dX0_fits_107 ?_
      refine w_iload_n C 3 dX0_fits_108 rfl ?_
      obtain ⟨⟨sc19, sc20⟩, vc⟩ := vc
      refine w_icmp_gt C 133 dX0_fits_109 (by decide) sc19 sc20 (fun h21 => ?_) (fun h21 => ?_)
      · have vc := vc.1 h21
        refine w_iinc C 6 [(4, pI (w4 + 1)), (6, pI v13), (5, pI v4), (0, pR 31), (1, pI x1), (2, pI w2), (3, pI w3)] dX0_fits_133 rfl (by decide) rfl ?_
        refine w_goto C 49 dX0_fits_136 (by decide) ?_
        exact w_sub _ [3, 4, 5, 6, 0] rfl vc
      · have vc := vc.2 h21
        refine w_iload C 0 dX0_fits_112 rfl ?_
        refine w_aload_n C 2 dX0_fits_114 rfl ?_
        refine w_getR C dX0_fits_115 gf_X0_28 ob_31 rfl ?_
        refine w_iload C 1 dX0_fits_118 rfl ?_
        obtain ⟨⟨sc22, sc23⟩, vc⟩ := vc
        refine w_iald C dX0_fits_120 ia_36 sc22 sc23 ?_
        obtain ⟨⟨sc24, sc25⟩, vc⟩ := vc
        refine w_icmp_ge C 133 dX0_fits_121 (by decide) sc24 sc25 (fun h26 => ?_) (fun h26 => ?_)
        · have vc := vc.1 h26
          refine w_iinc C 6 [(4, pI (w4 + 1)), (6, pI v13), (5, pI v4), (0, pR 31), (1, pI x1), (2, pI w2), (3, pI w3)] dX0_fits_133 rfl (by decide) rfl ?_
          refine w_goto C 49 dX0_fits_136 (by decide) ?_
          exact w_sub _ [3, 4, 5, 6, 0] rfl vc
        · have vc := vc.2 h26
          refine w_aload_n C 2 dX0_fits_124 rfl ?_
          refine w_getR C dX0_fits_125 gf_X0_28 ob_31 rfl ?_
          refine w_iload C 1 dX0_fits_128 rfl ?_
          refine w_iload C 0 dX0_fits_130 rfl ?_
          obtain ⟨⟨sc27, sc28⟩, vc⟩ := vc
          refine w_iast C dX0_fits_132 ia_36 sc27 sc28 ?_
          refine w_mem (fun s29 hs29 => ?_)
          have vc := vc s29 hs29
          refine w_iinc C 6 [(4, pI (w4 + 1)), (6, pI v13), (5, pI v4), (0, pR 31), (1, pI x1), (2, pI w2), (3, pI w3)] dX0_fits_133 rfl (by decide) rfl ?_
          refine w_goto C 49 dX0_fits_136 (by decide) ?_
          exact w_sub _ [3, 4, 5, 6, 0] rfl vc
set_option maxHeartbeats 1000000 in
theorem ok_X0_fits_0 {M : Nat} {x1 : Int} {σ : Mem} {K27 : Int → Int → Mem → Prop} (h : pre_X0_fits M x1 σ) (hK27 : ∀ (y2 y3 : Int) (τ' : Mem), inv_X0_fits_27 M x1 σ y2 y3 τ' → K27 y2 y3 τ') : VC_X0_fits_0 M K27 (post_X0_fits M x1 σ) x1 σ := by
  obtain ⟨hB, x0, x9⟩ := h
  intro v1 e1
  rw [bits_shl hB.1 (by have := hB.2.1; omega)] at e1
  have hp := pw_pos hB.1 (by have := hB.2.1; omega)
  refine ⟨by unfold pre_J7_fill_53178; omega, fun s3 e3 s4 e4 => ?_⟩
  have a : ∀ T : Int, 0 ≤ T → T < 256 → s4 36 T = if T = 0 then 0 else 1000000 := by
    intro T t0 t1
    rw [e4, e3]
    simp only [up, m_J7_fill_53178]
    grind
  refine hK27 _ _ _ ⟨fun c hc => ?_, e1, by omega, by omega, fun T t0 t1 => ?_, fun T t0 t1 hne => ?_, ?_, fun i ks w o hs => ?_⟩
  · rw [e4, up_other _ _ _ hc, e3]
    funext x
    unfold m_J7_fill_53178
    rw [if_neg (fun z => hc z.1)]
  · rw [a T t0 t1]; split <;> omega
  · rw [a T t0 t1] at hne ⊢
    by_cases e : T = 0
    · subst e
      exact ⟨[], trivial, trivial, rfl, rfl⟩
    · rw [if_neg e] at hne; omega
  · rw [a 0 (by omega) (by omega)]; rfl
  · have := (sqS_in hB.1 hB.2.1 ks w.1).1
    have := w.2.1
    omega
set_option maxHeartbeats 1000000 in
theorem ok_X0_fits_27 {M : Nat} {x1 : Int} {σ : Mem} {w2 w3 : Int} {τ : Mem} {K27 : Int → Int → Mem → Prop} {K49 : Int → Int → Int → Mem → Prop} (h : pre_X0_fits M x1 σ) (hinv : inv_X0_fits_27 M x1 σ w2 w3 τ) (hK27 : ∀ (y2 y3 : Int) (τ' : Mem), inv_X0_fits_27 M x1 σ y2 y3 τ' → mu_X0_fits_27 x1 y2 y3 τ' < mu_X0_fits_27 x1 w2 w3 τ → K27 y2 y3 τ') (hK49 : ∀ (y2 y3 y4 : Int) (τ' : Mem), inv_X0_fits_49 M x1 σ y2 y3 y4 τ' → mu_X0_fits_49 x1 y2 y3 y4 τ' < mu_X0_fits_27 x1 w2 w3 τ → K49 y2 y3 y4 τ') : VC_X0_fits_27 M K27 K49 (post_X0_fits M x1 σ) x1 w2 w3 τ := by
  obtain ⟨hB, x0, x9⟩ := h
  obtain ⟨hC, rfl, i1, i2, hT⟩ := hinv
  have hp := pw_pos hB.1 (by have := hB.2.1; omega)
  have hr := hT.1 w3 i1 (by omega)
  have hr2 := hT.1 (pw (σ 31 2) - 1) (by omega) (by omega)
  refine ⟨⟨⟨by omega, by omega⟩, ⟨by omega, by omega⟩⟩, fun g => ⟨⟨by omega, by omega⟩, ⟨by omega, by omega⟩, fun g2 => ⟨hC, Or.inr ⟨rfl, fun z => ?_⟩⟩, fun g2 => ⟨hC, Or.inl ⟨rfl, ?_⟩⟩⟩, fun g => ⟨⟨i1, by omega⟩, ⟨by omega, by omega⟩, fun g2 => hK49 _ _ _ _ ⟨hC, rfl, i1, g, by omega, hB.1, g2, hT⟩ ?_, fun g2 => hK27 _ _ _ ⟨hC, rfl, by omega, by omega, hT.1, hT.2.1, hT.2.2.1, fun i ks w o hs => ?_⟩ ?_⟩⟩
  · obtain ⟨l, a, b, c⟩ := z
    have := TI_at (Int.le_refl 0) hT hB l a b (by omega)
    have := sq_lt hB x9 l a b
    rw [c] at *
    omega
  · obtain ⟨l, a, b, c, d⟩ := hT.2.1 (pw (σ 31 2) - 1) (by omega) (by omega) g2
    exact ⟨l, a, b, c⟩
  · unfold mu_X0_fits_49 mu_X0_fits_27; omega
  · -- no order of this set keeps the limit
    by_cases e : sqS ks = w3
    · exfalso
      have h1 := TI_at (Int.le_refl 0) hT hB ks w.1 o.1 (by omega)
      have h2 := sq_lt hB x9 ks w.1 o.1
      rw [e, g2] at h1
      omega
    · exact hT.2.2.2 i ks w o (Or.inl (by have := w.2.1; omega))
  · unfold mu_X0_fits_27; omega
set_option maxHeartbeats 1000000 in
theorem ok_X0_fits_49 {M : Nat} {x1 : Int} {σ : Mem} {w2 w3 w4 : Int} {τ : Mem} {K27 : Int → Int → Mem → Prop} {K49 : Int → Int → Int → Mem → Prop} (h : pre_X0_fits M x1 σ) (hinv : inv_X0_fits_49 M x1 σ w2 w3 w4 τ) (hK27 : ∀ (y2 y3 : Int) (τ' : Mem), inv_X0_fits_27 M x1 σ y2 y3 τ' → mu_X0_fits_27 x1 y2 y3 τ' < mu_X0_fits_49 x1 w2 w3 w4 τ → K27 y2 y3 τ') (hK49 : ∀ (y2 y3 y4 : Int) (τ' : Mem), inv_X0_fits_49 M x1 σ y2 y3 y4 τ' → mu_X0_fits_49 x1 y2 y3 y4 τ' < mu_X0_fits_49 x1 w2 w3 w4 τ → K49 y2 y3 y4 τ') : VC_X0_fits_49 M K27 K49 (post_X0_fits M x1 σ) x1 w2 w3 w4 τ := by
  obtain ⟨hB, x0, x9⟩ := h
  obtain ⟨hC, rfl, i1, i2, i3, i4, i5, hT⟩ := hinv
  have hp := pw_pos hB.1 (by have := hB.2.1; omega)
  have hn8 := hB.2.1
  have f31 : τ 31 = σ 31 := hC 31 (by omega)
  have f33 : τ 33 = σ 33 := hC 33 (by omega)
  have f34 : τ 34 = σ 34 := hC 34 (by omega)
  have f35 : τ 35 = σ 35 := hC 35 (by omega)
  have hr := hT.1 w3 i1 (by omega)
  refine ⟨⟨⟨by omega, by omega⟩, by rw [f31]; exact ⟨by omega, by omega⟩⟩, fun g => hK27 _ _ _ ⟨hC, rfl, by omega, by omega, hT.1, hT.2.1, hT.2.2.1, fun i ks w o hs => ?_⟩ ?_, fun g v4 e4 => ?_⟩
  · rw [f31] at g
    refine hT.2.2.2 i ks w o ?_
    have := w.2.2.1
    have := w.2.1
    omega
  · unfold mu_X0_fits_49 mu_X0_fits_27; omega
  · rw [f31] at g
    obtain ⟨bh, bt', bq⟩ := hB.2.2 w4 i3 g
    refine ⟨⟨i1, by omega⟩, ⟨i3, by omega⟩, ⟨⟨by omega, by omega⟩, by rw [f33]; exact ⟨by omega, by omega⟩⟩, ⟨i3, by omega⟩, fun v13 e13 => ?_⟩
    rw [f33, f34] at e13
    have hor := bits_or (S := w3) (k := w4) i1 (by omega) i3 (by omega)
    -- the next place, when nothing is written
    have skip : (∀ ks : List Int, sqW (σ 31 2) (w4 :: ks) → sqOk (σ 33) (σ 34) (σ 35) x1 (w4 :: ks) → sqS ks = w3 → τ 36 (w3 + pw w4) ≤ sqE (σ 33) (σ 34) (w4 :: ks)) → K49 (pw (σ 31 2) - 1) w3 (w4 + 1) τ := by
      intro hh
      refine hK49 _ _ _ _ ⟨hC, rfl, i1, i2, by omega, by omega, i5, hT.1, hT.2.1, hT.2.2.1, fun i ks w o hs => ?_⟩ (by unfold mu_X0_fits_49; omega)
      by_cases e : sqS ks = w3 ∧ i = w4
      · obtain ⟨e, rfl⟩ := e
        have := hh ks w o e
        rw [show sqS (i :: ks) = w3 + pw i from by show sqS ks + pw i = _; rw [e]]
        exact this
      · exact hT.2.2.2 i ks w o (by omega)
    -- an order that ends with this step: its start ends no sooner than the table says
    have low : ∀ ks : List Int, sqW (σ 31 2) (w4 :: ks) → sqOk (σ 33) (σ 34) (σ 35) x1 (w4 :: ks) → sqS ks = w3 → v13 ≤ sqE (σ 33) (σ 34) (w4 :: ks) := by
      intro ks w o e
      have := TI_at i3 hT hB ks w.1 o.1 (by omega)
      rw [e] at this
      show v13 ≤ max (sqE (σ 33) (σ 34) ks) (σ 33 w4) + σ 34 w4
      omega
    by_cases hbit : bt w3 w4
    · rw [hor.1 hbit] at e4
      subst e4
      refine ⟨⟨⟨by omega, by omega⟩, ⟨by omega, by omega⟩⟩, fun _ => skip (fun ks w o e => ?_), fun q => absurd rfl q⟩
      exact absurd (by rw [e]; exact hbit) w.2.2.2
    · rw [hor.2 hbit] at e4
      have hroom := bt_room i1 hB.1 hn8 (by omega : w3 < pw (σ 31 2)) i3 g hbit
      have hpk := pw_pos i3 (by omega : w4 < 9)
      have hr4 := hT.1 (w3 + pw w4) (by omega) (by omega)
      subst e4
      refine ⟨⟨⟨by omega, by omega⟩, ⟨by omega, by omega⟩⟩, fun q => by omega, fun _ => ⟨⟨i3, by omega⟩, ⟨by rw [f35]; exact ⟨by omega, by omega⟩, ⟨by omega, by omega⟩⟩, fun g3 => skip (fun ks w o e => ?_), fun g3 => ⟨⟨by omega, by omega⟩, ⟨⟨by omega, by omega⟩, ⟨by omega, by omega⟩⟩, fun g4 => skip (fun ks w o e => ?_), fun g4 => ⟨⟨by omega, by omega⟩, fun s29 e29 => ?_⟩⟩⟩⟩
      · rw [f35] at g3
        have h1 := low ks w o e
        have h2 := o.2
        omega
      · have h1 := low ks w o e
        omega
      · rw [f35] at g3
        have a36 : ∀ T, s29 36 T = if T = w3 + pw w4 then v13 else τ 36 T := by
          intro T
          rw [e29]
          simp [up]
        obtain ⟨l3, l3w, l3o, l3s, l3e⟩ := hT.2.1 w3 i1 (by omega) i5
        refine hK49 _ _ _ _ ⟨fun c hc => ?_, rfl, i1, i2, by omega, by omega, ?_, fun T t0 t1 => ?_, fun T t0 t1 hne => ?_, ?_, fun i ks w o hs => ?_⟩ (by unfold mu_X0_fits_49; omega)
        · rw [e29, up_other _ _ _ hc]; exact hC c hc
        · rw [a36, if_neg (by omega)]; exact i5
        · rw [a36]
          have := hT.1 T t0 t1
          split <;> omega
        · rw [a36] at hne ⊢
          by_cases e : T = w3 + pw w4
          · rw [if_pos e]
            have en : sqE (σ 33) (σ 34) (w4 :: l3) = v13 := by
              show max (sqE (σ 33) (σ 34) l3) (σ 33 w4) + σ 34 w4 = v13
              rw [l3e, e13]
            refine ⟨w4 :: l3, ⟨l3w, i3, g, by rw [l3s]; exact hbit⟩, ⟨l3o, ?_⟩, ?_, en⟩
            · rw [en]; exact g3
            · show sqS l3 + pw w4 = T
              rw [l3s, e]
          · rw [if_neg e] at hne ⊢
            exact hT.2.1 T t0 t1 hne
        · rw [a36, if_neg (by omega)]; exact hT.2.2.1
        · rw [a36]
          by_cases e : sqS ks = w3 ∧ i = w4
          · obtain ⟨e, rfl⟩ := e
            rw [if_pos (show sqS (i :: ks) = w3 + pw i from by show sqS ks + pw i = _; rw [e])]
            exact low ks w o e
          · have old := hT.2.2.2 i ks w o (by omega)
            by_cases e2 : sqS (i :: ks) = w3 + pw w4
            · rw [if_pos e2]
              rw [e2] at old
              omega
            · rw [if_neg e2]; exact old
theorem c_X0_fits {G : GG} (hG : GI G) (l : Launch) (x1 : Int) (σ : Mem) (h : pre_X0_fits (gM G) x1 σ) : CtI G l yX0_fits cX0_fits 7 (some .boolean) 1 [pR 31, pI x1] σ (post_X0_fits (gM G) x1 σ) := by
  refine CtI.of hG (by decide) (Nat.le_of_ble_eq_true rfl) (fun X hl C => ?_)
  show RW G X 7 (QI G X _) 0 [(0, pR 31), (1, pI x1)] [] σ
  have key : ∀ n : Nat, (∀ (w2 w3 : Int) (τ : Mem), inv_X0_fits_27 (gM G) x1 σ w2 w3 τ → mu_X0_fits_27 x1 w2 w3 τ < n → RW G X 7 (QI G X (post_X0_fits (gM G) x1 σ)) 27 [(0, pR 31), (1, pI x1), (2, pI w2), (3, pI w3)] [] τ) ∧ (∀ (w2 w3 w4 : Int) (τ : Mem), inv_X0_fits_49 (gM G) x1 σ w2 w3 w4 τ → mu_X0_fits_49 x1 w2 w3 w4 τ < n → RW G X 7 (QI G X (post_X0_fits (gM G) x1 σ)) 49 [(0, pR 31), (1, pI x1), (2, pI w2), (3, pI w3), (4, pI w4)] [] τ) := by
    intro n
    induction n with
    | zero => exact ⟨fun w2 w3 τ _ h0 => absurd h0 (Nat.not_lt_zero _), fun w2 w3 w4 τ _ h0 => absurd h0 (Nat.not_lt_zero _)⟩
    | succ n ih =>
      exact ⟨(fun w2 w3 τ hinv h0 => seg_X0_fits_27 C x1 w2 w3 τ (ok_X0_fits_27 h hinv (fun y2 y3 τ' hi hm => ih.1 y2 y3 τ' hi (Nat.lt_of_lt_of_le hm (Nat.le_of_lt_succ h0))) (fun y2 y3 y4 τ' hi hm => ih.2 y2 y3 y4 τ' hi (Nat.lt_of_lt_of_le hm (Nat.le_of_lt_succ h0))))), (fun w2 w3 w4 τ hinv h0 => seg_X0_fits_49 C x1 w2 w3 w4 τ (ok_X0_fits_49 h hinv (fun y2 y3 τ' hi hm => ih.1 y2 y3 τ' hi (Nat.lt_of_lt_of_le hm (Nat.le_of_lt_succ h0))) (fun y2 y3 y4 τ' hi hm => ih.2 y2 y3 y4 τ' hi (Nat.lt_of_lt_of_le hm (Nat.le_of_lt_succ h0)))))⟩
  exact seg_X0_fits_0 C x1 σ (ok_X0_fits_0 h (fun y2 y3 τ' hi => (key _).1 y2 y3 τ' hi (Nat.lt_succ_self _)))

/-! X0_leastLimit -/
def pre_X0_leastLimit (M : Nat) (σ : Mem) : Prop := BD (σ 31 2) (σ 33) (σ 34) (σ 35)
def post_X0_leastLimit (M : Nat) (σ : Mem) (z : Int) (σ' : Mem) : Prop := C36 σ σ' ∧ IsB (σ 31 2) (σ 33) (σ 34) (σ 35) z ∧ z ≤ 4000
def inv_X0_leastLimit_9 (M : Nat) (σ : Mem) (w1 w2 w3 w4 : Int) (τ : Mem) : Prop := τ = σ ∧ 0 ≤ w4 ∧ w4 ≤ σ 31 2 ∧ w3 = sqE (σ 33) (σ 34) (preL w4.toNat) ∧ 0 ≤ w3 ∧ w3 ≤ 1300 + 50 * w4 ∧ sqOk (σ 33) (σ 34) (σ 35) w2 (preL w4.toNat) ∧ 0 ≤ w2 ∧ w2 ≤ 1600 + 50 * w4 ∧ 0 ≤ w1 ∧ (w1 = 0 ∨ ∃ k : Int, 0 ≤ k ∧ k < σ 31 2 ∧ w1 = σ 33 k + σ 34 k + σ 35 k) ∧ w1 ≤ w2
def mu_X0_leastLimit_9 (w1 w2 w3 w4 : Int) (τ : Mem) : Nat := (100 + (8 - w4)).toNat
def inv_X0_leastLimit_89 (M : Nat) (σ : Mem) (w1 w2 w3 w4 : Int) (τ : Mem) : Prop := C36 σ τ ∧ 0 ≤ w4 ∧ w4 ≤ 32 ∧ 0 ≤ w1 ∧ w1 ≤ w2 ∧ w2 ≤ 4000 ∧ w2 - w1 ≤ 4095 / 2 ^ w4.toNat ∧ Fit (σ 31 2) (σ 33) (σ 34) (σ 35) w2 ∧ ∀ L : Int, 0 ≤ L → L < w1 → ¬ Fit (σ 31 2) (σ 33) (σ 34) (σ 35) L
def mu_X0_leastLimit_89 (w1 w2 w3 w4 : Int) (τ : Mem) : Nat := (32 - w4).toNat
def VC_X0_leastLimit_0 (M : Nat) (K9 : Int → Int → Int → Int → Mem → Prop) (post : Int → Mem → Prop)  (σ : Mem) : Prop :=
  K9 0 0 0 0 σ
set_option maxRecDepth 20000 in
set_option maxHeartbeats 4000000 in
theorem seg_X0_leastLimit_0 {G : GG} {X : XX} {post : Int → Mem → Prop} (C : CX G X cX0_leastLimit RX0 6 (some .int) 2)    (σ : Mem) (vc : VC_X0_leastLimit_0 (gM G) (fun w1 w2 w3 w4 σ => RW G X 6 (QI G X post) 9 [(0, pR 31), (1, pI w1), (2, pI w2), (3, pI w3), (4, pI w4)] [] σ) post   σ) : RW G X 6 (QI G X post) 0 [(0, pR 31)] [] σ := by
  unfold VC_X0_leastLimit_0 at vc
  refine w_iconst C dX0_leastLimit_0 ?_
  refine w_istore_n C [(1, pI 0), (0, pR 31)] dX0_leastLimit_1 (by decide) rfl ?_
  refine w_iconst C dX0_leastLimit_2 ?_
  refine w_istore_n C [(2, pI 0), (1, pI 0), (0, pR 31)] dX0_leastLimit_3 (by decide) rfl ?_
  refine w_iconst C dX0_leastLimit_4 ?_
  refine w_istore_n C [(3, pI 0), (2, pI 0), (1, pI 0), (0, pR 31)] dX0_leastLimit_5 (by decide) rfl ?_
  refine w_iconst C dX0_leastLimit_6 ?_
  refine w_istore C [(4, pI 0), (3, pI 0), (2, pI 0), (1, pI 0), (0, pR 31)] dX0_leastLimit_7 (by decide) rfl ?_
  exact w_sub _ [4, 3, 2, 1, 0] rfl vc
def VC_X0_leastLimit_9 (M : Nat) (K9 : Int → Int → Int → Int → Mem → Prop) (K89 : Int → Int → Int → Int → Mem → Prop) (post : Int → Mem → Prop) (w1 : Int) (w2 : Int) (w3 : Int) (w4 : Int) (σ : Mem) : Prop :=
 (inR w4 ∧ inR (σ 31 2)) ∧ (((σ 31 2) ≤ w4 → K89 w1 w2 w3 0 σ) ∧ (w4 < (σ 31 2) → (0 ≤ w4 ∧ w4 < 8) ∧ (0 ≤ w4 ∧ w4 < 8) ∧ (0 ≤ w4 ∧ w4 < 8) ∧ (inR w1 ∧ inR (((σ 33 w4) + (σ 34 w4)) + (σ 35 w4))) ∧ ∀ v12 : Int, v12 = max w1 (((σ 33 w4) + (σ 34 w4)) + (σ 35 w4)) → (0 ≤ w4 ∧ w4 < 8) ∧ (inR w3 ∧ inR (σ 33 w4)) ∧ (0 ≤ w4 ∧ w4 < 8) ∧ ∀ v19 : Int, v19 = (max w3 (σ 33 w4)) + (σ 34 w4) → (0 ≤ w4 ∧ w4 < 8) ∧ (inR w2 ∧ inR (v19 + (σ 35 w4))) ∧ ∀ v24 : Int, v24 = max w2 (v19 + (σ 35 w4)) → K9 v12 v24 v19 (w4 + 1) σ))
set_option maxRecDepth 20000 in
set_option maxHeartbeats 4000000 in
theorem seg_X0_leastLimit_9 {G : GG} {X : XX} {post : Int → Mem → Prop} (C : CX G X cX0_leastLimit RX0 6 (some .int) 2)   (w1 : Int) (w2 : Int) (w3 : Int) (w4 : Int) (σ : Mem) (vc : VC_X0_leastLimit_9 (gM G) (fun w1 w2 w3 w4 σ => RW G X 6 (QI G X post) 9 [(0, pR 31), (1, pI w1), (2, pI w2), (3, pI w3), (4, pI w4)] [] σ) (fun w1 w2 w3 w4 σ => RW G X 6 (QI G X post) 89 [(0, pR 31), (1, pI w1), (2, pI w2), (3, pI w3), (4, pI w4)] [] σ) post  w1 w2 w3 w4 σ) : RW G X 6 (QI G X post) 9 [(0, pR 31), (1, pI w1), (2, pI w2), (3, pI w3), (4, pI w4)] [] σ := by
  unfold VC_X0_leastLimit_9 at vc
  refine w_iload C 4 dX0_leastLimit_9 rfl ?_
  refine w_aload_n C 0 dX0_leastLimit_11 rfl ?_
  refine w_getI C 2 dX0_leastLimit_12 gf_X0_15 ob_31 rfl rfl ?_
  obtain ⟨⟨sc1, sc2⟩, vc⟩ := vc
  refine w_icmp_ge C 86 dX0_leastLimit_15 (by decide) sc1 sc2 (fun h3 => ?_) (fun h3 => ?_)
  · have vc := vc.1 h3
    refine w_iconst C dX0_leastLimit_86 ?_
    refine w_istore C [(4, pI 0), (0, pR 31), (1, pI w1), (2, pI w2), (3, pI w3)] dX0_leastLimit_87 (by decide) rfl ?_
    exact w_sub _ [1, 2, 3, 4, 0] rfl vc
  · have vc := vc.2 h3
    refine w_iload_n C 1 dX0_leastLimit_18 rfl ?_
    refine w_aload_n C 0 dX0_leastLimit_19 rfl ?_
    refine w_getR C dX0_leastLimit_20 gf_X0_19 ob_31 rfl ?_
    refine w_iload C 4 dX0_leastLimit_23 rfl ?_
    obtain ⟨⟨sc4, sc5⟩, vc⟩ := vc
    refine w_iald C dX0_leastLimit_25 ia_33 sc4 sc5 ?_
    refine w_aload_n C 0 dX0_leastLimit_26 rfl ?_
    refine w_getR C dX0_leastLimit_27 gf_X0_22 ob_31 rfl ?_
    refine w_iload C 4 dX0_leastLimit_30 rfl ?_
    obtain ⟨⟨sc6, sc7⟩, vc⟩ := vc
    refine w_iald C dX0_leastLimit_32 ia_34 sc6 sc7 ?_
    refine w_iadd C dX0_leastLimit_33 ?_
    refine w_aload_n C 0 dX0_leastLimit_34 rfl ?_
    refine w_getR C dX0_leastLimit_35 gf_X0_25 ob_31 rfl ?_
    refine w_iload C 4 dX0_leastLimit_38 rfl ?_
    obtain ⟨⟨sc8, sc9⟩, vc⟩ := vc
    refine w_iald C dX0_leastLimit_40 ia_35 sc8 sc9 ?_
    refine w_iadd C dX0_leastLimit_41 ?_
    obtain ⟨⟨sc10, sc11⟩, vc⟩ := vc
    refine w_max C dX0_leastLimit_42 ml_X0_54 mt_max sc10 sc11 (Nat.le_of_ble_eq_true rfl) ?_
    refine w_top (fun v12 hv12 => ?_)
    have vc := vc v12 hv12
    refine w_istore_n C [(1, pI v12), (0, pR 31), (2, pI w2), (3, pI w3), (4, pI w4)] dX0_leastLimit_45 (by decide) rfl ?_
    refine w_iload_n C 3 dX0_leastLimit_46 rfl ?_
    refine w_aload_n C 1 dX0_leastLimit_47 rfl ?_
    refine w_getR C dX0_leastLimit_48 gf_X0_19 ob_31 rfl ?_
    refine w_iload C 4 dX0_leastLimit_51 rfl ?_
    obtain ⟨⟨sc13, sc14⟩, vc⟩ := vc
    refine w_iald C dX0_leastLimit_53 ia_33 sc13 sc14 ?_
    obtain ⟨⟨sc15, sc16⟩, vc⟩ := vc
    refine w_max C dX0_leastLimit_54 ml_X0_54 mt_max sc15 sc16 (Nat.le_of_ble_eq_true rfl) ?_
    refine w_aload_n C 1 dX0_leastLimit_57 rfl ?_
    refine w_getR C dX0_leastLimit_58 gf_X0_22 ob_31 rfl ?_
    refine w_iload C 4 dX0_leastLimit_61 rfl ?_
    obtain ⟨⟨sc17, sc18⟩, vc⟩ := vc
    refine w_iald C dX0_leastLimit_63 ia_34 sc17 sc18 ?_
    refine w_iadd C dX0_leastLimit_64 ?_
    refine w_top (fun v19 hv19 => ?_)
    have vc := vc v19 hv19
    refine w_istore_n C [(3, pI v19), (1, pI v12), (0, pR 31), (2, pI w2), (4, pI w4)] dX0_leastLimit_65 (by decide) rfl ?_
    refine w_iload_n C 3 dX0_leastLimit_66 rfl ?_
    refine w_iload_n C 0 dX0_leastLimit_67 rfl ?_
    refine w_aload_n C 2 dX0_leastLimit_68 rfl ?_
    refine w_getR C dX0_leastLimit_69 gf_X0_25 ob_31 rfl ?_
    refine w_iload C 4 dX0_leastLimit_72 rfl ?_
    obtain ⟨⟨sc20, sc21⟩, vc⟩ := vc
    refine w_iald C dX0_leastLimit_74 ia_35 sc20 sc21 ?_
    refine w_iadd C dX0_leastLimit_75 ?_
    obtain ⟨⟨sc22, sc23⟩, vc⟩ := vc
    refine w_max C dX0_leastLimit_76 ml_X0_54 mt_max sc22 sc23 (Nat.le_of_ble_eq_true rfl) ?_
    refine w_top (fun v24 hv24 => ?_)
    have vc := vc v24 hv24
    refine w_istore_n C [(2, pI v24), (3, pI v19), (1, pI v12), (0, pR 31), (4, pI w4)] dX0_leastLimit_79 (by decide) rfl ?_
    refine w_iinc C 4 [(4, pI (w4 + 1)), (2, pI v24), (3, pI v19), (1, pI v12), (0, pR 31)] dX0_leastLimit_80 rfl (by decide) rfl ?_
    refine w_goto C 9 dX0_leastLimit_83 (by decide) ?_
    exact w_sub _ [4, 3, 1, 2, 0] rfl vc
def VC_X0_leastLimit_89 (M : Nat) (K89 : Int → Int → Int → Int → Mem → Prop) (post : Int → Mem → Prop) (w1 : Int) (w2 : Int) (w3 : Int) (w4 : Int) (σ : Mem) : Prop :=
 (inR w4) ∧ ((32 ≤ w4 → post w2 σ) ∧ (w4 < 32 → (inR w1 ∧ inR w2) ∧ ((w2 ≤ w1 → post w2 σ) ∧ (w1 < w2 → (0 ≤ (w2 - w1) ∧ inR (w2 - w1)) ∧ ∀ v8 : Int, v8 = w1 + ((w2 - w1) / 2) → (pre_X0_fits M v8 σ) ∧ ∀ (z11 : Int) (s10 : Mem), post_X0_fits M v8 σ z11 s10 → (inR z11) ∧ ((z11 = 0 → ∀ v14 : Int, v14 = v8 + 1 → K89 v14 w2 w3 (w4 + 1) s10) ∧ (¬ z11 = 0 → K89 w1 v8 w3 (w4 + 1) s10))))))
set_option maxRecDepth 20000 in
set_option maxHeartbeats 4000000 in
theorem seg_X0_leastLimit_89 {G : GG} {X : XX} {post : Int → Mem → Prop} (C : CX G X cX0_leastLimit RX0 6 (some .int) 2)   (w1 : Int) (w2 : Int) (w3 : Int) (w4 : Int) (σ : Mem) (vc : VC_X0_leastLimit_89 (gM G) (fun w1 w2 w3 w4 σ => RW G X 6 (QI G X post) 89 [(0, pR 31), (1, pI w1), (2, pI w2), (3, pI w3), (4, pI w4)] [] σ) post  w1 w2 w3 w4 σ) : RW G X 6 (QI G X post) 89 [(0, pR 31), (1, pI w1), (2, pI w2), (3, pI w3), (4, pI w4)] [] σ := by
  unfold VC_X0_leastLimit_89 at vc
  refine w_iload C 4 dX0_leastLimit_89 rfl ?_
  refine w_bipush C dX0_leastLimit_91 (by decide) ?_
  obtain ⟨sc1, vc⟩ := vc
  refine w_icmp_ge C 136 dX0_leastLimit_93 (by decide) sc1 ⟨by omega, by omega⟩ (fun h2 => ?_) (fun h2 => ?_)
  · have vc := vc.1 h2
    refine w_iload_n C 2 dX0_leastLimit_136 rfl ?_
    exact w_ireturn C dX0_leastLimit_137 vc
  · have vc := vc.2 h2
    refine w_iload_n C 1 dX0_leastLimit_96 rfl ?_
    refine w_iload_n C 2 dX0_leastLimit_97 rfl ?_
    obtain ⟨⟨sc3, sc4⟩, vc⟩ := vc
    refine w_icmp_ge C 136 dX0_leastLimit_98 (by decide) sc3 sc4 (fun h5 => ?_) (fun h5 => ?_)
    · have vc := vc.1 h5
      refine w_iload_n C 2 dX0_leastLimit_136 rfl ?_
      exact w_ireturn C dX0_leastLimit_137 vc
    · have vc := vc.2 h5
      refine w_iload_n C 1 dX0_leastLimit_101 rfl ?_
      refine w_iload_n C 2 dX0_leastLimit_102 rfl ?_
      refine w_iload_n C 1 dX0_leastLimit_103 rfl ?_
      refine w_isub C dX0_leastLimit_104 ?_
      refine w_iconst C dX0_leastLimit_105 ?_
      obtain ⟨⟨sc6, sc7⟩, vc⟩ := vc
      refine w_idivN C dX0_leastLimit_106 sc6 sc7 ⟨by omega, by omega⟩ (by omega) ?_
      refine w_iadd C dX0_leastLimit_107 ?_
      refine w_top (fun v8 hv8 => ?_)
      have vc := vc v8 hv8
      refine w_istore C [(5, pI v8), (0, pR 31), (1, pI w1), (2, pI w2), (3, pI w3), (4, pI w4)] dX0_leastLimit_108 (by decide) rfl ?_
      refine w_aload_n C 1 dX0_leastLimit_110 rfl ?_
      refine w_iload C 0 dX0_leastLimit_111 rfl ?_
      obtain ⟨sc9, vc⟩ := vc
      refine w_callVI C [pI v8] [] rfl dX0_leastLimit_113 (c_X0_fits C.gi (xL X) v8 σ sc9) oc_31 mw_X0_fits ml_X0_91 im_X0_fits se_X0_fits (by decide) (Nat.le_of_ble_eq_true rfl) (fun z11 s10 hs10 => ?_)
      have vc := vc z11 s10 hs10
      obtain ⟨sc12, vc⟩ := vc
      refine w_if_eq C 125 dX0_leastLimit_116 (by decide) sc12 (fun h13 => ?_) (fun h13 => ?_)
      · have vc := vc.1 h13
        refine w_iload C 0 dX0_leastLimit_125 rfl ?_
        refine w_iconst C dX0_leastLimit_127 ?_
        refine w_iadd C dX0_leastLimit_128 ?_
        refine w_top (fun v14 hv14 => ?_)
        have vc := vc v14 hv14
        refine w_istore_n C [(1, pI v14), (5, pI v8), (0, pR 31), (2, pI w2), (3, pI w3), (4, pI w4)] dX0_leastLimit_129 (by decide) rfl ?_
        refine w_iinc C 5 [(4, pI (w4 + 1)), (1, pI v14), (5, pI v8), (0, pR 31), (2, pI w2), (3, pI w3)] dX0_leastLimit_130 rfl (by decide) rfl ?_
        refine w_goto C 89 dX0_leastLimit_133 (by decide) ?_
        exact w_sub _ [3, 1, 4, 5, 0] rfl vc
      · have vc := vc.2 h13
        refine w_iload C 0 dX0_leastLimit_119 rfl ?_
        refine w_istore_n C [(2, pI v8), (5, pI v8), (0, pR 31), (1, pI w1), (3, pI w3), (4, pI w4)] dX0_leastLimit_121 (by decide) rfl ?_
        refine w_goto C 130 dX0_leastLimit_122 (by decide) ?_
        refine w_iinc C 5 [(4, pI (w4 + 1)), (2, pI v8), (5, pI v8), (0, pR 31), (1, pI w1), (3, pI w3)] dX0_leastLimit_130 rfl (by decide) rfl ?_
        refine w_goto C 89 dX0_leastLimit_133 (by decide) ?_
        exact w_sub _ [3, 4, 1, 5, 0] rfl vc
set_option maxHeartbeats 1000000 in
theorem ok_X0_leastLimit_0 {M : Nat} {σ : Mem} {K9 : Int → Int → Int → Int → Mem → Prop} (h : pre_X0_leastLimit M σ) (hK9 : ∀ (y1 y2 y3 y4 : Int) (τ' : Mem), inv_X0_leastLimit_9 M σ y1 y2 y3 y4 τ' → K9 y1 y2 y3 y4 τ') : VC_X0_leastLimit_0 M K9 (post_X0_leastLimit M σ) σ := by
  refine hK9 _ _ _ _ _ ⟨rfl, by omega, h.1, rfl, by omega, by omega, trivial, by omega, by omega, by omega, Or.inl rfl, by omega⟩
set_option maxHeartbeats 1000000 in
theorem ok_X0_leastLimit_9 {M : Nat} {σ : Mem} {w1 w2 w3 w4 : Int} {τ : Mem} {K9 : Int → Int → Int → Int → Mem → Prop} {K89 : Int → Int → Int → Int → Mem → Prop} (h : pre_X0_leastLimit M σ) (hinv : inv_X0_leastLimit_9 M σ w1 w2 w3 w4 τ) (hK9 : ∀ (y1 y2 y3 y4 : Int) (τ' : Mem), inv_X0_leastLimit_9 M σ y1 y2 y3 y4 τ' → mu_X0_leastLimit_9 y1 y2 y3 y4 τ' < mu_X0_leastLimit_9 w1 w2 w3 w4 τ → K9 y1 y2 y3 y4 τ') (hK89 : ∀ (y1 y2 y3 y4 : Int) (τ' : Mem), inv_X0_leastLimit_89 M σ y1 y2 y3 y4 τ' → mu_X0_leastLimit_89 y1 y2 y3 y4 τ' < mu_X0_leastLimit_9 w1 w2 w3 w4 τ → K89 y1 y2 y3 y4 τ') : VC_X0_leastLimit_9 M K9 K89 (post_X0_leastLimit M σ) w1 w2 w3 w4 τ := by
  obtain ⟨rfl, i1, i2, i3, i4, i5, i6, i7, i8, i9, i10, i11⟩ := hinv
  have hB := h
  have hn8 := hB.2.1
  have hw1 : w1 ≤ 1650 := by
    rcases i10 with e | ⟨k, k0, k1, e⟩
    · omega
    · have := hB.2.2 k k0 k1; omega
  refine ⟨⟨⟨by omega, by omega⟩, ⟨by omega, by omega⟩⟩, fun g => ?_, fun g => ?_⟩
  · have e4 : w4 = τ 31 2 := by omega
    have pl := preL_ok (n := τ 31 2) hn8 w4.toNat (by omega)
    rw [show ((w4.toNat : Nat) : Int) = τ 31 2 by omega] at pl
    refine hK89 _ _ _ _ _ ⟨fun _ _ => rfl, by omega, by omega, i9, i11, by omega, ?_, ⟨preL w4.toNat, pl.1, i6, pl.2⟩, fun L l0 l1 z => ?_⟩ ?_
    · rw [show (0 : Int).toNat = 0 from rfl, Int.pow_zero, Int.ediv_one]; omega
    · rcases i10 with e | ⟨k, k0, k1, e⟩
      · omega
      · have := Fit_low hB.1 hn8 z k0 k1; omega
    · unfold mu_X0_leastLimit_89 mu_X0_leastLimit_9; omega
  · obtain ⟨bh, bt', bq⟩ := hB.2.2 w4 i1 g
    refine ⟨⟨i1, by omega⟩, ⟨i1, by omega⟩, ⟨i1, by omega⟩, ⟨⟨by omega, by omega⟩, ⟨by omega, by omega⟩⟩, fun v12 e12 => ⟨⟨i1, by omega⟩, ⟨⟨by omega, by omega⟩, ⟨by omega, by omega⟩⟩, ⟨i1, by omega⟩, fun v19 e19 => ⟨⟨i1, by omega⟩, ⟨⟨by omega, by omega⟩, ⟨by omega, by omega⟩⟩, fun v24 e24 => ?_⟩⟩⟩
    have et : (w4 + 1).toNat = w4.toNat + 1 := by omega
    have ek : ((w4.toNat : Nat) : Int) = w4 := by omega
    have en : sqE (τ 33) (τ 34) (preL (w4 + 1).toNat) = v19 := by
      rw [et]
      show max (sqE (τ 33) (τ 34) (preL w4.toNat)) (τ 33 (w4.toNat : Int)) + τ 34 (w4.toNat : Int) = v19
      rw [ek, ← i3, e19]
    refine hK9 _ _ _ _ _ ⟨rfl, by omega, by omega, en.symm, by omega, by omega, ?_, by omega, by omega, by omega, ?_, by omega⟩ ?_
    · have o := sqOk_mono (show w2 ≤ v24 by omega) _ i6
      rw [et] at en ⊢
      refine ⟨o, ?_⟩
      have e2 : sqE (τ 33) (τ 34) ((w4.toNat : Int) :: preL w4.toNat) = v19 := en
      rw [e2, ek]
      omega
    · by_cases e : v12 = w1
      · rw [e]; exact i10
      · exact Or.inr ⟨w4, i1, g, by omega⟩
    · unfold mu_X0_leastLimit_9; omega
set_option maxHeartbeats 1000000 in
theorem ok_X0_leastLimit_89 {M : Nat} {σ : Mem} {w1 w2 w3 w4 : Int} {τ : Mem} {K89 : Int → Int → Int → Int → Mem → Prop} (h : pre_X0_leastLimit M σ) (hinv : inv_X0_leastLimit_89 M σ w1 w2 w3 w4 τ) (hK89 : ∀ (y1 y2 y3 y4 : Int) (τ' : Mem), inv_X0_leastLimit_89 M σ y1 y2 y3 y4 τ' → mu_X0_leastLimit_89 y1 y2 y3 y4 τ' < mu_X0_leastLimit_89 w1 w2 w3 w4 τ → K89 y1 y2 y3 y4 τ') : VC_X0_leastLimit_89 M K89 (post_X0_leastLimit M σ) w1 w2 w3 w4 τ := by
  obtain ⟨hC, i1, i2, i3, i4, i5, i6, i7, i8⟩ := hinv
  have hB := h
  have f31 : τ 31 = σ 31 := hC 31 (by omega)
  have f33 : τ 33 = σ 33 := hC 33 (by omega)
  have f34 : τ 34 = σ 34 := hC 34 (by omega)
  have f35 : τ 35 = σ 35 := hC 35 (by omega)
  refine ⟨⟨by omega, by omega⟩, fun g => ?_, fun g => ⟨⟨⟨by omega, by omega⟩, ⟨by omega, by omega⟩⟩, fun g2 => ?_, fun g2 => ⟨⟨by omega, by omega, by omega⟩, fun v8 e8 => ⟨⟨by rw [f31, f33, f34, f35]; exact hB, by omega, by omega⟩, fun z11 s10 h10 => ?_⟩⟩⟩⟩
  · have e : w4 = 32 := by omega
    subst e
    have z : (4095 : Int) / 2 ^ (32 : Int).toNat = 0 := by decide
    rw [z] at i6
    have e2 : w2 = w1 := by omega
    exact ⟨hC, ⟨by omega, i7, fun L l0 l1 => i8 L l0 (by omega)⟩, i5⟩
  · have e2 : w2 = w1 := by omega
    exact ⟨hC, ⟨by omega, i7, fun L l0 l1 => i8 L l0 (by omega)⟩, i5⟩
  · obtain ⟨c10, hz⟩ := h10
    have hC' : C36 σ s10 := fun c hc => (c10 c hc).trans (hC c hc)
    rw [f31, f33, f34, f35] at hz
    have hd : (4095 : Int) / 2 ^ (w4 + 1).toNat = 4095 / 2 ^ w4.toNat / 2 := by
      rw [show (w4 + 1).toNat = w4.toNat + 1 by omega, Int.pow_succ, Int.ediv_ediv_of_nonneg (by exact Int.pow_nonneg (by omega))]
    generalize (4095 : Int) / 2 ^ w4.toNat = dd at *
    rcases hz with ⟨rfl, hf⟩ | ⟨rfl, hf⟩
    · refine ⟨⟨by omega, by omega⟩, fun q => by omega, fun _ => hK89 _ _ _ _ _ ⟨hC', by omega, by omega, i3, by omega, by omega, by omega, hf, i8⟩ ?_⟩
      unfold mu_X0_leastLimit_89; omega
    · refine ⟨⟨by omega, by omega⟩, fun _ v14 e14 => hK89 _ _ _ _ _ ⟨hC', by omega, by omega, by omega, by omega, by omega, by omega, i7, fun L l0 l1 z => ?_⟩ ?_, fun q => absurd rfl q⟩
      · exact hf (Fit_mono (by omega) z)
      · unfold mu_X0_leastLimit_89; omega
theorem c_X0_leastLimit {G : GG} (hG : GI G) (l : Launch) (σ : Mem) (h : pre_X0_leastLimit (gM G) σ) : CtI G l yX0_leastLimit cX0_leastLimit 6 (some .int) 2 [pR 31] σ (post_X0_leastLimit (gM G) σ) := by
  refine CtI.of hG (by decide) (Nat.le_of_ble_eq_true rfl) (fun X hl C => ?_)
  show RW G X 6 (QI G X _) 0 [(0, pR 31)] [] σ
  have key : ∀ n : Nat, (∀ (w1 w2 w3 w4 : Int) (τ : Mem), inv_X0_leastLimit_9 (gM G) σ w1 w2 w3 w4 τ → mu_X0_leastLimit_9 w1 w2 w3 w4 τ < n → RW G X 6 (QI G X (post_X0_leastLimit (gM G) σ)) 9 [(0, pR 31), (1, pI w1), (2, pI w2), (3, pI w3), (4, pI w4)] [] τ) ∧ (∀ (w1 w2 w3 w4 : Int) (τ : Mem), inv_X0_leastLimit_89 (gM G) σ w1 w2 w3 w4 τ → mu_X0_leastLimit_89 w1 w2 w3 w4 τ < n → RW G X 6 (QI G X (post_X0_leastLimit (gM G) σ)) 89 [(0, pR 31), (1, pI w1), (2, pI w2), (3, pI w3), (4, pI w4)] [] τ) := by
    intro n
    induction n with
    | zero => exact ⟨fun w1 w2 w3 w4 τ _ h0 => absurd h0 (Nat.not_lt_zero _), fun w1 w2 w3 w4 τ _ h0 => absurd h0 (Nat.not_lt_zero _)⟩
    | succ n ih =>
      exact ⟨(fun w1 w2 w3 w4 τ hinv h0 => seg_X0_leastLimit_9 C w1 w2 w3 w4 τ (ok_X0_leastLimit_9 h hinv (fun y1 y2 y3 y4 τ' hi hm => ih.1 y1 y2 y3 y4 τ' hi (Nat.lt_of_lt_of_le hm (Nat.le_of_lt_succ h0))) (fun y1 y2 y3 y4 τ' hi hm => ih.2 y1 y2 y3 y4 τ' hi (Nat.lt_of_lt_of_le hm (Nat.le_of_lt_succ h0))))), (fun w1 w2 w3 w4 τ hinv h0 => seg_X0_leastLimit_89 C w1 w2 w3 w4 τ (ok_X0_leastLimit_89 h hinv (fun y1 y2 y3 y4 τ' hi hm => ih.2 y1 y2 y3 y4 τ' hi (Nat.lt_of_lt_of_le hm (Nat.le_of_lt_succ h0)))))⟩
  exact seg_X0_leastLimit_0 C σ (ok_X0_leastLimit_0 h (fun y1 y2 y3 y4 τ' hi => (key _).1 y1 y2 y3 y4 τ' hi (Nat.lt_succ_self _)))

/-! X0_ofMachine -/
/-- what is known of bounds is right -/
def KI (M : Nat) (σ : Mem) : Prop := ∀ m : Int, 0 ≤ m → m < M → σ 32 m = -1 ∨ (0 ≤ σ 32 m ∧ σ 32 m ≤ 4000 ∧ BND σ m (σ 32 m))
/-- only the cells of the bounds change -/
def CB (σ τ : Mem) : Prop := ∀ c : Int, c < 31 ∨ 36 < c → τ c = σ c
theorem CB.SE {σ τ : Mem} (h : CB σ τ) : SE σ τ := fun c hc => (h c (by omega)).symm
theorem CB.trans {a b c : Mem} (h : CB a b) (g : CB b c) : CB a c := fun d hd => (g d hd).trans (h d hd)
def pre_X0_ofMachine (M : Nat) (x1 : Int) (σ : Mem) : Prop := WN M σ ∧ KI M σ ∧ 0 ≤ x1 ∧ x1 < M ∧ cU σ x1 80 ≤ 8
def post_X0_ofMachine (M : Nat) (x1 : Int) (σ : Mem) (z : Int) (σ' : Mem) : Prop := CB σ σ' ∧ KI M σ' ∧ BND σ x1 z ∧ 0 ≤ z ∧ z ≤ 4000
def VC_X0_ofMachine_0 (M : Nat) (post : Int → Mem → Prop) (x1 : Int) (σ : Mem) : Prop :=
 (0 ≤ x1 ∧ x1 < 5) ∧ (inR (σ 32 x1)) ∧ ((¬ (σ 32 x1) = (-1) → (0 ≤ x1 ∧ x1 < 5) ∧ post (σ 32 x1) σ) ∧ ((σ 32 x1) = (-1) → (pre_X0_collect M x1 σ) ∧ ∀ s8 : Mem, post_X0_collect M x1 σ s8 → (pre_X0_leastLimit M s8) ∧ ∀ (z11 : Int) (s10 : Mem), post_X0_leastLimit M s8 z11 s10 → (0 ≤ x1 ∧ x1 < 5) ∧ ∀ s14 : Mem, s14 = up s10 32 x1 z11 → (0 ≤ x1 ∧ x1 < 5) ∧ post (s14 32 x1) s14))
set_option maxRecDepth 20000 in
set_option maxHeartbeats 4000000 in
theorem seg_X0_ofMachine_0 {G : GG} {X : XX} {post : Int → Mem → Prop} (C : CX G X cX0_ofMachine RX0 2 (some .int) 3)   (x1 : Int) (σ : Mem) (vc : VC_X0_ofMachine_0 (gM G)  post  x1 σ) : RW G X 2 (QI G X post) 0 [(0, pR 31), (1, pI x1)] [] σ := by
  unfold VC_X0_ofMachine_0 at vc
  refine w_aload_n C 0 dX0_ofMachine_0 rfl ?_
  refine w_getR C dX0_ofMachine_1 gf_X0_9 ob_31 rfl ?_
  refine w_iload_n C 1 dX0_ofMachine_4 rfl ?_
  obtain ⟨⟨sc1, sc2⟩, vc⟩ := vc
  refine w_iald C dX0_ofMachine_5 ia_32 sc1 sc2 ?_
  refine w_iconst C dX0_ofMachine_6 ?_
  obtain ⟨sc3, vc⟩ := vc
  refine w_icmp_ne C 25 dX0_ofMachine_7 (by decide) sc3 ⟨by omega, by omega⟩ (fun h4 => ?_) (fun h4 => ?_)
  · have vc := vc.1 h4
    refine w_aload_n C 0 dX0_ofMachine_25 rfl ?_
    refine w_getR C dX0_ofMachine_26 gf_X0_9 ob_31 rfl ?_
    refine w_iload_n C 1 dX0_ofMachine_29 rfl ?_
    obtain ⟨⟨sc5, sc6⟩, vc⟩ := vc
    refine w_iald C dX0_ofMachine_30 ia_32 sc5 sc6 ?_
    exact w_ireturn C dX0_ofMachine_31 vc
  · have vc := vc.2 h4
    refine w_aload_n C 0 dX0_ofMachine_10 rfl ?_
    refine w_iload_n C 1 dX0_ofMachine_11 rfl ?_
    obtain ⟨sc7, vc⟩ := vc
    refine w_callVV C [pI x1] [] rfl dX0_ofMachine_12 (c_X0_collect C.gi (xL X) x1 σ sc7) oc_31 mw_X0_collect ml_X0_76 im_X0_collect se_X0_collect (by decide) (Nat.le_of_ble_eq_true rfl) (fun s8 hs8 => ?_)
    have vc := vc s8 hs8
    refine w_aload_n C 0 dX0_ofMachine_15 rfl ?_
    refine w_getR C dX0_ofMachine_16 gf_X0_9 ob_31 rfl ?_
    refine w_iload_n C 1 dX0_ofMachine_19 rfl ?_
    refine w_aload_n C 0 dX0_ofMachine_20 rfl ?_
    obtain ⟨sc9, vc⟩ := vc
    refine w_callVI C [] [pI x1, pR 32] rfl dX0_ofMachine_21 (c_X0_leastLimit C.gi (xL X)  s8 sc9) oc_31 mw_X0_leastLimit ml_X0_80 im_X0_leastLimit se_X0_leastLimit (by decide) (Nat.le_of_ble_eq_true rfl) (fun z11 s10 hs10 => ?_)
    have vc := vc z11 s10 hs10
    obtain ⟨⟨sc12, sc13⟩, vc⟩ := vc
    refine w_iast C dX0_ofMachine_24 ia_32 sc12 sc13 ?_
    refine w_mem (fun s14 hs14 => ?_)
    have vc := vc s14 hs14
    refine w_aload_n C 0 dX0_ofMachine_25 rfl ?_
    refine w_getR C dX0_ofMachine_26 gf_X0_9 ob_31 rfl ?_
    refine w_iload_n C 1 dX0_ofMachine_29 rfl ?_
    obtain ⟨⟨sc15, sc16⟩, vc⟩ := vc
    refine w_iald C dX0_ofMachine_30 ia_32 sc15 sc16 ?_
    exact w_ireturn C dX0_ofMachine_31 vc
set_option maxHeartbeats 1000000 in
theorem ok_X0_ofMachine_0 {M : Nat} {x1 : Int} {σ : Mem} (h : pre_X0_ofMachine M x1 σ) : VC_X0_ofMachine_0 M (post_X0_ofMachine M x1 σ) x1 σ := by
  obtain ⟨hN, hK, x0, xM, hc⟩ := h
  have hM : M ≤ 5 := hN.1.2.2.1
  have hk := hK x1 x0 xM
  refine ⟨⟨x0, by omega⟩, ?_, fun g => ⟨⟨x0, by omega⟩, fun _ _ => rfl, hK, ?_⟩, fun g => ⟨⟨hN, ⟨by omega, by omega⟩, hc⟩, fun s8 h8 => ?_⟩⟩
  · rcases hk with e | ⟨e1, e2, -⟩
    · rw [e]; exact ⟨by omega, by omega⟩
    · exact ⟨by omega, by omega⟩
  · rcases hk with e | ⟨e1, e2, e3⟩
    · exact absurd e g
    · exact ⟨e3, e1, e2⟩
  · obtain ⟨c8, n8, r8⟩ := h8
    have hBD : BD (s8 31 2) (s8 33) (s8 34) (s8 35) := by
      rw [n8]
      refine ⟨cU_ge (by omega), hc, fun k k0 k1 => ?_⟩
      obtain ⟨s, s0, s1, s2, s3⟩ := cU_sur (a := σ) (m := x1) 80 k k0 k1
      have r := r8 s s2
      rw [s3] at r
      rw [r.1, r.2.1, r.2.2]
      have := hd_in hN s2.1
      exact ⟨this.1, this.2.2, this.2.1⟩
    refine ⟨hBD, fun z11 s10 h10 => ?_⟩
    obtain ⟨c10, b10, l10⟩ := h10
    rw [n8] at b10
    have hb : BND σ x1 z11 := ⟨s8 33, s8 34, s8 35, r8, b10⟩
    refine ⟨⟨x0, by omega⟩, fun s14 e14 => ⟨⟨x0, by omega⟩, ?_⟩⟩
    have hCB : CB σ s14 := by
      intro c hcc
      rw [e14, up_other _ _ _ (by omega), c10 c (by omega), c8 c (by omega) (by omega) (by omega) (by omega)]
    have ez : s14 32 x1 = z11 := by rw [e14, up_self]
    rw [ez]
    refine ⟨hCB, fun m m0 m1 => ?_, hb, b10.1, l10⟩
    by_cases e : m = x1
    · subst e
      rw [ez]
      exact Or.inr ⟨b10.1, l10, SE_BND hCB.SE hb⟩
    · have e32 : s14 32 m = σ 32 m := by
        rw [e14, up_ne _ _ (Or.inr e), c10 32 (by omega), c8 32 (by omega) (by omega) (by omega) (by omega)]
      rw [e32]
      rcases hK m m0 m1 with q | ⟨q1, q2, q3⟩
      · exact Or.inl q
      · exact Or.inr ⟨q1, q2, SE_BND hCB.SE q3⟩
theorem c_X0_ofMachine {G : GG} (hG : GI G) (l : Launch) (x1 : Int) (σ : Mem) (h : pre_X0_ofMachine (gM G) x1 σ) : CtI G l yX0_ofMachine cX0_ofMachine 2 (some .int) 3 [pR 31, pI x1] σ (post_X0_ofMachine (gM G) x1 σ) := by
  refine CtI.of hG (by decide) (Nat.le_of_ble_eq_true rfl) (fun X hl C => ?_)
  show RW G X 2 (QI G X _) 0 [(0, pR 31), (1, pI x1)] [] σ
  exact seg_X0_ofMachine_0 C x1 σ (ok_X0_ofMachine_0 h)

/-! X0_greatest -/
def jbA (a : Mem) (j : Int) : Int := a 2 j + sumI (fun p => a 7 (10 * j + p)) 0 (a 5 j)
/-- LOW, of machines below u and jobs below v -/
def LWp (a : Mem) (u v z : Int) : Prop := 0 ≤ z ∧ z ≤ 4000 ∧ (∀ m b : Int, 0 ≤ m → m < u → cU a m 80 ≤ 8 → BND a m b → b ≤ z) ∧ (∀ j : Int, 0 ≤ j → j < v → 0 < a 5 j → jbA a j ≤ z) ∧ (z = 0 ∨ (∃ m : Int, 0 ≤ m ∧ m < u ∧ cU a m 80 ≤ 8 ∧ BND a m z) ∨ ∃ j : Int, 0 ≤ j ∧ j < v ∧ 0 < a 5 j ∧ jbA a j = z)
def LOW (M : Nat) (a : Mem) (z : Int) : Prop := LWp a M (a 1 1) z
theorem LOW_uniq {M : Nat} {a : Mem} {z z' : Int} (x : LOW M a z) (y : LOW M a z') : z = z' := by
  have key : ∀ {z z' : Int}, LOW M a z → LOW M a z' → z ≤ z' := by
    intro z z' x y
    obtain ⟨x0, -, -, -, x5⟩ := x
    obtain ⟨y0, -, y3, y4, -⟩ := y
    rcases x5 with e | ⟨m, m0, m1, m2, m3⟩ | ⟨j, j0, j1, j2, j3⟩
    · omega
    · exact y3 m z m0 m1 m2 m3
    · rw [← j3]; exact y4 j j0 j1 j2
  have a := key x y
  have b := key y x
  omega
def pre_X0_greatest (M : Nat) (σ : Mem) : Prop := WN M σ ∧ KI M σ
def post_X0_greatest (M : Nat) (σ : Mem) (z : Int) (σ' : Mem) : Prop := CB σ σ' ∧ KI M σ' ∧ LOW M σ z
def inv_X0_greatest_4 (M : Nat) (σ : Mem) (w1 w2 : Int) (τ : Mem) : Prop := CB σ τ ∧ KI M τ ∧ 0 ≤ w2 ∧ w2 ≤ M ∧ LWp σ w2 0 w1
def mu_X0_greatest_4 (w1 w2 : Int) (τ : Mem) : Nat := (100 + (5 - w2)).toNat
def inv_X0_greatest_41 (M : Nat) (σ : Mem) (w1 w2 : Int) (τ : Mem) : Prop := CB σ τ ∧ KI M τ ∧ 0 ≤ w2 ∧ w2 ≤ σ 1 1 ∧ LWp σ M w2 w1
def mu_X0_greatest_41 (w1 w2 : Int) (τ : Mem) : Nat := (8 - w2).toNat
def VC_X0_greatest_0 (M : Nat) (K4 : Int → Int → Mem → Prop) (post : Int → Mem → Prop)  (σ : Mem) : Prop :=
  K4 0 0 σ
set_option maxRecDepth 20000 in
set_option maxHeartbeats 4000000 in
theorem seg_X0_greatest_0 {G : GG} {X : XX} {post : Int → Mem → Prop} (C : CX G X cX0_greatest RX0 3 (some .int) 4)    (σ : Mem) (vc : VC_X0_greatest_0 (gM G) (fun w1 w2 σ => RW G X 3 (QI G X post) 4 [(0, pR 31), (1, pI w1), (2, pI w2)] [] σ) post   σ) : RW G X 3 (QI G X post) 0 [(0, pR 31)] [] σ := by
  unfold VC_X0_greatest_0 at vc
  refine w_iconst C dX0_greatest_0 ?_
  refine w_istore_n C [(1, pI 0), (0, pR 31)] dX0_greatest_1 (by decide) rfl ?_
  refine w_iconst C dX0_greatest_2 ?_
  refine w_istore_n C [(2, pI 0), (1, pI 0), (0, pR 31)] dX0_greatest_3 (by decide) rfl ?_
  exact w_sub _ [2, 1, 0] rfl vc
def VC_X0_greatest_4 (M : Nat) (K4 : Int → Int → Mem → Prop) (K41 : Int → Int → Mem → Prop) (post : Int → Mem → Prop) (w1 : Int) (w2 : Int) (σ : Mem) : Prop :=
 (inR w2 ∧ inR (σ 1 0)) ∧ (((σ 1 0) ≤ w2 → K41 w1 0 σ) ∧ (w2 < (σ 1 0) → (pre_X0_hasOne M w2 σ) ∧ ((P_X0_hasOne w2 σ → (pre_X0_ofMachine M w2 σ) ∧ ∀ (z8 : Int) (s7 : Mem), post_X0_ofMachine M w2 σ z8 s7 → (inR w1 ∧ inR z8) ∧ ∀ v11 : Int, v11 = max w1 z8 → K4 v11 (w2 + 1) s7) ∧ (¬ P_X0_hasOne w2 σ → K4 w1 (w2 + 1) σ))))
set_option maxRecDepth 20000 in
set_option maxHeartbeats 4000000 in
theorem seg_X0_greatest_4 {G : GG} {X : XX} {post : Int → Mem → Prop} (C : CX G X cX0_greatest RX0 3 (some .int) 4)   (w1 : Int) (w2 : Int) (σ : Mem) (vc : VC_X0_greatest_4 (gM G) (fun w1 w2 σ => RW G X 3 (QI G X post) 4 [(0, pR 31), (1, pI w1), (2, pI w2)] [] σ) (fun w1 w2 σ => RW G X 3 (QI G X post) 41 [(0, pR 31), (1, pI w1), (2, pI w2)] [] σ) post  w1 w2 σ) : RW G X 3 (QI G X post) 4 [(0, pR 31), (1, pI w1), (2, pI w2)] [] σ := by
  unfold VC_X0_greatest_4 at vc
  refine w_iload_n C 2 dX0_greatest_4 rfl ?_
  refine w_aload_n C 0 dX0_greatest_5 rfl ?_
  refine w_getR C dX0_greatest_6 gf_X0_31 ob_31 rfl ?_
  refine w_getI C 0 dX0_greatest_9 gf_X0_41 ob_1 rfl rfl ?_
  obtain ⟨⟨sc1, sc2⟩, vc⟩ := vc
  refine w_icmp_ge C 39 dX0_greatest_12 (by decide) sc1 sc2 (fun h3 => ?_) (fun h3 => ?_)
  · have vc := vc.1 h3
    refine w_iconst C dX0_greatest_39 ?_
    refine w_istore_n C [(2, pI 0), (0, pR 31), (1, pI w1)] dX0_greatest_40 (by decide) rfl ?_
    exact w_sub _ [1, 2, 0] rfl vc
  · have vc := vc.2 h3
    refine w_aload_n C 0 dX0_greatest_15 rfl ?_
    refine w_iload_n C 2 dX0_greatest_16 rfl ?_
    obtain ⟨sc4, vc⟩ := vc
    refine w_callVI C [pI w2] [] rfl dX0_greatest_17 (c_X0_hasOne C.gi (xL X) w2 σ sc4) oc_31 mw_X0_hasOne ml_X0_46 im_X0_hasOne se_X0_hasOne (by decide) (Nat.le_of_ble_eq_true rfl) (fun z σ' hz => ?_)
    obtain ⟨hz2, hz⟩ := hz
    have hz2 := hz2.symm
    subst hz2
    rcases hz with ⟨h5, rfl⟩ | ⟨h5, rfl⟩
    · have vc := vc.1 h5
      refine w_if_eq C 33 dX0_greatest_20 (by decide) ⟨by omega, by omega⟩ (fun q => absurd q (by decide)) (fun _ => ?_)
      refine w_iload_n C 1 dX0_greatest_23 rfl ?_
      refine w_aload_n C 0 dX0_greatest_24 rfl ?_
      refine w_iload_n C 2 dX0_greatest_25 rfl ?_
      obtain ⟨sc6, vc⟩ := vc
      refine w_callVI C [pI w2] [pI w1] rfl dX0_greatest_26 (c_X0_ofMachine C.gi (xL X) w2 σ sc6) oc_31 mw_X0_ofMachine ml_X0_50 im_X0_ofMachine se_X0_ofMachine (by decide) (Nat.le_of_ble_eq_true rfl) (fun z8 s7 hs7 => ?_)
      have vc := vc z8 s7 hs7
      obtain ⟨⟨sc9, sc10⟩, vc⟩ := vc
      refine w_max C dX0_greatest_29 ml_X0_54 mt_max sc9 sc10 (Nat.le_of_ble_eq_true rfl) ?_
      refine w_top (fun v11 hv11 => ?_)
      have vc := vc v11 hv11
      refine w_istore_n C [(1, pI v11), (0, pR 31), (2, pI w2)] dX0_greatest_32 (by decide) rfl ?_
      refine w_iinc C 2 [(2, pI (w2 + 1)), (1, pI v11), (0, pR 31)] dX0_greatest_33 rfl (by decide) rfl ?_
      refine w_goto C 4 dX0_greatest_36 (by decide) ?_
      exact w_sub _ [2, 1, 0] rfl vc
    · have vc := vc.2 h5
      refine w_if_eq C 33 dX0_greatest_20 (by decide) ⟨by omega, by omega⟩ (fun _ => ?_) (fun q => absurd q (by decide))
      refine w_iinc C 2 [(2, pI (w2 + 1)), (0, pR 31), (1, pI w1)] dX0_greatest_33 rfl (by decide) rfl ?_
      refine w_goto C 4 dX0_greatest_36 (by decide) ?_
      exact w_sub _ [1, 2, 0] rfl vc
def VC_X0_greatest_41 (M : Nat) (K41 : Int → Int → Mem → Prop) (post : Int → Mem → Prop) (w1 : Int) (w2 : Int) (σ : Mem) : Prop :=
 (inR w2 ∧ inR (σ 1 1)) ∧ (((σ 1 1) ≤ w2 → post w1 σ) ∧ (w2 < (σ 1 1) → (0 ≤ w2 ∧ w2 < 8) ∧ (inR (σ 5 w2)) ∧ (((σ 5 w2) ≤ 0 → K41 w1 (w2 + 1) σ) ∧ (0 < (σ 5 w2) → (0 ≤ w2 ∧ w2 < 8) ∧ (0 ≤ w2 ∧ w2 < 8) ∧ (pre_X3_timeOf M w2 0 (σ 5 w2) σ) ∧ (inR w1 ∧ inR ((σ 2 w2) + (f_X3_timeOf w2 0 (σ 5 w2) σ))) ∧ ∀ v15 : Int, v15 = max w1 ((σ 2 w2) + (f_X3_timeOf w2 0 (σ 5 w2) σ)) → K41 v15 (w2 + 1) σ))))
set_option maxRecDepth 20000 in
set_option maxHeartbeats 4000000 in
theorem seg_X0_greatest_41 {G : GG} {X : XX} {post : Int → Mem → Prop} (C : CX G X cX0_greatest RX0 3 (some .int) 4)   (w1 : Int) (w2 : Int) (σ : Mem) (vc : VC_X0_greatest_41 (gM G) (fun w1 w2 σ => RW G X 3 (QI G X post) 41 [(0, pR 31), (1, pI w1), (2, pI w2)] [] σ) post  w1 w2 σ) : RW G X 3 (QI G X post) 41 [(0, pR 31), (1, pI w1), (2, pI w2)] [] σ := by
  unfold VC_X0_greatest_41 at vc
  refine w_iload_n C 2 dX0_greatest_41 rfl ?_
  refine w_aload_n C 0 dX0_greatest_42 rfl ?_
  refine w_getR C dX0_greatest_43 gf_X0_31 ob_31 rfl ?_
  refine w_getI C 1 dX0_greatest_46 gf_X0_60 ob_1 rfl rfl ?_
  obtain ⟨⟨sc1, sc2⟩, vc⟩ := vc
  refine w_icmp_ge C 103 dX0_greatest_49 (by decide) sc1 sc2 (fun h3 => ?_) (fun h3 => ?_)
  · have vc := vc.1 h3
    refine w_iload_n C 1 dX0_greatest_103 rfl ?_
    exact w_ireturn C dX0_greatest_104 vc
  · have vc := vc.2 h3
    refine w_aload_n C 0 dX0_greatest_52 rfl ?_
    refine w_getR C dX0_greatest_53 gf_X0_31 ob_31 rfl ?_
    refine w_getR C dX0_greatest_56 gf_X0_63 ob_1 rfl ?_
    refine w_iload_n C 2 dX0_greatest_59 rfl ?_
    obtain ⟨⟨sc4, sc5⟩, vc⟩ := vc
    refine w_iald C dX0_greatest_60 ia_5 sc4 sc5 ?_
    obtain ⟨sc6, vc⟩ := vc
    refine w_if_le C 97 dX0_greatest_61 (by decide) sc6 (fun h7 => ?_) (fun h7 => ?_)
    · have vc := vc.1 h7
      refine w_iinc C 2 [(2, pI (w2 + 1)), (0, pR 31), (1, pI w1)] dX0_greatest_97 rfl (by decide) rfl ?_
      refine w_goto C 41 dX0_greatest_100 (by decide) ?_
      exact w_sub _ [1, 2, 0] rfl vc
    · have vc := vc.2 h7
      refine w_iload_n C 1 dX0_greatest_64 rfl ?_
      refine w_aload_n C 0 dX0_greatest_65 rfl ?_
      refine w_getR C dX0_greatest_66 gf_X0_31 ob_31 rfl ?_
      refine w_getR C dX0_greatest_69 gf_X0_66 ob_1 rfl ?_
      refine w_iload_n C 2 dX0_greatest_72 rfl ?_
      obtain ⟨⟨sc8, sc9⟩, vc⟩ := vc
      refine w_iald C dX0_greatest_73 ia_2 sc8 sc9 ?_
      refine w_aload_n C 0 dX0_greatest_74 rfl ?_
      refine w_getR C dX0_greatest_75 gf_X0_31 ob_31 rfl ?_
      refine w_iload_n C 2 dX0_greatest_78 rfl ?_
      refine w_iconst C dX0_greatest_79 ?_
      refine w_aload_n C 0 dX0_greatest_80 rfl ?_
      refine w_getR C dX0_greatest_81 gf_X0_31 ob_31 rfl ?_
      refine w_getR C dX0_greatest_84 gf_X0_63 ob_1 rfl ?_
      refine w_iload_n C 2 dX0_greatest_87 rfl ?_
      obtain ⟨⟨sc10, sc11⟩, vc⟩ := vc
      refine w_iald C dX0_greatest_88 ia_5 sc10 sc11 ?_
      obtain ⟨sc12, vc⟩ := vc
      refine w_callVI C [pI w2, pI 0, pI (σ 5 w2)] [pI (σ 2 w2), pI w1] rfl dX0_greatest_89 (c_X3_timeOf C.gi (xL X) w2 0 (σ 5 w2) σ sc12) oc_1 mw_X3_timeOf ml_X0_69 im_X3_timeOf se_X3_timeOf (by decide) (Nat.le_of_ble_eq_true rfl) (fun z σ' hz => ?_)
      obtain ⟨rfl, hz2⟩ := hz
      have hz2 := hz2.symm
      subst hz2
      refine w_iadd C dX0_greatest_92 ?_
      obtain ⟨⟨sc13, sc14⟩, vc⟩ := vc
      refine w_max C dX0_greatest_93 ml_X0_54 mt_max sc13 sc14 (Nat.le_of_ble_eq_true rfl) ?_
      refine w_top (fun v15 hv15 => ?_)
      have vc := vc v15 hv15
      refine w_istore_n C [(1, pI v15), (0, pR 31), (2, pI w2)] dX0_greatest_96 (by decide) rfl ?_
      refine w_iinc C 2 [(2, pI (w2 + 1)), (1, pI v15), (0, pR 31)] dX0_greatest_97 rfl (by decide) rfl ?_
      refine w_goto C 41 dX0_greatest_100 (by decide) ?_
      exact w_sub _ [2, 1, 0] rfl vc
set_option maxHeartbeats 1000000 in
theorem ok_X0_greatest_0 {M : Nat} {σ : Mem} {K4 : Int → Int → Mem → Prop} (h : pre_X0_greatest M σ) (hK4 : ∀ (y1 y2 : Int) (τ' : Mem), inv_X0_greatest_4 M σ y1 y2 τ' → K4 y1 y2 τ') : VC_X0_greatest_0 M K4 (post_X0_greatest M σ) σ := by
  obtain ⟨hN, hK⟩ := h
  exact hK4 _ _ _ ⟨fun _ _ => rfl, hK, by omega, by omega, by omega, by omega, fun m b m0 m1 => by omega, fun j j0 j1 => by omega, Or.inl rfl⟩
set_option maxHeartbeats 1000000 in
theorem ok_X0_greatest_4 {M : Nat} {σ : Mem} {w1 w2 : Int} {τ : Mem} {K4 : Int → Int → Mem → Prop} {K41 : Int → Int → Mem → Prop} (h : pre_X0_greatest M σ) (hinv : inv_X0_greatest_4 M σ w1 w2 τ) (hK4 : ∀ (y1 y2 : Int) (τ' : Mem), inv_X0_greatest_4 M σ y1 y2 τ' → mu_X0_greatest_4 y1 y2 τ' < mu_X0_greatest_4 w1 w2 τ → K4 y1 y2 τ') (hK41 : ∀ (y1 y2 : Int) (τ' : Mem), inv_X0_greatest_41 M σ y1 y2 τ' → mu_X0_greatest_41 y1 y2 τ' < mu_X0_greatest_4 w1 w2 τ → K41 y1 y2 τ') : VC_X0_greatest_4 M K4 K41 (post_X0_greatest M σ) w1 w2 τ := by
  obtain ⟨hN, hK⟩ := h
  obtain ⟨hC, hKt, i1, i2, l0, l1, l2, l3, l4⟩ := hinv
  have hM : M ≤ 5 := hN.1.2.2.1
  have hNt := SE_WN hC.SE hN
  have e10 : τ 1 0 = M := hNt.1.1
  have hj := hN.1.2.2.2.1
  refine ⟨⟨⟨by omega, by omega⟩, ⟨by omega, by omega⟩⟩, fun g => ?_, fun g => ⟨⟨hNt, ⟨by omega, by omega⟩⟩, fun g2 => ⟨⟨hNt, hKt, i1, by omega, g2⟩, fun z8 s7 h7 => ?_⟩, fun g2 => hK4 _ _ _ ⟨hC, hKt, by omega, by omega, l0, l1, fun m b m0 m1 m2 m3 => ?_, l3, ?_⟩ ?_⟩⟩
  · have e : w2 = M := by omega
    subst e
    exact hK41 _ _ _ ⟨hC, hKt, by omega, hj.1, l0, l1, l2, l3, l4⟩ (by unfold mu_X0_greatest_41 mu_X0_greatest_4; omega)
  · obtain ⟨c7, k7, b7, z0, z1⟩ := h7
    have b7' : BND σ w2 z8 := SE_BND hC.SE.symm b7
    have g2' : cU σ w2 80 ≤ 8 := by rw [SE_cU hC.SE]; exact g2
    refine ⟨⟨⟨by omega, by omega⟩, ⟨by omega, by omega⟩⟩, fun v11 e11 => hK4 _ _ _ ⟨hC.trans c7, k7, by omega, by omega, by omega, by omega, fun m b m0 m1 m2 m3 => ?_, fun j j0 j1 => by omega, ?_⟩ ?_⟩
    · by_cases e : m = w2
      · subst e
        have := BND_uniq m3 b7'
        clear l4
        omega
      · have := l2 m b m0 (by omega) m2 m3
        clear l4
        omega
    · by_cases e : w1 ≤ z8
      · have : v11 = z8 := by clear l4; omega
        subst this
        exact Or.inr (Or.inl ⟨w2, i1, by omega, g2', b7'⟩)
      · have : v11 = w1 := by clear l4; omega
        subst this
        rcases l4 with q | ⟨m, m0, m1, m2, m3⟩ | ⟨j, j0, j1, -⟩
        · exact Or.inl q
        · exact Or.inr (Or.inl ⟨m, m0, by omega, m2, m3⟩)
        · omega
    · unfold mu_X0_greatest_4; omega
  · by_cases e : m = w2
    · subst e
      exact absurd (show cU τ m 80 ≤ 8 from by rw [← SE_cU hC.SE]; exact m2) g2
    · exact l2 m b m0 (by omega) m2 m3
  · rcases l4 with q | ⟨m, m0, m1, m2, m3⟩ | ⟨j, j0, j1, -⟩
    · exact Or.inl q
    · exact Or.inr (Or.inl ⟨m, m0, by omega, m2, m3⟩)
    · omega
  · unfold mu_X0_greatest_4; omega
set_option maxHeartbeats 1000000 in
theorem ok_X0_greatest_41 {M : Nat} {σ : Mem} {w1 w2 : Int} {τ : Mem} {K41 : Int → Int → Mem → Prop} (h : pre_X0_greatest M σ) (hinv : inv_X0_greatest_41 M σ w1 w2 τ) (hK41 : ∀ (y1 y2 : Int) (τ' : Mem), inv_X0_greatest_41 M σ y1 y2 τ' → mu_X0_greatest_41 y1 y2 τ' < mu_X0_greatest_41 w1 w2 τ → K41 y1 y2 τ') : VC_X0_greatest_41 M K41 (post_X0_greatest M σ) w1 w2 τ := by
  obtain ⟨hN, hK⟩ := h
  obtain ⟨hC, hKt, i1, i2, l0, l1, l2, l3, l4⟩ := hinv
  have hNt := SE_WN hC.SE hN
  have hj := hN.1.2.2.2.1
  have f1 : τ 1 1 = σ 1 1 := by rw [hC 1 (by omega)]
  have f2 : τ 2 = σ 2 := hC 2 (by omega)
  have f5 : τ 5 = σ 5 := hC 5 (by omega)
  have f7 : τ 7 = σ 7 := hC 7 (by omega)
  refine ⟨⟨⟨by omega, by omega⟩, ⟨by omega, by omega⟩⟩, fun g => ?_, fun g => ?_⟩
  · have e : w2 = σ 1 1 := by omega
    subst e
    exact ⟨hC, hKt, l0, l1, l2, l3, l4⟩
  · have h5 := hN.1.2.2.2.2.1 w2 i1 (by omega)
    have h2 := (hN.2.1 w2 i1 (by omega)).1
    have ej : τ 2 w2 + f_X3_timeOf w2 0 (τ 5 w2) τ = jbA σ w2 := by
      show τ 2 w2 + sumI (fun p => τ 7 (10 * w2 + p)) 0 (τ 5 w2) = _
      rw [f2, f5, f7]; rfl
    have sb := sumI_bd (f := fun p => σ 7 (10 * w2 + p)) (lo := 0) (hi := σ 5 w2) (B := 50) (by omega) (fun p p1 p2 => (hN.2.2.2.1 (10 * w2 + p) (by omega) (by omega)).2) 6 (by omega)
    have jb : 0 ≤ jbA σ w2 ∧ jbA σ w2 ≤ 1300 := by unfold jbA; omega
    refine ⟨⟨i1, by omega⟩, by rw [f5]; exact ⟨by omega, by omega⟩, fun g2 => hK41 _ _ _ ⟨hC, hKt, by omega, by omega, l0, l1, l2, fun j j0 j1 j2 => ?_, ?_⟩ ?_, fun g2 => ⟨⟨i1, by omega⟩, ⟨i1, by omega⟩, ⟨i1, by omega, by omega, by omega, by rw [f5]; omega, by rw [f5]; omega⟩, ⟨⟨by omega, by omega⟩, by rw [ej]; exact ⟨by omega, by omega⟩⟩, fun v15 e15 => ?_⟩⟩
    · rw [f5] at g2
      by_cases e : j = w2
      · subst e; omega
      · exact l3 j j0 (by omega) j2
    · rcases l4 with q | q | ⟨j, j0, j1, j2, j3⟩
      · exact Or.inl q
      · exact Or.inr (Or.inl q)
      · exact Or.inr (Or.inr ⟨j, j0, by omega, j2, j3⟩)
    · unfold mu_X0_greatest_41; omega
    · rw [f5] at g2
      rw [ej] at e15
      refine hK41 _ _ _ ⟨hC, hKt, by omega, by omega, by clear l4; omega, by clear l4; omega, fun m b m0 m1 m2 m3 => ?_, fun j j0 j1 j2 => ?_, ?_⟩ ?_
      · have := l2 m b m0 m1 m2 m3
        clear l4
        omega
      · by_cases e : j = w2
        · subst e; clear l4; omega
        · have := l3 j j0 (by omega) j2
          clear l4
          omega
      · by_cases e : w1 ≤ jbA σ w2
        · have : v15 = jbA σ w2 := by clear l4; omega
          exact Or.inr (Or.inr ⟨w2, i1, by omega, g2, this.symm⟩)
        · have : v15 = w1 := by clear l4; omega
          subst this
          rcases l4 with q | q | ⟨j, j0, j1, j2, j3⟩
          · exact Or.inl q
          · exact Or.inr (Or.inl q)
          · exact Or.inr (Or.inr ⟨j, j0, by omega, j2, j3⟩)
      · unfold mu_X0_greatest_41; omega
theorem c_X0_greatest {G : GG} (hG : GI G) (l : Launch) (σ : Mem) (h : pre_X0_greatest (gM G) σ) : CtI G l yX0_greatest cX0_greatest 3 (some .int) 4 [pR 31] σ (post_X0_greatest (gM G) σ) := by
  refine CtI.of hG (by decide) (Nat.le_of_ble_eq_true rfl) (fun X hl C => ?_)
  show RW G X 3 (QI G X _) 0 [(0, pR 31)] [] σ
  have key : ∀ n : Nat, (∀ (w1 w2 : Int) (τ : Mem), inv_X0_greatest_4 (gM G) σ w1 w2 τ → mu_X0_greatest_4 w1 w2 τ < n → RW G X 3 (QI G X (post_X0_greatest (gM G) σ)) 4 [(0, pR 31), (1, pI w1), (2, pI w2)] [] τ) ∧ (∀ (w1 w2 : Int) (τ : Mem), inv_X0_greatest_41 (gM G) σ w1 w2 τ → mu_X0_greatest_41 w1 w2 τ < n → RW G X 3 (QI G X (post_X0_greatest (gM G) σ)) 41 [(0, pR 31), (1, pI w1), (2, pI w2)] [] τ) := by
    intro n
    induction n with
    | zero => exact ⟨fun w1 w2 τ _ h0 => absurd h0 (Nat.not_lt_zero _), fun w1 w2 τ _ h0 => absurd h0 (Nat.not_lt_zero _)⟩
    | succ n ih =>
      exact ⟨(fun w1 w2 τ hinv h0 => seg_X0_greatest_4 C w1 w2 τ (ok_X0_greatest_4 h hinv (fun y1 y2 τ' hi hm => ih.1 y1 y2 τ' hi (Nat.lt_of_lt_of_le hm (Nat.le_of_lt_succ h0))) (fun y1 y2 τ' hi hm => ih.2 y1 y2 τ' hi (Nat.lt_of_lt_of_le hm (Nat.le_of_lt_succ h0))))), (fun w1 w2 τ hinv h0 => seg_X0_greatest_41 C w1 w2 τ (ok_X0_greatest_41 h hinv (fun y1 y2 τ' hi hm => ih.2 y1 y2 τ' hi (Nat.lt_of_lt_of_le hm (Nat.le_of_lt_succ h0)))))⟩
  exact seg_X0_greatest_0 C σ (ok_X0_greatest_0 h (fun y1 y2 τ' hi => (key _).1 y1 y2 τ' hi (Nat.lt_succ_self _)))
