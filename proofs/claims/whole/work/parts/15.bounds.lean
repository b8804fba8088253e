/-! sets as numbers -/
def pw (k : Int) : Int := 2 ^ k.toNat
def bt (S k : Int) : Prop := S / pw k % 2 = 1
theorem pw_c : pw 0 = 1 ∧ pw 1 = 2 ∧ pw 2 = 4 ∧ pw 3 = 8 ∧ pw 4 = 16 ∧ pw 5 = 32 ∧ pw 6 = 64 ∧ pw 7 = 128 ∧ pw 8 = 256 := by decide
theorem k_cases {k : Int} (h0 : 0 ≤ k) (h1 : k < 8) : k = 0 ∨ k = 1 ∨ k = 2 ∨ k = 3 ∨ k = 4 ∨ k = 5 ∨ k = 6 ∨ k = 7 := by omega
theorem bits_or0 : ∀ s : Nat, s < 256 → ∀ k : Nat, k < 8 → bOr (s : Int) (bShl 1 (k : Int)) = if (s : Int) / pw k % 2 = 1 then (s : Int) else s + pw k := by decide +kernel
theorem bits_shl0 : ∀ k : Nat, k < 9 → bShl 1 (k : Int) = pw k := by decide +kernel
theorem bits_and0 : ∀ s : Nat, s < 256 → ∀ k : Nat, k < 8 → bAnd (bShr (s : Int) (k : Int)) 1 = (s : Int) / pw k % 2 := by decide +kernel
theorem bits_not0 : ∀ s : Nat, s < 256 → ∀ k : Nat, k < 8 → (s : Int) / pw k % 2 = 1 → bAnd (s : Int) (bXor (bShl 1 (k : Int)) (-1)) = (s : Int) - pw k := by decide +kernel
theorem bits_or {S k : Int} (h0 : 0 ≤ S) (h1 : S < 256) (k0 : 0 ≤ k) (k1 : k < 8) : (bt S k → bOr S (bShl 1 k) = S) ∧ (¬ bt S k → bOr S (bShl 1 k) = S + pw k) := by
  obtain ⟨s, rfl⟩ := Int.eq_ofNat_of_zero_le h0
  obtain ⟨j, rfl⟩ := Int.eq_ofNat_of_zero_le k0
  have := bits_or0 s (by omega) j (by omega)
  rw [this]
  exact ⟨fun h => if_pos h, fun h => if_neg h⟩
theorem bits_shl {k : Int} (k0 : 0 ≤ k) (k1 : k < 9) : bShl 1 k = pw k := by
  obtain ⟨j, rfl⟩ := Int.eq_ofNat_of_zero_le k0
  exact bits_shl0 j (by omega)
theorem bits_and {S k : Int} (h0 : 0 ≤ S) (h1 : S < 256) (k0 : 0 ≤ k) (k1 : k < 8) : bAnd (bShr S k) 1 = S / pw k % 2 := by
  obtain ⟨s, rfl⟩ := Int.eq_ofNat_of_zero_le h0
  obtain ⟨j, rfl⟩ := Int.eq_ofNat_of_zero_le k0
  exact bits_and0 s (by omega) j (by omega)
theorem bits_not {S k : Int} (h0 : 0 ≤ S) (h1 : S < 256) (k0 : 0 ≤ k) (k1 : k < 8) (h : bt S k) : bAnd S (bXor (bShl 1 k) (-1)) = S - pw k := by
  obtain ⟨s, rfl⟩ := Int.eq_ofNat_of_zero_le h0
  obtain ⟨j, rfl⟩ := Int.eq_ofNat_of_zero_le k0
  exact bits_not0 s (by omega) j (by omega) h
theorem pw_pos {k : Int} (k0 : 0 ≤ k) (k1 : k < 9) : 1 ≤ pw k ∧ pw k ≤ 256 := by
  obtain ⟨e0, e1, e2, e3, e4, e5, e6, e7, e8⟩ := pw_c
  rcases (show k = 8 ∨ k < 8 by omega) with rfl | h
  · omega
  · rcases k_cases k0 h with rfl | rfl | rfl | rfl | rfl | rfl | rfl | rfl <;> omega
theorem pw_s {k : Int} (k0 : 0 ≤ k) (k1 : k < 8) : pw (k + 1) = 2 * pw k := by
  unfold pw
  rw [show (k + 1).toNat = k.toNat + 1 by omega, Int.pow_succ]
  omega
/-- adding a bit that isn't there -/
theorem bt_add {S k : Int} (h0 : 0 ≤ S) (k0 : 0 ≤ k) (k1 : k < 8) (h : ¬ bt S k) : bt (S + pw k) k := by
  obtain ⟨e0, e1, e2, e3, e4, e5, e6, e7, e8⟩ := pw_c
  unfold bt at *
  rcases k_cases k0 k1 with rfl | rfl | rfl | rfl | rfl | rfl | rfl | rfl <;> simp only [e0, e1, e2, e3, e4, e5, e6, e7] at * <;> omega
theorem bt_add_ne {S k i : Int} (h0 : 0 ≤ S) (k0 : 0 ≤ k) (k1 : k < 8) (i0 : 0 ≤ i) (i1 : i < 8) (h : ¬ bt S k) (hne : i ≠ k) : bt (S + pw k) i ↔ bt S i := by
  obtain ⟨e0, e1, e2, e3, e4, e5, e6, e7, e8⟩ := pw_c
  unfold bt at *
  rcases k_cases k0 k1 with rfl | rfl | rfl | rfl | rfl | rfl | rfl | rfl <;> rcases k_cases i0 i1 with rfl | rfl | rfl | rfl | rfl | rfl | rfl | rfl <;> simp only [e0, e1, e2, e3, e4, e5, e6, e7] at * <;> omega
theorem bt_sub {S k : Int} (h0 : 0 ≤ S) (k0 : 0 ≤ k) (k1 : k < 8) (h : bt S k) : pw k ≤ S ∧ ¬ bt (S - pw k) k := by
  obtain ⟨e0, e1, e2, e3, e4, e5, e6, e7, e8⟩ := pw_c
  unfold bt at *
  rcases k_cases k0 k1 with rfl | rfl | rfl | rfl | rfl | rfl | rfl | rfl <;> simp only [e0, e1, e2, e3, e4, e5, e6, e7] at * <;> omega
theorem bt_room {S k n : Int} (h0 : 0 ≤ S) (n0 : 0 ≤ n) (n1 : n ≤ 8) (hS : S < pw n) (k0 : 0 ≤ k) (k1 : k < n) (h : ¬ bt S k) : S + pw k < pw n := by
  obtain ⟨e0, e1, e2, e3, e4, e5, e6, e7, e8⟩ := pw_c
  unfold bt at *
  rcases (show n = 0 ∨ n = 1 ∨ n = 2 ∨ n = 3 ∨ n = 4 ∨ n = 5 ∨ n = 6 ∨ n = 7 ∨ n = 8 by omega) with rfl | rfl | rfl | rfl | rfl | rfl | rfl | rfl | rfl <;> rcases k_cases k0 (by omega) with rfl | rfl | rfl | rfl | rfl | rfl | rfl | rfl <;> simp only [e0, e1, e2, e3, e4, e5, e6, e7, e8] at * <;> omega
theorem bt_full {k n : Int} (n1 : n ≤ 8) (k0 : 0 ≤ k) (k1 : k < n) : bt (pw n - 1) k := by
  obtain ⟨e0, e1, e2, e3, e4, e5, e6, e7, e8⟩ := pw_c
  unfold bt
  rcases (show n = 1 ∨ n = 2 ∨ n = 3 ∨ n = 4 ∨ n = 5 ∨ n = 6 ∨ n = 7 ∨ n = 8 by omega) with rfl | rfl | rfl | rfl | rfl | rfl | rfl | rfl <;> rcases k_cases k0 (by omega) with rfl | rfl | rfl | rfl | rfl | rfl | rfl | rfl <;> simp only [e0, e1, e2, e3, e4, e5, e6, e7, e8] <;> omega
theorem bt_low {k : Int} (k0 : 0 ≤ k) (k1 : k < 8) : ¬ bt (pw k - 1) k := by
  obtain ⟨e0, e1, e2, e3, e4, e5, e6, e7, e8⟩ := pw_c
  unfold bt
  rcases k_cases k0 k1 with rfl | rfl | rfl | rfl | rfl | rfl | rfl | rfl <;> simp only [e0, e1, e2, e3, e4, e5, e6, e7, e8] <;> omega
theorem bt_zero (k : Int) : ¬ bt 0 k := by unfold bt; simp
/-! orders of one machine's steps, the last one first -/
def sqE (h t : Int → Int) : List Int → Int
  | [] => 0
  | k :: ks => max (sqE h t ks) (h k) + t k
def sqOk (h t q : Int → Int) (L : Int) : List Int → Prop
  | [] => True
  | k :: ks => sqOk h t q L ks ∧ sqE h t (k :: ks) + q k ≤ L
def sqS : List Int → Int
  | [] => 0
  | k :: ks => sqS ks + pw k
def sqW (n : Int) : List Int → Prop
  | [] => True
  | k :: ks => sqW n ks ∧ 0 ≤ k ∧ k < n ∧ ¬ bt (sqS ks) k
def Fit (n : Int) (h t q : Int → Int) (L : Int) : Prop := ∃ l : List Int, sqW n l ∧ sqOk h t q L l ∧ sqS l = pw n - 1
/-- the machine's bound -/
def IsB (n : Int) (h t q : Int → Int) (b : Int) : Prop := 0 ≤ b ∧ Fit n h t q b ∧ ∀ L : Int, 0 ≤ L → L < b → ¬ Fit n h t q L
theorem IsB_uniq {n : Int} {h t q : Int → Int} {b b' : Int} (x : IsB n h t q b) (y : IsB n h t q b') : b = b' := by
  apply Classical.byContradiction
  intro e
  rcases (show b < b' ∨ b' < b by omega) with z | z
  · exact y.2.2 b x.1 z x.2.1
  · exact x.2.2 b' y.1 z y.2.1
theorem sqS_in {n : Int} (n0 : 0 ≤ n) (n1 : n ≤ 8) : ∀ l : List Int, sqW n l → 0 ≤ sqS l ∧ sqS l < pw n
  | [], _ => by have := pw_pos n0 (by omega); simp only [sqS]; omega
  | k :: ks, h => by
    obtain ⟨h1, h2, h3, h4⟩ := h
    have ih := sqS_in n0 n1 ks h1
    have := bt_room ih.1 n0 n1 ih.2 h2 h3 h4
    have := pw_pos h2 (by omega)
    simp only [sqS]
    omega
theorem sqOk_mono {h t q : Int → Int} {L L' : Int} (hL : L ≤ L') : ∀ l : List Int, sqOk h t q L l → sqOk h t q L' l
  | [], _ => trivial
  | k :: ks, x => ⟨sqOk_mono hL ks x.1, by have := x.2; omega⟩
theorem Fit_mono {n : Int} {h t q : Int → Int} {L L' : Int} (hL : L ≤ L') : Fit n h t q L → Fit n h t q L' := fun ⟨l, a, b, c⟩ => ⟨l, a, sqOk_mono hL l b, c⟩
theorem sqE_ge {h t : Int → Int} (ht : ∀ k, 0 ≤ t k) : ∀ l : List Int, 0 ≤ sqE h t l
  | [] => Int.le_refl _
  | k :: ks => by have := sqE_ge (h := h) ht ks; have := ht k; simp only [sqE]; omega
theorem sqE_ge' {n : Int} {h t : Int → Int} (ht : ∀ k, 0 ≤ k → k < n → 0 ≤ t k) : ∀ l : List Int, sqW n l → 0 ≤ sqE h t l
  | [], _ => Int.le_refl _
  | k :: ks, w => by have := sqE_ge' (h := h) ht ks w.1; have := ht k w.2.1 w.2.2.1; simp only [sqE]; omega
theorem Fit_low {n : Int} {h t q : Int → Int} {L : Int} (n0 : 0 ≤ n) (n1 : n ≤ 8) (x : Fit n h t q L) {k : Int} (k0 : 0 ≤ k) (k1 : k < n) : h k + t k + q k ≤ L := by
  obtain ⟨l, a, b, c⟩ := x
  have key : ∀ l : List Int, sqW n l → sqOk h t q L l → bt (sqS l) k → h k + t k + q k ≤ L := by
    intro l
    induction l with
    | nil => intro _ _ z; exact absurd z (bt_zero k)
    | cons k' ks ih =>
      intro w o z
      obtain ⟨w1, w2, w3, w4⟩ := w
      have hb := sqS_in n0 n1 ks w1
      by_cases e : k = k'
      · subst e
        have := o.2
        simp only [sqE] at this
        omega
      · exact ih w1 o.1 ((bt_add_ne hb.1 w2 (by omega) k0 (by omega) w4 e).mp z)
  exact key l a b (by rw [c]; exact bt_full n1 k0 k1)
/-- one behind the other in the order of their numbers -/
def preL : Nat → List Int
  | 0 => []
  | k + 1 => (k : Int) :: preL k
theorem preL_ok {n : Int} (n1 : n ≤ 8) : ∀ k : Nat, (k : Int) ≤ n → sqW n (preL k) ∧ sqS (preL k) = pw k - 1
  | 0, _ => ⟨trivial, by decide⟩
  | k + 1, hk => by
    have ih := preL_ok n1 k (by omega)
    have e := pw_s (k := (k : Int)) (by omega) (by omega)
    refine ⟨⟨ih.1, by omega, by omega, ?_⟩, ?_⟩
    · rw [ih.2]; exact bt_low (by omega) (by omega)
    · show sqS (preL k) + pw k = pw ((k + 1 : Nat) : Int) - 1
      rw [ih.2, show ((k + 1 : Nat) : Int) = (k : Int) + 1 by omega, e]
      omega
theorem Fit_congr {n : Int} {h t q h' t' q' : Int → Int} {L : Int} (e : ∀ k : Int, 0 ≤ k → k < n → h k = h' k ∧ t k = t' k ∧ q k = q' k) (x : Fit n h t q L) : Fit n h' t' q' L := by
  obtain ⟨l, a, b, c⟩ := x
  have key : ∀ l : List Int, sqW n l → sqE h t l = sqE h' t' l ∧ (sqOk h t q L l → sqOk h' t' q' L l) := by
    intro l
    induction l with
    | nil => intro _; exact ⟨rfl, id⟩
    | cons k ks ih =>
      intro w
      obtain ⟨w1, w2, w3, w4⟩ := w
      obtain ⟨i1, i2⟩ := ih w1
      obtain ⟨e1, e2, e3⟩ := e k w2 w3
      have ee : sqE h t (k :: ks) = sqE h' t' (k :: ks) := by simp only [sqE]; rw [i1, e1, e2]
      exact ⟨ee, fun o => ⟨i2 o.1, by rw [← ee, ← e3]; exact o.2⟩⟩
  exact ⟨l, a, (key l a).2 b, c⟩
theorem IsB_congr {n : Int} {h t q h' t' q' : Int → Int} {b : Int} (e : ∀ k : Int, 0 ≤ k → k < n → h k = h' k ∧ t k = t' k ∧ q k = q' k) (x : IsB n h t q b) : IsB n h' t' q' b :=
  ⟨x.1, Fit_congr e x.2.1, fun L l0 l1 z => x.2.2 L l0 l1 (Fit_congr (fun k k0 k1 => ⟨(e k k0 k1).1.symm, (e k k0 k1).2.1.symm, (e k k0 k1).2.2.symm⟩) z)⟩
/-! the steps of a machine, in the order of their numbers -/
def oc (a : Mem) (m s : Int) : Int := if s / 10 < a 1 1 ∧ s % 10 < a 5 (s / 10) ∧ a 6 s = m then 1 else 0
def cU (a : Mem) (m u : Int) : Int := sumI (oc a m) 0 u
def ow (a : Mem) (m s : Int) : Prop := VS a s ∧ a 6 s = m
def hdA (a : Mem) (s : Int) : Int := a 2 (s / 10) + sumI (fun p => a 7 (10 * (s / 10) + p)) 0 (s % 10)
def tlA (a : Mem) (s : Int) : Int := sumI (fun p => a 7 (10 * (s / 10) + p)) (s % 10 + 1) (a 5 (s / 10))
def colR (a : Mem) (m : Int) (h t q : Int → Int) : Prop := ∀ s : Int, ow a m s → h (cU a m s) = hdA a s ∧ t (cU a m s) = a 7 s ∧ q (cU a m s) = tlA a s
/-- THE BOUND of machine m is b -/
def BND (a : Mem) (m b : Int) : Prop := ∃ h t q : Int → Int, colR a m h t q ∧ IsB (cU a m 80) h t q b
theorem cU_s (a : Mem) (m : Int) {u : Int} (h : 0 ≤ u) : cU a m (u + 1) = cU a m u + oc a m u := sumI_s _ h
theorem oc_ow {a : Mem} {m s : Int} (h : ow a m s) : oc a m s = 1 := if_pos ⟨h.1.2.1, h.1.2.2, h.2⟩
theorem oc_no {a : Mem} {m s : Int} (h0 : 0 ≤ s) (h : ¬ ow a m s) : oc a m s = 0 := if_neg (fun z => h ⟨⟨h0, z.1, z.2.1⟩, z.2.2⟩)
theorem oc_in (a : Mem) (m s : Int) : 0 ≤ oc a m s ∧ oc a m s ≤ 1 := by unfold oc; split <;> omega
theorem cU_mono {a : Mem} {m u v : Int} (h0 : 0 ≤ u) (h : u ≤ v) : cU a m u ≤ cU a m v := by
  obtain ⟨k, hk⟩ : ∃ k : Nat, v = u + k := ⟨(v - u).toNat, by omega⟩
  subst hk
  clear h
  induction k with
  | zero => simp
  | succ k ih =>
    rw [show u + ((k + 1 : Nat) : Int) = u + k + 1 by omega, cU_s _ _ (by omega)]
    have := oc_in a m (u + k)
    omega
theorem cU_0 (a : Mem) (m : Int) : cU a m 0 = 0 := sumI_0 _ (by omega)
theorem cU_ge {a : Mem} {m u : Int} (h : 0 ≤ u) : 0 ≤ cU a m u := by have := cU_mono (a := a) (m := m) (Int.le_refl 0) h; rw [cU_0] at this; exact this
/-- each number below the count is a step's -/
theorem cU_sur {a : Mem} {m : Int} : ∀ n : Nat, ∀ k : Int, 0 ≤ k → k < cU a m n → ∃ s : Int, 0 ≤ s ∧ s < n ∧ ow a m s ∧ cU a m s = k := by
  intro n
  induction n with
  | zero => intro k h0 h1; rw [show ((0 : Nat) : Int) = 0 from rfl, cU_0] at h1; omega
  | succ n ih =>
    intro k h0 h1
    rw [show ((n + 1 : Nat) : Int) = (n : Int) + 1 by omega, cU_s _ _ (by omega)] at h1
    by_cases e : k < cU a m n
    · obtain ⟨s, s0, s1, s2, s3⟩ := ih k h0 e
      exact ⟨s, s0, by omega, s2, s3⟩
    · have hi := oc_in a m n
      have e1 : oc a m n = 1 := by omega
      have : ow a m n := by
        apply Classical.byContradiction
        intro z
        have := oc_no (a := a) (m := m) (s := (n : Int)) (by omega) z
        omega
      exact ⟨n, by omega, by omega, this, by omega⟩
theorem cU_in {M : Nat} {a : Mem} {m s : Int} (hB : SB M a) (h : ow a m s) : 0 ≤ cU a m s ∧ cU a m s < cU a m 80 := by
  have hb := VS_in hB h.1
  refine ⟨cU_ge hb.1, ?_⟩
  have := cU_mono (a := a) (m := m) (u := s + 1) (v := 80) (by omega) (by omega)
  rw [cU_s _ _ hb.1, oc_ow h] at this
  omega
theorem BND_uniq {a : Mem} {m b b' : Int} (x : BND a m b) (y : BND a m b') : b = b' := by
  obtain ⟨h, t, q, c, z⟩ := x
  obtain ⟨h', t', q', c', z'⟩ := y
  refine IsB_uniq z (IsB_congr (fun k k0 k1 => ?_) z')
  obtain ⟨s, s0, s1, s2, s3⟩ := cU_sur (a := a) (m := m) 80 k k0 k1
  have x1 := c s s2
  have x2 := c' s s2
  rw [s3] at x1 x2
  exact ⟨x2.1.trans x1.1.symm, x2.2.1.trans x1.2.1.symm, x2.2.2.trans x1.2.2.symm⟩
theorem SE_ow {a b : Mem} (h : SE a b) (m s : Int) : ow a m s ↔ ow b m s := by unfold ow; rw [SE_VS h, h 6 (by omega)]
theorem SE_cU {a b : Mem} (h : SE a b) (m u : Int) : cU a m u = cU b m u := by
  unfold cU
  refine sumI_congr (fun i _ _ => ?_)
  unfold oc
  rw [h 1 (by omega), h 5 (by omega), h 6 (by omega)]
theorem SE_BND {a b : Mem} (g : SE a b) {m z : Int} (x : BND a m z) : BND b m z := by
  obtain ⟨h, t, q, c, y⟩ := x
  refine ⟨h, t, q, fun s hs => ?_, by rw [← SE_cU g]; exact y⟩
  have := c s ((SE_ow g m s).mpr hs)
  unfold hdA tlA at *
  rw [← SE_cU g, ← g 2 (by omega), ← g 7 (by omega), ← g 5 (by omega)]
  exact this
theorem hd_in {M : Nat} {a : Mem} (hN : WN M a) {s : Int} (hs : VS a s) : (0 ≤ hdA a s ∧ hdA a s ≤ 1300) ∧ (0 ≤ tlA a s ∧ tlA a s ≤ 300) ∧ (0 ≤ a 7 s ∧ a 7 s ≤ 50) := by
  have hb := VS_in hN.1 hs
  have h2 := (hN.2.1 _ hb.2.2.1 hb.2.2.2.1).1
  have h5 := hN.1.2.2.2.2.1 _ hb.2.2.1 hb.2.2.2.1
  have a1 := sumI_bd (f := fun p => a 7 (10 * (s / 10) + p)) (lo := 0) (hi := s % 10) (B := 50) (by omega) (fun p p1 p2 => (hN.2.2.2.1 (10 * (s / 10) + p) (by omega) (by omega)).2) 6 (by omega)
  have a2 := sumI_bd (f := fun p => a 7 (10 * (s / 10) + p)) (lo := s % 10 + 1) (hi := a 5 (s / 10)) (B := 50) (by omega) (fun p p1 p2 => (hN.2.2.2.1 (10 * (s / 10) + p) (by omega) (by omega)).2) 6 (by omega)
  unfold hdA tlA
  exact ⟨⟨by omega, by omega⟩, ⟨by omega, by omega⟩, (hN.2.2.2.1 s hb.1 hb.2.1).2⟩
