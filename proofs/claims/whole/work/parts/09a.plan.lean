/-! plans, as the document has them: a done set D, begins B, a rank -/
def jIn (a : Mem) (B : Int → Int) (s : Int) : Int := if s % 10 = 0 then a 2 (s / 10) else B (s - 1) + a 7 (s - 1)
/-- what the step behind b on machine m waits for -/
def oIn (a : Mem) (B : Int → Int) (m b s : Int) : Int := B b + a 7 b + a 11 ((m * 8 + b / 10) * 8 + s / 10)
/-- the begin of the step at place i of machine m -/
def bV (a : Mem) (B : Int → Int) (m i : Int) : Int := if 0 < i then max (jIn a B (a (57 + m) i)) (oIn a B m (a (57 + m) (i - 1)) (a (57 + m) i)) else jIn a B (a (57 + m) i)
/-- place i of machine m is in its order -/
def inO (M : Nat) (a : Mem) (m i : Int) : Prop := 0 ≤ m ∧ m < M ∧ 0 ≤ i ∧ i < a 10 m
/-- all steps are put -/
def AO (a : Mem) : Prop := ∀ s : Int, VS a s → ∃ i : Int, 0 ≤ i ∧ i < a 10 (a 6 s) ∧ a (57 + a 6 s) i = s
/-- a partial plan: closed under what a step waits for, ranked, begins as told -/
def PP (M : Nat) (a : Mem) (D : Int → Prop) (B : Int → Int) (rk : Int → Int) : Prop := ∀ m i : Int, inO M a m i → D (a (57 + m) i) →
  (0 ≤ rk (a (57 + m) i) ∧ rk (a (57 + m) i) < 48) ∧ (0 < i → D (a (57 + m) (i - 1)) ∧ rk (a (57 + m) (i - 1)) < rk (a (57 + m) i)) ∧ (a (57 + m) i % 10 ≠ 0 → D (a (57 + m) i - 1) ∧ rk (a (57 + m) i - 1) < rk (a (57 + m) i)) ∧ B (a (57 + m) i) = bV a B m i
/-- nothing more can be done -/
def MX (M : Nat) (a : Mem) (D : Int → Prop) : Prop := ∀ m i : Int, inO M a m i → ¬ D (a (57 + m) i) → (0 < i ∧ ¬ D (a (57 + m) (i - 1))) ∨ (a (57 + m) i % 10 ≠ 0 ∧ ¬ D (a (57 + m) i - 1))
def All (a : Mem) (D : Int → Prop) : Prop := ∀ s : Int, VS a s → D s
def SPN (a : Mem) (D : Int → Prop) (B : Int → Int) (g : Int) : Prop := 0 ≤ g ∧ (∀ s : Int, VS a s → D s → B s + a 7 s ≤ g) ∧ (g = 0 ∨ ∃ s : Int, VS a s ∧ D s ∧ B s + a 7 s = g)
theorem inO_VS {M : Nat} {a : Mem} (hN : WN M a) (hO : WO M a) {m i : Int} (h : inO M a m i) : VS a (a (57 + m) i) ∧ a 6 (a (57 + m) i) = m := by
  obtain ⟨h1, h2, h3, h4⟩ := h
  have := hO.1 m i h1 h2 h3 h4
  exact ⟨this.1, this.2.1⟩
theorem VS_inO {M : Nat} {a : Mem} (hN : WN M a) (hA : AO a) {s : Int} (h : VS a s) : ∃ m i : Int, inO M a m i ∧ a (57 + m) i = s ∧ m = a 6 s := by
  obtain ⟨i, h1, h2, h3⟩ := hA s h
  have hs := VS_in hN.1 h
  have hm := (hN.2.2.2.1 s hs.1 hs.2.1).1
  exact ⟨a 6 s, i, ⟨hm.1, hm.2, h1, h2⟩, h3, rfl⟩
theorem VS_pred {M : Nat} {a : Mem} (hN : WN M a) {s : Int} (h : VS a s) (h0 : s % 10 ≠ 0) : VS a (s - 1) := by
  have hs := VS_in hN.1 h
  obtain ⟨h1, h2, h3⟩ := h
  have e : (s - 1) / 10 = s / 10 := by omega
  exact ⟨by omega, by rw [e]; exact h2, by rw [e]; omega⟩
/-- what is done in one is done in any other that can do no more -/
theorem PP_sub {M : Nat} {a : Mem} {D D' : Int → Prop} {B rk : Int → Int} (hN : WN M a) (hO : WO M a) (hA : AO a) (h : PP M a D B rk) (g : MX M a D') : ∀ s : Int, VS a s → D s → D' s := by
  have key : ∀ n : Nat, ∀ s : Int, VS a s → D s → rk s < n → D' s := by
    intro n
    induction n with
    | zero =>
      intro s hv hd hr
      obtain ⟨m, i, hi, rfl, -⟩ := VS_inO hN hA hv
      have := (h m i hi hd).1
      omega
    | succ n ih =>
      intro s hv hd hr
      obtain ⟨m, i, hi, e, -⟩ := VS_inO hN hA hv
      subst e
      obtain ⟨q1, q2, q3, q4⟩ := h m i hi hd
      apply Classical.byContradiction
      intro hn
      rcases g m i hi hn with ⟨p1, p2⟩ | ⟨p1, p2⟩
      · have hi' : inO M a m (i - 1) := ⟨hi.1, hi.2.1, by have := hi.2.2.1; omega, by have := hi.2.2.2; omega⟩
        exact p2 (ih _ (inO_VS hN hO hi').1 (q2 p1).1 (by have := (q2 p1).2; omega))
      · exact p2 (ih _ (VS_pred hN hv p1) (q3 p1).1 (by have := (q3 p1).2; omega))
  intro s hv hd
  exact key (rk s).toNat.succ s hv hd (by omega)
/-- the begins are the only ones -/
theorem PP_uniq {M : Nat} {a : Mem} {D D' : Int → Prop} {B B' rk rk' : Int → Int} (hN : WN M a) (hO : WO M a) (hA : AO a) (h : PP M a D B rk) (g : PP M a D' B' rk') (hs : ∀ s : Int, VS a s → D s → D' s) : ∀ s : Int, VS a s → D s → B s = B' s := by
  have key : ∀ n : Nat, ∀ s : Int, VS a s → D s → rk s < n → B s = B' s := by
    intro n
    induction n with
    | zero =>
      intro s hv hd hr
      obtain ⟨m, i, hi, rfl, -⟩ := VS_inO hN hA hv
      have := (h m i hi hd).1
      omega
    | succ n ih =>
      intro s hv hd hr
      obtain ⟨m, i, hi, e, -⟩ := VS_inO hN hA hv
      subst e
      obtain ⟨q1, q2, q3, q4⟩ := h m i hi hd
      obtain ⟨p1, p2, p3, p4⟩ := g m i hi (hs _ hv hd)
      rw [q4, p4]
      have e1 : jIn a B (a (57 + m) i) = jIn a B' (a (57 + m) i) := by
        unfold jIn
        by_cases e : a (57 + m) i % 10 = 0
        · rw [if_pos e, if_pos e]
        · rw [if_neg e, if_neg e, ih _ (VS_pred hN hv e) (q3 e).1 (by have := (q3 e).2; omega)]
      unfold bV
      by_cases e : 0 < i
      · have hi' : inO M a m (i - 1) := ⟨hi.1, hi.2.1, by have := hi.2.2.1; omega, by have := hi.2.2.2; omega⟩
        rw [if_pos e, if_pos e, e1]
        unfold oIn
        rw [ih _ (inO_VS hN hO hi').1 (q2 e).1 (by have := (q2 e).2; omega)]
      · rw [if_neg e, if_neg e, e1]
  intro s hv hd
  exact key (rk s).toNat.succ s hv hd (by omega)
theorem SPN_uniq {a : Mem} {D D' : Int → Prop} {B B' : Int → Int} {g g' : Int} (hD : ∀ s : Int, VS a s → (D s ↔ D' s)) (hB : ∀ s : Int, VS a s → D s → B s = B' s) (h : SPN a D B g) (h' : SPN a D' B' g') : g = g' := by
  obtain ⟨a1, a2, a3⟩ := h
  obtain ⟨b1, b2, b3⟩ := h'
  have l1 : g ≤ g' := by
    rcases a3 with e | ⟨s, p1, p2, p3⟩
    · omega
    · have := b2 s p1 ((hD s p1).mp p2)
      rw [← hB s p1 p2] at this
      omega
  have l2 : g' ≤ g := by
    rcases b3 with e | ⟨s, p1, p2, p3⟩
    · omega
    · have q := (hD s p1).mpr p2
      have := a2 s p1 q
      rw [hB s p1 q] at this
      omega
  omega
/-- what follows a step: the longest way to an end -/
def rV (a : Mem) (R : Int → Int) (m i : Int) : Int := a 7 (a (57 + m) i) + max (if a (57 + m) i % 10 + 1 = a 5 (a (57 + m) i / 10) then 0 else R (a (57 + m) i + 1)) (if i + 1 < a 10 m then a 11 ((m * 8 + a (57 + m) i / 10) * 8 + a (57 + m) (i + 1) / 10) + R (a (57 + m) (i + 1)) else 0)
def RS (M : Nat) (a : Mem) (R : Int → Int) : Prop := ∀ m i : Int, inO M a m i → R (a (57 + m) i) = rV a R m i
theorem RS_uniq {M : Nat} {a : Mem} {D : Int → Prop} {B rk R R' : Int → Int} (hN : WN M a) (hO : WO M a) (hA : AO a) (h : PP M a D B rk) (hall : All a D) (g : RS M a R) (g' : RS M a R') : ∀ s : Int, VS a s → R s = R' s := by
  have key : ∀ n : Nat, ∀ s : Int, VS a s → 48 - rk s < n → R s = R' s := by
    intro n
    induction n with
    | zero =>
      intro s hv hr
      obtain ⟨m, i, hi, rfl, -⟩ := VS_inO hN hA hv
      have := (h m i hi (hall _ hv)).1
      omega
    | succ n ih =>
      intro s hv hr
      obtain ⟨m, i, hi, e, -⟩ := VS_inO hN hA hv
      subst e
      rw [g m i hi, g' m i hi]
      unfold rV
      have e1 : (if a (57 + m) i % 10 + 1 = a 5 (a (57 + m) i / 10) then 0 else R (a (57 + m) i + 1)) = (if a (57 + m) i % 10 + 1 = a 5 (a (57 + m) i / 10) then 0 else R' (a (57 + m) i + 1)) := by
        by_cases e : a (57 + m) i % 10 + 1 = a 5 (a (57 + m) i / 10)
        · rw [if_pos e, if_pos e]
        · rw [if_neg e, if_neg e]
          have hb := VS_in hN.1 hv
          have hv' : VS a (a (57 + m) i + 1) := by
            obtain ⟨h1, h2, h3⟩ := hv
            have e2 : (a (57 + m) i + 1) / 10 = a (57 + m) i / 10 := by omega
            exact ⟨by omega, by rw [e2]; exact h2, by rw [e2]; omega⟩
          obtain ⟨m', i', hi', e2, -⟩ := VS_inO hN hA hv'
          have q := (h m' i' hi' (by rw [e2]; exact hall _ hv')).2.2.1 (by rw [e2]; omega)
          rw [e2, show a (57 + m) i + 1 - 1 = a (57 + m) i by omega] at q
          exact ih _ hv' (by have := q.2; omega)
      have e2 : (if i + 1 < a 10 m then a 11 ((m * 8 + a (57 + m) i / 10) * 8 + a (57 + m) (i + 1) / 10) + R (a (57 + m) (i + 1)) else 0) = (if i + 1 < a 10 m then a 11 ((m * 8 + a (57 + m) i / 10) * 8 + a (57 + m) (i + 1) / 10) + R' (a (57 + m) (i + 1)) else 0) := by
        by_cases e : i + 1 < a 10 m
        · rw [if_pos e, if_pos e]
          have hi' : inO M a m (i + 1) := ⟨hi.1, hi.2.1, by have := hi.2.2.1; omega, e⟩
          have hv' := (inO_VS hN hO hi').1
          have q := (h m (i + 1) hi' (hall _ hv')).2.1 (by have := hi.2.2.1; omega)
          rw [show i + 1 - 1 = i by omega] at q
          rw [ih _ hv' (by have := q.2; omega)]
        · rw [if_neg e, if_neg e]
      rw [e1, e2]
  intro s hv
  exact key (48 - rk s).toNat.succ s hv (by omega)
theorem sumN_le {f g : Int → Int} {lo : Int} : ∀ {n : Nat}, (∀ i : Int, lo ≤ i → i < lo + n → f i ≤ g i) → sumN f lo n ≤ sumN g lo n
  | 0, _ => Int.le_refl _
  | n + 1, h => by
    have h1 := sumN_le (f := f) (g := g) (lo := lo) (n := n) (fun i a b => h i a (by omega))
    have h2 := h (lo + n) (by omega) (by omega)
    show sumN f lo n + f (lo + n) ≤ sumN g lo n + g (lo + n)
    omega
theorem sumN_eq {f g : Int → Int} {lo : Int} (n : Nat) : (∀ i : Int, lo ≤ i → i < lo + n → f i ≤ g i) → sumN g lo n ≤ sumN f lo n → ∀ i : Int, lo ≤ i → i < lo + n → f i = g i := by
  induction n with
  | zero => intro _ _ i a b; omega
  | succ n ih =>
    intro h e i a b
    have h1 := sumN_le (f := f) (g := g) (lo := lo) (n := n) (fun i a b => h i a (by omega))
    have h2 := h (lo + n) (by omega) (by omega)
    have e' : sumN g lo n + g (lo + n) ≤ sumN f lo n + f (lo + n) := e
    by_cases q : i = lo + n
    · subst q; omega
    · exact ih (fun i a b => h i a (by omega)) (by omega) i a (by omega)
theorem sumI_le {f g : Int → Int} {lo hi : Int} (h : ∀ i, lo ≤ i → i < hi → f i ≤ g i) : sumI f lo hi ≤ sumI g lo hi := sumN_le (fun i a b => h i a (by omega))
theorem sumI_eq {f g : Int → Int} {lo hi : Int} (h : ∀ i, lo ≤ i → i < hi → f i ≤ g i) (e : sumI g lo hi ≤ sumI f lo hi) : ∀ i, lo ≤ i → i < hi → f i = g i := fun i a b => sumN_eq _ (fun i a b => h i a (by omega)) e i a (by omega)
/-- one place more by one -/
theorem sumN_up {f g : Int → Int} {lo k d : Int} : ∀ {n : Nat}, lo ≤ k → k < lo + n → g k = f k + d → (∀ i : Int, i ≠ k → g i = f i) → sumN g lo n = sumN f lo n + d
  | 0, h1, h2, _, _ => by omega
  | n + 1, h1, h2, h3, h4 => by
    show sumN g lo n + g (lo + n) = sumN f lo n + f (lo + n) + d
    by_cases q : k = lo + n
    · subst q
      rw [h3, sumN_congr (f := g) (g := f) (fun i a b => h4 i (by omega))]
      omega
    · rw [sumN_up h1 (by omega) h3 h4, h4 (lo + n) (fun e => q e.symm)]
      omega
theorem sumI_up {f g : Int → Int} {lo hi k d : Int} (h1 : lo ≤ k) (h2 : k < hi) (h3 : g k = f k + d) (h4 : ∀ i : Int, i ≠ k → g i = f i) : sumI g lo hi = sumI f lo hi + d := sumN_up h1 (by omega) h3 h4
