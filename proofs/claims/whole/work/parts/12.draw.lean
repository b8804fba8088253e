/-! a plan as it is drawn -/
theorem bV_congr {a a' : Mem} {B B' : Int → Int} {m i : Int} (h : SE a a') (hm : 0 ≤ m) (h1 : a (57 + m) i % 10 ≠ 0 → B (a (57 + m) i - 1) = B' (a (57 + m) i - 1)) (h2 : 0 < i → B (a (57 + m) (i - 1)) = B' (a (57 + m) (i - 1))) : bV a B m i = bV a' B' m i := by
  have e2 := h 2 (by omega)
  have e7 := h 7 (by omega)
  have e11 := h 11 (by omega)
  have er := SE_row h hm
  have ej : jIn a B (a (57 + m) i) = jIn a' B' (a' (57 + m) i) := by
    unfold jIn
    rw [e2, e7, ← er]
    by_cases q : a (57 + m) i % 10 = 0
    · rw [if_pos q, if_pos q]
    · rw [if_neg q, if_neg q, h1 q]
  unfold bV
  rw [ej]
  by_cases q : 0 < i
  · rw [if_pos q, if_pos q]
    unfold oIn
    rw [e7, e11, h2 q, er]
  · rw [if_neg q, if_neg q]
def DIc (M : Nat) (t : Int) (τ : Mem) : Prop :=
  (∀ j : Int, 0 ≤ j → j < 8 → 0 ≤ τ (t + 5) j ∧ τ (t + 5) j ≤ τ 5 j)
  ∧ (∀ m : Int, 0 ≤ m → m < M → 0 ≤ τ (t + 6) m ∧ τ (t + 6) m ≤ τ 10 m)
  ∧ (∀ m i : Int, inO M τ m i → (i < τ (t + 6) m ↔ τ (57 + m) i % 10 < τ (t + 5) (τ (57 + m) i / 10)))
  ∧ τ t 6 = sumI (τ (t + 5)) 0 8
def DIs (t : Int) (rk : Int → Int) (τ : Mem) (m i : Int) : Prop :=
  (0 ≤ rk (τ (57 + m) i) ∧ rk (τ (57 + m) i) < τ t 6) ∧ τ (t + 4) (rk (τ (57 + m) i)) = τ (57 + m) i
  ∧ (0 < i → rk (τ (57 + m) (i - 1)) < rk (τ (57 + m) i)) ∧ (τ (57 + m) i % 10 ≠ 0 → rk (τ (57 + m) i - 1) < rk (τ (57 + m) i))
  ∧ τ (t + 1) (τ (57 + m) i) = bV τ (τ (t + 1)) m i ∧ τ (t + 3) (τ (57 + m) i) = i ∧ (0 ≤ τ (t + 1) (τ (57 + m) i) ∧ τ (t + 1) (τ (57 + m) i) ≤ 1000 + 100 * rk (τ (57 + m) i))
def DI (M : Nat) (t : Int) (rk : Int → Int) (τ : Mem) : Prop := DIc M t τ
  ∧ (∀ m i : Int, inO M τ m i → i < τ (t + 6) m → DIs t rk τ m i)
  ∧ (∀ q : Int, 0 ≤ q → q < τ t 6 → ∃ m i : Int, inO M τ m i ∧ i < τ (t + 6) m ∧ τ (t + 4) q = τ (57 + m) i ∧ rk (τ (57 + m) i) = q)
  ∧ (0 ≤ τ t 1 ∧ (∀ m i : Int, inO M τ m i → i < τ (t + 6) m → τ (t + 1) (τ (57 + m) i) + τ 7 (τ (57 + m) i) ≤ τ t 1) ∧ (τ t 1 = 0 ∨ ∃ m i : Int, inO M τ m i ∧ i < τ (t + 6) m ∧ τ (t + 1) (τ (57 + m) i) + τ 7 (τ (57 + m) i) = τ t 1))
/-- cells outside a plan's own -/
def FR (t : Int) (σ τ : Mem) : Prop := ∀ c : Int, c < t ∨ t + 6 < c → τ c = σ c
theorem FR.refl (t : Int) (σ : Mem) : FR t σ σ := fun _ _ => rfl
theorem FR.trans {t : Int} {a b c : Mem} (h : FR t a b) (g : FR t b c) : FR t a c := fun d hd => (g d hd).trans (h d hd)
theorem FR.SE {t : Int} (ht : t = 12 ∨ t = 19) {σ τ : Mem} (h : FR t σ τ) : SE σ τ := fun c hc => (h c (by omega)).symm
theorem DIc_cnt {M : Nat} {t : Int} {τ : Mem} (hB : SB M τ) (h : DIc M t τ) : 0 ≤ τ t 6 ∧ τ t 6 ≤ 48 := by
  rw [h.2.2.2]
  have := sumI_bd (f := τ (t + 5)) (lo := 0) (hi := 8) (B := 6) (by omega) (fun j h1 h2 => ⟨(h.1 j h1 h2).1, by have := (h.1 j h1 h2).2; have := (hB.2.2.2.2.1 j h1 h2).2; omega⟩) 8 (by omega)
  omega
theorem DI_span {M : Nat} {t : Int} {rk : Int → Int} {τ : Mem} (hN : WN M τ) (hO : WO M τ) (h : DI M t rk τ) : 0 ≤ τ t 1 ∧ τ t 1 ≤ 6000 := by
  obtain ⟨h1, h2, h3, h4, h5, h6⟩ := h
  have hc := DIc_cnt hN.1 h1
  refine ⟨h4, ?_⟩
  rcases h6 with e | ⟨m, i, q1, q2, q3⟩
  · omega
  · have a1 := h2 m i q1 q2
    have hs := VS_in hN.1 (inO_VS hN hO q1).1
    have := (hN.2.2.2.1 _ hs.1 hs.2.1).2
    have := a1.2.2.2.2.2.2.2
    have := a1.1.2
    omega
theorem drawStep_acc {t : Int} (ht : t = 12 ∨ t = 19) (m i : Int) (τ : Mem) : FR t τ (m_X2_drawStep t m i τ)
  ∧ (∀ x, m_X2_drawStep t m i τ (t + 1) x = if x = τ (57 + m) i then bV τ (τ (t + 1)) m i else τ (t + 1) x)
  ∧ (∀ x, m_X2_drawStep t m i τ (t + 3) x = if x = τ (57 + m) i then i else τ (t + 3) x)
  ∧ m_X2_drawStep t m i τ t 1 = max (τ t 1) (bV τ (τ (t + 1)) m i + τ 7 (τ (57 + m) i))
  ∧ m_X2_drawStep t m i τ t 6 = τ t 6 + 1
  ∧ (∀ x, m_X2_drawStep t m i τ (t + 4) x = if x = τ t 6 then τ (57 + m) i else τ (t + 4) x)
  ∧ (∀ x, m_X2_drawStep t m i τ (t + 5) x = if x = τ (57 + m) i / 10 then τ (t + 5) x + 1 else τ (t + 5) x)
  ∧ (∀ x, m_X2_drawStep t m i τ (t + 6) x = if x = m then τ (t + 6) x + 1 else τ (t + 6) x) := by
  refine ⟨fun c hc => ?_, fun x => ?_, fun x => ?_, ?_, ?_, fun x => ?_, fun x => ?_, fun x => ?_⟩
  · funext x
    unfold m_X2_drawStep
    rw [up_other _ _ _ (by omega), up_other _ _ _ (by omega), up_other _ _ _ (by omega), up_other _ _ _ (by omega), up_other _ _ _ (by omega), up_other _ _ _ (by omega), up_other _ _ _ (by omega)]
  all_goals (rcases ht with rfl | rfl <;> simp only [m_X2_drawStep, up] <;> grind)
set_option maxHeartbeats 2000000 in
theorem DI_step {M : Nat} {t : Int} (ht : t = 12 ∨ t = 19) {rk : Int → Int} {τ : Mem} (hN : WN M τ) (hO : WO M τ) (hA : AO τ) (h : DI M t rk τ) {m : Int} (hi : inO M τ m (τ (t + 6) m)) (hr : τ (t + 5) (τ (57 + m) (τ (t + 6) m) / 10) = τ (57 + m) (τ (t + 6) m) % 10) :
    DI M t (fun x => if x = τ (57 + m) (τ (t + 6) m) then τ t 6 else rk x) (m_X2_drawStep t m (τ (t + 6) m) τ) := by
  obtain ⟨i0, hi0⟩ : ∃ i0, i0 = τ (t + 6) m := ⟨_, rfl⟩
  rw [← hi0] at hi hr ⊢
  obtain ⟨s, hs⟩ : ∃ s, s = τ (57 + m) i0 := ⟨_, rfl⟩
  rw [← hs] at hr ⊢
  obtain ⟨b, hb⟩ : ∃ b, b = bV τ (τ (t + 1)) m i0 := ⟨_, rfl⟩
  obtain ⟨aF, a1, a3, ag, a6, a4, a5, am⟩ := drawStep_acc ht m i0 τ
  rw [← hs] at a1 a3 ag a4 a5
  rw [← hb] at a1 ag
  generalize hT : m_X2_drawStep t m i0 τ = T at *
  have hSE : SE τ T := aF.SE ht
  obtain ⟨⟨c1, c2, c3, c4⟩, d, sq, g0, g1, g2⟩ := id h
  have hv : VS τ s := by rw [hs]; exact (inO_VS hN hO hi).1
  have hmac : τ 6 s = m := by rw [hs]; exact (inO_VS hN hO hi).2
  have hsb := VS_in hN.1 hv
  have hcnt := DIc_cnt hN.1 h.1
  have e5 : T 5 = τ 5 := aF 5 (by omega)
  have e7 : T 7 = τ 7 := aF 7 (by omega)
  have e10 : T 10 = τ 10 := aF 10 (by omega)
  have er : ∀ m' : Int, 0 ≤ m' → T (57 + m') = τ (57 + m') := fun m' q => aF _ (by omega)
  have eO : ∀ m' i', inO M T m' i' ↔ inO M τ m' i' := fun m' i' => by unfold inO; rw [e10]
  have hlt : s % 10 < τ 5 (s / 10) := hv.2.2
  -- drawn steps are others
  have ne : ∀ m' i', inO M τ m' i' → i' < τ (t + 6) m' → τ (57 + m') i' ≠ s := by
    intro m' i' q1 q2 e
    have := (c3 m' i' q1).mp q2
    rw [e, hr] at this
    omega
  -- what a drawn step waits for is drawn
  have nep : ∀ m' i', inO M τ m' i' → τ (57 + m') i' % 10 ≤ τ (t + 5) (τ (57 + m') i' / 10) → τ (57 + m') i' % 10 ≠ 0 → τ (57 + m') i' - 1 ≠ s ∧ ∃ m2 i2, inO M τ m2 i2 ∧ i2 < τ (t + 6) m2 ∧ τ (57 + m2) i2 = τ (57 + m') i' - 1 := by
    intro m' i' q1 q2 q3
    have v1 := VS_pred hN (inO_VS hN hO q1).1 q3
    have b1 := VS_in hN.1 (inO_VS hN hO q1).1
    obtain ⟨m2, i2, p1, p2, -⟩ := VS_inO hN hA v1
    have lt : τ (57 + m2) i2 % 10 < τ (t + 5) (τ (57 + m2) i2 / 10) := by
      rw [p2, show (τ (57 + m') i' - 1) / 10 = τ (57 + m') i' / 10 by omega]
      omega
    refine ⟨fun e => ?_, m2, i2, p1, (c3 m2 i2 p1).mpr lt, p2⟩
    rw [p2, e, hr] at lt
    omega
  have hpred : s % 10 ≠ 0 → s - 1 ≠ s ∧ ∃ m2 i2, inO M τ m2 i2 ∧ i2 < τ (t + 6) m2 ∧ τ (57 + m2) i2 = s - 1 := by
    intro q
    have := nep m i0 hi (by rw [← hs, hr]; omega) (by rw [← hs]; exact q)
    rw [← hs] at this
    exact this
  have hprev : 0 < i0 → inO M τ m (i0 - 1) ∧ i0 - 1 < τ (t + 6) m := fun q => ⟨⟨hi.1, hi.2.1, by omega, by have := hi.2.2.2; omega⟩, by omega⟩
  -- begins of steps that were drawn
  have eB : ∀ m' i', inO M τ m' i' → i' < τ (t + 6) m' ∨ (m' = m ∧ i' = i0) → bV T (T (t + 1)) m' i' = bV τ (τ (t + 1)) m' i' := by
    intro m' i' q1 q2
    refine (bV_congr hSE q1.1 (fun q3 => ?_) (fun q3 => ?_)).symm
    · have hle : τ (57 + m') i' % 10 ≤ τ (t + 5) (τ (57 + m') i' / 10) := by
        rcases q2 with q2 | ⟨rfl, rfl⟩
        · have := (c3 m' i' q1).mp q2; omega
        · rw [← hs, hr]; omega
      rw [a1, if_neg (nep m' i' q1 hle q3).1]
    · have q4 : inO M τ m' (i' - 1) := ⟨q1.1, q1.2.1, by omega, by have := q1.2.2.2; omega⟩
      have q5 : i' - 1 < τ (t + 6) m' := by
        rcases q2 with q2 | ⟨rfl, rfl⟩ <;> omega
      rw [a1, if_neg (ne m' (i' - 1) q4 q5)]
  -- bounds of the new begin
  have hbb : 0 ≤ b ∧ b ≤ 1000 + 100 * τ t 6 := by
    have h2 := (hN.2.1 _ hsb.2.2.1 hsb.2.2.2.1).1
    have hj : 0 ≤ jIn τ (τ (t + 1)) s ∧ jIn τ (τ (t + 1)) s ≤ 1000 + 100 * τ t 6 := by
      unfold jIn
      by_cases q : s % 10 = 0
      · rw [if_pos q]; omega
      · rw [if_neg q]
        obtain ⟨m2, i2, p1, p2, p3⟩ := (hpred q).2
        have dd := d m2 i2 p1 p2
        unfold DIs at dd
        rw [p3] at dd
        have := (hN.2.2.2.1 (s - 1) (by omega) (by omega)).2
        omega
    rw [hb]
    unfold bV
    rw [← hs]
    by_cases q : 0 < i0
    · rw [if_pos q]
      have dd := d m (i0 - 1) (hprev q).1 (hprev q).2
      unfold DIs at dd
      have pb := VS_in hN.1 (inO_VS hN hO (hprev q).1).1
      have := (hN.2.2.2.1 _ pb.1 pb.2.1).2
      have h11 := hN.2.2.2.2.1 ((m * 8 + τ (57 + m) (i0 - 1) / 10) * 8 + s / 10) (by have := hi.1; omega) (by have := hi.2.1; have := hi.1; omega)
      unfold oIn
      omega
    · rw [if_neg q]; exact hj
  have hdM := c2 m hi.1 hi.2.1
  refine ⟨⟨fun j q1 q2 => ?_, fun m' q1 q2 => ?_, fun m' i' q1 => ?_, ?_⟩, fun m' i' q1 q2 => ?_, fun q q1 q2 => ?_, ?_, fun m' i' q1 q2 => ?_, ?_⟩
  · rw [a5, e5]
    have := c1 j q1 q2
    by_cases e : j = s / 10
    · rw [if_pos e]; subst e; omega
    · rw [if_neg e]; exact this
  · rw [am, e10]
    have := c2 m' q1 q2
    by_cases e : m' = m
    · rw [if_pos e]; subst e; have := hi.2.2.2; omega
    · rw [if_neg e]; exact this
  · have q1' := (eO m' i').mp q1
    rw [er m' q1'.1, am, a5]
    have key := c3 m' i' q1'
    have vb := VS_in hN.1 (inO_VS hN hO q1').1
    by_cases e : m' = m
    · subst e
      rw [if_pos rfl]
      by_cases e2 : i' = i0
      · subst e2
        rw [← hs, if_pos rfl, hr]
        omega
      · have ns : τ (57 + m') i' ≠ s := fun e3 => e2 (hO.2 m' i' i0 q1'.1 q1'.2.1 q1'.2.2.1 q1'.2.2.2 hi.2.2.1 hi.2.2.2 (by rw [e3, hs]))
        by_cases e3 : τ (57 + m') i' / 10 = s / 10
        · rw [if_pos e3]
          have : τ (57 + m') i' % 10 ≠ s % 10 := fun e4 => ns (by omega)
          rw [e3] at key ⊢
          omega
        · rw [if_neg e3]; omega
    · rw [if_neg e]
      have ns : τ (57 + m') i' ≠ s := fun e3 => e (by rw [← (inO_VS hN hO q1').2, e3, hmac])
      by_cases e3 : τ (57 + m') i' / 10 = s / 10
      · rw [if_pos e3]
        have : τ (57 + m') i' % 10 ≠ s % 10 := fun e4 => ns (by omega)
        rw [e3] at key ⊢
        omega
      · rw [if_neg e3]; exact key
  · rw [a6, c4]
    exact (sumI_up (k := s / 10) (by omega) (by omega) (by rw [a5, if_pos rfl]) (fun j q => by rw [a5, if_neg q])).symm
  · have q1' := (eO m' i').mp q1
    unfold DIs
    rw [er m' q1'.1, a6]
    by_cases e : m' = m ∧ i' = i0
    · obtain ⟨rfl, rfl⟩ := e
      rw [← hs]
      simp only [if_pos]
      refine ⟨⟨by omega, by omega⟩, ?_, fun q3 => ?_, fun q3 => ?_, ?_, ?_, ?_⟩
      · rw [a4, if_pos rfl]
      · have p := hprev q3
        rw [if_neg (ne _ _ p.1 p.2)]
        exact (d _ _ p.1 p.2).1.2
      · rw [if_neg (hpred q3).1]
        obtain ⟨m2, i2, p1, p2, p3⟩ := (hpred q3).2
        rw [← p3]
        exact (d m2 i2 p1 p2).1.2
      · rw [a1, if_pos rfl, eB m' i' q1' (Or.inr ⟨rfl, rfl⟩), hb]
      · rw [a3, if_pos rfl]
      · rw [a1, if_pos rfl]; exact hbb
    · have q2' : i' < τ (t + 6) m' := by
        rw [am] at q2
        by_cases e2 : m' = m
        · rw [if_pos e2] at q2
          subst e2
          have : i' ≠ i0 := fun e3 => e ⟨rfl, e3⟩
          omega
        · rw [if_neg e2] at q2; exact q2
      have dd := d m' i' q1' q2'
      have ns := ne m' i' q1' q2'
      unfold DIs at dd
      obtain ⟨x1, x2, x3, x4, x5, x6, x7⟩ := dd
      simp only [if_neg ns]
      refine ⟨⟨by omega, by omega⟩, ?_, fun q3 => ?_, fun q3 => ?_, ?_, ?_, ?_⟩
      · rw [a4, if_neg (by omega)]; exact x2
      · rw [if_neg (ne m' (i' - 1) ⟨q1'.1, q1'.2.1, by omega, by have := q1'.2.2.2; omega⟩ (by omega))]
        exact x3 q3
      · have hle : τ (57 + m') i' % 10 ≤ τ (t + 5) (τ (57 + m') i' / 10) := by have := (c3 m' i' q1').mp q2'; omega
        rw [if_neg (nep m' i' q1' hle q3).1]
        exact x4 q3
      · rw [a1, if_neg ns, eB m' i' q1' (Or.inl q2'), x5]
      · rw [a3, if_neg ns]; exact x6
      · rw [a1, if_neg ns]; exact x7
  · rw [a6] at q2
    by_cases e : q = τ t 6
    · subst e
      refine ⟨m, i0, (eO m i0).mpr hi, ?_, ?_, ?_⟩
      · rw [am, if_pos rfl]; omega
      · rw [er m hi.1, a4, if_pos rfl, hs]
      · dsimp only
        rw [er m hi.1, ← hs, if_pos rfl]
    · obtain ⟨m', i', p1, p2, p3, p4⟩ := sq q q1 (by omega)
      refine ⟨m', i', (eO m' i').mpr p1, ?_, ?_, ?_⟩
      · rw [am]; by_cases e2 : m' = m
        · rw [if_pos e2]; omega
        · rw [if_neg e2]; exact p2
      · rw [er m' p1.1, a4, if_neg e]; exact p3
      · dsimp only
        rw [er m' p1.1, if_neg (ne m' i' p1 p2)]; exact p4
  · clear g2 hpred nep
    rw [ag]; omega
  · clear g2 hpred nep
    have q1' := (eO m' i').mp q1
    rw [er m' q1'.1, ag, a1, e7]
    by_cases e : τ (57 + m') i' = s
    · rw [if_pos e, e]; omega
    · rw [if_neg e]
      have q2' : i' < τ (t + 6) m' := by
        rw [am] at q2
        by_cases e2 : m' = m
        · rw [if_pos e2] at q2
          subst e2
          have : i' ≠ i0 := fun e3 => e (by rw [e3, hs])
          omega
        · rw [if_neg e2] at q2; exact q2
      have := g1 m' i' q1' q2'
      omega
  · clear hpred nep
    rw [ag]
    by_cases e : τ t 1 ≤ b + τ 7 s
    · clear g2
      right
      refine ⟨m, i0, (eO m i0).mpr hi, ?_, ?_⟩
      · rw [am, if_pos rfl]; omega
      · rw [er m hi.1, a1, e7, ← hs, if_pos rfl]; omega
    · rcases g2 with g2 | ⟨m', i', p1, p2, p3⟩
      · have := (hN.2.2.2.1 s hsb.1 hsb.2.1).2; omega
      · right
        refine ⟨m', i', (eO m' i').mpr p1, ?_, ?_⟩
        · rw [am]; by_cases e2 : m' = m
          · rw [if_pos e2]; omega
          · rw [if_neg e2]; exact p2
        · rw [er m' p1.1, a1, e7, if_neg (ne m' i' p1 p2)]; omega
theorem SE_AO {M : Nat} {a b : Mem} (h : SE a b) (hN : WN M a) (g : AO a) : AO b := by
  intro s hs
  have hv := (SE_VS h s).mpr hs
  obtain ⟨i, q1, q2, q3⟩ := g s hv
  have hb := VS_in hN.1 hv
  have hm := (hN.2.2.2.1 s hb.1 hb.2.1).1.1
  have e6 := h 6 (by omega)
  have e10 := h 10 (by omega)
  refine ⟨i, q1, ?_, ?_⟩
  · rw [← e10, ← e6]; exact q2
  · rw [← e6, ← SE_row h hm]; exact q3
/-- the next step of no machine is ready -/
def NR (M : Nat) (t : Int) (τ : Mem) (w : Int) : Prop := ∀ m : Int, 0 ≤ m → m < w → τ (t + 6) m < τ 10 m → τ (t + 5) (τ (57 + m) (τ (t + 6) m) / 10) ≠ τ (57 + m) (τ (t + 6) m) % 10
theorem blk (c : Int) (h0 : 0 ≤ c) (h1 : c ≤ 6) (f : Int → Int) (b : Int) (hf : ∀ p : Int, 0 ≤ p → p < 10 → f (b + p) = if p < c then 1 else 0) (n : Nat) (hn : b = n) : sumN f 0 (n + 10) = sumN f 0 n + c := by
  have e : ∀ k : Nat, k < 10 → f (0 + ((n + k : Nat) : Int)) = if (k : Int) < c then 1 else 0 := fun k hk => by
    rw [← hf k (by omega) (by omega)]
    congr 1
    omega
  have e0 := e 0 (by omega)
  have e1 := e 1 (by omega)
  have e2 := e 2 (by omega)
  have e3 := e 3 (by omega)
  have e4 := e 4 (by omega)
  have e5 := e 5 (by omega)
  have e6 := e 6 (by omega)
  have e7 := e 7 (by omega)
  have e8 := e 8 (by omega)
  have e9 := e 9 (by omega)
  show sumN f 0 n + f (0 + ((n + 0 : Nat) : Int)) + f (0 + ((n + 1 : Nat) : Int)) + f (0 + ((n + 2 : Nat) : Int)) + f (0 + ((n + 3 : Nat) : Int)) + f (0 + ((n + 4 : Nat) : Int)) + f (0 + ((n + 5 : Nat) : Int)) + f (0 + ((n + 6 : Nat) : Int)) + f (0 + ((n + 7 : Nat) : Int)) + f (0 + ((n + 8 : Nat) : Int)) + f (0 + ((n + 9 : Nat) : Int)) = _
  rw [e0, e1, e2, e3, e4, e5, e6, e7, e8, e9]
  omega
/-- how many steps there are, counted by their numbers -/
theorem count80 {c : Int → Int} (h : ∀ j : Int, 0 ≤ j → j < 8 → 0 ≤ c j ∧ c j ≤ 6) : sumI (fun s => if s % 10 < c (s / 10) then 1 else 0) 0 80 = sumI c 0 8 := by
  have key : ∀ n : Nat, n ≤ 8 → sumN (fun s => if s % 10 < c (s / 10) then 1 else 0) 0 (10 * n) = sumN c 0 n := by
    intro n
    induction n with
    | zero => intro _; rfl
    | succ n ih =>
      intro hn
      have hc := h n (by omega) (by omega)
      rw [show 10 * (n + 1) = 10 * n + 10 by omega, blk (c n) hc.1 hc.2 _ (10 * (n : Int)) (fun p h1 h2 => ?_) (10 * n) (by omega), ih (by omega)]
      · show sumN c 0 n + c n = sumN c 0 n + c (0 + (n : Int))
        rw [Int.zero_add]
      · rw [show (10 * (n : Int) + p) % 10 = p by omega, show (10 * (n : Int) + p) / 10 = n by omega]
  exact key 8 (by omega)
theorem WF_AO {M : Nat} {a : Mem} (h : WF M a) (g : a 1 2 ≤ a 1 3) : AO a := by
  obtain ⟨hN, hO, h1, h2, h3, h4, h5⟩ := h
  have hle : ∀ s : Int, 0 ≤ s → s < 80 → a 8 s ≤ if s % 10 < a 5 (s / 10) then 1 else 0 := by
    intro s q1 q2
    rcases h1 s q1 q2 with e | ⟨e, v⟩
    · rw [e]; split <;> omega
    · rw [e, if_pos v.2.2]; omega
  have e := count80 hN.1.2.2.2.2.1
  rw [h3, h4, ← e] at g
  have key := sumI_eq hle g
  intro s hs
  have hb := VS_in hN.1 hs
  have := key s hb.1 hb.2.1
  rw [if_pos hs.2.2] at this
  exact h2 s hs this
def drD (t : Int) (τ : Mem) (s : Int) : Prop := s % 10 < τ (t + 5) (s / 10)
theorem DI_PP {M : Nat} {t : Int} {rk : Int → Int} {τ : Mem} (hN : WN M τ) (hO : WO M τ) (h : DI M t rk τ) : PP M τ (drD t τ) (τ (t + 1)) rk := by
  intro m i hi hd
  obtain ⟨⟨c1, c2, c3, c4⟩, d, sq, g⟩ := id h
  have hlt := (c3 m i hi).mpr hd
  have hc := DIc_cnt hN.1 h.1
  obtain ⟨x1, x2, x3, x4, x5, x6, x7⟩ := d m i hi hlt
  refine ⟨⟨x1.1, by omega⟩, fun q => ⟨?_, x3 q⟩, fun q => ⟨?_, x4 q⟩, x5⟩
  · have hi' : inO M τ m (i - 1) := ⟨hi.1, hi.2.1, by omega, by have := hi.2.2.2; omega⟩
    exact (c3 m (i - 1) hi').mp (by omega)
  · have hb := VS_in hN.1 (inO_VS hN hO hi).1
    unfold drD at hd ⊢
    rw [show (τ (57 + m) i - 1) / 10 = τ (57 + m) i / 10 by omega]
    omega
theorem NR_MX {M : Nat} {t : Int} {τ : Mem} (hN : WN M τ) (hO : WO M τ) (h : DIc M t τ) (g : NR M t τ M) : MX M τ (drD t τ) := by
  intro m i hi hn
  obtain ⟨c1, c2, c3, c4⟩ := h
  have hge : ¬ i < τ (t + 6) m := fun q => hn ((c3 m i hi).mp q)
  have hb := VS_in hN.1 (inO_VS hN hO hi).1
  by_cases e : i = τ (t + 6) m
  · right
    have := g m hi.1 hi.2.1 (by rw [← e]; exact hi.2.2.2)
    rw [← e] at this
    have h5 := c1 (τ (57 + m) i / 10) (by omega) (by omega)
    unfold drD at hn ⊢
    refine ⟨by omega, ?_⟩
    rw [show (τ (57 + m) i - 1) / 10 = τ (57 + m) i / 10 by omega]
    omega
  · left
    have := c2 m hi.1 hi.2.1
    have hi' : inO M τ m (i - 1) := ⟨hi.1, hi.2.1, by omega, by have := hi.2.2.2; omega⟩
    refine ⟨by omega, fun q => ?_⟩
    have := (c3 m (i - 1) hi').mpr q
    omega
theorem DI_SPN {M : Nat} {t : Int} {rk : Int → Int} {τ : Mem} (hN : WN M τ) (hO : WO M τ) (hA : AO τ) (h : DI M t rk τ) : SPN τ (drD t τ) (τ (t + 1)) (τ t 1) := by
  obtain ⟨⟨c1, c2, c3, c4⟩, d, sq, g0, g1, g2⟩ := id h
  refine ⟨g0, fun s hs hd => ?_, ?_⟩
  · obtain ⟨m, i, hi, e, -⟩ := VS_inO hN hA hs
    have hlt := (c3 m i hi).mpr (by rw [e]; exact hd)
    have := g1 m i hi hlt
    rw [e] at this
    exact this
  · rcases g2 with g2 | ⟨m, i, p1, p2, p3⟩
    · exact Or.inl g2
    · exact Or.inr ⟨_, (inO_VS hN hO p1).1, (c3 m i p1).mp p2, p3⟩

/-! X2_drawWhatIsReady -/
def pre_X2_drawWhatIsReady (M : Nat) (t : Int) (σ : Mem) : Prop := WN M σ ∧ WO M σ ∧ AO σ ∧ ∃ rk, DI M t rk σ
def post_X2_drawWhatIsReady (M : Nat) (t : Int) (σ σ' : Mem) : Prop := FR t σ σ' ∧ (∃ rk, DI M t rk σ') ∧ σ t 6 ≤ σ' t 6 ∧ (σ' t 6 = σ t 6 → NR M t σ' M)
def inv_X2_drawWhatIsReady_2 (M : Nat) (t : Int) (σ : Mem) (w1 : Int) (τ : Mem) : Prop := 0 ≤ w1 ∧ w1 ≤ M ∧ FR t σ τ ∧ (∃ rk, DI M t rk τ) ∧ σ t 6 ≤ τ t 6 ∧ (τ t 6 = σ t 6 → NR M t τ w1)
def mu_X2_drawWhatIsReady_2 (t : Int) (w1 : Int) (τ : Mem) : Nat := ((5 - w1) * 100 + 99).toNat
def inv_X2_drawWhatIsReady_41 (M : Nat) (t : Int) (σ : Mem) (w1 w3 w4 : Int) (τ : Mem) : Prop := 0 ≤ w1 ∧ w1 < M ∧ w3 = τ 10 w1 ∧ w4 = τ (t + 6) w1 ∧ FR t σ τ ∧ (∃ rk, DI M t rk τ) ∧ σ t 6 ≤ τ t 6 ∧ (τ t 6 = σ t 6 → NR M t τ w1)
def mu_X2_drawWhatIsReady_41 (t : Int) (w1 w3 w4 : Int) (τ : Mem) : Nat := ((5 - w1) * 100 + (w3 - w4)).toNat
def VC_X2_drawWhatIsReady_0 (M : Nat) (K2 : Int → Mem → Prop) (post : Mem → Prop) (t : Int) (σ : Mem) : Prop :=
  K2 0 σ
set_option maxRecDepth 20000 in
set_option maxHeartbeats 4000000 in
theorem seg_X2_drawWhatIsReady_0 {G : GG} {X : XX} {post : Mem → Prop} (C : CX G X cX2_drawWhatIsReady RX2 5 none 2) {t : Int} (ht : t = 12 ∨ t = 19)  (σ : Mem) (vc : VC_X2_drawWhatIsReady_0 (gM G) (fun w1 σ => RW G X 5 (QV G X post) 2 [(0, pR t), (1, pI w1)] [] σ) post t  σ) : RW G X 5 (QV G X post) 0 [(0, pR t)] [] σ := by
  unfold VC_X2_drawWhatIsReady_0 at vc
  refine w_iconst C dX2_drawWhatIsReady_0 ?_
  refine w_istore_n C [(1, pI 0), (0, pR t)] dX2_drawWhatIsReady_1 (by decide) rfl ?_
  exact w_sub _ [1, 0] rfl vc
def VC_X2_drawWhatIsReady_2 (M : Nat) (K41 : Int → Int → Int → Mem → Prop) (post : Mem → Prop) (t : Int) (w1 : Int) (σ : Mem) : Prop :=
 (inR w1 ∧ inR (σ 1 0)) ∧ (((σ 1 0) ≤ w1 → post σ) ∧ (w1 < (σ 1 0) → (0 ≤ w1 ∧ w1 < M) ∧ (0 ≤ w1 ∧ w1 < M) ∧ ∀ v8 : Int, v8 = σ 10 w1 → (0 ≤ w1 ∧ w1 < 5) ∧ ∀ v11 : Int, v11 = σ (t + 6) w1 → K41 w1 v8 v11 σ))
set_option maxRecDepth 20000 in
set_option maxHeartbeats 4000000 in
theorem seg_X2_drawWhatIsReady_2 {G : GG} {X : XX} {post : Mem → Prop} (C : CX G X cX2_drawWhatIsReady RX2 5 none 2) {t : Int} (ht : t = 12 ∨ t = 19) (w1 : Int) (σ : Mem) (vc : VC_X2_drawWhatIsReady_2 (gM G) (fun w1 w3 w4 σ => RW G X 5 (QV G X post) 41 [(0, pR t), (1, pI w1), (2, pR (57 + w1)), (3, pI w3), (4, pI w4)] [] σ) post t w1 σ) : RW G X 5 (QV G X post) 2 [(0, pR t), (1, pI w1)] [] σ := by
  unfold VC_X2_drawWhatIsReady_2 at vc
  refine w_iload_n C 1 dX2_drawWhatIsReady_2 rfl ?_
  refine w_aload_n C 0 dX2_drawWhatIsReady_3 rfl ?_
  refine w_getR C dX2_drawWhatIsReady_4 gf_X2_37 (ob_t ht) rfl ?_
  refine w_getI C 0 dX2_drawWhatIsReady_7 gf_X2_58 ob_1 rfl rfl ?_
  obtain ⟨⟨sc1, sc2⟩, vc⟩ := vc
  refine w_icmp_ge C 77 dX2_drawWhatIsReady_10 (by decide) sc1 sc2 (fun h3 => ?_) (fun h3 => ?_)
  · have vc := vc.1 h3
    exact w_vreturn C dX2_drawWhatIsReady_77 vc
  · have vc := vc.2 h3
    refine w_aload_n C 0 dX2_drawWhatIsReady_13 rfl ?_
    refine w_getR C dX2_drawWhatIsReady_14 gf_X2_37 (ob_t ht) rfl ?_
    refine w_getR C dX2_drawWhatIsReady_17 gf_X2_61 ob_1 rfl ?_
    refine w_iload_n C 1 dX2_drawWhatIsReady_20 rfl ?_
    obtain ⟨⟨sc4, sc5⟩, vc⟩ := vc
    refine w_aald C dX2_drawWhatIsReady_21 (ra_9 C.gi) sc4 sc5 ?_
    refine w_astore_n C [(2, pR (57 + w1)), (0, pR t), (1, pI w1)] dX2_drawWhatIsReady_22 (by decide) rfl ?_
    refine w_aload_n C 1 dX2_drawWhatIsReady_23 rfl ?_
    refine w_getR C dX2_drawWhatIsReady_24 gf_X2_37 (ob_t ht) rfl ?_
    refine w_getR C dX2_drawWhatIsReady_27 gf_X2_65 ob_1 rfl ?_
    refine w_iload_n C 2 dX2_drawWhatIsReady_30 rfl ?_
    obtain ⟨⟨sc6, sc7⟩, vc⟩ := vc
    refine w_iald C dX2_drawWhatIsReady_31 (ia_10 C.gi) sc6 sc7 ?_
    refine w_top (fun v8 hv8 => ?_)
    have vc := vc v8 hv8
    refine w_istore_n C [(3, pI v8), (2, pR (57 + w1)), (0, pR t), (1, pI w1)] dX2_drawWhatIsReady_32 (by decide) rfl ?_
    refine w_aload_n C 2 dX2_drawWhatIsReady_33 rfl ?_
    refine w_getR C dX2_drawWhatIsReady_34 gf_X2_34 (ob_t ht) rfl ?_
    refine w_iload_n C 3 dX2_drawWhatIsReady_37 rfl ?_
    obtain ⟨⟨sc9, sc10⟩, vc⟩ := vc
    refine w_iald C dX2_drawWhatIsReady_38 (ia_t6 ht) sc9 sc10 ?_
    refine w_top (fun v11 hv11 => ?_)
    have vc := vc v11 hv11
    refine w_istore C [(4, pI v11), (3, pI v8), (2, pR (57 + w1)), (0, pR t), (1, pI w1)] dX2_drawWhatIsReady_39 (by decide) rfl ?_
    exact w_sub _ [3, 4, 2, 1, 0] rfl vc
def VC_X2_drawWhatIsReady_41 (M : Nat) (K2 : Int → Mem → Prop) (K41 : Int → Int → Int → Mem → Prop) (post : Mem → Prop) (t : Int) (w1 : Int) (w3 : Int) (w4 : Int) (σ : Mem) : Prop :=
 (0 ≤ w1 ∧ w1 < M) ∧ (inR w4 ∧ inR w3) ∧ ((w3 ≤ w4 → K2 (w1 + 1) σ) ∧ (w4 < w3 → (0 ≤ w4 ∧ w4 < 48) ∧ (pre_X2_isReady M t (σ (57 + w1) w4) σ) ∧ ((P_X2_isReady t (σ (57 + w1) w4) σ → (pre_X2_drawStep M t w1 w4 σ) ∧ ∀ s9 : Mem, s9 = m_X2_drawStep t w1 w4 σ → K41 w1 w3 (w4 + 1) s9) ∧ (¬ P_X2_isReady t (σ (57 + w1) w4) σ → K2 (w1 + 1) σ))))
set_option maxRecDepth 20000 in
set_option maxHeartbeats 4000000 in
theorem seg_X2_drawWhatIsReady_41 {G : GG} {X : XX} {post : Mem → Prop} (C : CX G X cX2_drawWhatIsReady RX2 5 none 2) {t : Int} (ht : t = 12 ∨ t = 19) (w1 : Int) (w3 : Int) (w4 : Int) (σ : Mem) (vc : VC_X2_drawWhatIsReady_41 (gM G) (fun w1 σ => RW G X 5 (QV G X post) 2 [(0, pR t), (1, pI w1)] [] σ) (fun w1 w3 w4 σ => RW G X 5 (QV G X post) 41 [(0, pR t), (1, pI w1), (2, pR (57 + w1)), (3, pI w3), (4, pI w4)] [] σ) post t w1 w3 w4 σ) : RW G X 5 (QV G X post) 41 [(0, pR t), (1, pI w1), (2, pR (57 + w1)), (3, pI w3), (4, pI w4)] [] σ := by
  unfold VC_X2_drawWhatIsReady_41 at vc
  obtain ⟨⟨r2a, r2b⟩, vc⟩ := vc
  refine w_iload C 4 dX2_drawWhatIsReady_41 rfl ?_
  refine w_iload_n C 3 dX2_drawWhatIsReady_43 rfl ?_
  obtain ⟨⟨sc1, sc2⟩, vc⟩ := vc
  refine w_icmp_ge C 71 dX2_drawWhatIsReady_44 (by decide) sc1 sc2 (fun h3 => ?_) (fun h3 => ?_)
  · have vc := vc.1 h3
    refine w_iinc C 1 [(1, pI (w1 + 1)), (0, pR t), (2, pR (57 + w1)), (3, pI w3), (4, pI w4)] dX2_drawWhatIsReady_71 rfl (by decide) rfl ?_
    refine w_goto C 2 dX2_drawWhatIsReady_74 (by decide) ?_
    exact w_sub _ [1, 0] rfl vc
  · have vc := vc.2 h3
    refine w_aload_n C 0 dX2_drawWhatIsReady_47 rfl ?_
    refine w_aload_n C 2 dX2_drawWhatIsReady_48 rfl ?_
    refine w_iload C 4 dX2_drawWhatIsReady_49 rfl ?_
    obtain ⟨⟨sc4, sc5⟩, vc⟩ := vc
    refine w_iald C dX2_drawWhatIsReady_51 (ia_row r2a r2b) sc4 sc5 ?_
    obtain ⟨sc6, vc⟩ := vc
    refine w_callVI C [pI (σ (57 + w1) w4)] [] rfl dX2_drawWhatIsReady_52 (c_X2_isReady C.gi (xL X) t (σ (57 + w1) w4) σ ht sc6) (oc_t ht) mw_X2_isReady ml_X2_68 im_X2_isReady se_X2_isReady (by decide) (Nat.le_of_ble_eq_true rfl) (fun z σ' hz => ?_)
    obtain ⟨hz2, hz⟩ := hz
    have hz2 := hz2.symm
    subst hz2
    rcases hz with ⟨h7, rfl⟩ | ⟨h7, rfl⟩
    · have vc := vc.1 h7
      refine w_if_eq C 71 dX2_drawWhatIsReady_55 (by decide) ⟨by omega, by omega⟩ (fun q => absurd q (by decide)) (fun _ => ?_)
      refine w_aload_n C 0 dX2_drawWhatIsReady_58 rfl ?_
      refine w_iload_n C 1 dX2_drawWhatIsReady_59 rfl ?_
      refine w_iload C 4 dX2_drawWhatIsReady_60 rfl ?_
      obtain ⟨sc8, vc⟩ := vc
      refine w_callVV C [pI w1, pI w4] [] rfl dX2_drawWhatIsReady_62 (c_X2_drawStep C.gi (xL X) t w1 w4 σ ht sc8) (oc_t ht) mw_X2_drawStep ml_X2_72 im_X2_drawStep se_X2_drawStep (by decide) (Nat.le_of_ble_eq_true rfl) (fun s9 hs9 => ?_)
      have vc := vc s9 hs9
      refine w_iinc C 4 [(4, pI (w4 + 1)), (0, pR t), (1, pI w1), (2, pR (57 + w1)), (3, pI w3)] dX2_drawWhatIsReady_65 rfl (by decide) rfl ?_
      refine w_goto C 41 dX2_drawWhatIsReady_68 (by decide) ?_
      exact w_sub _ [1, 2, 3, 4, 0] rfl vc
    · have vc := vc.2 h7
      refine w_if_eq C 71 dX2_drawWhatIsReady_55 (by decide) ⟨by omega, by omega⟩ (fun _ => ?_) (fun q => absurd q (by decide))
      refine w_iinc C 1 [(1, pI (w1 + 1)), (0, pR t), (2, pR (57 + w1)), (3, pI w3), (4, pI w4)] dX2_drawWhatIsReady_71 rfl (by decide) rfl ?_
      refine w_goto C 2 dX2_drawWhatIsReady_74 (by decide) ?_
      exact w_sub _ [1, 0] rfl vc
set_option maxHeartbeats 1000000 in
theorem ok_X2_drawWhatIsReady_0 {M : Nat} {t : Int} {σ : Mem} {K2 : Int → Mem → Prop} (ht : t = 12 ∨ t = 19) (h : pre_X2_drawWhatIsReady M t σ) (hK2 : ∀ (y1 : Int) (τ' : Mem), inv_X2_drawWhatIsReady_2 M t σ y1 τ' → K2 y1 τ') : VC_X2_drawWhatIsReady_0 M K2 (post_X2_drawWhatIsReady M t σ) t σ := by
  obtain ⟨hN, hO, hA, hD⟩ := h
  have := hN.1.2.1
  exact hK2 _ _ ⟨by omega, by omega, FR.refl t σ, hD, Int.le_refl _, fun _ m q1 q2 => by omega⟩
set_option maxHeartbeats 1000000 in
theorem ok_X2_drawWhatIsReady_2 {M : Nat} {t : Int} {σ : Mem} {w1 : Int} {τ : Mem} {K41 : Int → Int → Int → Mem → Prop} (ht : t = 12 ∨ t = 19) (h : pre_X2_drawWhatIsReady M t σ) (hinv : inv_X2_drawWhatIsReady_2 M t σ w1 τ) (hK41 : ∀ (y1 y3 y4 : Int) (τ' : Mem), inv_X2_drawWhatIsReady_41 M t σ y1 y3 y4 τ' → mu_X2_drawWhatIsReady_41 t y1 y3 y4 τ' < mu_X2_drawWhatIsReady_2 t w1 τ → K41 y1 y3 y4 τ') : VC_X2_drawWhatIsReady_2 M K41 (post_X2_drawWhatIsReady M t σ) t w1 τ := by
  obtain ⟨hN, hO, hA, hD0⟩ := h
  obtain ⟨i1, i2, hF, ⟨rk, hD⟩, i3, i4⟩ := hinv
  have hM : M ≤ 5 := hN.1.2.2.1
  have hN' := SE_WN (hF.SE ht) hN
  have e1 : τ 1 0 = M := hN'.1.1
  refine ⟨⟨⟨by omega, by omega⟩, ⟨by omega, by omega⟩⟩, fun g => ⟨hF, ⟨rk, hD⟩, i3, fun e => ?_⟩, fun g => ?_⟩
  · have : w1 = M := by omega
    rw [← this]
    exact i4 e
  · refine ⟨⟨i1, by omega⟩, ⟨i1, by omega⟩, fun v8 e8 => ⟨⟨i1, by omega⟩, fun v11 e11 => hK41 _ _ _ _ ⟨i1, by omega, e8, e11, hF, ⟨rk, hD⟩, i3, i4⟩ ?_⟩⟩
    have h10 := hN'.1.2.2.2.2.2 w1 i1 (by omega)
    have h6 := hD.1.2.1 w1 i1 (by omega)
    unfold mu_X2_drawWhatIsReady_41 mu_X2_drawWhatIsReady_2
    omega
set_option maxHeartbeats 1000000 in
theorem ok_X2_drawWhatIsReady_41 {M : Nat} {t : Int} {σ : Mem} {w1 w3 w4 : Int} {τ : Mem} {K2 : Int → Mem → Prop} {K41 : Int → Int → Int → Mem → Prop} (ht : t = 12 ∨ t = 19) (h : pre_X2_drawWhatIsReady M t σ) (hinv : inv_X2_drawWhatIsReady_41 M t σ w1 w3 w4 τ) (hK2 : ∀ (y1 : Int) (τ' : Mem), inv_X2_drawWhatIsReady_2 M t σ y1 τ' → mu_X2_drawWhatIsReady_2 t y1 τ' < mu_X2_drawWhatIsReady_41 t w1 w3 w4 τ → K2 y1 τ') (hK41 : ∀ (y1 y3 y4 : Int) (τ' : Mem), inv_X2_drawWhatIsReady_41 M t σ y1 y3 y4 τ' → mu_X2_drawWhatIsReady_41 t y1 y3 y4 τ' < mu_X2_drawWhatIsReady_41 t w1 w3 w4 τ → K41 y1 y3 y4 τ') : VC_X2_drawWhatIsReady_41 M K2 K41 (post_X2_drawWhatIsReady M t σ) t w1 w3 w4 τ := by
  obtain ⟨hN, hO, hA, hD0⟩ := h
  obtain ⟨i1, i2, rfl, rfl, hF, ⟨rk, hD⟩, i3, i4⟩ := hinv
  have hM : M ≤ 5 := hN.1.2.2.1
  have hN' := SE_WN (hF.SE ht) hN
  have hO' := SE_WO (hF.SE ht) hO
  have hA' := SE_AO (hF.SE ht) hN hA
  have h10 := hN'.1.2.2.2.2.2 w1 i1 (by omega)
  have h6 := hD.1.2.1 w1 i1 (by omega)
  refine ⟨⟨i1, i2⟩, ⟨⟨by omega, by omega⟩, ⟨by omega, by omega⟩⟩, fun g => ?_, fun g => ⟨⟨by omega, by omega⟩, ?_, fun g2 => ⟨?_, fun s9 e9 => ?_⟩, fun g2 => ?_⟩⟩
  · refine hK2 _ _ ⟨by omega, by omega, hF, ⟨rk, hD⟩, i3, fun e m q1 q2 q3 => ?_⟩ ?_
    · by_cases em : m = w1
      · subst em; omega
      · exact i4 e m q1 (by omega) q3
    · unfold mu_X2_drawWhatIsReady_41 mu_X2_drawWhatIsReady_2
      omega
  · have hb := VS_in hN'.1 (inO_VS hN' hO' (m := w1) (i := τ (t + 6) w1) ⟨i1, i2, h6.1, g⟩).1
    have h5 := hD.1.1 (τ (57 + w1) (τ (t + 6) w1) / 10) (by omega) (by omega)
    have h5' := hN'.1.2.2.2.2.1 (τ (57 + w1) (τ (t + 6) w1) / 10) (by omega) (by omega)
    exact ⟨by omega, by omega, by omega, by omega⟩
  · have hi : inO M τ w1 (τ (t + 6) w1) := ⟨i1, i2, h6.1, g⟩
    have hD' := DI_step ht hN' hO' hA' hD hi g2
    have hcn := DIc_cnt (SE_SB ((drawStep_acc ht w1 (τ (t + 6) w1) τ).1.SE ht) hN'.1) hD'.1
    rw [(drawStep_acc ht w1 (τ (t + 6) w1) τ).2.2.2.2.1] at hcn
    have hcn0 := DIc_cnt hN'.1 hD.1
    have hsp := DI_span hN' hO' hD
    refine ⟨hN', hO', hi, ⟨hcn0.1, by omega⟩, ⟨hsp.1, by omega⟩, fun q => ?_, fun q => ?_⟩
    · have hv := (inO_VS hN' hO' hi).1
      have hb := VS_in hN'.1 hv
      obtain ⟨m2, i2', p1, p2, -⟩ := VS_inO hN' hA' (VS_pred hN' hv q)
      have lt := (hD.1.2.2.1 m2 i2' p1).mpr (by
        rw [p2, show (τ (57 + w1) (τ (t + 6) w1) - 1) / 10 = τ (57 + w1) (τ (t + 6) w1) / 10 by omega]
        have : τ (t + 5) (τ (57 + w1) (τ (t + 6) w1) / 10) = τ (57 + w1) (τ (t + 6) w1) % 10 := g2
        omega)
      have dd := hD.2.1 m2 i2' p1 lt
      unfold DIs at dd
      rw [p2] at dd
      omega
    · have dd := hD.2.1 w1 (τ (t + 6) w1 - 1) ⟨i1, i2, by omega, by omega⟩ (by omega)
      unfold DIs at dd
      omega
  · have hi : inO M τ w1 (τ (t + 6) w1) := ⟨i1, i2, h6.1, g⟩
    have hD' := DI_step ht hN' hO' hA' hD hi g2
    obtain ⟨aF, a1, a3, ag, a6, a4, a5, am⟩ := drawStep_acc ht w1 (τ (t + 6) w1) τ
    rw [← e9] at hD' aF a6 am
    refine hK41 _ _ _ _ ⟨i1, i2, ?_, ?_, hF.trans aF, ⟨_, hD'⟩, by omega, fun e => by omega⟩ ?_
    · rw [aF 10 (by omega)]
    · rw [am, if_pos rfl]
    · unfold mu_X2_drawWhatIsReady_41
      omega
  · refine hK2 _ _ ⟨by omega, by omega, hF, ⟨rk, hD⟩, i3, fun e m q1 q2 q3 => ?_⟩ ?_
    · by_cases em : m = w1
      · subst em; exact g2
      · exact i4 e m q1 (by omega) q3
    · unfold mu_X2_drawWhatIsReady_41 mu_X2_drawWhatIsReady_2
      omega
theorem c_X2_drawWhatIsReady {G : GG} (hG : GI G) (l : Launch) (t : Int) (σ : Mem) (ht : t = 12 ∨ t = 19) (h : pre_X2_drawWhatIsReady (gM G) t σ) : CtV G l yX2_drawWhatIsReady cX2_drawWhatIsReady 5 none 2 [pR t] σ (post_X2_drawWhatIsReady (gM G) t σ) := by
  refine CtV.of hG (by decide) (Nat.le_of_ble_eq_true rfl) (fun X hl C => ?_)
  show RW G X 5 (QV G X _) 0 [(0, pR t)] [] σ
  have key : ∀ n : Nat, (∀ (w1 : Int) (τ : Mem), inv_X2_drawWhatIsReady_2 (gM G) t σ w1 τ → mu_X2_drawWhatIsReady_2 t w1 τ < n → RW G X 5 (QV G X (post_X2_drawWhatIsReady (gM G) t σ)) 2 [(0, pR t), (1, pI w1)] [] τ) ∧ (∀ (w1 w3 w4 : Int) (τ : Mem), inv_X2_drawWhatIsReady_41 (gM G) t σ w1 w3 w4 τ → mu_X2_drawWhatIsReady_41 t w1 w3 w4 τ < n → RW G X 5 (QV G X (post_X2_drawWhatIsReady (gM G) t σ)) 41 [(0, pR t), (1, pI w1), (2, pR (57 + w1)), (3, pI w3), (4, pI w4)] [] τ) := by
    intro n
    induction n with
    | zero => exact ⟨fun w1 τ _ h0 => absurd h0 (Nat.not_lt_zero _), fun w1 w3 w4 τ _ h0 => absurd h0 (Nat.not_lt_zero _)⟩
    | succ n ih =>
      exact ⟨(fun w1 τ hinv h0 => seg_X2_drawWhatIsReady_2 C ht w1 τ (ok_X2_drawWhatIsReady_2 ht h hinv (fun y1 y3 y4 τ' hi hm => ih.2 y1 y3 y4 τ' hi (Nat.lt_of_lt_of_le hm (Nat.le_of_lt_succ h0))))), (fun w1 w3 w4 τ hinv h0 => seg_X2_drawWhatIsReady_41 C ht w1 w3 w4 τ (ok_X2_drawWhatIsReady_41 ht h hinv (fun y1 τ' hi hm => ih.1 y1 τ' hi (Nat.lt_of_lt_of_le hm (Nat.le_of_lt_succ h0))) (fun y1 y3 y4 τ' hi hm => ih.2 y1 y3 y4 τ' hi (Nat.lt_of_lt_of_le hm (Nat.le_of_lt_succ h0)))))⟩
  exact seg_X2_drawWhatIsReady_0 C ht σ (ok_X2_drawWhatIsReady_0 ht h (fun y1 τ' hi => (key _).1 y1 τ' hi (Nat.lt_succ_self _)))

/-! X2_draw -/
def pre_X2_draw (M : Nat) (t : Int) (σ : Mem) : Prop := WF M σ
def post_X2_draw (M : Nat) (t : Int) (σ : Mem) (z : Int) (σ' : Mem) : Prop := (z = 1 ∧ σ 1 3 < σ 1 2 ∧ σ' = σ) ∨ (σ 1 2 ≤ σ 1 3 ∧ FR t σ σ' ∧ ∃ rk, DI M t rk σ' ∧ ((z = 0 ∧ ∀ j : Int, 0 ≤ j → j < 8 → σ' (t + 5) j = σ' 5 j) ∨ (z = 2 ∧ NR M t σ' M ∧ σ' t 6 ≠ σ' 1 2)))
def inv_X2_draw_49 (M : Nat) (t : Int) (σ : Mem) (w1 w2 : Int) (τ : Mem) : Prop := σ 1 2 ≤ σ 1 3 ∧ (w1 = 0 ∨ w1 = 1) ∧ 0 ≤ w2 ∧ w2 ≤ 48 ∧ FR t σ τ ∧ (∃ rk, DI M t rk τ) ∧ (w1 = 1 → w2 ≤ τ t 6) ∧ (w1 = 0 → NR M t τ M)
def mu_X2_draw_49 (t : Int) (w1 w2 : Int) (τ : Mem) : Nat := (49 - w2).toNat
theorem steps_in {M : Nat} {σ : Mem} (h : WF M σ) : 0 ≤ σ 1 2 ∧ σ 1 2 ≤ 48 ∧ 0 ≤ σ 1 3 ∧ σ 1 3 ≤ 80 := by
  obtain ⟨hN, hO, h1, h2, h3, h4, h5⟩ := h
  have a := sumI_bd (f := fun j => σ 5 j) (lo := 0) (hi := 8) (B := 6) (by omega) (fun j p q => hN.1.2.2.2.2.1 j p q) 8 (by omega)
  have b := sumI_bd (f := fun s => σ 8 s) (lo := 0) (hi := 80) (B := 1) (by omega) (fun s p q => by rcases h1 s p q with e | e <;> omega) 80 (by omega)
  omega
def VC_X2_draw_0 (M : Nat) (K49 : Int → Int → Mem → Prop) (post : Int → Mem → Prop) (t : Int) (σ : Mem) : Prop :=
 (inR (σ 1 3) ∧ inR (σ 1 2)) ∧ (((σ 1 2) ≤ (σ 1 3) → ∀ s4 : Mem, s4 = up σ t 1 0 → ∀ s5 : Mem, s5 = up s4 t 6 0 → (pre_J7_fill_53178 M (t + 5) 8 0 s5) ∧ ∀ s7 : Mem, s7 = m_J7_fill_53178 (t + 5) 8 0 s5 → (pre_J7_fill_53178 M (t + 6) 5 0 s7) ∧ ∀ s9 : Mem, s9 = m_J7_fill_53178 (t + 6) 5 0 s7 → K49 1 0 s9) ∧ ((σ 1 3) < (σ 1 2) → post 1 σ))
set_option maxRecDepth 20000 in
set_option maxHeartbeats 4000000 in
theorem seg_X2_draw_0 {G : GG} {X : XX} {post : Int → Mem → Prop} (C : CX G X cX2_draw RX2 4 (some .int) 3) {t : Int} (ht : t = 12 ∨ t = 19)  (σ : Mem) (vc : VC_X2_draw_0 (gM G) (fun w1 w2 σ => RW G X 4 (QI G X post) 49 [(0, pR t), (1, pI w1), (2, pI w2)] [] σ) post t  σ) : RW G X 4 (QI G X post) 0 [(0, pR t)] [] σ := by
  unfold VC_X2_draw_0 at vc
  refine w_aload_n C 0 dX2_draw_0 rfl ?_
  refine w_getR C dX2_draw_1 gf_X2_37 (ob_t ht) rfl ?_
  refine w_getI C 3 dX2_draw_4 gf_X2_41 ob_1 rfl rfl ?_
  refine w_aload_n C 0 dX2_draw_7 rfl ?_
  refine w_getR C dX2_draw_8 gf_X2_37 (ob_t ht) rfl ?_
  refine w_getI C 2 dX2_draw_11 gf_X2_46 ob_1 rfl rfl ?_
  obtain ⟨⟨sc1, sc2⟩, vc⟩ := vc
  refine w_icmp_ge C 19 dX2_draw_14 (by decide) sc1 sc2 (fun h3 => ?_) (fun h3 => ?_)
  · have vc := vc.1 h3
    refine w_aload_n C 0 dX2_draw_19 rfl ?_
    refine w_iconst C dX2_draw_20 ?_
    refine w_putI C 1 dX2_draw_21 pf_X2_9 (ob_t ht) rfl rfl ?_
    refine w_mem (fun s4 hs4 => ?_)
    have vc := vc s4 hs4
    refine w_aload_n C 0 dX2_draw_24 rfl ?_
    refine w_iconst C dX2_draw_25 ?_
    refine w_putI C 6 dX2_draw_26 pf_X2_28 (ob_t ht) rfl rfl ?_
    refine w_mem (fun s5 hs5 => ?_)
    have vc := vc s5 hs5
    refine w_aload_n C 0 dX2_draw_29 rfl ?_
    refine w_getR C dX2_draw_30 gf_X2_31 (ob_t ht) rfl ?_
    refine w_iconst C dX2_draw_33 ?_
    obtain ⟨sc6, vc⟩ := vc
    refine w_callSV C [pR (t + 5), pI 0] [] rfl dX2_draw_34 (c_J7_fill_53178 C.gi (xL X) (t + 5) 8 0 s5 (ia_t5 ht) sc6) mw_J7_fill_53178 ml_X2_49 ss_J7_fill_53178 (by decide) (Nat.le_of_ble_eq_true rfl) (fun s7 hs7 => ?_)
    have vc := vc s7 hs7
    refine w_aload_n C 0 dX2_draw_37 rfl ?_
    refine w_getR C dX2_draw_38 gf_X2_34 (ob_t ht) rfl ?_
    refine w_iconst C dX2_draw_41 ?_
    obtain ⟨sc8, vc⟩ := vc
    refine w_callSV C [pR (t + 6), pI 0] [] rfl dX2_draw_42 (c_J7_fill_53178 C.gi (xL X) (t + 6) 5 0 s7 (ia_t6 ht) sc8) mw_J7_fill_53178 ml_X2_49 ss_J7_fill_53178 (by decide) (Nat.le_of_ble_eq_true rfl) (fun s9 hs9 => ?_)
    have vc := vc s9 hs9
    refine w_iconst C dX2_draw_45 ?_
    refine w_istore_n C [(1, pI 1), (0, pR t)] dX2_draw_46 (by decide) rfl ?_
    refine w_iconst C dX2_draw_47 ?_
    refine w_istore_n C [(2, pI 0), (1, pI 1), (0, pR t)] dX2_draw_48 (by decide) rfl ?_
    exact w_sub _ [2, 1, 0] rfl vc
  · have vc := vc.2 h3
    refine w_iconst C dX2_draw_17 ?_
    exact w_ireturn C dX2_draw_18 vc
def VC_X2_draw_49 (M : Nat) (K49 : Int → Int → Mem → Prop) (post : Int → Mem → Prop) (t : Int) (w1 : Int) (w2 : Int) (σ : Mem) : Prop :=
 (inR w1) ∧ ((w1 = 0 → (inR (σ t 6) ∧ inR (σ 1 2)) ∧ ((¬ (σ t 6) = (σ 1 2) → post 2 σ) ∧ ((σ t 6) = (σ 1 2) → post 0 σ))) ∧ (¬ w1 = 0 → (inR w2) ∧ ((48 ≤ w2 → (inR (σ t 6) ∧ inR (σ 1 2)) ∧ ((¬ (σ t 6) = (σ 1 2) → post 2 σ) ∧ ((σ t 6) = (σ 1 2) → post 0 σ))) ∧ (w2 < 48 → ∀ v11 : Int, v11 = σ t 6 → (pre_X2_drawWhatIsReady M t σ) ∧ ∀ s13 : Mem, post_X2_drawWhatIsReady M t σ s13 → (inR (s13 t 6) ∧ inR v11) ∧ (((s13 t 6) ≤ v11 → K49 0 (w2 + 1) s13) ∧ (v11 < (s13 t 6) → K49 1 (w2 + 1) s13))))))
set_option maxRecDepth 20000 in
set_option maxHeartbeats 4000000 in
theorem seg_X2_draw_49 {G : GG} {X : XX} {post : Int → Mem → Prop} (C : CX G X cX2_draw RX2 4 (some .int) 3) {t : Int} (ht : t = 12 ∨ t = 19) (w1 : Int) (w2 : Int) (σ : Mem) (vc : VC_X2_draw_49 (gM G) (fun w1 w2 σ => RW G X 4 (QI G X post) 49 [(0, pR t), (1, pI w1), (2, pI w2)] [] σ) post t w1 w2 σ) : RW G X 4 (QI G X post) 49 [(0, pR t), (1, pI w1), (2, pI w2)] [] σ := by
  unfold VC_X2_draw_49 at vc
  refine w_iload_n C 1 dX2_draw_49 rfl ?_
  obtain ⟨sc1, vc⟩ := vc
  refine w_if_eq C 88 dX2_draw_50 (by decide) sc1 (fun h2 => ?_) (fun h2 => ?_)
  · have vc := vc.1 h2
    refine w_aload_n C 0 dX2_draw_88 rfl ?_
    refine w_getI C 6 dX2_draw_89 gf_X2_28 (ob_t ht) rfl rfl ?_
    refine w_aload_n C 0 dX2_draw_92 rfl ?_
    refine w_getR C dX2_draw_93 gf_X2_37 (ob_t ht) rfl ?_
    refine w_getI C 2 dX2_draw_96 gf_X2_46 ob_1 rfl rfl ?_
    obtain ⟨⟨sc3, sc4⟩, vc⟩ := vc
    refine w_icmp_ne C 106 dX2_draw_99 (by decide) sc3 sc4 (fun h5 => ?_) (fun h5 => ?_)
    · have vc := vc.1 h5
      refine w_iconst C dX2_draw_106 ?_
      exact w_ireturn C dX2_draw_107 vc
    · have vc := vc.2 h5
      refine w_iconst C dX2_draw_102 ?_
      refine w_goto C 107 dX2_draw_103 (by decide) ?_
      exact w_ireturn C dX2_draw_107 vc
  · have vc := vc.2 h2
    refine w_iload_n C 2 dX2_draw_53 rfl ?_
    refine w_bipush C dX2_draw_54 (by decide) ?_
    obtain ⟨sc6, vc⟩ := vc
    refine w_icmp_ge C 88 dX2_draw_56 (by decide) sc6 ⟨by omega, by omega⟩ (fun h7 => ?_) (fun h7 => ?_)
    · have vc := vc.1 h7
      refine w_aload_n C 0 dX2_draw_88 rfl ?_
      refine w_getI C 6 dX2_draw_89 gf_X2_28 (ob_t ht) rfl rfl ?_
      refine w_aload_n C 0 dX2_draw_92 rfl ?_
      refine w_getR C dX2_draw_93 gf_X2_37 (ob_t ht) rfl ?_
      refine w_getI C 2 dX2_draw_96 gf_X2_46 ob_1 rfl rfl ?_
      obtain ⟨⟨sc8, sc9⟩, vc⟩ := vc
      refine w_icmp_ne C 106 dX2_draw_99 (by decide) sc8 sc9 (fun h10 => ?_) (fun h10 => ?_)
      · have vc := vc.1 h10
        refine w_iconst C dX2_draw_106 ?_
        exact w_ireturn C dX2_draw_107 vc
      · have vc := vc.2 h10
        refine w_iconst C dX2_draw_102 ?_
        refine w_goto C 107 dX2_draw_103 (by decide) ?_
        exact w_ireturn C dX2_draw_107 vc
    · have vc := vc.2 h7
      refine w_aload_n C 0 dX2_draw_59 rfl ?_
      refine w_getI C 6 dX2_draw_60 gf_X2_28 (ob_t ht) rfl rfl ?_
      refine w_top (fun v11 hv11 => ?_)
      have vc := vc v11 hv11
      refine w_istore_n C [(3, pI v11), (0, pR t), (1, pI w1), (2, pI w2)] dX2_draw_63 (by decide) rfl ?_
      refine w_aload_n C 1 dX2_draw_64 rfl ?_
      obtain ⟨sc12, vc⟩ := vc
      refine w_callVV C [] [] rfl dX2_draw_65 (c_X2_drawWhatIsReady C.gi (xL X) t σ ht sc12) (oc_t ht) mw_X2_drawWhatIsReady ml_X2_55 im_X2_drawWhatIsReady se_X2_drawWhatIsReady (by decide) (Nat.le_of_ble_eq_true rfl) (fun s13 hs13 => ?_)
      have vc := vc s13 hs13
      refine w_aload_n C 1 dX2_draw_68 rfl ?_
      refine w_getI C 6 dX2_draw_69 gf_X2_28 (ob_t ht) rfl rfl ?_
      refine w_iload_n C 0 dX2_draw_72 rfl ?_
      obtain ⟨⟨sc14, sc15⟩, vc⟩ := vc
      refine w_icmp_le C 80 dX2_draw_73 (by decide) sc14 sc15 (fun h16 => ?_) (fun h16 => ?_)
      · have vc := vc.1 h16
        refine w_iconst C dX2_draw_80 ?_
        refine w_istore_n C [(1, pI 0), (3, pI v11), (0, pR t), (2, pI w2)] dX2_draw_81 (by decide) rfl ?_
        refine w_iinc C 3 [(2, pI (w2 + 1)), (1, pI 0), (3, pI v11), (0, pR t)] dX2_draw_82 rfl (by decide) rfl ?_
        refine w_goto C 49 dX2_draw_85 (by decide) ?_
        exact w_sub _ [3, 1, 0] rfl vc
      · have vc := vc.2 h16
        refine w_iconst C dX2_draw_76 ?_
        refine w_goto C 81 dX2_draw_77 (by decide) ?_
        refine w_istore_n C [(1, pI 1), (3, pI v11), (0, pR t), (2, pI w2)] dX2_draw_81 (by decide) rfl ?_
        refine w_iinc C 3 [(2, pI (w2 + 1)), (1, pI 1), (3, pI v11), (0, pR t)] dX2_draw_82 rfl (by decide) rfl ?_
        refine w_goto C 49 dX2_draw_85 (by decide) ?_
        exact w_sub _ [3, 1, 0] rfl vc
set_option maxHeartbeats 1000000 in
theorem ok_X2_draw_0 {M : Nat} {t : Int} {σ : Mem} {K49 : Int → Int → Mem → Prop} (ht : t = 12 ∨ t = 19) (h : pre_X2_draw M t σ) (hK49 : ∀ (y1 y2 : Int) (τ' : Mem), inv_X2_draw_49 M t σ y1 y2 τ' → K49 y1 y2 τ') : VC_X2_draw_0 M K49 (post_X2_draw M t σ) t σ := by
  have hs := steps_in h
  refine ⟨⟨⟨by omega, by omega⟩, ⟨by omega, by omega⟩⟩, fun g s4 e4 s5 e5 => ⟨by unfold pre_J7_fill_53178; omega, fun s7 e7 => ⟨by unfold pre_J7_fill_53178; omega, fun s9 e9 => hK49 _ _ _ ⟨g, Or.inr rfl, by omega, by omega, ?_, ⟨fun _ => 0, ?_⟩, ?_, fun e => by omega⟩⟩⟩, fun g => Or.inl ⟨rfl, g, rfl⟩⟩
  · intro c hc
    funext x
    rw [e9, e7, e5, e4]
    simp only [m_J7_fill_53178, up]
    rw [if_neg (by omega), if_neg (by omega), if_neg (by omega), if_neg (by omega)]
  · have hF : FR t σ s9 := by
      intro c hc
      funext x
      rw [e9, e7, e5, e4]
      simp only [m_J7_fill_53178, up]
      rw [if_neg (by omega), if_neg (by omega), if_neg (by omega), if_neg (by omega)]
    have q5 : ∀ j : Int, 0 ≤ j → j < 8 → s9 (t + 5) j = 0 := by
      intro j h1 h2
      rw [e9, e7]
      simp only [m_J7_fill_53178]
      grind
    have q6 : ∀ m : Int, 0 ≤ m → m < 5 → s9 (t + 6) m = 0 := by
      intro m h1 h2
      rw [e9]
      simp only [m_J7_fill_53178]
      grind
    have qg : s9 t 1 = 0 := by
      rw [e9, e7, e5, e4]
      simp only [m_J7_fill_53178, up]
      grind
    have qd : s9 t 6 = 0 := by
      rw [e9, e7, e5, e4]
      simp only [m_J7_fill_53178, up]
      grind
    have hN := SE_WN (hF.SE ht) h.1
    have hO := SE_WO (hF.SE ht) h.2.1
    have hM : M ≤ 5 := hN.1.2.2.1
    refine ⟨⟨fun j h1 h2 => ?_, fun m h1 h2 => ?_, fun m i hi => ?_, ?_⟩, fun m i hi hlt => ?_, fun q h1 h2 => by omega, by omega, fun m i hi hlt => ?_, Or.inl qg⟩
    · rw [q5 j h1 h2]; have := hN.1.2.2.2.2.1 j h1 h2; omega
    · rw [q6 m h1 (by omega)]; have := hN.1.2.2.2.2.2 m h1 h2; omega
    · have hb := VS_in hN.1 (inO_VS hN hO hi).1
      rw [q6 m hi.1 (by have := hi.2.1; omega), q5 _ hb.2.2.1 hb.2.2.2.1]
      have := hi.2.2.1
      omega
    · rw [qd, sumI_congr (g := fun _ => 0) (fun j h1 h2 => q5 j h1 h2)]
      decide
    · rw [q6 m hi.1 (by have := hi.2.1; omega)] at hlt; have := hi.2.2.1; omega
    · rw [q6 m hi.1 (by have := hi.2.1; omega)] at hlt; have := hi.2.2.1; omega
  · intro _
    rw [e9, e7, e5, e4]
    simp only [m_J7_fill_53178, up]
    grind
set_option maxHeartbeats 1000000 in
theorem ok_X2_draw_49 {M : Nat} {t : Int} {σ : Mem} {w1 w2 : Int} {τ : Mem} {K49 : Int → Int → Mem → Prop} (ht : t = 12 ∨ t = 19) (h : pre_X2_draw M t σ) (hinv : inv_X2_draw_49 M t σ w1 w2 τ) (hK49 : ∀ (y1 y2 : Int) (τ' : Mem), inv_X2_draw_49 M t σ y1 y2 τ' → mu_X2_draw_49 t y1 y2 τ' < mu_X2_draw_49 t w1 w2 τ → K49 y1 y2 τ') : VC_X2_draw_49 M K49 (post_X2_draw M t σ) t w1 w2 τ := by
  obtain ⟨hle, hw, w0, w1', hF, ⟨rk, hD⟩, hw1, hw0⟩ := hinv
  have hs := steps_in h
  have hN := SE_WN (hF.SE ht) h.1
  have hO := SE_WO (hF.SE ht) h.2.1
  have hA := SE_AO (hF.SE ht) h.1 (WF_AO h hle)
  have hcn := DIc_cnt hN.1 hD.1
  have e12 : τ 1 2 = σ 1 2 := by rw [hF 1 (by omega)]
  have e5 : τ 5 = σ 5 := hF 5 (by omega)
  have hst : σ 1 2 = sumI (τ 5) 0 8 := by rw [e5]; exact h.2.2.2.2.1
  have hall : τ t 6 = τ 1 2 → ∀ j : Int, 0 ≤ j → j < 8 → τ (t + 5) j = τ 5 j := by
    intro e
    have e' : sumI (τ 5) 0 8 ≤ sumI (τ (t + 5)) 0 8 := by rw [← hst, ← hD.1.2.2.2]; omega
    exact sumI_eq (fun j p q => (hD.1.1 j p q).2) e'
  have hle2 : τ t 6 ≤ τ 1 2 := by
    rw [hD.1.2.2.2, e12, hst]
    exact sumI_le (fun j p q => (hD.1.1 j p q).2)
  have r1 : inR (τ t 6) ∧ inR (τ 1 2) := ⟨⟨by omega, by omega⟩, ⟨by omega, by omega⟩⟩
  refine ⟨⟨by omega, by omega⟩, fun g => ⟨r1, fun g2 => ?_, fun g2 => ?_⟩, fun g => ⟨⟨by omega, by omega⟩, fun g3 => ⟨r1, fun g2 => ?_, fun g2 => ?_⟩, fun g3 v11 e11 => ⟨⟨hN, hO, hA, rk, hD⟩, fun s13 e13 => ?_⟩⟩⟩
  · exact Or.inr ⟨hle, hF, rk, hD, Or.inr ⟨rfl, hw0 g, g2⟩⟩
  · exact Or.inr ⟨hle, hF, rk, hD, Or.inl ⟨rfl, hall g2⟩⟩
  · exact absurd (show τ t 6 = τ 1 2 by have := hw1 (by omega); omega) g2
  · exact Or.inr ⟨hle, hF, rk, hD, Or.inl ⟨rfl, hall g2⟩⟩
  · obtain ⟨p1, ⟨rk', p2⟩, p3, p4⟩ := e13
    have hN' := SE_WN (p1.SE ht) hN
    have hcn' := DIc_cnt hN'.1 p2.1
    refine ⟨⟨⟨by omega, by omega⟩, ⟨by omega, by omega⟩⟩, fun g4 => hK49 _ _ _ ⟨hle, Or.inl rfl, by omega, by omega, hF.trans p1, ⟨rk', p2⟩, fun e => by omega, fun _ => p4 (by omega)⟩ ?_, fun g4 => hK49 _ _ _ ⟨hle, Or.inr rfl, by omega, by omega, hF.trans p1, ⟨rk', p2⟩, fun _ => ?_, fun e => by omega⟩ ?_⟩
    · unfold mu_X2_draw_49; omega
    · have := hw1 (by omega); omega
    · unfold mu_X2_draw_49; omega
theorem c_X2_draw {G : GG} (hG : GI G) (l : Launch) (t : Int) (σ : Mem) (ht : t = 12 ∨ t = 19) (h : pre_X2_draw (gM G) t σ) : CtI G l yX2_draw cX2_draw 4 (some .int) 3 [pR t] σ (post_X2_draw (gM G) t σ) := by
  refine CtI.of hG (by decide) (Nat.le_of_ble_eq_true rfl) (fun X hl C => ?_)
  show RW G X 4 (QI G X _) 0 [(0, pR t)] [] σ
  have key : ∀ n : Nat, (∀ (w1 w2 : Int) (τ : Mem), inv_X2_draw_49 (gM G) t σ w1 w2 τ → mu_X2_draw_49 t w1 w2 τ < n → RW G X 4 (QI G X (post_X2_draw (gM G) t σ)) 49 [(0, pR t), (1, pI w1), (2, pI w2)] [] τ) := by
    intro n
    induction n with
    | zero => exact fun w1 w2 τ _ h0 => absurd h0 (Nat.not_lt_zero _)
    | succ n ih =>
      exact (fun w1 w2 τ hinv h0 => seg_X2_draw_49 C ht w1 w2 τ (ok_X2_draw_49 ht h hinv (fun y1 y2 τ' hi hm => ih y1 y2 τ' hi (Nat.lt_of_lt_of_le hm (Nat.le_of_lt_succ h0)))))
  exact seg_X2_draw_0 C ht σ (ok_X2_draw_0 ht h (fun y1 y2 τ' hi => (key _) y1 y2 τ' hi (Nat.lt_succ_self _)))

/-! X2_measureRests -/
/-- all steps are drawn -/
def DA (M : Nat) (t : Int) (rk : Int → Int) (τ : Mem) : Prop := DI M t rk τ ∧ ∀ j : Int, 0 ≤ j → j < 8 → τ (t + 5) j = τ 5 j
def pre_X2_measureRests (M : Nat) (t : Int) (σ : Mem) : Prop := WN M σ ∧ WO M σ ∧ AO σ ∧ ∃ rk, DA M t rk σ
def post_X2_measureRests (M : Nat) (t : Int) (σ σ' : Mem) : Prop := (∀ c : Int, c ≠ t + 2 → σ' c = σ c) ∧ RS M σ (σ' (t + 2)) ∧ ∀ s : Int, VS σ s → 0 ≤ σ' (t + 2) s ∧ σ' (t + 2) s ≤ 4800
def inv_X2_measureRests_7 (M : Nat) (t : Int) (σ : Mem) (w1 : Int) (τ : Mem) : Prop := -1 ≤ w1 ∧ w1 < σ t 6 ∧ (∀ c : Int, c ≠ t + 2 → τ c = σ c) ∧ ∃ rk, DA M t rk σ ∧ ∀ m i : Int, inO M σ m i → w1 < rk (σ (57 + m) i) → τ (t + 2) (σ (57 + m) i) = rV σ (τ (t + 2)) m i ∧ 0 ≤ τ (t + 2) (σ (57 + m) i) ∧ τ (t + 2) (σ (57 + m) i) ≤ 100 * (48 - rk (σ (57 + m) i))
def mu_X2_measureRests_7 (t : Int) (w1 : Int) (τ : Mem) : Nat := (w1 + 1).toNat
theorem DA_lt {M : Nat} {t : Int} {rk : Int → Int} {τ : Mem} (hN : WN M τ) (hO : WO M τ) (h : DA M t rk τ) {m i : Int} (hi : inO M τ m i) : i < τ (t + 6) m := by
  have hv := (inO_VS hN hO hi).1
  have hb := VS_in hN.1 hv
  exact (h.1.1.2.2.1 m i hi).mpr (by rw [h.2 _ hb.2.2.1 hb.2.2.2.1]; exact hv.2.2)
theorem DA_next {M : Nat} {t : Int} {rk : Int → Int} {τ : Mem} (hN : WN M τ) (hO : WO M τ) (hA : AO τ) (h : DA M t rk τ) {m i : Int} (hi : inO M τ m i) : (τ (57 + m) i % 10 + 1 ≠ τ 5 (τ (57 + m) i / 10) → (∃ m2 i2, inO M τ m2 i2 ∧ τ (57 + m2) i2 = τ (57 + m) i + 1) ∧ rk (τ (57 + m) i) < rk (τ (57 + m) i + 1)) ∧ (i + 1 < τ 10 m → inO M τ m (i + 1) ∧ rk (τ (57 + m) i) < rk (τ (57 + m) (i + 1))) := by
  have hv := (inO_VS hN hO hi).1
  have hb := VS_in hN.1 hv
  constructor
  · intro q
    have hv' : VS τ (τ (57 + m) i + 1) := by
      obtain ⟨h1, h2, h3⟩ := hv
      have e2 : (τ (57 + m) i + 1) / 10 = τ (57 + m) i / 10 := by omega
      exact ⟨by omega, by rw [e2]; exact h2, by rw [e2]; omega⟩
    obtain ⟨m2, i2, p1, p2, -⟩ := VS_inO hN hA hv'
    have dd := h.1.2.1 m2 i2 p1 (DA_lt hN hO h p1)
    have := dd.2.2.2.1 (by rw [p2]; omega)
    rw [p2, show τ (57 + m) i + 1 - 1 = τ (57 + m) i by omega] at this
    exact ⟨⟨m2, i2, p1, p2⟩, this⟩
  · intro q
    have hi' : inO M τ m (i + 1) := ⟨hi.1, hi.2.1, by have := hi.2.2.1; omega, q⟩
    have dd := h.1.2.1 m (i + 1) hi' (DA_lt hN hO h hi')
    have := dd.2.2.1 (by have := hi.2.2.1; omega)
    rw [show i + 1 - 1 = i by omega] at this
    exact ⟨hi', this⟩
def VC_X2_measureRests_0 (M : Nat) (K7 : Int → Mem → Prop) (post : Mem → Prop) (t : Int) (σ : Mem) : Prop :=
  ∀ v1 : Int, v1 = (σ t 6) - 1 → K7 v1 σ
set_option maxRecDepth 20000 in
set_option maxHeartbeats 4000000 in
theorem seg_X2_measureRests_0 {G : GG} {X : XX} {post : Mem → Prop} (C : CX G X cX2_measureRests RX2 3 none 2) {t : Int} (ht : t = 12 ∨ t = 19)  (σ : Mem) (vc : VC_X2_measureRests_0 (gM G) (fun w1 σ => RW G X 3 (QV G X post) 7 [(0, pR t), (1, pI w1)] [] σ) post t  σ) : RW G X 3 (QV G X post) 0 [(0, pR t)] [] σ := by
  unfold VC_X2_measureRests_0 at vc
  refine w_aload_n C 0 dX2_measureRests_0 rfl ?_
  refine w_getI C 6 dX2_measureRests_1 gf_X2_28 (ob_t ht) rfl rfl ?_
  refine w_iconst C dX2_measureRests_4 ?_
  refine w_isub C dX2_measureRests_5 ?_
  refine w_top (fun v1 hv1 => ?_)
  have vc := vc v1 hv1
  refine w_istore_n C [(1, pI v1), (0, pR t)] dX2_measureRests_6 (by decide) rfl ?_
  exact w_sub _ [1, 0] rfl vc
def VC_X2_measureRests_7 (M : Nat) (K7 : Int → Mem → Prop) (post : Mem → Prop) (t : Int) (w1 : Int) (σ : Mem) : Prop :=
 (inR w1) ∧ ((w1 < 0 → post σ) ∧ (0 ≤ w1 → (0 ≤ w1 ∧ w1 < 48) ∧ ∀ v5 : Int, v5 = σ (t + 4) w1 → (0 ≤ v5 ∧ v5 < 80) ∧ (pre_X2_restInJob M t v5 σ) ∧ (pre_X2_restInOrder M t v5 σ) ∧ (inR (f_X2_restInJob t v5 σ) ∧ inR (f_X2_restInOrder t v5 σ)) ∧ (0 ≤ v5 ∧ v5 < 80) ∧ ∀ s14 : Mem, s14 = up σ (t + 2) v5 ((σ 7 v5) + (max (f_X2_restInJob t v5 σ) (f_X2_restInOrder t v5 σ))) → K7 (w1 + (-1)) s14))
set_option maxRecDepth 20000 in
set_option maxHeartbeats 4000000 in
theorem seg_X2_measureRests_7 {G : GG} {X : XX} {post : Mem → Prop} (C : CX G X cX2_measureRests RX2 3 none 2) {t : Int} (ht : t = 12 ∨ t = 19) (w1 : Int) (σ : Mem) (vc : VC_X2_measureRests_7 (gM G) (fun w1 σ => RW G X 3 (QV G X post) 7 [(0, pR t), (1, pI w1)] [] σ) post t w1 σ) : RW G X 3 (QV G X post) 7 [(0, pR t), (1, pI w1)] [] σ := by
  unfold VC_X2_measureRests_7 at vc
  refine w_iload_n C 1 dX2_measureRests_7 rfl ?_
  obtain ⟨sc1, vc⟩ := vc
  refine w_if_lt C 53 dX2_measureRests_8 (by decide) sc1 (fun h2 => ?_) (fun h2 => ?_)
  · have vc := vc.1 h2
    exact w_vreturn C dX2_measureRests_53 vc
  · have vc := vc.2 h2
    refine w_aload_n C 0 dX2_measureRests_11 rfl ?_
    refine w_getR C dX2_measureRests_12 gf_X2_25 (ob_t ht) rfl ?_
    refine w_iload_n C 1 dX2_measureRests_15 rfl ?_
    obtain ⟨⟨sc3, sc4⟩, vc⟩ := vc
    refine w_iald C dX2_measureRests_16 (ia_t4 ht) sc3 sc4 ?_
    refine w_top (fun v5 hv5 => ?_)
    have vc := vc v5 hv5
    refine w_istore_n C [(2, pI v5), (0, pR t), (1, pI w1)] dX2_measureRests_17 (by decide) rfl ?_
    refine w_aload_n C 1 dX2_measureRests_18 rfl ?_
    refine w_getR C dX2_measureRests_19 gf_X2_19 (ob_t ht) rfl ?_
    refine w_iload_n C 0 dX2_measureRests_22 rfl ?_
    refine w_aload_n C 1 dX2_measureRests_23 rfl ?_
    refine w_getR C dX2_measureRests_24 gf_X2_37 (ob_t ht) rfl ?_
    refine w_getR C dX2_measureRests_27 gf_X2_93 ob_1 rfl ?_
    refine w_iload_n C 0 dX2_measureRests_30 rfl ?_
    obtain ⟨⟨sc6, sc7⟩, vc⟩ := vc
    refine w_iald C dX2_measureRests_31 ia_7 sc6 sc7 ?_
    refine w_aload_n C 1 dX2_measureRests_32 rfl ?_
    refine w_iload_n C 0 dX2_measureRests_33 rfl ?_
    obtain ⟨sc8, vc⟩ := vc
    refine w_callVI C [pI v5] [pI (σ 7 v5), pI v5, pR (t + 2)] rfl dX2_measureRests_34 (c_X2_restInJob C.gi (xL X) t v5 σ ht sc8) (oc_t ht) mw_X2_restInJob ml_X2_99 im_X2_restInJob se_X2_restInJob (by decide) (Nat.le_of_ble_eq_true rfl) (fun z σ' hz => ?_)
    obtain ⟨rfl, hz2⟩ := hz
    have hz2 := hz2.symm
    subst hz2
    refine w_aload_n C 1 dX2_measureRests_37 rfl ?_
    refine w_iload_n C 0 dX2_measureRests_38 rfl ?_
    obtain ⟨sc9, vc⟩ := vc
    refine w_callVI C [pI v5] [pI (f_X2_restInJob t v5 σ), pI (σ 7 v5), pI v5, pR (t + 2)] rfl dX2_measureRests_39 (c_X2_restInOrder C.gi (xL X) t v5 σ ht sc9) (oc_t ht) mw_X2_restInOrder ml_X2_102 im_X2_restInOrder se_X2_restInOrder (by decide) (Nat.le_of_ble_eq_true rfl) (fun z σ' hz => ?_)
    obtain ⟨rfl, hz2⟩ := hz
    have hz2 := hz2.symm
    subst hz2
    obtain ⟨⟨sc10, sc11⟩, vc⟩ := vc
    refine w_max C dX2_measureRests_42 ml_X2_87 mt_max sc10 sc11 (Nat.le_of_ble_eq_true rfl) ?_
    refine w_iadd C dX2_measureRests_45 ?_
    obtain ⟨⟨sc12, sc13⟩, vc⟩ := vc
    refine w_iast C dX2_measureRests_46 (ia_t2 ht) sc12 sc13 ?_
    refine w_mem (fun s14 hs14 => ?_)
    have vc := vc s14 hs14
    refine w_iinc C 2 [(1, pI (w1 + (-1))), (2, pI v5), (0, pR t)] dX2_measureRests_47 rfl (by decide) rfl ?_
    refine w_goto C 7 dX2_measureRests_50 (by decide) ?_
    exact w_sub _ [2, 0] rfl vc
set_option maxHeartbeats 1000000 in
theorem ok_X2_measureRests_0 {M : Nat} {t : Int} {σ : Mem} {K7 : Int → Mem → Prop} (ht : t = 12 ∨ t = 19) (h : pre_X2_measureRests M t σ) (hK7 : ∀ (y1 : Int) (τ' : Mem), inv_X2_measureRests_7 M t σ y1 τ' → K7 y1 τ') : VC_X2_measureRests_0 M K7 (post_X2_measureRests M t σ) t σ := by
  obtain ⟨hN, hO, hA, rk, hD⟩ := h
  have hcn := DIc_cnt hN.1 hD.1.1
  intro v e
  refine hK7 _ _ ⟨by omega, by omega, fun _ _ => rfl, rk, hD, fun m i hi hlt => ?_⟩
  have := (hD.1.2.1 m i hi (DA_lt hN hO hD hi)).1.2
  omega
set_option maxHeartbeats 1000000 in
theorem ok_X2_measureRests_7 {M : Nat} {t : Int} {σ : Mem} {w1 : Int} {τ : Mem} {K7 : Int → Mem → Prop} (ht : t = 12 ∨ t = 19) (h : pre_X2_measureRests M t σ) (hinv : inv_X2_measureRests_7 M t σ w1 τ) (hK7 : ∀ (y1 : Int) (τ' : Mem), inv_X2_measureRests_7 M t σ y1 τ' → mu_X2_measureRests_7 t y1 τ' < mu_X2_measureRests_7 t w1 τ → K7 y1 τ') : VC_X2_measureRests_7 M K7 (post_X2_measureRests M t σ) t w1 τ := by
  obtain ⟨hN, hO, hA, -⟩ := h
  obtain ⟨w0, w1', hF, rk, hD, hR⟩ := hinv
  have hcn := DIc_cnt hN.1 hD.1.1
  have hSE : SE σ τ := fun c hc => (hF c (by omega)).symm
  have hN' := SE_WN hSE hN
  have hO' := SE_WO hSE hO
  have f5 := hF 5 (by omega)
  have f6 := hF 6 (by omega)
  have f7 := hF 7 (by omega)
  have f10 := hF 10 (by omega)
  have f11 := hF 11 (by omega)
  have f3 := hF (t + 3) (by omega)
  have f4 := hF (t + 4) (by omega)
  have fr : ∀ m : Int, 0 ≤ m → τ (57 + m) = σ (57 + m) := fun m hm => hF _ (by omega)
  refine ⟨⟨by omega, by omega⟩, fun g => ⟨hF, fun m i hi => ?_, fun s hs => ?_⟩, fun g => ⟨⟨g, by omega⟩, fun v5 e5 => ?_⟩⟩
  · have := (hD.1.2.1 m i hi (DA_lt hN hO hD hi)).1.1
    exact (hR m i hi (by omega)).1
  · obtain ⟨m, i, hi, e, -⟩ := VS_inO hN hA hs
    have := (hD.1.2.1 m i hi (DA_lt hN hO hD hi)).1
    have := (hR m i hi (by omega)).2
    rw [e] at *
    omega
  · obtain ⟨m, i, hi, hlt, q3, q4⟩ := hD.1.2.2.1 w1 g w1'
    rw [f4, q3] at e5
    have hv := (inO_VS hN hO hi).1
    have hmac := (inO_VS hN hO hi).2
    have hb := VS_in hN.1 hv
    have hnx := DA_next hN hO hA hD hi
    have e3 : τ (t + 3) v5 = i := by rw [f3, e5]; exact (hD.1.2.1 m i hi hlt).2.2.2.2.2.1
    have e6 : τ 6 v5 = m := by rw [f6, e5]; exact hmac
    have hz := hN.1.2.2.2.2.2 m hi.1 hi.2.1
    have hi4 := hi.2.2.2
    have hi3 := hi.2.2.1
    have h7 := (hN.2.2.2.1 _ hb.1 hb.2.1).2
    have ej : f_X2_restInJob t v5 τ = if σ (57 + m) i % 10 + 1 = σ 5 (σ (57 + m) i / 10) then 0 else τ (t + 2) (σ (57 + m) i + 1) := by
      unfold f_X2_restInJob
      rw [f5, e5]
    have eo : f_X2_restInOrder t v5 τ = if i + 1 < σ 10 m then σ 11 ((m * 8 + σ (57 + m) i / 10) * 8 + σ (57 + m) (i + 1) / 10) + τ (t + 2) (σ (57 + m) (i + 1)) else 0 := by
      unfold f_X2_restInOrder
      rw [e3, e6, f10, f11, fr m hi.1, e5]
    have bj : 0 ≤ f_X2_restInJob t v5 τ ∧ f_X2_restInJob t v5 τ ≤ 100 * (47 - w1) := by
      rw [ej]
      by_cases q : σ (57 + m) i % 10 + 1 = σ 5 (σ (57 + m) i / 10)
      · rw [if_pos q]; omega
      · rw [if_neg q]
        obtain ⟨⟨m2, i2, p1, p2⟩, p3⟩ := hnx.1 q
        have := hR m2 i2 p1 (by rw [p2]; omega)
        rw [p2] at this
        omega
    have bo : 0 ≤ f_X2_restInOrder t v5 τ ∧ f_X2_restInOrder t v5 τ ≤ 100 * (47 - w1) + 50 := by
      rw [eo]
      by_cases q : i + 1 < σ 10 m
      · rw [if_pos q]
        obtain ⟨p1, p2⟩ := hnx.2 q
        have := hR m (i + 1) p1 (by omega)
        have pb := VS_in hN.1 (inO_VS hN hO p1).1
        have h11 := hN.2.2.2.2.1 ((m * 8 + σ (57 + m) i / 10) * 8 + σ (57 + m) (i + 1) / 10) (by have := hi.1; omega) (by have := hi.2.1; have := hi.1; omega)
        omega
      · rw [if_neg q]; omega
    refine ⟨⟨by omega, by omega⟩, ⟨hN'.1, by omega, by omega⟩, ⟨hN', hO', by omega, by omega, by omega, by omega⟩, ⟨⟨by omega, by omega⟩, ⟨by omega, by omega⟩⟩, ⟨by omega, by omega⟩, fun s14 e14 => ?_⟩
    have a2 : ∀ x, s14 (t + 2) x = if x = σ (57 + m) i then σ 7 (σ (57 + m) i) + max (f_X2_restInJob t v5 τ) (f_X2_restInOrder t v5 τ) else τ (t + 2) x := by
      intro x
      rw [e14, f7, e5]
      simp only [up]
      by_cases q : x = σ (57 + m) i
      · simp [q]
      · simp [q]
    refine hK7 _ _ ⟨by omega, by omega, fun c hc => ?_, rk, hD, fun m' i' hi' hlt' => ?_⟩ ?_
    · rw [e14, up_other _ _ _ hc, hF c hc]
    · -- what follows a step of rank at least w1 is not this one
      have hnx' := DA_next hN hO hA hD hi'
      have same : rV σ (s14 (t + 2)) m' i' = rV σ (τ (t + 2)) m' i' := by
        unfold rV
        have x1 : (if σ (57 + m') i' % 10 + 1 = σ 5 (σ (57 + m') i' / 10) then 0 else s14 (t + 2) (σ (57 + m') i' + 1)) = if σ (57 + m') i' % 10 + 1 = σ 5 (σ (57 + m') i' / 10) then 0 else τ (t + 2) (σ (57 + m') i' + 1) := by
          by_cases q : σ (57 + m') i' % 10 + 1 = σ 5 (σ (57 + m') i' / 10)
          · rw [if_pos q, if_pos q]
          · rw [if_neg q, if_neg q, a2, if_neg (fun z => by have := (hnx'.1 q).2; rw [z, q4] at this; omega)]
        have x2 : (if i' + 1 < σ 10 m' then σ 11 ((m' * 8 + σ (57 + m') i' / 10) * 8 + σ (57 + m') (i' + 1) / 10) + s14 (t + 2) (σ (57 + m') (i' + 1)) else 0) = if i' + 1 < σ 10 m' then σ 11 ((m' * 8 + σ (57 + m') i' / 10) * 8 + σ (57 + m') (i' + 1) / 10) + τ (t + 2) (σ (57 + m') (i' + 1)) else 0 := by
          by_cases q : i' + 1 < σ 10 m'
          · rw [if_pos q, if_pos q, a2, if_neg (fun z => by have := (hnx'.2 q).2; rw [z, q4] at this; omega)]
          · rw [if_neg q, if_neg q]
        rw [x1, x2]
      rw [same, a2]
      by_cases q : σ (57 + m') i' = σ (57 + m) i
      · have em : m' = m := by rw [← (inO_VS hN hO hi').2, q, hmac]
        subst em
        have ei : i' = i := hO.2 m' i' i hi'.1 hi'.2.1 hi'.2.2.1 hi'.2.2.2 hi3 hi4 q
        subst ei
        rw [if_pos rfl, ej, eo, q4]
        refine ⟨rfl, ?_⟩
        rw [ej] at bj
        rw [eo] at bo
        generalize (if σ (57 + m') i' % 10 + 1 = σ 5 (σ (57 + m') i' / 10) then 0 else τ (t + 2) (σ (57 + m') i' + 1)) = u1 at *
        generalize (if i' + 1 < σ 10 m' then σ 11 ((m' * 8 + σ (57 + m') i' / 10) * 8 + σ (57 + m') (i' + 1) / 10) + τ (t + 2) (σ (57 + m') (i' + 1)) else 0) = u2 at *
        clear hnx hnx' hR
        omega
      · rw [if_neg q]
        refine hR m' i' hi' ?_
        by_cases q5 : rk (σ (57 + m') i') = w1
        · exfalso
          have z1 := (hD.1.2.1 m' i' hi' (DA_lt hN hO hD hi')).2.1
          have z2 := (hD.1.2.1 m i hi hlt).2.1
          rw [q5] at z1
          rw [q4] at z2
          exact q (z1.symm.trans z2)
        · omega
    · unfold mu_X2_measureRests_7; omega
theorem c_X2_measureRests {G : GG} (hG : GI G) (l : Launch) (t : Int) (σ : Mem) (ht : t = 12 ∨ t = 19) (h : pre_X2_measureRests (gM G) t σ) : CtV G l yX2_measureRests cX2_measureRests 3 none 2 [pR t] σ (post_X2_measureRests (gM G) t σ) := by
  refine CtV.of hG (by decide) (Nat.le_of_ble_eq_true rfl) (fun X hl C => ?_)
  show RW G X 3 (QV G X _) 0 [(0, pR t)] [] σ
  have key : ∀ n : Nat, (∀ (w1 : Int) (τ : Mem), inv_X2_measureRests_7 (gM G) t σ w1 τ → mu_X2_measureRests_7 t w1 τ < n → RW G X 3 (QV G X (post_X2_measureRests (gM G) t σ)) 7 [(0, pR t), (1, pI w1)] [] τ) := by
    intro n
    induction n with
    | zero => exact fun w1 τ _ h0 => absurd h0 (Nat.not_lt_zero _)
    | succ n ih =>
      exact (fun w1 τ hinv h0 => seg_X2_measureRests_7 C ht w1 τ (ok_X2_measureRests_7 ht h hinv (fun y1 τ' hi hm => ih y1 τ' hi (Nat.lt_of_lt_of_le hm (Nat.le_of_lt_succ h0)))))
  exact seg_X2_measureRests_0 C ht σ (ok_X2_measureRests_0 ht h (fun y1 τ' hi => (key _) y1 τ' hi (Nat.lt_succ_self _)))
