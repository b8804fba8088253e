/-! a plan as it is drawn -/
theorem bV_congr {a a' : Mem} {B B' : Int → Int} {m i : Int} (h : SE a a') (hm : 0 ≤ m) (h1 : a (57 + m) i % 10 ≠ 0 → B (a (57 + m) i - 1) = B' (a (57 + m) i - 1)) (h2 : 0 < i → B (a (57 + m) (i - 1)) = B' (a (57 + m) (i - 1))) : bV a B m i = bV a' B' m i := by
  have e2 := h 2 (by omega)
  have e7 := h 7 (by omega)
  have e11 := h 11 (by omega)
  have er := SE_row h hm
  have ej : jIn a B (a (57 + m) i) = jIn a' B' (a' (57 + m) i) := by
    unfold jIn
    rw [e2, e7, ← er]
    by_cases q : a (57 + m) i % 10 = 0
    · rw [if_pos q, if_pos q]
    · rw [if_neg q, if_neg q, h1 q]
  unfold bV
  rw [ej]
  by_cases q : 0 < i
  · rw [if_pos q, if_pos q]
    unfold oIn
    rw [e7, e11, h2 q, er]
  · rw [if_neg q, if_neg q]
def DIc (M : Nat) (t : Int) (τ : Mem) : Prop :=
  (∀ j : Int, 0 ≤ j → j < 8 → 0 ≤ τ (t + 5) j ∧ τ (t + 5) j ≤ τ 5 j)
  ∧ (∀ m : Int, 0 ≤ m → m < M → 0 ≤ τ (t + 6) m ∧ τ (t + 6) m ≤ τ 10 m)
  ∧ (∀ m i : Int, inO M τ m i → (i < τ (t + 6) m ↔ τ (57 + m) i % 10 < τ (t + 5) (τ (57 + m) i / 10)))
  ∧ τ t 6 = sumI (τ (t + 5)) 0 8
def DIs (t : Int) (rk : Int → Int) (τ : Mem) (m i : Int) : Prop :=
  (0 ≤ rk (τ (57 + m) i) ∧ rk (τ (57 + m) i) < τ t 6) ∧ τ (t + 4) (rk (τ (57 + m) i)) = τ (57 + m) i
  ∧ (0 < i → rk (τ (57 + m) (i - 1)) < rk (τ (57 + m) i)) ∧ (τ (57 + m) i % 10 ≠ 0 → rk (τ (57 + m) i - 1) < rk (τ (57 + m) i))
  ∧ τ (t + 1) (τ (57 + m) i) = bV τ (τ (t + 1)) m i ∧ τ (t + 3) (τ (57 + m) i) = i ∧ (0 ≤ τ (t + 1) (τ (57 + m) i) ∧ τ (t + 1) (τ (57 + m) i) ≤ 1000 + 100 * rk (τ (57 + m) i))
def DI (M : Nat) (t : Int) (rk : Int → Int) (τ : Mem) : Prop := DIc M t τ
  ∧ (∀ m i : Int, inO M τ m i → i < τ (t + 6) m → DIs t rk τ m i)
  ∧ (∀ q : Int, 0 ≤ q → q < τ t 6 → ∃ m i : Int, inO M τ m i ∧ i < τ (t + 6) m ∧ τ (t + 4) q = τ (57 + m) i ∧ rk (τ (57 + m) i) = q)
  ∧ (0 ≤ τ t 1 ∧ (∀ m i : Int, inO M τ m i → i < τ (t + 6) m → τ (t + 1) (τ (57 + m) i) + τ 7 (τ (57 + m) i) ≤ τ t 1) ∧ (τ t 1 = 0 ∨ ∃ m i : Int, inO M τ m i ∧ i < τ (t + 6) m ∧ τ (t + 1) (τ (57 + m) i) + τ 7 (τ (57 + m) i) = τ t 1))
/-- cells outside a plan's own -/
def FR (t : Int) (σ τ : Mem) : Prop := ∀ c : Int, c < t ∨ t + 6 < c → τ c = σ c
theorem FR.refl (t : Int) (σ : Mem) : FR t σ σ := fun _ _ => rfl
theorem FR.trans {t : Int} {a b c : Mem} (h : FR t a b) (g : FR t b c) : FR t a c := fun d hd => (g d hd).trans (h d hd)
theorem FR.SE {t : Int} (ht : t = 12 ∨ t = 19) {σ τ : Mem} (h : FR t σ τ) : SE σ τ := fun c hc => (h c (by omega)).symm
theorem DIc_cnt {M : Nat} {t : Int} {τ : Mem} (hB : SB M τ) (h : DIc M t τ) : 0 ≤ τ t 6 ∧ τ t 6 ≤ 48 := by
  rw [h.2.2.2]
  have := sumI_bd (f := τ (t + 5)) (lo := 0) (hi := 8) (B := 6) (by omega) (fun j h1 h2 => ⟨(h.1 j h1 h2).1, by have := (h.1 j h1 h2).2; have := (hB.2.2.2.2.1 j h1 h2).2; omega⟩) 8 (by omega)
  omega
theorem DI_span {M : Nat} {t : Int} {rk : Int → Int} {τ : Mem} (hN : WN M τ) (hO : WO M τ) (h : DI M t rk τ) : 0 ≤ τ t 1 ∧ τ t 1 ≤ 6000 := by
  obtain ⟨h1, h2, h3, h4, h5, h6⟩ := h
  have hc := DIc_cnt hN.1 h1
  refine ⟨h4, ?_⟩
  rcases h6 with e | ⟨m, i, q1, q2, q3⟩
  · omega
  · have a1 := h2 m i q1 q2
    have hs := VS_in hN.1 (inO_VS hN hO q1).1
    have := (hN.2.2.2.1 _ hs.1 hs.2.1).2
    have := a1.2.2.2.2.2.2.2
    have := a1.1.2
    omega
theorem drawStep_acc {t : Int} (ht : t = 12 ∨ t = 19) (m i : Int) (τ : Mem) : FR t τ (m_X2_drawStep t m i τ)
  ∧ (∀ x, m_X2_drawStep t m i τ (t + 1) x = if x = τ (57 + m) i then bV τ (τ (t + 1)) m i else τ (t + 1) x)
  ∧ (∀ x, m_X2_drawStep t m i τ (t + 3) x = if x = τ (57 + m) i then i else τ (t + 3) x)
  ∧ m_X2_drawStep t m i τ t 1 = max (τ t 1) (bV τ (τ (t + 1)) m i + τ 7 (τ (57 + m) i))
  ∧ m_X2_drawStep t m i τ t 6 = τ t 6 + 1
  ∧ (∀ x, m_X2_drawStep t m i τ (t + 4) x = if x = τ t 6 then τ (57 + m) i else τ (t + 4) x)
  ∧ (∀ x, m_X2_drawStep t m i τ (t + 5) x = if x = τ (57 + m) i / 10 then τ (t + 5) x + 1 else τ (t + 5) x)
  ∧ (∀ x, m_X2_drawStep t m i τ (t + 6) x = if x = m then τ (t + 6) x + 1 else τ (t + 6) x) := by
  refine ⟨fun c hc => ?_, fun x => ?_, fun x => ?_, ?_, ?_, fun x => ?_, fun x => ?_, fun x => ?_⟩
  · funext x
    unfold m_X2_drawStep
    rw [up_other _ _ _ (by omega), up_other _ _ _ (by omega), up_other _ _ _ (by omega), up_other _ _ _ (by omega), up_other _ _ _ (by omega), up_other _ _ _ (by omega), up_other _ _ _ (by omega)]
  all_goals (rcases ht with rfl | rfl <;> simp only [m_X2_drawStep, up] <;> grind)
set_option maxHeartbeats 2000000 in
theorem DI_step {M : Nat} {t : Int} (ht : t = 12 ∨ t = 19) {rk : Int → Int} {τ : Mem} (hN : WN M τ) (hO : WO M τ) (hA : AO τ) (h : DI M t rk τ) {m : Int} (hi : inO M τ m (τ (t + 6) m)) (hr : τ (t + 5) (τ (57 + m) (τ (t + 6) m) / 10) = τ (57 + m) (τ (t + 6) m) % 10) :
    DI M t (fun x => if x = τ (57 + m) (τ (t + 6) m) then τ t 6 else rk x) (m_X2_drawStep t m (τ (t + 6) m) τ) := by
  obtain ⟨i0, hi0⟩ : ∃ i0, i0 = τ (t + 6) m := ⟨_, rfl⟩
  rw [← hi0] at hi hr ⊢
  obtain ⟨s, hs⟩ : ∃ s, s = τ (57 + m) i0 := ⟨_, rfl⟩
  rw [← hs] at hr ⊢
  obtain ⟨b, hb⟩ : ∃ b, b = bV τ (τ (t + 1)) m i0 := ⟨_, rfl⟩
  obtain ⟨aF, a1, a3, ag, a6, a4, a5, am⟩ := drawStep_acc ht m i0 τ
  rw [← hs] at a1 a3 ag a4 a5
  rw [← hb] at a1 ag
  generalize hT : m_X2_drawStep t m i0 τ = T at *
  have hSE : SE τ T := aF.SE ht
  obtain ⟨⟨c1, c2, c3, c4⟩, d, sq, g0, g1, g2⟩ := id h
  have hv : VS τ s := by rw [hs]; exact (inO_VS hN hO hi).1
  have hmac : τ 6 s = m := by rw [hs]; exact (inO_VS hN hO hi).2
  have hsb := VS_in hN.1 hv
  have hcnt := DIc_cnt hN.1 h.1
  have e5 : T 5 = τ 5 := aF 5 (by omega)
  have e7 : T 7 = τ 7 := aF 7 (by omega)
  have e10 : T 10 = τ 10 := aF 10 (by omega)
  have er : ∀ m' : Int, 0 ≤ m' → T (57 + m') = τ (57 + m') := fun m' q => aF _ (by omega)
  have eO : ∀ m' i', inO M T m' i' ↔ inO M τ m' i' := fun m' i' => by unfold inO; rw [e10]
  have hlt : s % 10 < τ 5 (s / 10) := hv.2.2
  -- drawn steps are others
  have ne : ∀ m' i', inO M τ m' i' → i' < τ (t + 6) m' → τ (57 + m') i' ≠ s := by
    intro m' i' q1 q2 e
    have := (c3 m' i' q1).mp q2
    rw [e, hr] at this
    omega
  -- what a drawn step waits for is drawn
  have nep : ∀ m' i', inO M τ m' i' → τ (57 + m') i' % 10 ≤ τ (t + 5) (τ (57 + m') i' / 10) → τ (57 + m') i' % 10 ≠ 0 → τ (57 + m') i' - 1 ≠ s ∧ ∃ m2 i2, inO M τ m2 i2 ∧ i2 < τ (t + 6) m2 ∧ τ (57 + m2) i2 = τ (57 + m') i' - 1 := by
    intro m' i' q1 q2 q3
    have v1 := VS_pred hN (inO_VS hN hO q1).1 q3
    have b1 := VS_in hN.1 (inO_VS hN hO q1).1
    obtain ⟨m2, i2, p1, p2, -⟩ := VS_inO hN hA v1
    have lt : τ (57 + m2) i2 % 10 < τ (t + 5) (τ (57 + m2) i2 / 10) := by
      rw [p2, show (τ (57 + m') i' - 1) / 10 = τ (57 + m') i' / 10 by omega]
      omega
    refine ⟨fun e => ?_, m2, i2, p1, (c3 m2 i2 p1).mpr lt, p2⟩
    rw [p2, e, hr] at lt
    omega
  have hpred : s % 10 ≠ 0 → s - 1 ≠ s ∧ ∃ m2 i2, inO M τ m2 i2 ∧ i2 < τ (t + 6) m2 ∧ τ (57 + m2) i2 = s - 1 := by
    intro q
    have := nep m i0 hi (by rw [← hs, hr]; omega) (by rw [← hs]; exact q)
    rw [← hs] at this
    exact this
  have hprev : 0 < i0 → inO M τ m (i0 - 1) ∧ i0 - 1 < τ (t + 6) m := fun q => ⟨⟨hi.1, hi.2.1, by omega, by have := hi.2.2.2; omega⟩, by omega⟩
  -- begins of steps that were drawn
  have eB : ∀ m' i', inO M τ m' i' → i' < τ (t + 6) m' ∨ (m' = m ∧ i' = i0) → bV T (T (t + 1)) m' i' = bV τ (τ (t + 1)) m' i' := by
    intro m' i' q1 q2
    refine (bV_congr hSE q1.1 (fun q3 => ?_) (fun q3 => ?_)).symm
    · have hle : τ (57 + m') i' % 10 ≤ τ (t + 5) (τ (57 + m') i' / 10) := by
        rcases q2 with q2 | ⟨rfl, rfl⟩
        · have := (c3 m' i' q1).mp q2; omega
        · rw [← hs, hr]; omega
      rw [a1, if_neg (nep m' i' q1 hle q3).1]
    · have q4 : inO M τ m' (i' - 1) := ⟨q1.1, q1.2.1, by omega, by have := q1.2.2.2; omega⟩
      have q5 : i' - 1 < τ (t + 6) m' := by
        rcases q2 with q2 | ⟨rfl, rfl⟩ <;> omega
      rw [a1, if_neg (ne m' (i' - 1) q4 q5)]
  -- bounds of the new begin
  have hbb : 0 ≤ b ∧ b ≤ 1000 + 100 * τ t 6 := by
    have h2 := (hN.2.1 _ hsb.2.2.1 hsb.2.2.2.1).1
    have hj : 0 ≤ jIn τ (τ (t + 1)) s ∧ jIn τ (τ (t + 1)) s ≤ 1000 + 100 * τ t 6 := by
      unfold jIn
      by_cases q : s % 10 = 0
      · rw [if_pos q]; omega
      · rw [if_neg q]
        obtain ⟨m2, i2, p1, p2, p3⟩ := (hpred q).2
        have dd := d m2 i2 p1 p2
        unfold DIs at dd
        rw [p3] at dd
        have := (hN.2.2.2.1 (s - 1) (by omega) (by omega)).2
        omega
    rw [hb]
    unfold bV
    rw [← hs]
    by_cases q : 0 < i0
    · rw [if_pos q]
      have dd := d m (i0 - 1) (hprev q).1 (hprev q).2
      unfold DIs at dd
      have pb := VS_in hN.1 (inO_VS hN hO (hprev q).1).1
      have := (hN.2.2.2.1 _ pb.1 pb.2.1).2
      have h11 := hN.2.2.2.2.1 ((m * 8 + τ (57 + m) (i0 - 1) / 10) * 8 + s / 10) (by have := hi.1; omega) (by have := hi.2.1; have := hi.1; omega)
      unfold oIn
      omega
    · rw [if_neg q]; exact hj
  have hdM := c2 m hi.1 hi.2.1
  refine ⟨⟨fun j q1 q2 => ?_, fun m' q1 q2 => ?_, fun m' i' q1 => ?_, ?_⟩, fun m' i' q1 q2 => ?_, fun q q1 q2 => ?_, ?_, fun m' i' q1 q2 => ?_, ?_⟩
  · rw [a5, e5]
    have := c1 j q1 q2
    by_cases e : j = s / 10
    · rw [if_pos e]; subst e; omega
    · rw [if_neg e]; exact this
  · rw [am, e10]
    have := c2 m' q1 q2
    by_cases e : m' = m
    · rw [if_pos e]; subst e; have := hi.2.2.2; omega
    · rw [if_neg e]; exact this
  · have q1' := (eO m' i').mp q1
    rw [er m' q1'.1, am, a5]
    have key := c3 m' i' q1'
    have vb := VS_in hN.1 (inO_VS hN hO q1').1
    by_cases e : m' = m
    · subst e
      rw [if_pos rfl]
      by_cases e2 : i' = i0
      · subst e2
        rw [← hs, if_pos rfl, hr]
        omega
      · have ns : τ (57 + m') i' ≠ s := fun e3 => e2 (hO.2 m' i' i0 q1'.1 q1'.2.1 q1'.2.2.1 q1'.2.2.2 hi.2.2.1 hi.2.2.2 (by rw [e3, hs]))
        by_cases e3 : τ (57 + m') i' / 10 = s / 10
        · rw [if_pos e3]
          have : τ (57 + m') i' % 10 ≠ s % 10 := fun e4 => ns (by omega)
          rw [e3] at key ⊢
          omega
        · rw [if_neg e3]; omega
    · rw [if_neg e]
      have ns : τ (57 + m') i' ≠ s := fun e3 => e (by rw [← (inO_VS hN hO q1').2, e3, hmac])
      by_cases e3 : τ (57 + m') i' / 10 = s / 10
      · rw [if_pos e3]
        have : τ (57 + m') i' % 10 ≠ s % 10 := fun e4 => ns (by omega)
        rw [e3] at key ⊢
        omega
      · rw [if_neg e3]; exact key
  · rw [a6, c4]
    exact (sumI_up (k := s / 10) (by omega) (by omega) (by rw [a5, if_pos rfl]) (fun j q => by rw [a5, if_neg q])).symm
  · have q1' := (eO m' i').mp q1
    unfold DIs
    rw [er m' q1'.1, a6]
    by_cases e : m' = m ∧ i' = i0
    · obtain ⟨rfl, rfl⟩ := e
      rw [← hs]
      simp only [if_pos]
      refine ⟨⟨by omega, by omega⟩, ?_, fun q3 => ?_, fun q3 => ?_, ?_, ?_, ?_⟩
      · rw [a4, if_pos rfl]
      · have p := hprev q3
        rw [if_neg (ne _ _ p.1 p.2)]
        exact (d _ _ p.1 p.2).1.2
      · rw [if_neg (hpred q3).1]
        obtain ⟨m2, i2, p1, p2, p3⟩ := (hpred q3).2
        rw [← p3]
        exact (d m2 i2 p1 p2).1.2
      · rw [a1, if_pos rfl, eB m' i' q1' (Or.inr ⟨rfl, rfl⟩), hb]
      · rw [a3, if_pos rfl]
      · rw [a1, if_pos rfl]; exact hbb
    · have q2' : i' < τ (t + 6) m' := by
        rw [am] at q2
        by_cases e2 : m' = m
        · rw [if_pos e2] at q2
          subst e2
          have : i' ≠ i0 := fun e3 => e ⟨rfl, e3⟩
          omega
        · rw [if_neg e2] at q2; exact q2
      have dd := d m' i' q1' q2'
      have ns := ne m' i' q1' q2'
      unfold DIs at dd
      obtain ⟨x1, x2, x3, x4, x5, x6, x7⟩ := dd
      simp only [if_neg ns]
      refine ⟨⟨by omega, by omega⟩, ?_, fun q3 => ?_, fun q3 => ?_, ?_, ?_, ?_⟩
      · rw [a4, if_neg (by omega)]; exact x2
      · rw [if_neg (ne m' (i' - 1) ⟨q1'.1, q1'.2.1, by omega, by have := q1'.2.2.2; omega⟩ (by omega))]
        exact x3 q3
      · have hle : τ (57 + m') i' % 10 ≤ τ (t + 5) (τ (57 + m') i' / 10) := by have := (c3 m' i' q1').mp q2'; omega
        rw [if_neg (nep m' i' q1' hle q3).1]
        exact x4 q3
      · rw [a1, if_neg ns, eB m' i' q1' (Or.inl q2'), x5]
      · rw [a3, if_neg ns]; exact x6
      · rw [a1, if_neg ns]; exact x7
  · rw [a6] at q2
    by_cases e : q = τ t 6
    · subst e
      refine ⟨m, i0, (eO m i0).mpr hi, ?_, ?_, ?_⟩
      · rw [am, if_pos rfl]; omega
      · rw [er m hi.1, a4, if_pos rfl, hs]
      · dsimp only
        rw [er m hi.1, ← hs, if_pos rfl]
    · obtain ⟨m', i', p1, p2, p3, p4⟩ := sq q q1 (by omega)
      refine ⟨m', i', (eO m' i').mpr p1, ?_, ?_, ?_⟩
      · rw [am]; by_cases e2 : m' = m
        · rw [if_pos e2]; omega
        · rw [if_neg e2]; exact p2
      · rw [er m' p1.1, a4, if_neg e]; exact p3
      · dsimp only
        rw [er m' p1.1, if_neg (ne m' i' p1 p2)]; exact p4
  · clear g2 hpred nep
    rw [ag]; omega
  · clear g2 hpred nep
    have q1' := (eO m' i').mp q1
    rw [er m' q1'.1, ag, a1, e7]
    by_cases e : τ (57 + m') i' = s
    · rw [if_pos e, e]; omega
    · rw [if_neg e]
      have q2' : i' < τ (t + 6) m' := by
        rw [am] at q2
        by_cases e2 : m' = m
        · rw [if_pos e2] at q2
          subst e2
          have : i' ≠ i0 := fun e3 => e (by rw [e3, hs])
          omega
        · rw [if_neg e2] at q2; exact q2
      have := g1 m' i' q1' q2'
      omega
  · clear hpred nep
    rw [ag]
    by_cases e : τ t 1 ≤ b + τ 7 s
    · clear g2
      right
      refine ⟨m, i0, (eO m i0).mpr hi, ?_, ?_⟩
      · rw [am, if_pos rfl]; omega
      · rw [er m hi.1, a1, e7, ← hs, if_pos rfl]; omega
    · rcases g2 with g2 | ⟨m', i', p1, p2, p3⟩
      · have := (hN.2.2.2.1 s hsb.1 hsb.2.1).2; omega
      · right
        refine ⟨m', i', (eO m' i').mpr p1, ?_, ?_⟩
        · rw [am]; by_cases e2 : m' = m
          · rw [if_pos e2]; omega
          · rw [if_neg e2]; exact p2
        · rw [er m' p1.1, a1, e7, if_neg (ne m' i' p1 p2)]; omega
