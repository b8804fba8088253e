/-! the other changes of the shop keep it well-formed -/
theorem sw_inj {p i i' k k' : Int} (h : k = if i = p then p + 1 else if i = p + 1 then p else i) (h' : k' = if i' = p then p + 1 else if i' = p + 1 then p else i') (e : k = k') : i = i' := by grind
theorem rm_inj {m c z i i' k k' : Int} (h : k = if m = c ∧ z ≤ i then i + 1 else i) (h' : k' = if m = c ∧ z ≤ i' then i' + 1 else i') (e : k = k') : i = i' := by grind
theorem ex_acc (m p : Int) (a : Mem) : (∀ c : Int, c ≠ 57 + m → m_X3_exchange m p a c = a c) ∧ (∀ i, m_X3_exchange m p a (57 + m) i = if i = p then a (57 + m) (p + 1) else if i = p + 1 then a (57 + m) p else a (57 + m) i) := by
  refine ⟨fun c hc => ?_, fun i => ?_⟩
  · unfold m_X3_exchange
    rw [up_other _ _ _ hc, up_other _ _ _ hc]
  · simp only [m_X3_exchange, up]
    grind
theorem ex_ex (m p : Int) (a : Mem) : m_X3_exchange m p (m_X3_exchange m p a) = a := by
  funext c i
  obtain ⟨e1, e2⟩ := ex_acc m p (m_X3_exchange m p a)
  obtain ⟨f1, f2⟩ := ex_acc m p a
  by_cases hc : c = 57 + m
  · subst hc
    rw [e2, f2, f2, f2]
    grind
  · rw [e1 c hc, f1 c hc]
theorem WF_exchange {M : Nat} {a : Mem} (h : WF M a) {m p : Int} (hn : P_X3_hasNeighbours m p a) : WF M (m_X3_exchange m p a) := by
  obtain ⟨hN, ⟨o1, o2⟩, h1, h2, h3, h4, h5⟩ := id h
  obtain ⟨⟨m0, m1⟩, p0, p1⟩ := hn
  rw [hN.1.1] at m1
  obtain ⟨ac, ar⟩ := ex_acc m p a
  generalize m_X3_exchange m p a = T at *
  have e1 := ac 1 (by omega)
  have e2 := ac 2 (by omega)
  have e3 := ac 3 (by omega)
  have e4 := ac 4 (by omega)
  have e5 := ac 5 (by omega)
  have e6 := ac 6 (by omega)
  have e7 := ac 7 (by omega)
  have e8 := ac 8 (by omega)
  have e10 := ac 10 (by omega)
  have e11 := ac 11 (by omega)
  have hV : ∀ x, VS T x ↔ VS a x := fun x => by unfold VS; rw [e1, e5]
  -- the place that held what is now at i
  have loc : ∀ m' i : Int, 0 ≤ i → i < a 10 m' → ∃ k : Int, 0 ≤ k ∧ k < a 10 m' ∧ T (57 + m') i = a (57 + m') k ∧ k = if m' = m then (if i = p then p + 1 else if i = p + 1 then p else i) else i := by
    intro m' i i0 i1
    by_cases e : m' = m
    · subst e
      rw [ar]
      by_cases q : i = p
      · exact ⟨p + 1, by omega, by omega, by rw [if_pos q], by simp [q]⟩
      · by_cases q2 : i = p + 1
        · exact ⟨p, by omega, by omega, by rw [if_neg q, if_pos q2], by rw [if_pos rfl, if_neg q, if_pos q2]⟩
        · exact ⟨i, i0, i1, by rw [if_neg q, if_neg q2], by simp [q, q2]⟩
    · exact ⟨i, i0, i1, by rw [ac _ (by omega)], by simp [e]⟩
  refine ⟨⟨?_, ?_⟩, ⟨?_, ?_⟩, ?_, ?_, ?_, ?_, ?_⟩
  · unfold SB; rw [e1, e5, e10]; exact hN.1
  · rw [e1, e2, e3, e4, e5, e6, e7, e11]; exact hN.2
  · intro m' i q1 q2 q3 q4
    rw [e10] at q4
    obtain ⟨k, k0, k1, k2, -⟩ := loc m' i q3 q4
    rw [k2, hV, e6, e8]
    exact o1 m' k q1 q2 k0 k1
  · intro m' i i' q1 q2 q3 q4 q5 q6 q7
    rw [e10] at q4 q6
    obtain ⟨k, k0, k1, k2, k3⟩ := loc m' i q3 q4
    obtain ⟨k', k0', k1', k2', k3'⟩ := loc m' i' q5 q6
    rw [k2, k2'] at q7
    have := o2 m' k k' q1 q2 k0 k1 k0' k1' q7
    by_cases e : m' = m
    · simp only [e, if_true] at k3 k3'
      exact sw_inj k3 k3' this
    · simp only [e, if_false] at k3 k3'
      omega
  · intro s q1 q2
    rw [e8, hV]; exact h1 s q1 q2
  · intro s hv q
    rw [hV] at hv
    rw [e8] at q
    rw [e6, e10]
    obtain ⟨i, i0, i1, i2⟩ := h2 s hv q
    by_cases e : a 6 s = m
    · by_cases q3 : i = p
      · refine ⟨p + 1, by omega, by rw [e]; omega, ?_⟩
        rw [e, ar, if_neg (by omega), if_pos rfl, ← q3, ← e, i2]
      · by_cases q4 : i = p + 1
        · refine ⟨p, by omega, by rw [e]; omega, ?_⟩
          rw [e, ar, if_pos rfl, ← q4, ← e, i2]
        · refine ⟨i, i0, i1, ?_⟩
          rw [e, ar, if_neg q3, if_neg q4, ← e, i2]
    · refine ⟨i, i0, i1, ?_⟩
      rw [ac _ (by omega), i2]
  · rw [e1, e5]; exact h3
  · rw [e1, e8]; exact h4
  · rw [e10, e6, e8]; exact h5
theorem rem_acc (s z : Int) (a : Mem) (hm0 : 0 ≤ a 6 s) : (∀ c : Int, 2 ≤ c ∧ c ≤ 7 ∨ c = 9 ∨ c = 11 → m_remove s z a c = a c)
  ∧ (∀ x, m_remove s z a 1 x = if x = 3 then a 1 3 - 1 else a 1 x) ∧ (∀ x, m_remove s z a 8 x = if x = s then 0 else a 8 x) ∧ (∀ x, m_remove s z a 10 x = if x = a 6 s then a 10 x - 1 else a 10 x)
  ∧ (∀ m i : Int, 0 ≤ m → m_remove s z a (57 + m) i = if m = a 6 s ∧ z ≤ i ∧ i < a 10 m - 1 then a (57 + m) (i + 1) else a (57 + m) i)
  ∧ (∀ c : Int, 12 ≤ c → c < 57 → m_remove s z a c = a c) := by
  refine ⟨fun c hc => ?_, fun x => ?_, fun x => ?_, fun x => ?_, fun m i hm => ?_, fun c h1 h2 => ?_⟩
  · funext x; simp only [m_remove]; grind
  · simp only [m_remove]; grind
  · simp only [m_remove]; grind
  · simp only [m_remove]; grind
  · simp only [m_remove]; grind
  · funext x; simp only [m_remove]; grind
theorem WF_remove {M : Nat} {a : Mem} (h : WF M a) {s z : Int} (hs : VS a s) (h8 : a 8 s = 1) (z0 : 0 ≤ z) (z1 : z < a 10 (a 6 s)) (hz : a (57 + a 6 s) z = s) : WF M (m_remove s z a) := by
  obtain ⟨hN, ⟨o1, o2⟩, h1, h2, h3, h4, h5⟩ := id h
  have hb := VS_in hN.1 hs
  have hm := (hN.2.2.2.1 s hb.1 hb.2.1).1
  obtain ⟨af, a1, a8, a10, ar, -⟩ := rem_acc s z a hm.1
  generalize m_remove s z a = T at *
  have hV : ∀ x, VS T x ↔ VS a x := fun x => by unfold VS; rw [a1, af 5 (by omega)]; simp
  have e5 := af 5 (by omega)
  have e6 := af 6 (by omega)
  obtain ⟨⟨b1, b2, b3, b4, b5, b6⟩, n2, n3, n4, n5, n6⟩ := id hN
  -- where what is now at i was
  have loc : ∀ m i : Int, 0 ≤ m → m < M → 0 ≤ i → i < T 10 m → ∃ k : Int, 0 ≤ k ∧ k < a 10 m ∧ T (57 + m) i = a (57 + m) k ∧ (m = a 6 s → k ≠ z) ∧ k = if m = a 6 s ∧ z ≤ i then i + 1 else i := by
    intro m i q1 q2 i0 i1
    rw [a10] at i1
    rw [ar m i q1]
    by_cases e : m = a 6 s
    · rw [if_pos e] at i1
      by_cases q : z ≤ i
      · refine ⟨i + 1, by omega, by omega, by rw [if_pos ⟨e, q, i1⟩], fun _ => by omega, by simp [e, q]⟩
      · refine ⟨i, i0, by omega, by rw [if_neg (by omega)], fun _ => by omega, by simp [q]⟩
    · rw [if_neg e] at i1
      exact ⟨i, i0, i1, by rw [if_neg (fun w => e w.1)], fun w => absurd w e, by simp [e]⟩
  have notS : ∀ m k : Int, 0 ≤ m → m < M → 0 ≤ k → k < a 10 m → (m = a 6 s → k ≠ z) → a (57 + m) k ≠ s := by
    intro m k q1 q2 k0 k1 hk e
    have em : m = a 6 s := by rw [← (o1 m k q1 q2 k0 k1).2.1, e]
    refine hk em (o2 m k z q1 q2 k0 k1 z0 (by rw [em]; exact z1) ?_)
    rw [e, em, hz]
  refine ⟨⟨⟨?_, b2, b3, ?_, ?_, ?_⟩, ?_, ?_, ?_, ?_, ?_⟩, ⟨?_, ?_⟩, ?_, ?_, ?_, ?_, ?_⟩
  · rw [a1]; simpa using b1
  · rw [a1]; simpa using b4
  · rw [e5]; exact b5
  · intro m q1 q2
    rw [a10]
    have := b6 m q1 q2
    by_cases e : m = a 6 s
    · rw [if_pos e]; subst e; omega
    · rw [if_neg e]; exact this
  · rw [af 2 (by omega), af 3 (by omega), af 4 (by omega)]; exact n2
  · rw [a1, e5]; simpa using n3
  · rw [e6, af 7 (by omega)]; exact n4
  · rw [af 11 (by omega)]; exact n5
  · rw [af 11 (by omega)]; exact n6
  · intro m i q1 q2 q3 q4
    obtain ⟨k, k0, k1, k2, k3, -⟩ := loc m i q1 q2 q3 q4
    have o := o1 m k q1 q2 k0 k1
    rw [k2, hV, e6, a8, if_neg (notS m k q1 q2 k0 k1 k3)]
    exact o
  · intro m i i' q1 q2 q3 q4 q5 q6 q7
    obtain ⟨k, k0, k1, k2, -, k3⟩ := loc m i q1 q2 q3 q4
    obtain ⟨k', k0', k1', k2', -, k3'⟩ := loc m i' q1 q2 q5 q6
    rw [k2, k2'] at q7
    have := o2 m k k' q1 q2 k0 k1 k0' k1' q7
    exact rm_inj k3 k3' this
  · intro x q1 q2
    rw [a8, hV]
    by_cases e : x = s
    · rw [if_pos e]; exact Or.inl rfl
    · rw [if_neg e]; exact h1 x q1 q2
  · intro x hv q
    rw [hV] at hv
    rw [a8] at q
    have hxb := VS_in hN.1 hv
    have hxm := (hN.2.2.2.1 x hxb.1 hxb.2.1).1
    by_cases e : x = s
    · rw [if_pos e] at q; omega
    · rw [if_neg e] at q
      obtain ⟨i, i1, i2, i3⟩ := h2 x hv q
      rw [e6, a10]
      by_cases em : a 6 x = a 6 s
      · rw [if_pos em]
        have hiz : i ≠ z := fun w => e (by rw [← i3, w, em, hz])
        by_cases ei : i < z
        · refine ⟨i, i1, by rw [em] at i2 ⊢; omega, ?_⟩
          rw [ar _ _ hxm.1, if_neg (by omega), i3]
        · refine ⟨i - 1, by omega, by omega, ?_⟩
          rw [ar _ _ hxm.1, if_pos ⟨em, by omega, by omega⟩, show i - 1 + 1 = i by omega, i3]
      · rw [if_neg em]
        refine ⟨i, i1, i2, ?_⟩
        rw [ar _ _ hxm.1, if_neg (fun w => em w.1), i3]
  · rw [a1, e5]; simpa using h3
  · rw [a1, if_pos rfl, h4]
    have := sumI_up (f := fun x => a 8 x) (g := fun x => T 8 x) (lo := 0) (hi := 80) (k := s) (d := -1) hb.1 hb.2.1 (by rw [a8, if_pos rfl, h8]; rfl) (fun i q => by rw [a8, if_neg q])
    rw [this]
    omega
  · intro m q1 q2
    rw [a10, h5 m q1 q2, e6]
    by_cases e : m = a 6 s
    · rw [if_pos e]
      have := sumI_up (f := fun x => if a 6 x = m then a 8 x else 0) (g := fun x => if a 6 x = m then T 8 x else 0) (lo := 0) (hi := 80) (k := s) (d := -1) hb.1 hb.2.1 (by rw [if_pos e.symm, if_pos e.symm, a8, if_pos rfl, h8]; rfl) (fun i q => by rw [a8, if_neg q])
      rw [this]
      omega
    · rw [if_neg e]
      refine sumI_congr (fun x _ _ => ?_)
      by_cases ex : x = s
      · subst ex
        rw [if_neg (fun w => e w.symm), if_neg (fun w => e w.symm)]
      · rw [a8, if_neg ex]
theorem job_acc (x1 x2 x3 : Int) (a : Mem) : (∀ c : Int, c ≠ 1 → c ≠ 2 → c ≠ 3 → c ≠ 4 → m_addJob x1 x2 x3 a c = a c) ∧ (∀ x, m_addJob x1 x2 x3 a 1 x = if x = 1 then a 1 1 + 1 else a 1 x) ∧ (∀ x, m_addJob x1 x2 x3 a 2 x = if x = a 1 1 then x1 else a 2 x) ∧ (∀ x, m_addJob x1 x2 x3 a 3 x = if x = a 1 1 then x2 else a 3 x) ∧ (∀ x, m_addJob x1 x2 x3 a 4 x = if x = a 1 1 then x3 else a 4 x) := by
  refine ⟨fun c h1 h2 h3 h4 => ?_, fun x => ?_, fun x => ?_, fun x => ?_, fun x => ?_⟩
  · unfold m_addJob
    rw [up_other _ _ _ h1, up_other _ _ _ h4, up_other _ _ _ h3, up_other _ _ _ h2]
  all_goals (simp only [m_addJob, up]; grind)
theorem job_VS {M : Nat} {a : Mem} (hN : WN M a) (x1 x2 x3 : Int) (hj : a 1 1 < 8) (s : Int) : VS (m_addJob x1 x2 x3 a) s ↔ VS a s := by
  obtain ⟨ac, a1, -⟩ := job_acc x1 x2 x3 a
  have e5 := ac 5 (by omega) (by omega) (by omega) (by omega)
  unfold VS
  rw [a1, e5, if_pos rfl]
  constructor
  · rintro ⟨p, q, r⟩
    refine ⟨p, ?_, r⟩
    apply Classical.byContradiction
    intro z
    have := hN.2.2.1 (s / 10) (by omega) (by omega)
    omega
  · rintro ⟨p, q, r⟩
    exact ⟨p, by omega, r⟩
theorem WF_addJob {M : Nat} {a : Mem} (h : WF M a) {x1 x2 x3 : Int} (hj : a 1 1 < 8) (p1 : 0 ≤ x1 ∧ x1 ≤ 1000) (p2 : 0 ≤ x2 ∧ x2 ≤ 1000) (p3 : 0 ≤ x3 ∧ x3 ≤ 20) : WF M (m_addJob x1 x2 x3 a) := by
  obtain ⟨hN, ⟨o1, o2⟩, h1, h2, h3, h4, h5⟩ := id h
  have hV := job_VS hN x1 x2 x3 hj
  obtain ⟨ac, a1, a2, a3, a4⟩ := job_acc x1 x2 x3 a
  generalize m_addJob x1 x2 x3 a = T at *
  have e5 := ac 5 (by omega) (by omega) (by omega) (by omega)
  have e6 := ac 6 (by omega) (by omega) (by omega) (by omega)
  have e7 := ac 7 (by omega) (by omega) (by omega) (by omega)
  have e8 := ac 8 (by omega) (by omega) (by omega) (by omega)
  have e10 := ac 10 (by omega) (by omega) (by omega) (by omega)
  have e11 := ac 11 (by omega) (by omega) (by omega) (by omega)
  have er : ∀ m : Int, 0 ≤ m → T (57 + m) = a (57 + m) := fun m q => ac _ (by omega) (by omega) (by omega) (by omega)
  obtain ⟨⟨b1, b2, b3, b4, b5, b6⟩, n2, n3, n4, n5, n6⟩ := id hN
  refine ⟨⟨⟨?_, b2, b3, ?_, ?_, ?_⟩, ?_, ?_, ?_, ?_, ?_⟩, ⟨?_, ?_⟩, ?_, ?_, ?_, ?_, ?_⟩
  · rw [a1]; simpa using b1
  · rw [a1, if_pos rfl]; omega
  · rw [e5]; exact b5
  · rw [e10]; exact b6
  · intro j q1 q2
    rw [a2, a3, a4]
    have := n2 j q1 q2
    by_cases e : j = a 1 1
    · rw [if_pos e, if_pos e, if_pos e]; exact ⟨p1, p2, p3⟩
    · rw [if_neg e, if_neg e, if_neg e]; exact this
  · intro j q1 q2
    rw [a1, if_pos rfl] at q1
    rw [e5]; exact n3 j (by omega) q2
  · rw [e6, e7]; exact n4
  · rw [e11]; exact n5
  · rw [e11]; exact n6
  · intro m i q1 q2 q3 q4
    rw [e10] at q4
    rw [er m q1, hV, e6, e8]
    exact o1 m i q1 q2 q3 q4
  · intro m i i' q1 q2 q3 q4 q5 q6 q7
    rw [e10] at q4 q6
    rw [er m q1] at q7
    exact o2 m i i' q1 q2 q3 q4 q5 q6 q7
  · intro s q1 q2; rw [e8, hV]; exact h1 s q1 q2
  · intro s hv q
    rw [hV] at hv
    rw [e8] at q
    have hxb := VS_in hN.1 hv
    have hxm := (hN.2.2.2.1 s hxb.1 hxb.2.1).1
    obtain ⟨i, i1, i2, i3⟩ := h2 s hv q
    exact ⟨i, i1, by rw [e10, e6]; exact i2, by rw [e6, er _ hxm.1]; exact i3⟩
  · rw [a1, e5]; simpa using h3
  · rw [a1, e8]; simpa using h4
  · rw [e10, e6, e8]; exact h5
theorem stp_acc (x1 x2 x3 : Int) (a : Mem) : (∀ c : Int, c ≠ 1 → c ≠ 5 → c ≠ 6 → c ≠ 7 → m_addStep x1 x2 x3 a c = a c) ∧ (∀ x, m_addStep x1 x2 x3 a 1 x = if x = 2 then a 1 2 + 1 else a 1 x) ∧ (∀ x, m_addStep x1 x2 x3 a 5 x = if x = x1 then a 5 x + 1 else a 5 x) ∧ (∀ x, m_addStep x1 x2 x3 a 6 x = if x = 10 * x1 + a 5 x1 then x2 else a 6 x) ∧ (∀ x, m_addStep x1 x2 x3 a 7 x = if x = 10 * x1 + a 5 x1 then x3 else a 7 x) := by
  refine ⟨fun c h1 h2 h3 h4 => ?_, fun x => ?_, fun x => ?_, fun x => ?_, fun x => ?_⟩
  · unfold m_addStep
    rw [up_other _ _ _ h2, up_other _ _ _ h1, up_other _ _ _ h4, up_other _ _ _ h3]
  all_goals (simp only [m_addStep, up]; grind)
theorem WF_addStep {M : Nat} {a : Mem} (h : WF M a) {x1 x2 x3 : Int} (hj : 0 ≤ x1 ∧ x1 < a 1 1) (hm : 0 ≤ x2 ∧ x2 < M) (ht : 0 ≤ x3 ∧ x3 ≤ 50) (hc : a 5 x1 < 6) : WF M (m_addStep x1 x2 x3 a) := by
  obtain ⟨hN, ⟨o1, o2⟩, h1, h2, h3, h4, h5⟩ := id h
  obtain ⟨⟨b1, b2, b3, b4, b5, b6⟩, n2, n3, n4, n5, n6⟩ := id hN
  have c5 := b5 x1 hj.1 (by omega)
  obtain ⟨ac, a1, a5, a6, a7⟩ := stp_acc x1 x2 x3 a
  have nv : ¬ VS a (10 * x1 + a 5 x1) := by
    rintro ⟨-, -, q⟩
    rw [show (10 * x1 + a 5 x1) / 10 = x1 by omega] at q
    omega
  have n8 : a 8 (10 * x1 + a 5 x1) = 0 := by
    rcases h1 (10 * x1 + a 5 x1) (by omega) (by omega) with e | ⟨-, v⟩
    · exact e
    · exact absurd v nv
  generalize m_addStep x1 x2 x3 a = T at *
  have e2 := ac 2 (by omega) (by omega) (by omega) (by omega)
  have e3 := ac 3 (by omega) (by omega) (by omega) (by omega)
  have e4 := ac 4 (by omega) (by omega) (by omega) (by omega)
  have e8 := ac 8 (by omega) (by omega) (by omega) (by omega)
  have e10 := ac 10 (by omega) (by omega) (by omega) (by omega)
  have e11 := ac 11 (by omega) (by omega) (by omega) (by omega)
  have er : ∀ m : Int, 0 ≤ m → T (57 + m) = a (57 + m) := fun m q => ac _ (by omega) (by omega) (by omega) (by omega)
  have hV1 : ∀ s, VS a s → VS T s := by
    rintro s ⟨p, q, r⟩
    refine ⟨p, by rw [a1, if_neg (by omega)]; exact q, ?_⟩
    rw [a5]; split <;> omega
  have hne : ∀ s, VS a s → s ≠ 10 * x1 + a 5 x1 := fun s v e => nv (by rw [← e]; exact v)
  have hV2 : ∀ s, VS T s → s ≠ 10 * x1 + a 5 x1 → VS a s := by
    rintro s ⟨p, q, r⟩ e
    rw [a1, if_neg (by omega)] at q
    rw [a5] at r
    refine ⟨p, q, ?_⟩
    by_cases e9 : s / 10 = x1
    · rw [if_pos e9] at r
      rw [e9] at r ⊢
      omega
    · rw [if_neg e9] at r; exact r
  refine ⟨⟨⟨?_, b2, b3, ?_, ?_, ?_⟩, ?_, ?_, ?_, ?_, ?_⟩, ⟨?_, ?_⟩, ?_, ?_, ?_, ?_, ?_⟩
  · rw [a1]; simpa using b1
  · rw [a1]; simpa using b4
  · intro j q1 q2
    rw [a5]
    have := b5 j q1 q2
    by_cases e : j = x1
    · rw [if_pos e]; subst e; omega
    · rw [if_neg e]; exact this
  · rw [e10]; exact b6
  · rw [e2, e3, e4]; exact n2
  · intro j q1 q2
    rw [a1, if_neg (by omega)] at q1
    rw [a5, if_neg (by omega)]; exact n3 j q1 q2
  · intro s q1 q2
    rw [a6, a7]
    have := n4 s q1 q2
    by_cases e : s = 10 * x1 + a 5 x1
    · rw [if_pos e, if_pos e]; exact ⟨hm, ht⟩
    · rw [if_neg e, if_neg e]; exact this
  · rw [e11]; exact n5
  · rw [e11]; exact n6
  · intro m i q1 q2 q3 q4
    rw [e10] at q4
    have o := o1 m i q1 q2 q3 q4
    rw [er m q1, a6, e8, if_neg (hne _ o.1)]
    exact ⟨hV1 _ o.1, o.2⟩
  · intro m i i' q1 q2 q3 q4 q5 q6 q7
    rw [e10] at q4 q6
    rw [er m q1] at q7
    exact o2 m i i' q1 q2 q3 q4 q5 q6 q7
  · intro s q1 q2
    rw [e8]
    rcases h1 s q1 q2 with e | ⟨e, v⟩
    · exact Or.inl e
    · exact Or.inr ⟨e, hV1 s v⟩
  · intro s hv q
    rw [e8] at q
    have hs : s ≠ 10 * x1 + a 5 x1 := fun e => by rw [e, n8] at q; omega
    have hv' := hV2 s hv hs
    have hxb := VS_in hN.1 hv'
    have hxm := (hN.2.2.2.1 s hxb.1 hxb.2.1).1
    obtain ⟨i, i1, i2, i3⟩ := h2 s hv' q
    refine ⟨i, i1, ?_, ?_⟩
    · rw [e10, a6, if_neg hs]; exact i2
    · rw [a6, if_neg hs, er _ hxm.1]; exact i3
  · rw [a1, if_pos rfl, h3]
    exact (sumI_up (k := x1) hj.1 (by omega) (by rw [a5, if_pos rfl]) (fun i q => by rw [a5, if_neg q])).symm
  · rw [a1, e8]; simpa using h4
  · intro m q1 q2
    rw [e10, h5 m q1 q2, e8]
    refine sumI_congr (fun s _ _ => ?_)
    rw [a6]
    by_cases e : s = 10 * x1 + a 5 x1
    · rw [e, n8]; simp
    · rw [if_neg e]
theorem WF_setChange {M : Nat} {a : Mem} (h : WF M a) {x1 x2 x3 x4 : Int} (hm : 0 ≤ x1 ∧ x1 < M) (ha : 0 ≤ x2 ∧ x2 < 8) (hb : 0 ≤ x3 ∧ x3 < 8) (hne : x2 ≠ x3) (ht : 0 ≤ x4 ∧ x4 ≤ 50) : WF M (m_X3_setChange x1 x2 x3 x4 a) := by
  have hc : ∀ c : Int, c ≠ 11 → m_X3_setChange x1 x2 x3 x4 a c = a c := fun c q => by unfold m_X3_setChange; rw [up_other _ _ _ q]
  have h11 : ∀ i, m_X3_setChange x1 x2 x3 x4 a 11 i = if i = (x1 * 8 + x2) * 8 + x3 then x4 else a 11 i := fun i => by unfold m_X3_setChange up; simp
  generalize m_X3_setChange x1 x2 x3 x4 a = T at *
  obtain ⟨⟨hB, n2, n3, n4, n5, n6⟩, hO, hP⟩ := h
  have hB' : SB M T := by unfold SB; rw [hc 1 (by omega), hc 5 (by omega), hc 10 (by omega)]; exact hB
  have hV : ∀ s, VS T s ↔ VS a s := fun s => by unfold VS; rw [hc 1 (by omega), hc 5 (by omega)]
  have er : ∀ m : Int, 0 ≤ m → T (57 + m) = a (57 + m) := fun m q => hc _ (by omega)
  refine ⟨⟨hB', ?_, ?_, ?_, ?_, ?_⟩, ⟨?_, ?_⟩, ?_, ?_, ?_, ?_, ?_⟩
  · rw [hc 2 (by omega), hc 3 (by omega), hc 4 (by omega)]; exact n2
  · rw [hc 1 (by omega), hc 5 (by omega)]; exact n3
  · rw [hc 6 (by omega), hc 7 (by omega)]; exact n4
  · intro i q1 q2
    rw [h11]
    have := n5 i q1 q2
    split <;> omega
  · intro m j q1 q2 q3 q4
    have hni : ¬ (m * 8 + j) * 8 + j = (x1 * 8 + x2) * 8 + x3 := by
      intro e
      have h1 : ((m * 8 + j) * 8 + j) % 8 = j := by omega
      have h2 : ((x1 * 8 + x2) * 8 + x3) % 8 = x3 := by omega
      have h3 : (((m * 8 + j) * 8 + j) / 8) % 8 = j := by omega
      have h4 : (((x1 * 8 + x2) * 8 + x3) / 8) % 8 = x2 := by omega
      rw [e] at h1 h3
      omega
    rw [h11, if_neg hni]
    exact n6 m j q1 q2 q3 q4
  · intro m i q1 q2 q3 q4
    rw [hc 10 (by omega)] at q4
    rw [er m q1, hV, hc 6 (by omega), hc 8 (by omega)]
    exact hO.1 m i q1 q2 q3 q4
  · intro m i i' q1 q2 q3 q4 q5 q6 q7
    rw [hc 10 (by omega)] at q4 q6
    rw [er m q1] at q7
    exact hO.2 m i i' q1 q2 q3 q4 q5 q6 q7
  · intro s q1 q2; rw [hV, hc 8 (by omega)]; exact hP.1 s q1 q2
  · intro s hv q
    rw [hV] at hv
    rw [hc 8 (by omega)] at q
    have hxb := VS_in hB hv
    have hxm := (n4 s hxb.1 hxb.2.1).1
    obtain ⟨i, i1, i2, i3⟩ := hP.2.1 s hv q
    refine ⟨i, i1, ?_, ?_⟩
    · rw [hc 10 (by omega), hc 6 (by omega)]; exact i2
    · rw [hc 6 (by omega), er _ hxm.1]; exact i3
  · rw [hc 1 (by omega), hc 5 (by omega)]; exact hP.2.2.1
  · rw [hc 1 (by omega), hc 8 (by omega)]; exact hP.2.2.2.1
  · rw [hc 10 (by omega), hc 6 (by omega), hc 8 (by omega)]; exact hP.2.2.2.2
/-- a bound speaks of jobs, releases, counts, machines and times alone -/
theorem BND_of {a b : Mem} (e1 : b 1 1 = a 1 1) (e2 : b 2 = a 2) (e5 : b 5 = a 5) (e6 : b 6 = a 6) (e7 : b 7 = a 7) {m z : Int} (x : BND a m z) : BND b m z := by
  have hV : ∀ s, VS b s ↔ VS a s := fun s => by unfold VS; rw [e1, e5]
  have hC : ∀ u, cU b m u = cU a m u := fun u => by
    unfold cU
    refine sumI_congr (fun i _ _ => ?_)
    unfold oc
    rw [e1, e5, e6]
  obtain ⟨h, t, q, c, y⟩ := x
  refine ⟨h, t, q, fun s hs => ?_, by rw [hC]; exact y⟩
  have := c s ⟨(hV s).mp hs.1, by rw [← e6]; exact hs.2⟩
  unfold hdA tlA at *
  rw [hC, e2, e5, e7]
  exact this
theorem BND_job {M : Nat} {a : Mem} (hN : WN M a) (x1 x2 x3 : Int) (hj : a 1 1 < 8) {m z : Int} (x : BND a m z) : BND (m_addJob x1 x2 x3 a) m z := by
  have hV := job_VS hN x1 x2 x3 hj
  obtain ⟨ac, a1, a2, a3, a4⟩ := job_acc x1 x2 x3 a
  generalize m_addJob x1 x2 x3 a = T at *
  have e5 := ac 5 (by omega) (by omega) (by omega) (by omega)
  have e6 := ac 6 (by omega) (by omega) (by omega) (by omega)
  have e7 := ac 7 (by omega) (by omega) (by omega) (by omega)
  have hO : ∀ s, ow T m s ↔ ow a m s := fun s => by unfold ow; rw [hV, e6]
  have hC : ∀ u, cU T m u = cU a m u := fun u => by
    unfold cU
    refine sumI_congr (fun i i0 _ => ?_)
    by_cases o : ow a m i
    · rw [oc_ow o, oc_ow ((hO i).mpr o)]
    · rw [oc_no i0 o, oc_no i0 (fun w => o ((hO i).mp w))]
  obtain ⟨h, t, q, c, y⟩ := x
  refine ⟨h, t, q, fun s hs => ?_, by rw [hC]; exact y⟩
  have hs' := (hO s).mp hs
  have := c s hs'
  unfold hdA tlA at *
  rw [hC, e5, e7, a2, if_neg (by have := hs'.1.2.1; omega)]
  exact this
