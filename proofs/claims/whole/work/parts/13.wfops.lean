/-! what the shop's own changes keep -/
theorem ins_acc (s p : Int) (a : Mem) (hm0 : 0 ≤ a 6 s) : (∀ c : Int, 2 ≤ c ∧ c ≤ 7 ∨ c = 9 ∨ c = 11 → m_X3_insert s p a c = a c)
  ∧ (∀ x, m_X3_insert s p a 1 x = if x = 3 then a 1 3 + 1 else a 1 x) ∧ (∀ x, m_X3_insert s p a 8 x = if x = s then 1 else a 8 x) ∧ (∀ x, m_X3_insert s p a 10 x = if x = a 6 s then a 10 x + 1 else a 10 x)
  ∧ (∀ m i : Int, 0 ≤ m → m_X3_insert s p a (57 + m) i = if m = a 6 s then (if i = p then s else if p < i ∧ i ≤ a 10 m then a (57 + m) (i - 1) else a (57 + m) i) else a (57 + m) i)
  ∧ (∀ c : Int, 12 ≤ c → c < 57 → m_X3_insert s p a c = a c) := by
  refine ⟨fun c hc => ?_, fun x => ?_, fun x => ?_, fun x => ?_, fun m i hm => ?_, fun c h1 h2 => ?_⟩
  · funext x; simp only [m_X3_insert]; grind
  · simp only [m_X3_insert]; grind
  · simp only [m_X3_insert]; grind
  · simp only [m_X3_insert]; grind
  · simp only [m_X3_insert]; grind
  · funext x; simp only [m_X3_insert]; grind
/-- an open step leaves room -/
theorem size_lt {M : Nat} {a : Mem} (h : WF M a) {s m : Int} (hs : VS a s) (h8 : a 8 s = 0) (hm : 0 ≤ m) (hm2 : m < M) : a 10 m < 48 := by
  obtain ⟨hN, hO, h1, h2, h3, h4, h5⟩ := h
  have hb := VS_in hN.1 hs
  have e := count80 (c := fun _ => 6) (fun _ _ _ => by omega)
  have e2 : sumI (fun x => if x % 10 < (6 : Int) then 1 else 0) 0 80 = 48 := e.trans (by decide)
  have k : sumI (fun x => if x = s then 0 else if x % 10 < (6 : Int) then 1 else 0) 0 80 = 48 - 1 := by
    have z := sumI_up (f := fun x => if x % 10 < (6 : Int) then (1 : Int) else 0) (g := fun x => if x = s then (0 : Int) else if x % 10 < (6 : Int) then 1 else 0) (lo := 0) (hi := 80) (k := s) (d := -1) hb.1 hb.2.1 (by rw [if_pos rfl, if_pos hb.2.2.2.2.2]; rfl) (fun i q => by rw [if_neg q])
    rw [z, e2]
    rfl
  rw [h5 m hm hm2]
  refine Int.lt_of_le_of_lt (sumI_le (g := fun x => if x = s then 0 else if x % 10 < (6 : Int) then 1 else 0) (fun x q1 q2 => ?_)) (by rw [k]; omega)
  by_cases ex : x = s
  · subst ex; simp [h8]
  · rcases h1 x q1 q2 with e | ⟨e, v⟩
    · simp only [ex, e, if_false]; split <;> split <;> omega
    · have := VS_in hN.1 v
      simp only [ex, e, this.2.2.2.2.2, if_false, if_true]; split <;> omega
set_option maxHeartbeats 1000000 in
theorem WF_insert {M : Nat} {a : Mem} (h : WF M a) {s p : Int} (hs : VS a s) (h8 : a 8 s = 0) (p0 : 0 ≤ p) (p1 : p ≤ a 10 (a 6 s)) : WF M (m_X3_insert s p a) := by
  have hsz := fun m q1 q2 => size_lt (m := m) h hs h8 q1 q2
  obtain ⟨hN, ⟨o1, o2⟩, h1, h2, h3, h4, h5⟩ := id h
  have hb := VS_in hN.1 hs
  have hm := (hN.2.2.2.1 s hb.1 hb.2.1).1
  obtain ⟨af, a1, a8, a10, ar, -⟩ := ins_acc s p a hm.1
  generalize m_X3_insert s p a = T at *
  have hV : ∀ x, VS T x ↔ VS a x := fun x => by unfold VS; rw [a1, af 5 (by omega)]; simp
  have e5 := af 5 (by omega)
  have e6 := af 6 (by omega)
  obtain ⟨⟨b1, b2, b3, b4, b5, b6⟩, n2, n3, n4, n5, n6⟩ := id hN
  refine ⟨⟨⟨?_, b2, b3, ?_, ?_, ?_⟩, ?_, ?_, ?_, ?_, ?_⟩, ⟨?_, ?_⟩, ?_, ?_, ?_, ?_, ?_⟩
  · rw [a1]; simpa using b1
  · rw [a1]; simpa using b4
  · rw [e5]; exact b5
  · intro m q1 q2
    rw [a10]
    have := b6 m q1 q2
    have := hsz m q1 q2
    split <;> omega
  · rw [af 2 (by omega), af 3 (by omega), af 4 (by omega)]; exact n2
  · rw [a1, e5]; simpa using n3
  · rw [e6, af 7 (by omega)]; exact n4
  · rw [af 11 (by omega)]; exact n5
  · rw [af 11 (by omega)]; exact n6
  · intro m i q1 q2 q3 q4
    rw [a10] at q4
    rw [ar m i q1, hV, e6, a8]
    by_cases e : m = a 6 s
    · rw [if_pos e] at q4 ⊢
      subst e
      by_cases e2 : i = p
      · rw [if_pos e2]; simp [hs]
      · rw [if_neg e2]
        by_cases e3 : p < i ∧ i ≤ a 10 (a 6 s)
        · rw [if_pos e3]
          have := o1 (a 6 s) (i - 1) q1 q2 (by omega) (by omega)
          refine ⟨this.1, this.2.1, ?_⟩
          rw [this.2.2]; simp
        · rw [if_neg e3]
          have := o1 (a 6 s) i q1 q2 q3 (by omega)
          refine ⟨this.1, this.2.1, ?_⟩
          rw [this.2.2]; simp
    · rw [if_neg e] at q4 ⊢
      have := o1 m i q1 q2 q3 q4
      refine ⟨this.1, this.2.1, ?_⟩
      rw [this.2.2]; simp
  · intro m i i' q1 q2 q3 q4 q5 q6 q7
    rw [a10] at q4 q6
    rw [ar m i q1, ar m i' q1] at q7
    by_cases e : m = a 6 s
    · rw [if_pos e] at q4 q6 q7
      rw [if_pos e] at q7
      subst e
      have ns : ∀ k : Int, 0 ≤ k → k < a 10 (a 6 s) → a (57 + a 6 s) k ≠ s := fun k k1 k2 z => by
        have := (o1 (a 6 s) k q1 q2 k1 k2).2.2
        rw [z, h8] at this
        omega
      have inj := fun k k' k1 k2 k3 k4 => o2 (a 6 s) k k' q1 q2 k1 k2 k3 k4
      by_cases e2 : i = p
      · by_cases e2' : i' = p
        · omega
        · rw [if_pos e2, if_neg e2'] at q7
          by_cases e3 : p < i' ∧ i' ≤ a 10 (a 6 s)
          · rw [if_pos e3] at q7
            exact absurd q7.symm (ns (i' - 1) (by omega) (by omega))
          · rw [if_neg e3] at q7
            exact absurd q7.symm (ns i' (by omega) (by omega))
      · rw [if_neg e2] at q7
        by_cases e2' : i' = p
        · rw [if_pos e2'] at q7
          by_cases e3 : p < i ∧ i ≤ a 10 (a 6 s)
          · rw [if_pos e3] at q7
            exact absurd q7 (ns (i - 1) (by omega) (by omega))
          · rw [if_neg e3] at q7
            exact absurd q7 (ns i (by omega) (by omega))
        · rw [if_neg e2'] at q7
          by_cases e3 : p < i ∧ i ≤ a 10 (a 6 s)
          · rw [if_pos e3] at q7
            by_cases e4 : p < i' ∧ i' ≤ a 10 (a 6 s)
            · rw [if_pos e4] at q7
              have := inj (i - 1) (i' - 1) (by omega) (by omega) (by omega) (by omega) q7
              omega
            · rw [if_neg e4] at q7
              have := inj (i - 1) i' (by omega) (by omega) (by omega) (by omega) q7
              omega
          · rw [if_neg e3] at q7
            by_cases e4 : p < i' ∧ i' ≤ a 10 (a 6 s)
            · rw [if_pos e4] at q7
              have := inj i (i' - 1) (by omega) (by omega) (by omega) (by omega) q7
              omega
            · rw [if_neg e4] at q7
              exact inj i i' (by omega) (by omega) (by omega) (by omega) q7
    · rw [if_neg e] at q4 q6 q7
      rw [if_neg e] at q7
      exact o2 m i i' q1 q2 q3 q4 q5 q6 q7
  · intro x q1 q2
    rw [a8, hV]
    by_cases e : x = s
    · subst e; simp [hs]
    · rw [if_neg e]; exact h1 x q1 q2
  · intro x hv q
    rw [hV] at hv
    rw [a8] at q
    rw [e6, a10]
    have hxb := VS_in hN.1 hv
    have hxm := (hN.2.2.2.1 x hxb.1 hxb.2.1).1
    by_cases e : x = s
    · subst e
      refine ⟨p, p0, by rw [if_pos rfl]; omega, ?_⟩
      rw [ar _ _ hxm.1, if_pos rfl, if_pos rfl]
    · rw [if_neg e] at q
      obtain ⟨i, i1, i2, i3⟩ := h2 x hv q
      by_cases em : a 6 x = a 6 s
      · rw [if_pos em]
        by_cases ei : i < p
        · refine ⟨i, i1, by omega, ?_⟩
          rw [ar _ _ hxm.1, if_pos em, if_neg (by omega), if_neg (by omega), i3]
        · refine ⟨i + 1, by omega, by omega, ?_⟩
          rw [ar _ _ hxm.1, if_pos em, if_neg (by omega), if_pos (by omega), show i + 1 - 1 = i by omega, i3]
      · rw [if_neg em]
        refine ⟨i, i1, i2, ?_⟩
        rw [ar _ _ hxm.1, if_neg em, i3]
  · rw [a1, e5]; simpa using h3
  · rw [a1, if_pos rfl, h4]
    exact (sumI_up (k := s) hb.1 hb.2.1 (by rw [a8, if_pos rfl, h8]; rfl) (fun i q => by rw [a8, if_neg q])).symm
  · intro m q1 q2
    rw [a10, h5 m q1 q2, e6]
    by_cases e : m = a 6 s
    · rw [if_pos e]
      refine (sumI_up (k := s) hb.1 hb.2.1 ?_ (fun i q => ?_)).symm
      · rw [if_pos e.symm, if_pos e.symm, a8, if_pos rfl, h8]; rfl
      · rw [a8, if_neg q]
    · rw [if_neg e]
      refine sumI_congr (fun x _ _ => ?_)
      by_cases ex : x = s
      · subst ex
        rw [if_neg (fun z => e z.symm), if_neg (fun z => e z.symm)]
      · rw [a8, if_neg ex]
