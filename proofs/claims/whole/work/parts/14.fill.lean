/-! filling by a rule -/
def nxt (f : Mem) (j : Int) : Int := 10 * j + f 27 j
def rdF (f : Mem) (m j : Int) : Int := if f 10 m = 0 then 0 else f 29 m + f 11 ((m * 8 + f (57 + m) (f 10 m - 1) / 10) * 8 + j)
def bgF (f : Mem) (j : Int) : Int := max (f 28 j) (rdF f (f 6 (nxt f j)) j)
def enF (f : Mem) (j : Int) : Int := bgF f j + f 7 (nxt f j)
def hN (f : Mem) (j : Int) : Prop := 0 ≤ j ∧ j < f 1 1 ∧ f 27 j < f 5 j
def fsF (f : Mem) (j : Int) : Prop := hN f j ∧ ∀ i : Int, hN f i → enF f j < enF f i ∨ (enF f j = enF f i ∧ j ≤ i)
def rvF (f : Mem) (j0 j : Int) : Prop := hN f j ∧ f 6 (nxt f j) = f 6 (nxt f j0) ∧ (j = j0 ∨ bgF f j < enF f j0)
def msF (rule : Int) (f : Mem) (j : Int) : Int := if rule = 0 then f 7 (nxt f j) else if rule = 1 then f 3 j else if rule = 2 then -(sumI (fun p => f 7 (10 * j + p)) (f 27 j) (f 5 j)) else bgF f j
def chF (rule : Int) (f : Mem) (j0 j : Int) : Prop := rvF f j0 j ∧ ∀ i : Int, rvF f j0 i → msF rule f j < msF rule f i ∨ (msF rule f j = msF rule f i ∧ j ≤ i)
def apF (f : Mem) (j : Int) : Mem := up (up (up (m_X3_insert (nxt f j) (f 10 (f 6 (nxt f j))) f) 28 j (enF f j)) 29 (f 6 (nxt f j)) (enF f j)) 27 j (f 27 j + 1)
noncomputable def nextF (rule : Int) (f : Mem) : Mem := apF f (Classical.epsilon (fun j => ∃ j0, fsF f j0 ∧ chF rule f j0 j))
noncomputable def fillN (rule : Int) (f : Mem) : Nat → Mem
  | 0 => f
  | n + 1 => nextF rule (fillN rule f n)
theorem fsF_uniq {f : Mem} {i j : Int} (h : fsF f i) (g : fsF f j) : i = j := by
  have a := h.2 j g.1
  have b := g.2 i h.1
  omega
theorem chF_uniq {rule : Int} {f : Mem} {j0 i j : Int} (h : chF rule f j0 i) (g : chF rule f j0 j) : i = j := by
  have a := h.2 j g.1
  have b := g.2 i h.1
  omega
theorem nextF_eq {rule : Int} {f : Mem} {j0 j : Int} (h : fsF f j0) (g : chF rule f j0 j) : nextF rule f = apF f j := by
  have e := Classical.epsilon_spec (p := fun j => ∃ j0, fsF f j0 ∧ chF rule f j0 j) ⟨j, j0, h, g⟩
  obtain ⟨k0, e1, e2⟩ := e
  rw [fsF_uniq e1 h] at e2
  unfold nextF
  rw [chF_uniq e2 g]
/-- what holds while orders are filled, after n rounds -/
def FI (M : Nat) (f : Mem) (n : Int) : Prop := WF M f
  ∧ (∀ j : Int, 0 ≤ j → j < 8 → 0 ≤ f 27 j ∧ f 27 j ≤ f 5 j)
  ∧ (∀ s : Int, VS f s → (f 8 s = 1 ↔ s % 10 < f 27 (s / 10)))
  ∧ (∀ j : Int, 0 ≤ j → j < 8 → 0 ≤ f 28 j ∧ f 28 j ≤ 1000 + 100 * n)
  ∧ (∀ m : Int, 0 ≤ m → m < 5 → 0 ≤ f 29 m ∧ f 29 m ≤ 1000 + 100 * n)
  ∧ (∀ j : Int, 0 ≤ j → j < 8 → f 27 j = 0 → f 28 j = f 2 j)
  ∧ sumI (f 27) 0 8 = n
theorem FI_n {M : Nat} {f : Mem} {n : Int} (h : FI M f n) : 0 ≤ n ∧ n ≤ f 1 2 ∧ f 1 2 ≤ 48 := by
  obtain ⟨hW, h1, h2, h3, h4, h5, h6⟩ := h
  have a := steps_in hW
  have b := sumI_bd (f := f 27) (lo := 0) (hi := 8) (B := 6) (by omega) (fun j p q => ⟨(h1 j p q).1, by have := (h1 j p q).2; have := (hW.1.1.2.2.2.2.1 j p q).2; omega⟩) 8 (by omega)
  have c := sumI_le (f := f 27) (g := f 5) (lo := 0) (hi := 8) (fun j p q => (h1 j p q).2)
  have d : f 1 2 = sumI (f 5) 0 8 := hW.2.2.2.2.1
  omega
theorem hN_in {M : Nat} {f : Mem} {n : Int} (h : FI M f n) {j : Int} (hj : hN f j) : 0 ≤ j ∧ j < 8 ∧ VS f (nxt f j) ∧ nxt f j / 10 = j ∧ nxt f j % 10 = f 27 j ∧ 0 ≤ f 27 j ∧ f 27 j < 6 ∧ f 8 (nxt f j) = 0 ∧ (0 ≤ f 6 (nxt f j) ∧ f 6 (nxt f j) < M) ∧ (0 ≤ f 7 (nxt f j) ∧ f 7 (nxt f j) ≤ 50) := by
  obtain ⟨hW, h1, h2, h3, h4, h5, h6⟩ := h
  obtain ⟨j0, j1, j2⟩ := hj
  have hB := hW.1.1
  have j8 : j < 8 := by have := hB.2.2.2.1.2; omega
  have a := h1 j j0 j8
  have b := hB.2.2.2.2.1 j j0 j8
  have e1 : nxt f j / 10 = j := by unfold nxt; omega
  have e2 : nxt f j % 10 = f 27 j := by unfold nxt; omega
  have v : VS f (nxt f j) := ⟨by unfold nxt; omega, by rw [e1]; exact j1, by rw [e1, e2]; exact j2⟩
  have vb := VS_in hB v
  have n4 := hW.1.2.2.2.1 _ vb.1 vb.2.1
  have e8 : f 8 (nxt f j) = 0 := by
    rcases hW.2.2.1 _ vb.1 vb.2.1 with e | ⟨e, -⟩
    · exact e
    · have := (h2 _ v).mp e
      rw [e1, e2] at this
      omega
  exact ⟨j0, j8, v, e1, e2, a.1, by omega, e8, n4.1, n4.2⟩
theorem bgF_in {M : Nat} {f : Mem} {n : Int} (h : FI M f n) {j : Int} (hj : hN f j) : 0 ≤ bgF f j ∧ bgF f j ≤ 1050 + 100 * n := by
  have hi := hN_in h hj
  obtain ⟨hW, h1, h2, h3, h4, h5, h6⟩ := h
  have a := h3 j hi.1 hi.2.1
  have hm := hi.2.2.2.2.2.2.2.2.1
  have hM : M ≤ 5 := hW.1.1.2.2.1
  have b := h4 (f 6 (nxt f j)) hm.1 (by omega)
  unfold bgF rdF
  by_cases e : f 10 (f 6 (nxt f j)) = 0
  · rw [if_pos e]; omega
  · rw [if_neg e]
    have hz := hW.1.1.2.2.2.2.2 _ hm.1 hm.2
    have hv := VS_in hW.1.1 (hW.2.1.1 (f 6 (nxt f j)) (f 10 (f 6 (nxt f j)) - 1) hm.1 hm.2 (by omega) (by omega)).1
    have c := hW.1.2.2.2.2.1 ((f 6 (nxt f j) * 8 + f (57 + f 6 (nxt f j)) (f 10 (f 6 (nxt f j)) - 1) / 10) * 8 + j) (by omega) (by omega)
    omega
theorem apF_acc (f : Mem) (j : Int) (hm : 0 ≤ f 6 (nxt f j)) : (∀ c : Int, c ≠ 27 → c ≠ 28 → c ≠ 29 → apF f j c = m_X3_insert (nxt f j) (f 10 (f 6 (nxt f j))) f c) ∧ (∀ x, apF f j 27 x = if x = j then f 27 x + 1 else f 27 x) ∧ (∀ x, apF f j 28 x = if x = j then enF f j else f 28 x) ∧ (∀ x, apF f j 29 x = if x = f 6 (nxt f j) then enF f j else f 29 x) := by
  have ai := (ins_acc (nxt f j) (f 10 (f 6 (nxt f j))) f hm).2.2.2.2.2
  refine ⟨fun c h1 h2 h3 => ?_, fun x => ?_, fun x => ?_, fun x => ?_⟩
  · unfold apF
    rw [up_other _ _ _ h1, up_other _ _ _ h3, up_other _ _ _ h2]
  · unfold apF
    simp only [up]
    rw [ai 27 (by omega) (by omega)]
    grind
  · unfold apF
    simp only [up]
    rw [ai 28 (by omega) (by omega)]
    grind
  · unfold apF
    simp only [up]
    rw [ai 29 (by omega) (by omega)]
    grind
theorem FI_step {M : Nat} {f : Mem} {n : Int} (h : FI M f n) {j : Int} (hj : hN f j) : FI M (apF f j) (n + 1) := by
  have hi := hN_in h hj
  have hbg := bgF_in h hj
  have hn := FI_n h
  obtain ⟨hW, h1, h2, h3, h4, h5, h6⟩ := id h
  obtain ⟨i1, i2, i3, i4, i5, i6, i7, i8, i9, i10⟩ := hi
  obtain ⟨ac, a27, a28, a29⟩ := apF_acc f j i9.1
  obtain ⟨af, a1, a8, a10, ar, -⟩ := ins_acc (nxt f j) (f 10 (f 6 (nxt f j))) f i9.1
  have hz := hW.1.1.2.2.2.2.2 _ i9.1 i9.2
  have hWi := WF_insert hW i3 i8 (p := f 10 (f 6 (nxt f j))) hz.1 (Int.le_refl _)
  have hSE : SE (m_X3_insert (nxt f j) (f 10 (f 6 (nxt f j))) f) (apF f j) := fun c hc => (ac c (by omega) (by omega) (by omega)).symm
  have e5 : apF f j 5 = f 5 := by rw [ac 5 (by omega) (by omega) (by omega), af 5 (by omega)]
  have e2 : apF f j 2 = f 2 := by rw [ac 2 (by omega) (by omega) (by omega), af 2 (by omega)]
  have e8 : ∀ x, apF f j 8 x = if x = nxt f j then 1 else f 8 x := fun x => by rw [ac 8 (by omega) (by omega) (by omega), a8]
  have eV : ∀ x, VS (apF f j) x ↔ VS f x := fun x => by
    unfold VS
    rw [e5, ac 1 (by omega) (by omega) (by omega), a1]
    simp
  have hen : 0 ≤ enF f j ∧ enF f j ≤ 1100 + 100 * n := by unfold enF; omega
  refine ⟨SE_WF hSE hWi, fun x q1 q2 => ?_, fun s hs => ?_, fun x q1 q2 => ?_, fun m q1 q2 => ?_, fun x q1 q2 q3 => ?_, ?_⟩
  · rw [a27, e5]
    have := h1 x q1 q2
    by_cases e : x = j
    · rw [if_pos e]; subst e; have := hj.2.2; omega
    · rw [if_neg e]; exact this
  · rw [eV] at hs
    rw [e8, a27]
    have key := h2 s hs
    have sb := VS_in hW.1.1 hs
    by_cases e : s = nxt f j
    · rw [if_pos e, e, i4, i5, if_pos rfl]
      omega
    · rw [if_neg e]
      by_cases e3 : s / 10 = j
      · rw [if_pos e3]
        have : s % 10 ≠ f 27 j := fun z => e (by unfold nxt; omega)
        rw [e3] at key ⊢
        omega
      · rw [if_neg e3]; exact key
  · rw [a28]
    have := h3 x q1 q2
    split <;> omega
  · rw [a29]
    have := h4 m q1 q2
    split <;> omega
  · rw [a27] at q3
    have := h1 x q1 q2
    by_cases e : x = j
    · rw [if_pos e] at q3; subst e; omega
    · rw [if_neg e] at q3
      rw [a28, if_neg e, e2]
      exact h5 x q1 q2 q3
  · rw [← h6]
    exact sumI_up (k := j) i1 i2 (by rw [a27, if_pos rfl]) (fun i q => by rw [a27, if_neg q])
/-- while fewer rounds than steps went by there is a next step -/
theorem FI_more {M : Nat} {f : Mem} {n : Int} (h : FI M f n) (g : n < f 1 2) : ∃ j, hN f j := by
  obtain ⟨hW, h1, h2, h3, h4, h5, h6⟩ := h
  apply Classical.byContradiction
  intro hn
  have key : ∀ j : Int, 0 ≤ j → j < 8 → f 5 j ≤ f 27 j := by
    intro j q1 q2
    apply Classical.byContradiction
    intro q3
    by_cases q4 : j < f 1 1
    · exact hn ⟨j, q1, q4, by omega⟩
    · have := hW.1.2.2.1 j (by omega) q2
      have := (h1 j q1 q2).1
      omega
  have c := sumI_le (f := f 5) (g := f 27) (lo := 0) (hi := 8) key
  have d : f 1 2 = sumI (f 5) 0 8 := hW.2.2.2.2.1
  omega
def fill0 (a : Mem) : Mem := m_J7_fill_53178 29 5 0 (cpM (m_J7_fill_53178 27 8 0 (m_X3_emptyOrders a)) 2 28 8)
theorem fill0_acc (a : Mem) : (∀ c : Int, 2 ≤ c ∧ c ≤ 7 ∨ c = 11 ∨ 57 ≤ c → fill0 a c = a c) ∧ (∀ x, fill0 a 1 x = if x = 3 then 0 else a 1 x) ∧ (∀ x : Int, 0 ≤ x → x < 80 → fill0 a 8 x = 0) ∧ (∀ x : Int, 0 ≤ x → x < a 1 0 → fill0 a 10 x = 0) ∧ (∀ x : Int, 0 ≤ x → x < 8 → fill0 a 27 x = 0) ∧ (∀ x : Int, 0 ≤ x → x < 8 → fill0 a 28 x = a 2 x) ∧ (∀ x : Int, 0 ≤ x → x < 5 → fill0 a 29 x = 0) ∧ (∀ c : Int, 12 ≤ c → c < 27 ∨ 29 < c → fill0 a c = a c) := by
  refine ⟨fun c hc => ?_, fun x => ?_, fun x h1 h2 => ?_, fun x h1 h2 => ?_, fun x h1 h2 => ?_, fun x h1 h2 => ?_, fun x h1 h2 => ?_, fun c h1 h2 => ?_⟩
  · funext x; simp only [fill0, m_J7_fill_53178, cpM, m_X3_emptyOrders]; grind
  · simp only [fill0, m_J7_fill_53178, cpM, m_X3_emptyOrders]; grind
  · simp only [fill0, m_J7_fill_53178, cpM, m_X3_emptyOrders]; grind
  · simp only [fill0, m_J7_fill_53178, cpM, m_X3_emptyOrders]; grind
  · simp only [fill0, m_J7_fill_53178, cpM, m_X3_emptyOrders]; grind
  · simp only [fill0, m_J7_fill_53178, cpM, m_X3_emptyOrders]; grind
  · simp only [fill0, m_J7_fill_53178, cpM, m_X3_emptyOrders]; grind
  · funext x; simp only [fill0, m_J7_fill_53178, cpM, m_X3_emptyOrders]; grind
theorem FI_0 {M : Nat} {a : Mem} (h : WF M a) : FI M (fill0 a) 0 := by
  obtain ⟨hN0, ⟨o1, o2⟩, h1, h2, h3, h4, h5⟩ := id h
  obtain ⟨af, a1, a8, a10, a27, a28, a29, -⟩ := fill0_acc a
  generalize fill0 a = T at *
  have e5 := af 5 (by omega)
  have e6 := af 6 (by omega)
  obtain ⟨⟨b1, b2, b3, b4, b5, b6⟩, n2, n3, n4, n5, n6⟩ := id hN0
  rw [b1] at a10
  have hV : ∀ x, VS T x ↔ VS a x := fun x => by unfold VS; rw [a1, e5]; simp
  refine ⟨⟨⟨⟨?_, b2, b3, ?_, ?_, ?_⟩, ?_, ?_, ?_, ?_, ?_⟩, ⟨?_, ?_⟩, ?_, ?_, ?_, ?_, ?_⟩, ?_, ?_, ?_, ?_, ?_, ?_⟩
  · rw [a1]; simpa using b1
  · rw [a1]; simpa using b4
  · rw [e5]; exact b5
  · intro m q1 q2; rw [a10 m q1 q2]; omega
  · rw [af 2 (by omega), af 3 (by omega), af 4 (by omega)]; exact n2
  · rw [a1, e5]; simpa using n3
  · rw [e6, af 7 (by omega)]; exact n4
  · rw [af 11 (by omega)]; exact n5
  · rw [af 11 (by omega)]; exact n6
  · intro m i q1 q2 q3 q4; rw [a10 m q1 q2] at q4; omega
  · intro m i i' q1 q2 q3 q4; rw [a10 m q1 q2] at q4; omega
  · intro s q1 q2; left; exact a8 s q1 q2
  · intro s hs q
    rw [hV] at hs
    have hb := VS_in hN0.1 hs
    rw [a8 s hb.1 hb.2.1] at q
    omega
  · rw [a1, e5]; simpa using h3
  · rw [a1, if_pos rfl, sumI_congr (g := fun _ => 0) (fun s q1 q2 => a8 s q1 q2)]
    decide
  · intro m q1 q2
    rw [a10 m q1 q2, sumI_congr (g := fun _ => 0) (fun s q1 q2 => by rw [a8 s q1 q2]; simp)]
    decide
  · intro j q1 q2; rw [a27 j q1 q2, e5]; have := b5 j q1 q2; omega
  · intro s hs
    rw [hV] at hs
    have hb := VS_in hN0.1 hs
    rw [a8 s hb.1 hb.2.1, a27 _ hb.2.2.1 hb.2.2.2.1]
    omega
  · intro j q1 q2; rw [a28 j q1 q2]; have := (n2 j q1 q2).1; omega
  · intro m q1 q2; rw [a29 m q1 q2]; omega
  · intro j q1 q2 _; rw [a28 j q1 q2, af 2 (by omega)]
  · rw [sumI_congr (g := fun _ => 0) (fun s q1 q2 => a27 s q1 q2)]
    decide
