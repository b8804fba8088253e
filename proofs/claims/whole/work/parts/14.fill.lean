/-! filling by a rule -/
def nxt (f : Mem) (j : Int) : Int := 10 * j + f 27 j
def rdF (f : Mem) (m j : Int) : Int := if f 10 m = 0 then 0 else f 29 m + f 11 ((m * 8 + f (57 + m) (f 10 m - 1) / 10) * 8 + j)
def bgF (f : Mem) (j : Int) : Int := max (f 28 j) (rdF f (f 6 (nxt f j)) j)
def enF (f : Mem) (j : Int) : Int := bgF f j + f 7 (nxt f j)
def hN (f : Mem) (j : Int) : Prop := 0 ≤ j ∧ j < f 1 1 ∧ f 27 j < f 5 j
def fsF (f : Mem) (j : Int) : Prop := hN f j ∧ ∀ i : Int, hN f i → enF f j < enF f i ∨ (enF f j = enF f i ∧ j ≤ i)
def rvF (f : Mem) (j0 j : Int) : Prop := hN f j ∧ f 6 (nxt f j) = f 6 (nxt f j0) ∧ (j = j0 ∨ bgF f j < enF f j0)
def msF (rule : Int) (f : Mem) (j : Int) : Int := if rule = 0 then f 7 (nxt f j) else if rule = 1 then f 3 j else if rule = 2 then -(sumI (fun p => f 7 (10 * j + p)) (f 27 j) (f 5 j)) else bgF f j
def chF (rule : Int) (f : Mem) (j0 j : Int) : Prop := rvF f j0 j ∧ ∀ i : Int, rvF f j0 i → msF rule f j < msF rule f i ∨ (msF rule f j = msF rule f i ∧ j ≤ i)
def apF (f : Mem) (j : Int) : Mem := up (up (up (m_X3_insert (nxt f j) (f 10 (f 6 (nxt f j))) f) 28 j (enF f j)) 29 (f 6 (nxt f j)) (enF f j)) 27 j (f 27 j + 1)
noncomputable def nextF (rule : Int) (f : Mem) : Mem := apF f (Classical.epsilon (fun j => ∃ j0, fsF f j0 ∧ chF rule f j0 j))
noncomputable def fillN (rule : Int) (f : Mem) : Nat → Mem
  | 0 => f
  | n + 1 => nextF rule (fillN rule f n)
theorem fsF_uniq {f : Mem} {i j : Int} (h : fsF f i) (g : fsF f j) : i = j := by
  have a := h.2 j g.1
  have b := g.2 i h.1
  omega
theorem chF_uniq {rule : Int} {f : Mem} {j0 i j : Int} (h : chF rule f j0 i) (g : chF rule f j0 j) : i = j := by
  have a := h.2 j g.1
  have b := g.2 i h.1
  omega
theorem nextF_eq {rule : Int} {f : Mem} {j0 j : Int} (h : fsF f j0) (g : chF rule f j0 j) : nextF rule f = apF f j := by
  have e := Classical.epsilon_spec (p := fun j => ∃ j0, fsF f j0 ∧ chF rule f j0 j) ⟨j, j0, h, g⟩
  obtain ⟨k0, e1, e2⟩ := e
  rw [fsF_uniq e1 h] at e2
  unfold nextF
  rw [chF_uniq e2 g]
/-- what holds while orders are filled, after n rounds -/
def FI (M : Nat) (f : Mem) (n : Int) : Prop := WF M f
  ∧ (∀ j : Int, 0 ≤ j → j < 8 → 0 ≤ f 27 j ∧ f 27 j ≤ f 5 j)
  ∧ (∀ s : Int, VS f s → (f 8 s = 1 ↔ s % 10 < f 27 (s / 10)))
  ∧ (∀ j : Int, 0 ≤ j → j < 8 → 0 ≤ f 28 j ∧ f 28 j ≤ 1000 + 100 * n)
  ∧ (∀ m : Int, 0 ≤ m → m < 5 → 0 ≤ f 29 m ∧ f 29 m ≤ 1000 + 100 * n)
  ∧ (∀ j : Int, 0 ≤ j → j < 8 → f 27 j = 0 → f 28 j = f 2 j)
  ∧ sumI (f 27) 0 8 = n
theorem FI_n {M : Nat} {f : Mem} {n : Int} (h : FI M f n) : 0 ≤ n ∧ n ≤ f 1 2 ∧ f 1 2 ≤ 48 := by
  obtain ⟨hW, h1, h2, h3, h4, h5, h6⟩ := h
  have a := steps_in hW
  have b := sumI_bd (f := f 27) (lo := 0) (hi := 8) (B := 6) (by omega) (fun j p q => ⟨(h1 j p q).1, by have := (h1 j p q).2; have := (hW.1.1.2.2.2.2.1 j p q).2; omega⟩) 8 (by omega)
  have c := sumI_le (f := f 27) (g := f 5) (lo := 0) (hi := 8) (fun j p q => (h1 j p q).2)
  have d : f 1 2 = sumI (f 5) 0 8 := hW.2.2.2.2.1
  omega
theorem hN_in {M : Nat} {f : Mem} {n : Int} (h : FI M f n) {j : Int} (hj : hN f j) : 0 ≤ j ∧ j < 8 ∧ VS f (nxt f j) ∧ nxt f j / 10 = j ∧ nxt f j % 10 = f 27 j ∧ 0 ≤ f 27 j ∧ f 27 j < 6 ∧ f 8 (nxt f j) = 0 ∧ (0 ≤ f 6 (nxt f j) ∧ f 6 (nxt f j) < M) ∧ (0 ≤ f 7 (nxt f j) ∧ f 7 (nxt f j) ≤ 50) := by
  obtain ⟨hW, h1, h2, h3, h4, h5, h6⟩ := h
  obtain ⟨j0, j1, j2⟩ := hj
  have hB := hW.1.1
  have j8 : j < 8 := by have := hB.2.2.2.1.2; omega
  have a := h1 j j0 j8
  have b := hB.2.2.2.2.1 j j0 j8
  have e1 : nxt f j / 10 = j := by unfold nxt; omega
  have e2 : nxt f j % 10 = f 27 j := by unfold nxt; omega
  have v : VS f (nxt f j) := ⟨by unfold nxt; omega, by rw [e1]; exact j1, by rw [e1, e2]; exact j2⟩
  have vb := VS_in hB v
  have n4 := hW.1.2.2.2.1 _ vb.1 vb.2.1
  have e8 : f 8 (nxt f j) = 0 := by
    rcases hW.2.2.1 _ vb.1 vb.2.1 with e | ⟨e, -⟩
    · exact e
    · have := (h2 _ v).mp e
      rw [e1, e2] at this
      omega
  exact ⟨j0, j8, v, e1, e2, a.1, by omega, e8, n4.1, n4.2⟩
theorem bgF_in {M : Nat} {f : Mem} {n : Int} (h : FI M f n) {j : Int} (hj : hN f j) : 0 ≤ bgF f j ∧ bgF f j ≤ 1050 + 100 * n := by
  have hi := hN_in h hj
  obtain ⟨hW, h1, h2, h3, h4, h5, h6⟩ := h
  have a := h3 j hi.1 hi.2.1
  have hm := hi.2.2.2.2.2.2.2.2.1
  have hM : M ≤ 5 := hW.1.1.2.2.1
  have b := h4 (f 6 (nxt f j)) hm.1 (by omega)
  unfold bgF rdF
  by_cases e : f 10 (f 6 (nxt f j)) = 0
  · rw [if_pos e]; omega
  · rw [if_neg e]
    have hz := hW.1.1.2.2.2.2.2 _ hm.1 hm.2
    have hv := VS_in hW.1.1 (hW.2.1.1 (f 6 (nxt f j)) (f 10 (f 6 (nxt f j)) - 1) hm.1 hm.2 (by omega) (by omega)).1
    have c := hW.1.2.2.2.2.1 ((f 6 (nxt f j) * 8 + f (57 + f 6 (nxt f j)) (f 10 (f 6 (nxt f j)) - 1) / 10) * 8 + j) (by omega) (by omega)
    omega
theorem apF_acc (f : Mem) (j : Int) (hm : 0 ≤ f 6 (nxt f j)) : (∀ c : Int, c ≠ 27 → c ≠ 28 → c ≠ 29 → apF f j c = m_X3_insert (nxt f j) (f 10 (f 6 (nxt f j))) f c) ∧ (∀ x, apF f j 27 x = if x = j then f 27 x + 1 else f 27 x) ∧ (∀ x, apF f j 28 x = if x = j then enF f j else f 28 x) ∧ (∀ x, apF f j 29 x = if x = f 6 (nxt f j) then enF f j else f 29 x) := by
  have ai := (ins_acc (nxt f j) (f 10 (f 6 (nxt f j))) f hm).2.2.2.2.2
  refine ⟨fun c h1 h2 h3 => ?_, fun x => ?_, fun x => ?_, fun x => ?_⟩
  · unfold apF
    rw [up_other _ _ _ h1, up_other _ _ _ h3, up_other _ _ _ h2]
  · unfold apF
    simp only [up]
    rw [ai 27 (by omega) (by omega)]
    grind
  · unfold apF
    simp only [up]
    rw [ai 28 (by omega) (by omega)]
    grind
  · unfold apF
    simp only [up]
    rw [ai 29 (by omega) (by omega)]
    grind
theorem FI_step {M : Nat} {f : Mem} {n : Int} (h : FI M f n) {j : Int} (hj : hN f j) : FI M (apF f j) (n + 1) := by
  have hi := hN_in h hj
  have hbg := bgF_in h hj
  have hn := FI_n h
  obtain ⟨hW, h1, h2, h3, h4, h5, h6⟩ := id h
  obtain ⟨i1, i2, i3, i4, i5, i6, i7, i8, i9, i10⟩ := hi
  obtain ⟨ac, a27, a28, a29⟩ := apF_acc f j i9.1
  obtain ⟨af, a1, a8, a10, ar, -⟩ := ins_acc (nxt f j) (f 10 (f 6 (nxt f j))) f i9.1
  have hz := hW.1.1.2.2.2.2.2 _ i9.1 i9.2
  have hWi := WF_insert hW i3 i8 (p := f 10 (f 6 (nxt f j))) hz.1 (Int.le_refl _)
  have hSE : SE (m_X3_insert (nxt f j) (f 10 (f 6 (nxt f j))) f) (apF f j) := fun c hc => (ac c (by omega) (by omega) (by omega)).symm
  have e5 : apF f j 5 = f 5 := by rw [ac 5 (by omega) (by omega) (by omega), af 5 (by omega)]
  have e2 : apF f j 2 = f 2 := by rw [ac 2 (by omega) (by omega) (by omega), af 2 (by omega)]
  have e8 : ∀ x, apF f j 8 x = if x = nxt f j then 1 else f 8 x := fun x => by rw [ac 8 (by omega) (by omega) (by omega), a8]
  have eV : ∀ x, VS (apF f j) x ↔ VS f x := fun x => by
    unfold VS
    rw [e5, ac 1 (by omega) (by omega) (by omega), a1]
    simp
  have hen : 0 ≤ enF f j ∧ enF f j ≤ 1100 + 100 * n := by unfold enF; omega
  refine ⟨SE_WF hSE hWi, fun x q1 q2 => ?_, fun s hs => ?_, fun x q1 q2 => ?_, fun m q1 q2 => ?_, fun x q1 q2 q3 => ?_, ?_⟩
  · rw [a27, e5]
    have := h1 x q1 q2
    by_cases e : x = j
    · rw [if_pos e]; subst e; have := hj.2.2; omega
    · rw [if_neg e]; exact this
  · rw [eV] at hs
    rw [e8, a27]
    have key := h2 s hs
    have sb := VS_in hW.1.1 hs
    by_cases e : s = nxt f j
    · rw [if_pos e, e, i4, i5, if_pos rfl]
      omega
    · rw [if_neg e]
      by_cases e3 : s / 10 = j
      · rw [if_pos e3]
        have : s % 10 ≠ f 27 j := fun z => e (by unfold nxt; omega)
        rw [e3] at key ⊢
        omega
      · rw [if_neg e3]; exact key
  · rw [a28]
    have := h3 x q1 q2
    split <;> omega
  · rw [a29]
    have := h4 m q1 q2
    split <;> omega
  · rw [a27] at q3
    have := h1 x q1 q2
    by_cases e : x = j
    · rw [if_pos e] at q3; subst e; omega
    · rw [if_neg e] at q3
      rw [a28, if_neg e, e2]
      exact h5 x q1 q2 q3
  · rw [← h6]
    exact sumI_up (k := j) i1 i2 (by rw [a27, if_pos rfl]) (fun i q => by rw [a27, if_neg q])
/-- while fewer rounds than steps went by there is a next step -/
theorem FI_more {M : Nat} {f : Mem} {n : Int} (h : FI M f n) (g : n < f 1 2) : ∃ j, hN f j := by
  obtain ⟨hW, h1, h2, h3, h4, h5, h6⟩ := h
  apply Classical.byContradiction
  intro hn
  have key : ∀ j : Int, 0 ≤ j → j < 8 → f 5 j ≤ f 27 j := by
    intro j q1 q2
    apply Classical.byContradiction
    intro q3
    by_cases q4 : j < f 1 1
    · exact hn ⟨j, q1, q4, by omega⟩
    · have := hW.1.2.2.1 j (by omega) q2
      have := (h1 j q1 q2).1
      omega
  have c := sumI_le (f := f 5) (g := f 27) (lo := 0) (hi := 8) key
  have d : f 1 2 = sumI (f 5) 0 8 := hW.2.2.2.2.1
  omega
def fill0 (a : Mem) : Mem := m_J7_fill_53178 29 5 0 (cpM (m_J7_fill_53178 27 8 0 (m_X3_emptyOrders a)) 2 28 8)
theorem fill0_acc (a : Mem) : (∀ c : Int, 2 ≤ c ∧ c ≤ 7 ∨ c = 11 ∨ 57 ≤ c → fill0 a c = a c) ∧ (∀ x, fill0 a 1 x = if x = 3 then 0 else a 1 x) ∧ (∀ x : Int, 0 ≤ x → x < 80 → fill0 a 8 x = 0) ∧ (∀ x : Int, 0 ≤ x → x < a 1 0 → fill0 a 10 x = 0) ∧ (∀ x : Int, 0 ≤ x → x < 8 → fill0 a 27 x = 0) ∧ (∀ x : Int, 0 ≤ x → x < 8 → fill0 a 28 x = a 2 x) ∧ (∀ x : Int, 0 ≤ x → x < 5 → fill0 a 29 x = 0) ∧ (∀ c : Int, 12 ≤ c → c < 27 ∨ 29 < c → fill0 a c = a c) := by
  refine ⟨fun c hc => ?_, fun x => ?_, fun x h1 h2 => ?_, fun x h1 h2 => ?_, fun x h1 h2 => ?_, fun x h1 h2 => ?_, fun x h1 h2 => ?_, fun c h1 h2 => ?_⟩
  · funext x; simp only [fill0, m_J7_fill_53178, cpM, m_X3_emptyOrders]; grind
  · simp only [fill0, m_J7_fill_53178, cpM, m_X3_emptyOrders]; grind
  · simp only [fill0, m_J7_fill_53178, cpM, m_X3_emptyOrders]; grind
  · simp only [fill0, m_J7_fill_53178, cpM, m_X3_emptyOrders]; grind
  · simp only [fill0, m_J7_fill_53178, cpM, m_X3_emptyOrders]; grind
  · simp only [fill0, m_J7_fill_53178, cpM, m_X3_emptyOrders]; grind
  · simp only [fill0, m_J7_fill_53178, cpM, m_X3_emptyOrders]; grind
  · funext x; simp only [fill0, m_J7_fill_53178, cpM, m_X3_emptyOrders]; grind
theorem FI_0 {M : Nat} {a : Mem} (h : WF M a) : FI M (fill0 a) 0 := by
  obtain ⟨hN0, ⟨o1, o2⟩, h1, h2, h3, h4, h5⟩ := id h
  obtain ⟨af, a1, a8, a10, a27, a28, a29, -⟩ := fill0_acc a
  generalize fill0 a = T at *
  have e5 := af 5 (by omega)
  have e6 := af 6 (by omega)
  obtain ⟨⟨b1, b2, b3, b4, b5, b6⟩, n2, n3, n4, n5, n6⟩ := id hN0
  rw [b1] at a10
  have hV : ∀ x, VS T x ↔ VS a x := fun x => by unfold VS; rw [a1, e5]; simp
  refine ⟨⟨⟨⟨?_, b2, b3, ?_, ?_, ?_⟩, ?_, ?_, ?_, ?_, ?_⟩, ⟨?_, ?_⟩, ?_, ?_, ?_, ?_, ?_⟩, ?_, ?_, ?_, ?_, ?_, ?_⟩
  · rw [a1]; simpa using b1
  · rw [a1]; simpa using b4
  · rw [e5]; exact b5
  · intro m q1 q2; rw [a10 m q1 q2]; omega
  · rw [af 2 (by omega), af 3 (by omega), af 4 (by omega)]; exact n2
  · rw [a1, e5]; simpa using n3
  · rw [e6, af 7 (by omega)]; exact n4
  · rw [af 11 (by omega)]; exact n5
  · rw [af 11 (by omega)]; exact n6
  · intro m i q1 q2 q3 q4; rw [a10 m q1 q2] at q4; omega
  · intro m i i' q1 q2 q3 q4; rw [a10 m q1 q2] at q4; omega
  · intro s q1 q2; left; exact a8 s q1 q2
  · intro s hs q
    rw [hV] at hs
    have hb := VS_in hN0.1 hs
    rw [a8 s hb.1 hb.2.1] at q
    omega
  · rw [a1, e5]; simpa using h3
  · rw [a1, if_pos rfl, sumI_congr (g := fun _ => 0) (fun s q1 q2 => a8 s q1 q2)]
    decide
  · intro m q1 q2
    rw [a10 m q1 q2, sumI_congr (g := fun _ => 0) (fun s q1 q2 => by rw [a8 s q1 q2]; simp)]
    decide
  · intro j q1 q2; rw [a27 j q1 q2, e5]; have := b5 j q1 q2; omega
  · intro s hs
    rw [hV] at hs
    have hb := VS_in hN0.1 hs
    rw [a8 s hb.1 hb.2.1, a27 _ hb.2.2.1 hb.2.2.2.1]
    omega
  · intro j q1 q2; rw [a28 j q1 q2]; have := (n2 j q1 q2).1; omega
  · intro m q1 q2; rw [a29 m q1 q2]; omega
  · intro j q1 q2 _; rw [a28 j q1 q2, af 2 (by omega)]
  · rw [sumI_congr (g := fun _ => 0) (fun s q1 q2 => a27 s q1 q2)]
    decide
/-- but for the class's own begins -/
def C30 (f τ : Mem) : Prop := ∀ c : Int, c ≠ 30 → τ c = f c
theorem C30.trans {a b c : Mem} (h : C30 a b) (g : C30 b c) : C30 a c := fun d hd => (g d hd).trans (h d hd)
theorem nxt_c {f τ : Mem} (h : C30 f τ) (j : Int) : nxt τ j = nxt f j := by unfold nxt; rw [h 27 (by omega)]
theorem hN_c {f τ : Mem} (h : C30 f τ) (j : Int) : hN τ j ↔ hN f j := by unfold hN; rw [h 1 (by omega), h 27 (by omega), h 5 (by omega)]
theorem rdF_c {f τ : Mem} (h : C30 f τ) {m : Int} (hm : 0 ≤ m) (j : Int) : rdF τ m j = rdF f m j := by unfold rdF; rw [h 10 (by omega), h 29 (by omega), h 11 (by omega), h (57 + m) (by omega)]
theorem bgF_c {f τ : Mem} (h : C30 f τ) {j : Int} (hm : 0 ≤ f 6 (nxt f j)) : bgF τ j = bgF f j := by
  unfold bgF
  rw [nxt_c h, h 6 (by omega), h 28 (by omega), rdF_c h hm]
theorem enF_c {f τ : Mem} (h : C30 f τ) {j : Int} (hm : 0 ≤ f 6 (nxt f j)) : enF τ j = enF f j := by
  unfold enF
  rw [bgF_c h hm, nxt_c h, h 7 (by omega)]
theorem C30_SE {f τ : Mem} (h : C30 f τ) : SE f τ := fun c hc => (h c (by omega)).symm
theorem FI_c {M : Nat} {f τ : Mem} {n : Int} (h : C30 f τ) (g : FI M f n) : FI M τ n := by
  obtain ⟨hW, h1, h2, h3, h4, h5, h6⟩ := g
  refine ⟨SE_WF (C30_SE h) hW, ?_, fun s hs => ?_, ?_, ?_, ?_, ?_⟩
  · rw [h 27 (by omega), h 5 (by omega)]; exact h1
  · rw [h 8 (by omega), h 27 (by omega)]
    exact h2 s ((SE_VS (C30_SE h) s).mpr hs)
  · rw [h 28 (by omega)]; exact h3
  · rw [h 29 (by omega)]; exact h4
  · rw [h 27 (by omega), h 28 (by omega), h 2 (by omega)]; exact h5
  · rw [h 27 (by omega)]; exact h6
theorem ins_c30 {f τ : Mem} (h : C30 f τ) (s p : Int) : C30 (m_X3_insert s p f) (m_X3_insert s p τ) := by
  intro c hc
  funext i
  unfold m_X3_insert
  rw [h 6 (by omega), h 10 (by omega), h 1 (by omega), h c hc]
theorem up_c30 {f τ : Mem} (h : C30 f τ) (k i v : Int) : C30 (up f k i v) (up τ k i v) := by
  intro c hc
  funext x
  unfold up
  rw [h c hc]

/-- what filling leaves alone -/
def FK (a f : Mem) : Prop := f 1 1 = a 1 1 ∧ f 1 2 = a 1 2 ∧ ∀ c : Int, 2 ≤ c ∧ c ≤ 7 ∨ c = 11 → f c = a c
theorem FK_0 (a : Mem) : FK a (fill0 a) := by
  obtain ⟨af, a1, -⟩ := fill0_acc a
  exact ⟨by rw [a1]; simp, by rw [a1]; simp, fun c hc => af c (by omega)⟩
theorem FK_step {a f : Mem} (h : FK a f) {j : Int} (hm : 0 ≤ f 6 (nxt f j)) : FK a (apF f j) := by
  obtain ⟨ac, -⟩ := apF_acc f j hm
  obtain ⟨af, a1, -⟩ := ins_acc (nxt f j) (f 10 (f 6 (nxt f j))) f hm
  refine ⟨?_, ?_, fun c hc => ?_⟩
  · rw [ac 1 (by omega) (by omega) (by omega), a1]; simpa using h.1
  · rw [ac 1 (by omega) (by omega) (by omega), a1]; simpa using h.2.1
  · rw [ac c (by omega) (by omega) (by omega), af c (by omega)]; exact h.2.2 c hc

/-! X1_hasNext -/
def P_X1_hasNext (x1 : Int) (σ : Mem) : Prop := σ 27 x1 < σ 5 x1
def pre_X1_hasNext (M : Nat) (x1 : Int) (σ : Mem) : Prop := 0 ≤ x1 ∧ x1 < 8 ∧ 0 ≤ σ 27 x1 ∧ σ 27 x1 ≤ 6 ∧ 0 ≤ σ 5 x1 ∧ σ 5 x1 ≤ 6
theorem FI_hasNext {M : Nat} {f : Mem} {n : Int} (h : FI M f n) {j : Int} (h0 : 0 ≤ j) (h1 : j < 8) : pre_X1_hasNext M j f := by
  have a := h.2.1 j h0 h1
  have b := h.1.1.1.2.2.2.2.1 j h0 h1
  exact ⟨h0, h1, by omega, by omega, by omega, by omega⟩
def VC_X1_hasNext_0 (M : Nat) (post : Int → Mem → Prop) (x1 : Int) (σ : Mem) : Prop :=
 (0 ≤ x1 ∧ x1 < 8) ∧ (0 ≤ x1 ∧ x1 < 8) ∧ (inR (σ 27 x1) ∧ inR (σ 5 x1)) ∧ (((σ 5 x1) ≤ (σ 27 x1) → post 0 σ) ∧ ((σ 27 x1) < (σ 5 x1) → post 1 σ))
set_option maxRecDepth 20000 in
set_option maxHeartbeats 4000000 in
theorem seg_X1_hasNext_0 {G : GG} {X : XX} {post : Int → Mem → Prop} (C : CX G X cX1_hasNext RX1 2 (some .boolean) 0)   (x1 : Int) (σ : Mem) (vc : VC_X1_hasNext_0 (gM G)  post  x1 σ) : RW G X 2 (QI G X post) 0 [(0, pR 26), (1, pI x1)] [] σ := by
  unfold VC_X1_hasNext_0 at vc
  refine w_aload_n C 0 dX1_hasNext_0 rfl ?_
  refine w_getR C dX1_hasNext_1 gf_X1_9 ob_26 rfl ?_
  refine w_iload_n C 1 dX1_hasNext_4 rfl ?_
  obtain ⟨⟨sc1, sc2⟩, vc⟩ := vc
  refine w_iald C dX1_hasNext_5 ia_27 sc1 sc2 ?_
  refine w_aload_n C 0 dX1_hasNext_6 rfl ?_
  refine w_getR C dX1_hasNext_7 gf_X1_24 ob_26 rfl ?_
  refine w_getR C dX1_hasNext_10 gf_X1_67 ob_1 rfl ?_
  refine w_iload_n C 1 dX1_hasNext_13 rfl ?_
  obtain ⟨⟨sc3, sc4⟩, vc⟩ := vc
  refine w_iald C dX1_hasNext_14 ia_5 sc3 sc4 ?_
  obtain ⟨⟨sc5, sc6⟩, vc⟩ := vc
  refine w_icmp_ge C 22 dX1_hasNext_15 (by decide) sc5 sc6 (fun h7 => ?_) (fun h7 => ?_)
  · have vc := vc.1 h7
    refine w_iconst C dX1_hasNext_22 ?_
    exact w_zreturn C dX1_hasNext_23 (Or.inl rfl) vc
  · have vc := vc.2 h7
    refine w_iconst C dX1_hasNext_18 ?_
    refine w_goto C 23 dX1_hasNext_19 (by decide) ?_
    exact w_zreturn C dX1_hasNext_23 (Or.inr rfl) vc
set_option maxHeartbeats 1000000 in
theorem ok_X1_hasNext_0 {M : Nat} {x1 : Int} {σ : Mem} (h : pre_X1_hasNext M x1 σ) : VC_X1_hasNext_0 M (fun z σ' => σ' = σ ∧ (P_X1_hasNext x1 σ ∧ z = 1 ∨ ¬ P_X1_hasNext x1 σ ∧ z = 0)) x1 σ := by
  obtain ⟨a1, a2, a3, a4, a5, a6⟩ := h
  exact ⟨⟨a1, a2⟩, ⟨a1, a2⟩, ⟨⟨by omega, by omega⟩, ⟨by omega, by omega⟩⟩, fun g => ⟨rfl, Or.inr ⟨Int.not_lt.mpr g, rfl⟩⟩, fun g => ⟨rfl, Or.inl ⟨g, rfl⟩⟩⟩
theorem c_X1_hasNext {G : GG} (hG : GI G) (l : Launch) (x1 : Int) (σ : Mem) (h : pre_X1_hasNext (gM G) x1 σ) : CtI G l yX1_hasNext cX1_hasNext 2 (some .boolean) 0 [pR 26, pI x1] σ (fun z σ' => σ' = σ ∧ (P_X1_hasNext x1 σ ∧ z = 1 ∨ ¬ P_X1_hasNext x1 σ ∧ z = 0)) := by
  refine CtI.of hG (by decide) (Nat.le_of_ble_eq_true rfl) (fun X hl C => ?_)
  show RW G X 2 (QI G X _) 0 [(0, pR 26), (1, pI x1)] [] σ
  exact seg_X1_hasNext_0 C x1 σ (ok_X1_hasNext_0 h)

/-! X1_nextOf -/
abbrev f_X1_nextOf (x1 : Int) (σ : Mem) : Int := nxt σ x1
def pre_X1_nextOf (M : Nat) (x1 : Int) (σ : Mem) : Prop := 0 ≤ x1 ∧ x1 < 8
def VC_X1_nextOf_0 (M : Nat) (post : Int → Mem → Prop) (x1 : Int) (σ : Mem) : Prop :=
 (0 ≤ x1 ∧ x1 < 8) ∧ post ((10 * x1) + (σ 27 x1)) σ
set_option maxRecDepth 20000 in
set_option maxHeartbeats 4000000 in
theorem seg_X1_nextOf_0 {G : GG} {X : XX} {post : Int → Mem → Prop} (C : CX G X cX1_nextOf RX1 2 (some .int) 0)   (x1 : Int) (σ : Mem) (vc : VC_X1_nextOf_0 (gM G)  post  x1 σ) : RW G X 2 (QI G X post) 0 [(0, pR 26), (1, pI x1)] [] σ := by
  unfold VC_X1_nextOf_0 at vc
  refine w_bipush C dX1_nextOf_0 (by decide) ?_
  refine w_iload_n C 1 dX1_nextOf_2 rfl ?_
  refine w_imul C dX1_nextOf_3 ?_
  refine w_aload_n C 0 dX1_nextOf_4 rfl ?_
  refine w_getR C dX1_nextOf_5 gf_X1_9 ob_26 rfl ?_
  refine w_iload_n C 1 dX1_nextOf_8 rfl ?_
  obtain ⟨⟨sc1, sc2⟩, vc⟩ := vc
  refine w_iald C dX1_nextOf_9 ia_27 sc1 sc2 ?_
  refine w_iadd C dX1_nextOf_10 ?_
  exact w_ireturn C dX1_nextOf_11 vc
set_option maxHeartbeats 1000000 in
theorem ok_X1_nextOf_0 {M : Nat} {x1 : Int} {σ : Mem} (h : pre_X1_nextOf M x1 σ) : VC_X1_nextOf_0 M (fun z σ' => z = f_X1_nextOf x1 σ ∧ σ' = σ) x1 σ := by
  exact ⟨h, rfl, rfl⟩
theorem c_X1_nextOf {G : GG} (hG : GI G) (l : Launch) (x1 : Int) (σ : Mem) (h : pre_X1_nextOf (gM G) x1 σ) : CtI G l yX1_nextOf cX1_nextOf 2 (some .int) 0 [pR 26, pI x1] σ (fun z σ' => z = f_X1_nextOf x1 σ ∧ σ' = σ) := by
  refine CtI.of hG (by decide) (Nat.le_of_ble_eq_true rfl) (fun X hl C => ?_)
  show RW G X 2 (QI G X _) 0 [(0, pR 26), (1, pI x1)] [] σ
  exact seg_X1_nextOf_0 C x1 σ (ok_X1_nextOf_0 h)

/-! X1_machineOfNext -/
abbrev f_X1_machineOfNext (x1 : Int) (σ : Mem) : Int := σ 6 (nxt σ x1)
def pre_X1_machineOfNext (M : Nat) (x1 : Int) (σ : Mem) : Prop := 0 ≤ x1 ∧ x1 < 8 ∧ 0 ≤ nxt σ x1 ∧ nxt σ x1 < 80
def VC_X1_machineOfNext_0 (M : Nat) (post : Int → Mem → Prop) (x1 : Int) (σ : Mem) : Prop :=
 (pre_X1_nextOf M x1 σ) ∧ (0 ≤ (f_X1_nextOf x1 σ) ∧ (f_X1_nextOf x1 σ) < 80) ∧ post (σ 6 (f_X1_nextOf x1 σ)) σ
set_option maxRecDepth 20000 in
set_option maxHeartbeats 4000000 in
theorem seg_X1_machineOfNext_0 {G : GG} {X : XX} {post : Int → Mem → Prop} (C : CX G X cX1_machineOfNext RX1 2 (some .int) 1)   (x1 : Int) (σ : Mem) (vc : VC_X1_machineOfNext_0 (gM G)  post  x1 σ) : RW G X 2 (QI G X post) 0 [(0, pR 26), (1, pI x1)] [] σ := by
  unfold VC_X1_machineOfNext_0 at vc
  refine w_aload_n C 0 dX1_machineOfNext_0 rfl ?_
  refine w_getR C dX1_machineOfNext_1 gf_X1_24 ob_26 rfl ?_
  refine w_getR C dX1_machineOfNext_4 gf_X1_70 ob_1 rfl ?_
  refine w_aload_n C 0 dX1_machineOfNext_7 rfl ?_
  refine w_iload_n C 1 dX1_machineOfNext_8 rfl ?_
  obtain ⟨sc1, vc⟩ := vc
  refine w_callVI C [pI x1] [pR 6] rfl dX1_machineOfNext_9 (c_X1_nextOf C.gi (xL X) x1 σ sc1) oc_26 mw_X1_nextOf ml_X1_73 im_X1_nextOf se_X1_nextOf (by decide) (Nat.le_of_ble_eq_true rfl) (fun z σ' hz => ?_)
  obtain ⟨rfl, hz2⟩ := hz
  have hz2 := hz2.symm
  subst hz2
  obtain ⟨⟨sc2, sc3⟩, vc⟩ := vc
  refine w_iald C dX1_machineOfNext_12 ia_6 sc2 sc3 ?_
  exact w_ireturn C dX1_machineOfNext_13 vc
set_option maxHeartbeats 1000000 in
theorem ok_X1_machineOfNext_0 {M : Nat} {x1 : Int} {σ : Mem} (h : pre_X1_machineOfNext M x1 σ) : VC_X1_machineOfNext_0 M (fun z σ' => z = f_X1_machineOfNext x1 σ ∧ σ' = σ) x1 σ := by
  obtain ⟨a1, a2, a3, a4⟩ := h
  exact ⟨⟨a1, a2⟩, ⟨a3, a4⟩, rfl, rfl⟩
theorem c_X1_machineOfNext {G : GG} (hG : GI G) (l : Launch) (x1 : Int) (σ : Mem) (h : pre_X1_machineOfNext (gM G) x1 σ) : CtI G l yX1_machineOfNext cX1_machineOfNext 2 (some .int) 1 [pR 26, pI x1] σ (fun z σ' => z = f_X1_machineOfNext x1 σ ∧ σ' = σ) := by
  refine CtI.of hG (by decide) (Nat.le_of_ble_eq_true rfl) (fun X hl C => ?_)
  show RW G X 2 (QI G X _) 0 [(0, pR 26), (1, pI x1)] [] σ
  exact seg_X1_machineOfNext_0 C x1 σ (ok_X1_machineOfNext_0 h)

/-! X1_wouldEnd -/
def f_X1_wouldEnd (x1 : Int) (σ : Mem) : Int := σ 30 x1 + σ 7 (nxt σ x1)
def pre_X1_wouldEnd (M : Nat) (x1 : Int) (σ : Mem) : Prop := 0 ≤ x1 ∧ x1 < 8 ∧ 0 ≤ nxt σ x1 ∧ nxt σ x1 < 80
def VC_X1_wouldEnd_0 (M : Nat) (post : Int → Mem → Prop) (x1 : Int) (σ : Mem) : Prop :=
 (0 ≤ x1 ∧ x1 < 8) ∧ (pre_X1_nextOf M x1 σ) ∧ (0 ≤ (f_X1_nextOf x1 σ) ∧ (f_X1_nextOf x1 σ) < 80) ∧ post ((σ 30 x1) + (σ 7 (f_X1_nextOf x1 σ))) σ
set_option maxRecDepth 20000 in
set_option maxHeartbeats 4000000 in
theorem seg_X1_wouldEnd_0 {G : GG} {X : XX} {post : Int → Mem → Prop} (C : CX G X cX1_wouldEnd RX1 2 (some .int) 1)   (x1 : Int) (σ : Mem) (vc : VC_X1_wouldEnd_0 (gM G)  post  x1 σ) : RW G X 2 (QI G X post) 0 [(0, pR 26), (1, pI x1)] [] σ := by
  unfold VC_X1_wouldEnd_0 at vc
  refine w_aload_n C 0 dX1_wouldEnd_0 rfl ?_
  refine w_getR C dX1_wouldEnd_1 gf_X1_21 ob_26 rfl ?_
  refine w_iload_n C 1 dX1_wouldEnd_4 rfl ?_
  obtain ⟨⟨sc1, sc2⟩, vc⟩ := vc
  refine w_iald C dX1_wouldEnd_5 ia_30 sc1 sc2 ?_
  refine w_aload_n C 0 dX1_wouldEnd_6 rfl ?_
  refine w_getR C dX1_wouldEnd_7 gf_X1_24 ob_26 rfl ?_
  refine w_getR C dX1_wouldEnd_10 gf_X1_77 ob_1 rfl ?_
  refine w_aload_n C 0 dX1_wouldEnd_13 rfl ?_
  refine w_iload_n C 1 dX1_wouldEnd_14 rfl ?_
  obtain ⟨sc3, vc⟩ := vc
  refine w_callVI C [pI x1] [pR 7, pI (σ 30 x1)] rfl dX1_wouldEnd_15 (c_X1_nextOf C.gi (xL X) x1 σ sc3) oc_26 mw_X1_nextOf ml_X1_73 im_X1_nextOf se_X1_nextOf (by decide) (Nat.le_of_ble_eq_true rfl) (fun z σ' hz => ?_)
  obtain ⟨rfl, hz2⟩ := hz
  have hz2 := hz2.symm
  subst hz2
  obtain ⟨⟨sc4, sc5⟩, vc⟩ := vc
  refine w_iald C dX1_wouldEnd_18 ia_7 sc4 sc5 ?_
  refine w_iadd C dX1_wouldEnd_19 ?_
  exact w_ireturn C dX1_wouldEnd_20 vc
set_option maxHeartbeats 1000000 in
theorem ok_X1_wouldEnd_0 {M : Nat} {x1 : Int} {σ : Mem} (h : pre_X1_wouldEnd M x1 σ) : VC_X1_wouldEnd_0 M (fun z σ' => z = f_X1_wouldEnd x1 σ ∧ σ' = σ) x1 σ := by
  obtain ⟨a1, a2, a3, a4⟩ := h
  exact ⟨⟨a1, a2⟩, ⟨a1, a2⟩, ⟨a3, a4⟩, rfl, rfl⟩
theorem c_X1_wouldEnd {G : GG} (hG : GI G) (l : Launch) (x1 : Int) (σ : Mem) (h : pre_X1_wouldEnd (gM G) x1 σ) : CtI G l yX1_wouldEnd cX1_wouldEnd 2 (some .int) 1 [pR 26, pI x1] σ (fun z σ' => z = f_X1_wouldEnd x1 σ ∧ σ' = σ) := by
  refine CtI.of hG (by decide) (Nat.le_of_ble_eq_true rfl) (fun X hl C => ?_)
  show RW G X 2 (QI G X _) 0 [(0, pR 26), (1, pI x1)] [] σ
  exact seg_X1_wouldEnd_0 C x1 σ (ok_X1_wouldEnd_0 h)

/-! X1_readyFor -/
abbrev f_X1_readyFor (x1 x2 : Int) (σ : Mem) : Int := rdF σ x1 x2
def pre_X1_readyFor (M : Nat) (x1 x2 : Int) (σ : Mem) : Prop := WN M σ ∧ WO M σ ∧ 0 ≤ x1 ∧ x1 < M ∧ 0 ≤ x2 ∧ x2 < 8
def VC_X1_readyFor_0 (M : Nat) (post : Int → Mem → Prop) (x1 : Int) (x2 : Int) (σ : Mem) : Prop :=
 (0 ≤ x1 ∧ x1 < M) ∧ ∀ v3 : Int, v3 = σ 10 x1 → (inR v3) ∧ ((¬ v3 = 0 → (0 ≤ x1 ∧ x1 < M) ∧ (0 ≤ (v3 - 1) ∧ (v3 - 1) < 48) ∧ ∀ v10 : Int, v10 = σ (57 + x1) (v3 - 1) → (0 ≤ x1 ∧ x1 < 5) ∧ (0 ≤ v10 ∧ inR v10) ∧ (pre_X3_changeBetween M x1 (v10 / 10) x2 σ) ∧ post ((σ 29 x1) + (f_X3_changeBetween x1 (v10 / 10) x2 σ)) σ) ∧ (v3 = 0 → post 0 σ))
set_option maxRecDepth 20000 in
set_option maxHeartbeats 4000000 in
theorem seg_X1_readyFor_0 {G : GG} {X : XX} {post : Int → Mem → Prop} (C : CX G X cX1_readyFor RX1 5 (some .int) 1)   (x1 : Int) (x2 : Int) (σ : Mem) (vc : VC_X1_readyFor_0 (gM G)  post  x1 x2 σ) : RW G X 5 (QI G X post) 0 [(0, pR 26), (1, pI x1), (2, pI x2)] [] σ := by
  unfold VC_X1_readyFor_0 at vc
  refine w_aload_n C 0 dX1_readyFor_0 rfl ?_
  refine w_getR C dX1_readyFor_1 gf_X1_24 ob_26 rfl ?_
  refine w_getR C dX1_readyFor_4 gf_X1_98 ob_1 rfl ?_
  refine w_iload_n C 1 dX1_readyFor_7 rfl ?_
  obtain ⟨⟨sc1, sc2⟩, vc⟩ := vc
  refine w_iald C dX1_readyFor_8 (ia_10 C.gi) sc1 sc2 ?_
  refine w_top (fun v3 hv3 => ?_)
  have vc := vc v3 hv3
  refine w_istore_n C [(3, pI v3), (0, pR 26), (1, pI x1), (2, pI x2)] dX1_readyFor_9 (by decide) rfl ?_
  refine w_iload_n C 0 dX1_readyFor_10 rfl ?_
  obtain ⟨sc4, vc⟩ := vc
  refine w_if_ne C 16 dX1_readyFor_11 (by decide) sc4 (fun h5 => ?_) (fun h5 => ?_)
  · have vc := vc.1 h5
    refine w_aload_n C 1 dX1_readyFor_16 rfl ?_
    refine w_getR C dX1_readyFor_17 gf_X1_24 ob_26 rfl ?_
    refine w_getR C dX1_readyFor_20 gf_X1_101 ob_1 rfl ?_
    refine w_iload_n C 2 dX1_readyFor_23 rfl ?_
    obtain ⟨⟨sc6, sc7⟩, vc⟩ := vc
    refine w_aald C dX1_readyFor_24 (ra_9 C.gi) sc6 sc7 ?_
    refine w_iload_n C 0 dX1_readyFor_25 rfl ?_
    refine w_iconst C dX1_readyFor_26 ?_
    refine w_isub C dX1_readyFor_27 ?_
    obtain ⟨⟨sc8, sc9⟩, vc⟩ := vc
    refine w_iald C dX1_readyFor_28 (ia_row sc6 sc7) sc8 sc9 ?_
    refine w_top (fun v10 hv10 => ?_)
    have vc := vc v10 hv10
    refine w_istore C [(4, pI v10), (3, pI v3), (0, pR 26), (1, pI x1), (2, pI x2)] dX1_readyFor_29 (by decide) rfl ?_
    refine w_aload_n C 2 dX1_readyFor_31 rfl ?_
    refine w_getR C dX1_readyFor_32 gf_X1_18 ob_26 rfl ?_
    refine w_iload_n C 3 dX1_readyFor_35 rfl ?_
    obtain ⟨⟨sc11, sc12⟩, vc⟩ := vc
    refine w_iald C dX1_readyFor_36 ia_29 sc11 sc12 ?_
    refine w_aload_n C 2 dX1_readyFor_37 rfl ?_
    refine w_getR C dX1_readyFor_38 gf_X1_24 ob_26 rfl ?_
    refine w_iload_n C 3 dX1_readyFor_41 rfl ?_
    refine w_iload C 0 dX1_readyFor_42 rfl ?_
    refine w_bipush C dX1_readyFor_44 (by decide) ?_
    obtain ⟨⟨sc13, sc14⟩, vc⟩ := vc
    refine w_idivN C dX1_readyFor_46 sc13 sc14 ⟨by omega, by omega⟩ (by omega) ?_
    refine w_iload_n C 4 dX1_readyFor_47 rfl ?_
    obtain ⟨sc15, vc⟩ := vc
    refine w_callVI C [pI x1, pI (v10 / 10), pI x2] [pI (σ 29 x1)] rfl dX1_readyFor_48 (c_X3_changeBetween C.gi (xL X) x1 (v10 / 10) x2 σ sc15) oc_1 mw_X3_changeBetween ml_X1_105 im_X3_changeBetween se_X3_changeBetween (by decide) (Nat.le_of_ble_eq_true rfl) (fun z σ' hz => ?_)
    obtain ⟨rfl, hz2⟩ := hz
    have hz2 := hz2.symm
    subst hz2
    refine w_iadd C dX1_readyFor_51 ?_
    exact w_ireturn C dX1_readyFor_52 vc
  · have vc := vc.2 h5
    refine w_iconst C dX1_readyFor_14 ?_
    exact w_ireturn C dX1_readyFor_15 vc
set_option maxHeartbeats 1000000 in
theorem ok_X1_readyFor_0 {M : Nat} {x1 : Int} {x2 : Int} {σ : Mem} (h : pre_X1_readyFor M x1 x2 σ) : VC_X1_readyFor_0 M (fun z σ' => z = f_X1_readyFor x1 x2 σ ∧ σ' = σ) x1 x2 σ := by
  obtain ⟨hN, hO, a1, a2, a3, a4⟩ := h
  have hz := hN.1.2.2.2.2.2 x1 a1 a2
  have hM : M ≤ 5 := hN.1.2.2.1
  refine ⟨⟨a1, a2⟩, fun v e => ?_⟩
  subst e
  refine ⟨⟨by omega, by omega⟩, fun g => ⟨⟨a1, a2⟩, ⟨by omega, by omega⟩, fun v e => ?_⟩, fun g => ⟨?_, rfl⟩⟩
  · subst e
    have hv := VS_in hN.1 (hO.1 x1 (σ 10 x1 - 1) a1 a2 (by omega) (by omega)).1
    refine ⟨⟨a1, by omega⟩, ⟨hv.1, by omega, by omega⟩, ⟨a1, a2, by omega, by omega, a3, a4⟩, ?_, rfl⟩
    show _ = rdF σ x1 x2
    unfold rdF
    rw [if_neg g]
    rfl
  · show _ = rdF σ x1 x2
    unfold rdF
    rw [if_pos g]
theorem c_X1_readyFor {G : GG} (hG : GI G) (l : Launch) (x1 : Int) (x2 : Int) (σ : Mem) (h : pre_X1_readyFor (gM G) x1 x2 σ) : CtI G l yX1_readyFor cX1_readyFor 5 (some .int) 1 [pR 26, pI x1, pI x2] σ (fun z σ' => z = f_X1_readyFor x1 x2 σ ∧ σ' = σ) := by
  refine CtI.of hG (by decide) (Nat.le_of_ble_eq_true rfl) (fun X hl C => ?_)
  show RW G X 5 (QI G X _) 0 [(0, pR 26), (1, pI x1), (2, pI x2)] [] σ
  exact seg_X1_readyFor_0 C x1 x2 σ (ok_X1_readyFor_0 h)

/-! X1_measure -/
def f_X1_measure (x1 x2 : Int) (σ : Mem) : Int := if x1 = 0 then σ 7 (nxt σ x2) else if x1 = 1 then σ 3 x2 else if x1 = 2 then -(sumI (fun p => σ 7 (10 * x2 + p)) (σ 27 x2) (σ 5 x2)) else σ 30 x2
def pre_X1_measure (M : Nat) (x1 x2 : Int) (σ : Mem) : Prop := inR x1 ∧ 0 ≤ x2 ∧ x2 < 8 ∧ 0 ≤ σ 27 x2 ∧ σ 27 x2 ≤ 6 ∧ 0 ≤ σ 5 x2 ∧ σ 5 x2 ≤ 6
def VC_X1_measure_0 (M : Nat) (post : Int → Mem → Prop) (x1 : Int) (x2 : Int) (σ : Mem) : Prop :=
 (inR x1) ∧ ((x1 = 0 → (pre_X1_nextOf M x2 σ) ∧ (0 ≤ (f_X1_nextOf x2 σ) ∧ (f_X1_nextOf x2 σ) < 80) ∧ post (σ 7 (f_X1_nextOf x2 σ)) σ) ∧ (x1 = 1 → (0 ≤ x2 ∧ x2 < 8) ∧ post (σ 3 x2) σ) ∧ (x1 = 2 → (0 ≤ x2 ∧ x2 < 8) ∧ (0 ≤ x2 ∧ x2 < 8) ∧ (pre_X3_timeOf M x2 (σ 27 x2) (σ 5 x2) σ) ∧ post (-(f_X3_timeOf x2 (σ 27 x2) (σ 5 x2) σ)) σ) ∧ ((x1 < 0 ∨ 2 < x1) → (0 ≤ x2 ∧ x2 < 8) ∧ post (σ 30 x2) σ))
set_option maxRecDepth 20000 in
set_option maxHeartbeats 4000000 in
theorem seg_X1_measure_0 {G : GG} {X : XX} {post : Int → Mem → Prop} (C : CX G X cX1_measure RX1 3 (some .int) 1)   (x1 : Int) (x2 : Int) (σ : Mem) (vc : VC_X1_measure_0 (gM G)  post  x1 x2 σ) : RW G X 3 (QI G X post) 0 [(0, pR 26), (1, pI x1), (2, pI x2)] [] σ := by
  unfold VC_X1_measure_0 at vc
  refine w_iload_n C 1 dX1_measure_0 rfl ?_
  obtain ⟨sc1, vc⟩ := vc
  rcases (by omega : x1 = 0 ∨ x1 = 1 ∨ x1 = 2 ∨ (x1 < 0 ∨ 2 < x1)) with h2 | h2 | h2 | h2
  · have vc := vc.1 h2
    refine w_tabIn C 28 dX1_measure_1 sc1 (by omega) (by omega) (by rw [h2]; rfl) (by decide) ?_
    refine w_aload_n C 0 dX1_measure_28 rfl ?_
    refine w_getR C dX1_measure_29 gf_X1_24 ob_26 rfl ?_
    refine w_getR C dX1_measure_32 gf_X1_77 ob_1 rfl ?_
    refine w_aload_n C 0 dX1_measure_35 rfl ?_
    refine w_iload_n C 2 dX1_measure_36 rfl ?_
    obtain ⟨sc3, vc⟩ := vc
    refine w_callVI C [pI x2] [pR 7] rfl dX1_measure_37 (c_X1_nextOf C.gi (xL X) x2 σ sc3) oc_26 mw_X1_nextOf ml_X1_73 im_X1_nextOf se_X1_nextOf (by decide) (Nat.le_of_ble_eq_true rfl) (fun z σ' hz => ?_)
    obtain ⟨rfl, hz2⟩ := hz
    have hz2 := hz2.symm
    subst hz2
    obtain ⟨⟨sc4, sc5⟩, vc⟩ := vc
    refine w_iald C dX1_measure_40 ia_7 sc4 sc5 ?_
    exact w_ireturn C dX1_measure_41 vc
  · have vc := vc.2.1 h2
    refine w_tabIn C 42 dX1_measure_1 sc1 (by omega) (by omega) (by rw [h2]; rfl) (by decide) ?_
    refine w_aload_n C 0 dX1_measure_42 rfl ?_
    refine w_getR C dX1_measure_43 gf_X1_24 ob_26 rfl ?_
    refine w_getR C dX1_measure_46 gf_X1_116 ob_1 rfl ?_
    refine w_iload_n C 2 dX1_measure_49 rfl ?_
    obtain ⟨⟨sc6, sc7⟩, vc⟩ := vc
    refine w_iald C dX1_measure_50 ia_3 sc6 sc7 ?_
    exact w_ireturn C dX1_measure_51 vc
  · have vc := vc.2.2.1 h2
    refine w_tabIn C 52 dX1_measure_1 sc1 (by omega) (by omega) (by rw [h2]; rfl) (by decide) ?_
    refine w_aload_n C 0 dX1_measure_52 rfl ?_
    refine w_getR C dX1_measure_53 gf_X1_24 ob_26 rfl ?_
    refine w_iload_n C 2 dX1_measure_56 rfl ?_
    refine w_aload_n C 0 dX1_measure_57 rfl ?_
    refine w_getR C dX1_measure_58 gf_X1_9 ob_26 rfl ?_
    refine w_iload_n C 2 dX1_measure_61 rfl ?_
    obtain ⟨⟨sc8, sc9⟩, vc⟩ := vc
    refine w_iald C dX1_measure_62 ia_27 sc8 sc9 ?_
    refine w_aload_n C 0 dX1_measure_63 rfl ?_
    refine w_getR C dX1_measure_64 gf_X1_24 ob_26 rfl ?_
    refine w_getR C dX1_measure_67 gf_X1_67 ob_1 rfl ?_
    refine w_iload_n C 2 dX1_measure_70 rfl ?_
    obtain ⟨⟨sc10, sc11⟩, vc⟩ := vc
    refine w_iald C dX1_measure_71 ia_5 sc10 sc11 ?_
    obtain ⟨sc12, vc⟩ := vc
    refine w_callVI C [pI x2, pI (σ 27 x2), pI (σ 5 x2)] [] rfl dX1_measure_72 (c_X3_timeOf C.gi (xL X) x2 (σ 27 x2) (σ 5 x2) σ sc12) oc_1 mw_X3_timeOf ml_X1_119 im_X3_timeOf se_X3_timeOf (by decide) (Nat.le_of_ble_eq_true rfl) (fun z σ' hz => ?_)
    obtain ⟨rfl, hz2⟩ := hz
    have hz2 := hz2.symm
    subst hz2
    refine w_ineg C dX1_measure_75 ?_
    exact w_ireturn C dX1_measure_76 vc
  · have vc := vc.2.2.2 h2
    refine w_tabOut C 77 dX1_measure_1 sc1 h2 (by decide) ?_
    refine w_aload_n C 0 dX1_measure_77 rfl ?_
    refine w_getR C dX1_measure_78 gf_X1_21 ob_26 rfl ?_
    refine w_iload_n C 2 dX1_measure_81 rfl ?_
    obtain ⟨⟨sc13, sc14⟩, vc⟩ := vc
    refine w_iald C dX1_measure_82 ia_30 sc13 sc14 ?_
    exact w_ireturn C dX1_measure_83 vc
set_option maxHeartbeats 1000000 in
theorem ok_X1_measure_0 {M : Nat} {x1 : Int} {x2 : Int} {σ : Mem} (h : pre_X1_measure M x1 x2 σ) : VC_X1_measure_0 M (fun z σ' => z = f_X1_measure x1 x2 σ ∧ σ' = σ) x1 x2 σ := by
  obtain ⟨a0, a1, a2, a3, a4, a5, a6⟩ := h
  have hn : 0 ≤ nxt σ x2 ∧ nxt σ x2 < 80 := by unfold nxt; omega
  refine ⟨a0, fun g => ⟨⟨a1, a2⟩, hn, ?_, rfl⟩, fun g => ⟨⟨a1, a2⟩, ?_, rfl⟩, fun g => ⟨⟨a1, a2⟩, ⟨a1, a2⟩, ⟨a1, a2, by omega, by omega, by omega, by omega⟩, ?_, rfl⟩, fun g => ⟨⟨a1, a2⟩, ?_, rfl⟩⟩
  · unfold f_X1_measure; rw [if_pos g]
  · unfold f_X1_measure; rw [if_neg (by omega), if_pos g]
  · unfold f_X1_measure; rw [if_neg (by omega), if_neg (by omega), if_pos g]; rfl
  · unfold f_X1_measure; rw [if_neg (by omega), if_neg (by omega), if_neg (by omega)]
theorem c_X1_measure {G : GG} (hG : GI G) (l : Launch) (x1 : Int) (x2 : Int) (σ : Mem) (h : pre_X1_measure (gM G) x1 x2 σ) : CtI G l yX1_measure cX1_measure 3 (some .int) 1 [pR 26, pI x1, pI x2] σ (fun z σ' => z = f_X1_measure x1 x2 σ ∧ σ' = σ) := by
  refine CtI.of hG (by decide) (Nat.le_of_ble_eq_true rfl) (fun X hl C => ?_)
  show RW G X 3 (QI G X _) 0 [(0, pR 26), (1, pI x1), (2, pI x2)] [] σ
  exact seg_X1_measure_0 C x1 x2 σ (ok_X1_measure_0 h)

/-! X1_lookAhead -/
def laM (σ : Mem) (w : Int) : Mem := fun c i => if c = 30 ∧ 0 ≤ i ∧ i < w ∧ σ 27 i < σ 5 i then bgF σ i else σ c i
theorem laM_c (σ : Mem) (w : Int) : C30 σ (laM σ w) := fun c hc => by funext i; unfold laM; rw [if_neg (fun z => hc z.1)]
def pre_X1_lookAhead (M : Nat) (σ : Mem) : Prop := ∃ n, FI M σ n
def post_X1_lookAhead (M : Nat) (σ σ' : Mem) : Prop := C30 σ σ' ∧ ∀ j, hN σ j → σ' 30 j = bgF σ j
def inv_X1_lookAhead_2 (M : Nat) (σ : Mem) (w1 : Int) (τ : Mem) : Prop := 0 ≤ w1 ∧ w1 ≤ σ 1 1 ∧ τ = laM σ w1
def mu_X1_lookAhead_2 (w1 : Int) (τ : Mem) : Nat := (8 - w1).toNat
def VC_X1_lookAhead_0 (M : Nat) (K2 : Int → Mem → Prop) (post : Mem → Prop)  (σ : Mem) : Prop :=
  K2 0 σ
set_option maxRecDepth 20000 in
set_option maxHeartbeats 4000000 in
theorem seg_X1_lookAhead_0 {G : GG} {X : XX} {post : Mem → Prop} (C : CX G X cX1_lookAhead RX1 2 none 2)    (σ : Mem) (vc : VC_X1_lookAhead_0 (gM G) (fun w1 σ => RW G X 2 (QV G X post) 2 [(0, pR 26), (1, pI w1)] [] σ) post   σ) : RW G X 2 (QV G X post) 0 [(0, pR 26)] [] σ := by
  unfold VC_X1_lookAhead_0 at vc
  refine w_iconst C dX1_lookAhead_0 ?_
  refine w_istore_n C [(1, pI 0), (0, pR 26)] dX1_lookAhead_1 (by decide) rfl ?_
  exact w_sub _ [1, 0] rfl vc
def VC_X1_lookAhead_2 (M : Nat) (K2 : Int → Mem → Prop) (post : Mem → Prop) (w1 : Int) (σ : Mem) : Prop :=
 (inR w1 ∧ inR (σ 1 1)) ∧ (((σ 1 1) ≤ w1 → post σ) ∧ (w1 < (σ 1 1) → (pre_X1_hasNext M w1 σ) ∧ ((P_X1_hasNext w1 σ → (0 ≤ w1 ∧ w1 < 8) ∧ (pre_X1_machineOfNext M w1 σ) ∧ (pre_X1_readyFor M (f_X1_machineOfNext w1 σ) w1 σ) ∧ (inR (σ 28 w1) ∧ inR (f_X1_readyFor (f_X1_machineOfNext w1 σ) w1 σ)) ∧ (0 ≤ w1 ∧ w1 < 8) ∧ ∀ s14 : Mem, s14 = up σ 30 w1 (max (σ 28 w1) (f_X1_readyFor (f_X1_machineOfNext w1 σ) w1 σ)) → K2 (w1 + 1) s14) ∧ (¬ P_X1_hasNext w1 σ → K2 (w1 + 1) σ))))
set_option maxRecDepth 20000 in
set_option maxHeartbeats 4000000 in
theorem seg_X1_lookAhead_2 {G : GG} {X : XX} {post : Mem → Prop} (C : CX G X cX1_lookAhead RX1 2 none 2)   (w1 : Int) (σ : Mem) (vc : VC_X1_lookAhead_2 (gM G) (fun w1 σ => RW G X 2 (QV G X post) 2 [(0, pR 26), (1, pI w1)] [] σ) post  w1 σ) : RW G X 2 (QV G X post) 2 [(0, pR 26), (1, pI w1)] [] σ := by
  unfold VC_X1_lookAhead_2 at vc
  refine w_iload_n C 1 dX1_lookAhead_2 rfl ?_
  refine w_aload_n C 0 dX1_lookAhead_3 rfl ?_
  refine w_getR C dX1_lookAhead_4 gf_X1_24 ob_26 rfl ?_
  refine w_getI C 1 dX1_lookAhead_7 gf_X1_80 ob_1 rfl rfl ?_
  obtain ⟨⟨sc1, sc2⟩, vc⟩ := vc
  refine w_icmp_ge C 52 dX1_lookAhead_10 (by decide) sc1 sc2 (fun h3 => ?_) (fun h3 => ?_)
  · have vc := vc.1 h3
    exact w_vreturn C dX1_lookAhead_52 vc
  · have vc := vc.2 h3
    refine w_aload_n C 0 dX1_lookAhead_13 rfl ?_
    refine w_iload_n C 1 dX1_lookAhead_14 rfl ?_
    obtain ⟨sc4, vc⟩ := vc
    refine w_callVI C [pI w1] [] rfl dX1_lookAhead_15 (c_X1_hasNext C.gi (xL X) w1 σ sc4) oc_26 mw_X1_hasNext ml_X1_83 im_X1_hasNext se_X1_hasNext (by decide) (Nat.le_of_ble_eq_true rfl) (fun z σ' hz => ?_)
    obtain ⟨hz2, hz⟩ := hz
    have hz2 := hz2.symm
    subst hz2
    rcases hz with ⟨h5, rfl⟩ | ⟨h5, rfl⟩
    · have vc := vc.1 h5
      refine w_if_eq C 46 dX1_lookAhead_18 (by decide) ⟨by omega, by omega⟩ (fun q => absurd q (by decide)) (fun _ => ?_)
      refine w_aload_n C 0 dX1_lookAhead_21 rfl ?_
      refine w_getR C dX1_lookAhead_22 gf_X1_21 ob_26 rfl ?_
      refine w_iload_n C 1 dX1_lookAhead_25 rfl ?_
      refine w_aload_n C 0 dX1_lookAhead_26 rfl ?_
      refine w_getR C dX1_lookAhead_27 gf_X1_15 ob_26 rfl ?_
      refine w_iload_n C 1 dX1_lookAhead_30 rfl ?_
      obtain ⟨⟨sc6, sc7⟩, vc⟩ := vc
      refine w_iald C dX1_lookAhead_31 ia_28 sc6 sc7 ?_
      refine w_aload_n C 0 dX1_lookAhead_32 rfl ?_
      refine w_aload_n C 0 dX1_lookAhead_33 rfl ?_
      refine w_iload_n C 1 dX1_lookAhead_34 rfl ?_
      obtain ⟨sc8, vc⟩ := vc
      refine w_callVI C [pI w1] [pR 26, pI (σ 28 w1), pI w1, pR 30] rfl dX1_lookAhead_35 (c_X1_machineOfNext C.gi (xL X) w1 σ sc8) oc_26 mw_X1_machineOfNext ml_X1_87 im_X1_machineOfNext se_X1_machineOfNext (by decide) (Nat.le_of_ble_eq_true rfl) (fun z σ' hz => ?_)
      obtain ⟨rfl, hz2⟩ := hz
      have hz2 := hz2.symm
      subst hz2
      refine w_iload_n C 1 dX1_lookAhead_38 rfl ?_
      obtain ⟨sc9, vc⟩ := vc
      refine w_callVI C [pI (f_X1_machineOfNext w1 σ), pI w1] [pI (σ 28 w1), pI w1, pR 30] rfl dX1_lookAhead_39 (c_X1_readyFor C.gi (xL X) (f_X1_machineOfNext w1 σ) w1 σ sc9) oc_26 mw_X1_readyFor ml_X1_90 im_X1_readyFor se_X1_readyFor (by decide) (Nat.le_of_ble_eq_true rfl) (fun z σ' hz => ?_)
      obtain ⟨rfl, hz2⟩ := hz
      have hz2 := hz2.symm
      subst hz2
      obtain ⟨⟨sc10, sc11⟩, vc⟩ := vc
      refine w_max C dX1_lookAhead_42 ml_X1_93 mt_max sc10 sc11 (Nat.le_of_ble_eq_true rfl) ?_
      obtain ⟨⟨sc12, sc13⟩, vc⟩ := vc
      refine w_iast C dX1_lookAhead_45 ia_30 sc12 sc13 ?_
      refine w_mem (fun s14 hs14 => ?_)
      have vc := vc s14 hs14
      refine w_iinc C 1 [(1, pI (w1 + 1)), (0, pR 26)] dX1_lookAhead_46 rfl (by decide) rfl ?_
      refine w_goto C 2 dX1_lookAhead_49 (by decide) ?_
      exact w_sub _ [1, 0] rfl vc
    · have vc := vc.2 h5
      refine w_if_eq C 46 dX1_lookAhead_18 (by decide) ⟨by omega, by omega⟩ (fun _ => ?_) (fun q => absurd q (by decide))
      refine w_iinc C 1 [(1, pI (w1 + 1)), (0, pR 26)] dX1_lookAhead_46 rfl (by decide) rfl ?_
      refine w_goto C 2 dX1_lookAhead_49 (by decide) ?_
      exact w_sub _ [1, 0] rfl vc
set_option maxHeartbeats 1000000 in
theorem ok_X1_lookAhead_0 {M : Nat} {σ : Mem} {K2 : Int → Mem → Prop} (h : pre_X1_lookAhead M σ) (hK2 : ∀ (y1 : Int) (τ' : Mem), inv_X1_lookAhead_2 M σ y1 τ' → K2 y1 τ') : VC_X1_lookAhead_0 M K2 (post_X1_lookAhead M σ) σ := by
  obtain ⟨n, h⟩ := h
  have := h.1.1.1.2.2.2.1
  refine hK2 _ _ ⟨by omega, by omega, ?_⟩
  funext c i
  unfold laM
  rw [if_neg (by omega)]
set_option maxHeartbeats 1000000 in
theorem ok_X1_lookAhead_2 {M : Nat} {σ : Mem} {w1 : Int} {τ : Mem} {K2 : Int → Mem → Prop} (h : pre_X1_lookAhead M σ) (hinv : inv_X1_lookAhead_2 M σ w1 τ) (hK2 : ∀ (y1 : Int) (τ' : Mem), inv_X1_lookAhead_2 M σ y1 τ' → mu_X1_lookAhead_2 y1 τ' < mu_X1_lookAhead_2 w1 τ → K2 y1 τ') : VC_X1_lookAhead_2 M K2 (post_X1_lookAhead M σ) w1 τ := by
  obtain ⟨n, h⟩ := h
  obtain ⟨i1, i2, rfl⟩ := hinv
  have hj := h.1.1.1.2.2.2.1
  have hc := laM_c σ w1
  have hF := FI_c hc h
  have hn := FI_n h
  have e1 : laM σ w1 1 1 = σ 1 1 := by rw [hc 1 (by omega)]
  refine ⟨⟨⟨by omega, by omega⟩, ⟨by omega, by omega⟩⟩, fun g => ⟨hc, fun j q => ?_⟩, fun g => ⟨FI_hasNext hF i1 (by omega), fun g2 => ?_, fun g2 => hK2 _ _ ⟨by omega, by omega, ?_⟩ ?_⟩⟩
  · unfold laM
    rw [if_pos ⟨rfl, q.1, by have := q.2.1; omega, q.2.2⟩]
  · have g2' : σ 27 w1 < σ 5 w1 := by
      have : laM σ w1 27 w1 < laM σ w1 5 w1 := g2
      rw [hc 27 (by omega), hc 5 (by omega)] at this
      exact this
    have q : hN σ w1 := ⟨i1, by omega, g2'⟩
    have qi := hN_in h q
    have qb := bgF_in h q
    have vb := VS_in h.1.1.1 qi.2.2.1
    have ev : max (laM σ w1 28 w1) (rdF (laM σ w1) (laM σ w1 6 (nxt (laM σ w1) w1)) w1) = bgF σ w1 := bgF_c hc qi.2.2.2.2.2.2.2.2.1.1
    have a28 := hF.2.2.2.1 w1 i1 qi.2.1
    have em : laM σ w1 6 (nxt (laM σ w1) w1) = σ 6 (nxt σ w1) := by rw [nxt_c hc, hc 6 (by omega)]
    refine ⟨⟨i1, by omega⟩, ⟨i1, by omega, by rw [nxt_c hc]; exact vb.1, by rw [nxt_c hc]; exact vb.2.1⟩, ⟨hF.1.1, hF.1.2.1, (show 0 ≤ laM σ w1 6 (nxt (laM σ w1) w1) from by rw [em]; exact qi.2.2.2.2.2.2.2.2.1.1), (show laM σ w1 6 (nxt (laM σ w1) w1) < M from by rw [em]; exact qi.2.2.2.2.2.2.2.2.1.2), i1, by omega⟩, ⟨⟨by omega, by omega⟩, ?_⟩, ⟨i1, by omega⟩, fun s14 e14 => hK2 _ _ ⟨by omega, by omega, ?_⟩ ?_⟩
    · show inR (rdF (laM σ w1) (laM σ w1 6 (nxt (laM σ w1) w1)) w1)
      have r0 : 0 ≤ rdF (laM σ w1) (laM σ w1 6 (nxt (laM σ w1) w1)) w1 := by
        have hm := qi.2.2.2.2.2.2.2.2.1
        have hM : M ≤ 5 := h.1.1.1.2.2.1
        rw [em]
        unfold rdF
        split
        · omega
        · have b := hF.2.2.2.2.1 (σ 6 (nxt σ w1)) hm.1 (by omega)
          have hz := hF.1.1.1.2.2.2.2.2 _ hm.1 hm.2
          have hv := VS_in hF.1.1.1 (hF.1.2.1.1 (σ 6 (nxt σ w1)) (laM σ w1 10 (σ 6 (nxt σ w1)) - 1) hm.1 hm.2 (by omega) (by omega)).1
          have c := hF.1.1.2.2.2.2.1 ((σ 6 (nxt σ w1) * 8 + laM σ w1 (57 + σ 6 (nxt σ w1)) (laM σ w1 10 (σ 6 (nxt σ w1)) - 1) / 10) * 8 + w1) (by omega) (by omega)
          omega
      exact ⟨by omega, by omega⟩
    · rw [e14]
      funext c i
      have : up (laM σ w1) 30 w1 (max (laM σ w1 28 w1) (rdF (laM σ w1) (laM σ w1 6 (nxt (laM σ w1) w1)) w1)) c i = up (laM σ w1) 30 w1 (bgF σ w1) c i := by rw [ev]
      refine this.trans ?_
      unfold up laM
      grind
    · unfold mu_X1_lookAhead_2; omega
  · funext c i
    have g2' : ¬ σ 27 w1 < σ 5 w1 := by
      have : ¬ laM σ w1 27 w1 < laM σ w1 5 w1 := g2
      rw [hc 27 (by omega), hc 5 (by omega)] at this
      exact this
    unfold laM
    grind
  · unfold mu_X1_lookAhead_2; omega
theorem c_X1_lookAhead {G : GG} (hG : GI G) (l : Launch) (σ : Mem) (h : pre_X1_lookAhead (gM G) σ) : CtV G l yX1_lookAhead cX1_lookAhead 2 none 2 [pR 26] σ (post_X1_lookAhead (gM G) σ) := by
  refine CtV.of hG (by decide) (Nat.le_of_ble_eq_true rfl) (fun X hl C => ?_)
  show RW G X 2 (QV G X _) 0 [(0, pR 26)] [] σ
  have key : ∀ n : Nat, (∀ (w1 : Int) (τ : Mem), inv_X1_lookAhead_2 (gM G) σ w1 τ → mu_X1_lookAhead_2 w1 τ < n → RW G X 2 (QV G X (post_X1_lookAhead (gM G) σ)) 2 [(0, pR 26), (1, pI w1)] [] τ) := by
    intro n
    induction n with
    | zero => exact fun w1 τ _ h0 => absurd h0 (Nat.not_lt_zero _)
    | succ n ih =>
      exact (fun w1 τ hinv h0 => seg_X1_lookAhead_2 C w1 τ (ok_X1_lookAhead_2 h hinv (fun y1 τ' hi hm => ih y1 τ' hi (Nat.lt_of_lt_of_le hm (Nat.le_of_lt_succ h0)))))
  exact seg_X1_lookAhead_0 C σ (ok_X1_lookAhead_0 h (fun y1 τ' hi => (key _) y1 τ' hi (Nat.lt_succ_self _)))

/-! X1_firstToEnd -/
def pre_X1_firstToEnd (M : Nat) (σ : Mem) : Prop := ∃ n, FI M σ n ∧ (∃ j, hN σ j) ∧ ∀ j, hN σ j → 0 ≤ σ 30 j ∧ σ 30 j ≤ 20000
def post_X1_firstToEnd (M : Nat) (σ : Mem) (z : Int) (σ' : Mem) : Prop := σ' = σ ∧ hN σ z ∧ ∀ i, hN σ i → f_X1_wouldEnd z σ < f_X1_wouldEnd i σ ∨ (f_X1_wouldEnd z σ = f_X1_wouldEnd i σ ∧ z ≤ i)
def inv_X1_firstToEnd_7 (M : Nat) (σ : Mem) (w1 w2 w3 : Int) (τ : Mem) : Prop := τ = σ ∧ 0 ≤ w3 ∧ w3 ≤ σ 1 1 ∧ ((w2 = 1000000 ∧ ∀ i, i < w3 → ¬ hN σ i) ∨ (hN σ w1 ∧ w1 < w3 ∧ w2 = f_X1_wouldEnd w1 σ ∧ ∀ i, i < w3 → hN σ i → f_X1_wouldEnd w1 σ < f_X1_wouldEnd i σ ∨ (f_X1_wouldEnd w1 σ = f_X1_wouldEnd i σ ∧ w1 ≤ i)))
def mu_X1_firstToEnd_7 (w1 w2 w3 : Int) (τ : Mem) : Nat := (8 - w3).toNat
theorem wE_in {M : Nat} {σ : Mem} {n : Int} (h : FI M σ n) (hb : ∀ j, hN σ j → 0 ≤ σ 30 j ∧ σ 30 j ≤ 20000) {j : Int} (q : hN σ j) : 0 ≤ f_X1_wouldEnd j σ ∧ f_X1_wouldEnd j σ ≤ 20050 ∧ pre_X1_wouldEnd M j σ := by
  have qi := hN_in h q
  have vb := VS_in h.1.1.1 qi.2.2.1
  have := hb j q
  unfold f_X1_wouldEnd
  exact ⟨by omega, by omega, qi.1, qi.2.1, vb.1, vb.2.1⟩
def VC_X1_firstToEnd_0 (M : Nat) (K7 : Int → Int → Int → Mem → Prop) (post : Int → Mem → Prop)  (σ : Mem) : Prop :=
  K7 0 1000000 0 σ
set_option maxRecDepth 20000 in
set_option maxHeartbeats 4000000 in
theorem seg_X1_firstToEnd_0 {G : GG} {X : XX} {post : Int → Mem → Prop} (C : CX G X cX1_firstToEnd RX1 4 (some .int) 2)    (σ : Mem) (vc : VC_X1_firstToEnd_0 (gM G) (fun w1 w2 w3 σ => RW G X 4 (QI G X post) 7 [(0, pR 26), (1, pI w1), (2, pI w2), (3, pI w3)] [] σ) post   σ) : RW G X 4 (QI G X post) 0 [(0, pR 26)] [] σ := by
  unfold VC_X1_firstToEnd_0 at vc
  refine w_iconst C dX1_firstToEnd_0 ?_
  refine w_istore_n C [(1, pI 0), (0, pR 26)] dX1_firstToEnd_1 (by decide) rfl ?_
  refine w_ldc (n := 1000000) C dX1_firstToEnd_2 cs_X1_109 ?_
  refine w_istore_n C [(2, pI 1000000), (1, pI 0), (0, pR 26)] dX1_firstToEnd_4 (by decide) rfl ?_
  refine w_iconst C dX1_firstToEnd_5 ?_
  refine w_istore_n C [(3, pI 0), (2, pI 1000000), (1, pI 0), (0, pR 26)] dX1_firstToEnd_6 (by decide) rfl ?_
  exact w_sub _ [3, 2, 1, 0] rfl vc
def VC_X1_firstToEnd_7 (M : Nat) (K7 : Int → Int → Int → Mem → Prop) (post : Int → Mem → Prop) (w1 : Int) (w2 : Int) (w3 : Int) (σ : Mem) : Prop :=
 (inR w3 ∧ inR (σ 1 1)) ∧ (((σ 1 1) ≤ w3 → post w1 σ) ∧ (w3 < (σ 1 1) → (pre_X1_hasNext M w3 σ) ∧ ((P_X1_hasNext w3 σ → (pre_X1_wouldEnd M w3 σ) ∧ (inR (f_X1_wouldEnd w3 σ) ∧ inR w2) ∧ ((w2 ≤ (f_X1_wouldEnd w3 σ) → K7 w1 w2 (w3 + 1) σ) ∧ ((f_X1_wouldEnd w3 σ) < w2 → (pre_X1_wouldEnd M w3 σ) ∧ ∀ v11 : Int, v11 = f_X1_wouldEnd w3 σ → K7 w3 v11 (w3 + 1) σ))) ∧ (¬ P_X1_hasNext w3 σ → K7 w1 w2 (w3 + 1) σ))))
set_option maxRecDepth 20000 in
set_option maxHeartbeats 4000000 in
theorem seg_X1_firstToEnd_7 {G : GG} {X : XX} {post : Int → Mem → Prop} (C : CX G X cX1_firstToEnd RX1 4 (some .int) 2)   (w1 : Int) (w2 : Int) (w3 : Int) (σ : Mem) (vc : VC_X1_firstToEnd_7 (gM G) (fun w1 w2 w3 σ => RW G X 4 (QI G X post) 7 [(0, pR 26), (1, pI w1), (2, pI w2), (3, pI w3)] [] σ) post  w1 w2 w3 σ) : RW G X 4 (QI G X post) 7 [(0, pR 26), (1, pI w1), (2, pI w2), (3, pI w3)] [] σ := by
  unfold VC_X1_firstToEnd_7 at vc
  refine w_iload_n C 3 dX1_firstToEnd_7 rfl ?_
  refine w_aload_n C 0 dX1_firstToEnd_8 rfl ?_
  refine w_getR C dX1_firstToEnd_9 gf_X1_24 ob_26 rfl ?_
  refine w_getI C 1 dX1_firstToEnd_12 gf_X1_80 ob_1 rfl rfl ?_
  obtain ⟨⟨sc1, sc2⟩, vc⟩ := vc
  refine w_icmp_ge C 49 dX1_firstToEnd_15 (by decide) sc1 sc2 (fun h3 => ?_) (fun h3 => ?_)
  · have vc := vc.1 h3
    refine w_iload_n C 1 dX1_firstToEnd_49 rfl ?_
    exact w_ireturn C dX1_firstToEnd_50 vc
  · have vc := vc.2 h3
    refine w_aload_n C 0 dX1_firstToEnd_18 rfl ?_
    refine w_iload_n C 3 dX1_firstToEnd_19 rfl ?_
    obtain ⟨sc4, vc⟩ := vc
    refine w_callVI C [pI w3] [] rfl dX1_firstToEnd_20 (c_X1_hasNext C.gi (xL X) w3 σ sc4) oc_26 mw_X1_hasNext ml_X1_83 im_X1_hasNext se_X1_hasNext (by decide) (Nat.le_of_ble_eq_true rfl) (fun z σ' hz => ?_)
    obtain ⟨hz2, hz⟩ := hz
    have hz2 := hz2.symm
    subst hz2
    rcases hz with ⟨h5, rfl⟩ | ⟨h5, rfl⟩
    · have vc := vc.1 h5
      refine w_if_eq C 43 dX1_firstToEnd_23 (by decide) ⟨by omega, by omega⟩ (fun q => absurd q (by decide)) (fun _ => ?_)
      refine w_aload_n C 0 dX1_firstToEnd_26 rfl ?_
      refine w_iload_n C 3 dX1_firstToEnd_27 rfl ?_
      obtain ⟨sc6, vc⟩ := vc
      refine w_callVI C [pI w3] [] rfl dX1_firstToEnd_28 (c_X1_wouldEnd C.gi (xL X) w3 σ sc6) oc_26 mw_X1_wouldEnd ml_X1_110 im_X1_wouldEnd se_X1_wouldEnd (by decide) (Nat.le_of_ble_eq_true rfl) (fun z σ' hz => ?_)
      obtain ⟨rfl, hz2⟩ := hz
      have hz2 := hz2.symm
      subst hz2
      refine w_iload_n C 2 dX1_firstToEnd_31 rfl ?_
      obtain ⟨⟨sc7, sc8⟩, vc⟩ := vc
      refine w_icmp_ge C 43 dX1_firstToEnd_32 (by decide) sc7 sc8 (fun h9 => ?_) (fun h9 => ?_)
      · have vc := vc.1 h9
        refine w_iinc C 3 [(3, pI (w3 + 1)), (0, pR 26), (1, pI w1), (2, pI w2)] dX1_firstToEnd_43 rfl (by decide) rfl ?_
        refine w_goto C 7 dX1_firstToEnd_46 (by decide) ?_
        exact w_sub _ [1, 2, 3, 0] rfl vc
      · have vc := vc.2 h9
        refine w_iload_n C 3 dX1_firstToEnd_35 rfl ?_
        refine w_istore_n C [(1, pI w3), (0, pR 26), (2, pI w2), (3, pI w3)] dX1_firstToEnd_36 (by decide) rfl ?_
        refine w_aload_n C 1 dX1_firstToEnd_37 rfl ?_
        refine w_iload_n C 3 dX1_firstToEnd_38 rfl ?_
        obtain ⟨sc10, vc⟩ := vc
        refine w_callVI C [pI w3] [] rfl dX1_firstToEnd_39 (c_X1_wouldEnd C.gi (xL X) w3 σ sc10) oc_26 mw_X1_wouldEnd ml_X1_110 im_X1_wouldEnd se_X1_wouldEnd (by decide) (Nat.le_of_ble_eq_true rfl) (fun z σ' hz => ?_)
        obtain ⟨rfl, hz2⟩ := hz
        have hz2 := hz2.symm
        subst hz2
        refine w_top (fun v11 hv11 => ?_)
        have vc := vc v11 hv11
        refine w_istore_n C [(2, pI v11), (1, pI w3), (0, pR 26), (3, pI w3)] dX1_firstToEnd_42 (by decide) rfl ?_
        refine w_iinc C 3 [(3, pI (w3 + 1)), (2, pI v11), (1, pI w3), (0, pR 26)] dX1_firstToEnd_43 rfl (by decide) rfl ?_
        refine w_goto C 7 dX1_firstToEnd_46 (by decide) ?_
        exact w_sub _ [3, 2, 1, 0] rfl vc
    · have vc := vc.2 h5
      refine w_if_eq C 43 dX1_firstToEnd_23 (by decide) ⟨by omega, by omega⟩ (fun _ => ?_) (fun q => absurd q (by decide))
      refine w_iinc C 3 [(3, pI (w3 + 1)), (0, pR 26), (1, pI w1), (2, pI w2)] dX1_firstToEnd_43 rfl (by decide) rfl ?_
      refine w_goto C 7 dX1_firstToEnd_46 (by decide) ?_
      exact w_sub _ [1, 2, 3, 0] rfl vc
set_option maxHeartbeats 1000000 in
theorem ok_X1_firstToEnd_0 {M : Nat} {σ : Mem} {K7 : Int → Int → Int → Mem → Prop} (h : pre_X1_firstToEnd M σ) (hK7 : ∀ (y1 y2 y3 : Int) (τ' : Mem), inv_X1_firstToEnd_7 M σ y1 y2 y3 τ' → K7 y1 y2 y3 τ') : VC_X1_firstToEnd_0 M K7 (post_X1_firstToEnd M σ) σ := by
  obtain ⟨n, h, hex, hb⟩ := h
  have := h.1.1.1.2.2.2.1
  exact hK7 _ _ _ _ ⟨rfl, by omega, by omega, Or.inl ⟨rfl, fun i q1 q2 => by have := q2.1; omega⟩⟩
set_option maxHeartbeats 1000000 in
theorem ok_X1_firstToEnd_7 {M : Nat} {σ : Mem} {w1 w2 w3 : Int} {τ : Mem} {K7 : Int → Int → Int → Mem → Prop} (h : pre_X1_firstToEnd M σ) (hinv : inv_X1_firstToEnd_7 M σ w1 w2 w3 τ) (hK7 : ∀ (y1 y2 y3 : Int) (τ' : Mem), inv_X1_firstToEnd_7 M σ y1 y2 y3 τ' → mu_X1_firstToEnd_7 y1 y2 y3 τ' < mu_X1_firstToEnd_7 w1 w2 w3 τ → K7 y1 y2 y3 τ') : VC_X1_firstToEnd_7 M K7 (post_X1_firstToEnd M σ) w1 w2 w3 τ := by
  obtain ⟨n, h, ⟨j1, hj1⟩, hb⟩ := h
  obtain ⟨rfl, i1, i2, hor⟩ := hinv
  have hj := h.1.1.1.2.2.2.1
  refine ⟨⟨⟨by omega, by omega⟩, ⟨by omega, by omega⟩⟩, fun g => ?_, fun g => ⟨FI_hasNext h i1 (by omega), fun g2 => ?_, fun g2 => ?_⟩⟩
  · rcases hor with ⟨-, q⟩ | ⟨q1, q2, q3, q4⟩
    · exact absurd hj1 (q j1 (by have := hj1.2.1; omega))
    · exact ⟨rfl, q1, fun i q => q4 i (by have := q.2.1; omega) q⟩
  · have q : hN τ w3 := ⟨i1, g, g2⟩
    obtain ⟨e0, e1, e2⟩ := wE_in h hb q
    have hw2 : 0 ≤ w2 ∧ w2 ≤ 1000000 := by
      rcases hor with ⟨q, -⟩ | ⟨q1, q2, q3, q4⟩
      · omega
      · have := wE_in h hb q1; omega
    refine ⟨e2, ⟨⟨by omega, by omega⟩, ⟨by omega, by omega⟩⟩, fun g3 => hK7 _ _ _ _ ⟨rfl, by omega, by omega, ?_⟩ ?_, fun g3 => ⟨e2, fun v ev => hK7 _ _ _ _ ⟨rfl, by omega, by omega, Or.inr ⟨q, by omega, ev, fun i p1 p2 => ?_⟩⟩ ?_⟩⟩
    · rcases hor with ⟨q1, -⟩ | ⟨q1, q2, q3, q4⟩
      · omega
      · refine Or.inr ⟨q1, by omega, q3, fun i p1 p2 => ?_⟩
        by_cases ei : i = w3
        · subst ei; omega
        · exact q4 i (by omega) p2
    · unfold mu_X1_firstToEnd_7; omega
    · by_cases ei : i = w3
      · subst ei; omega
      · rcases hor with ⟨-, q1⟩ | ⟨q1, q2, q3, q4⟩
        · exact absurd p2 (q1 i (by omega))
        · have := q4 i (by omega) p2
          omega
    · unfold mu_X1_firstToEnd_7; omega
  · have nq : ¬ hN τ w3 := fun z => g2 z.2.2
    refine hK7 _ _ _ _ ⟨rfl, by omega, by omega, ?_⟩ ?_
    · rcases hor with ⟨q1, q⟩ | ⟨q1, q2, q3, q4⟩
      · refine Or.inl ⟨q1, fun i p1 => ?_⟩
        by_cases ei : i = w3
        · subst ei; exact nq
        · exact q i (by omega)
      · refine Or.inr ⟨q1, by omega, q3, fun i p1 p2 => ?_⟩
        by_cases ei : i = w3
        · subst ei; exact absurd p2 nq
        · exact q4 i (by omega) p2
    · unfold mu_X1_firstToEnd_7; omega
theorem c_X1_firstToEnd {G : GG} (hG : GI G) (l : Launch) (σ : Mem) (h : pre_X1_firstToEnd (gM G) σ) : CtI G l yX1_firstToEnd cX1_firstToEnd 4 (some .int) 2 [pR 26] σ (post_X1_firstToEnd (gM G) σ) := by
  refine CtI.of hG (by decide) (Nat.le_of_ble_eq_true rfl) (fun X hl C => ?_)
  show RW G X 4 (QI G X _) 0 [(0, pR 26)] [] σ
  have key : ∀ n : Nat, (∀ (w1 w2 w3 : Int) (τ : Mem), inv_X1_firstToEnd_7 (gM G) σ w1 w2 w3 τ → mu_X1_firstToEnd_7 w1 w2 w3 τ < n → RW G X 4 (QI G X (post_X1_firstToEnd (gM G) σ)) 7 [(0, pR 26), (1, pI w1), (2, pI w2), (3, pI w3)] [] τ) := by
    intro n
    induction n with
    | zero => exact fun w1 w2 w3 τ _ h0 => absurd h0 (Nat.not_lt_zero _)
    | succ n ih =>
      exact (fun w1 w2 w3 τ hinv h0 => seg_X1_firstToEnd_7 C w1 w2 w3 τ (ok_X1_firstToEnd_7 h hinv (fun y1 y2 y3 τ' hi hm => ih y1 y2 y3 τ' hi (Nat.lt_of_lt_of_le hm (Nat.le_of_lt_succ h0)))))
  exact seg_X1_firstToEnd_0 C σ (ok_X1_firstToEnd_0 h (fun y1 y2 y3 τ' hi => (key _) y1 y2 y3 τ' hi (Nat.lt_succ_self _)))

/-! X1_choose -/
def rvC (j0 j : Int) (σ : Mem) : Prop := hN σ j ∧ σ 6 (nxt σ j) = σ 6 (nxt σ j0) ∧ (j = j0 ∨ σ 30 j < f_X1_wouldEnd j0 σ)
def pre_X1_choose (M : Nat) (x1 x2 : Int) (σ : Mem) : Prop := inR x1 ∧ hN σ x2 ∧ ∃ n, FI M σ n ∧ ∀ j, hN σ j → 0 ≤ σ 30 j ∧ σ 30 j ≤ 20000
def post_X1_choose (M : Nat) (x1 x2 : Int) (σ : Mem) (z : Int) (σ' : Mem) : Prop := σ' = σ ∧ rvC x2 z σ ∧ ∀ i, rvC x2 i σ → f_X1_measure x1 z σ < f_X1_measure x1 i σ ∨ (f_X1_measure x1 z σ = f_X1_measure x1 i σ ∧ z ≤ i)
def inv_X1_choose_23 (M : Nat) (x1 x2 : Int) (σ : Mem) (w3 w4 w5 w6 w7 : Int) (τ : Mem) : Prop := τ = σ ∧ w3 = σ 6 (nxt σ x2) ∧ w4 = f_X1_wouldEnd x2 σ ∧ 0 ≤ w7 ∧ w7 ≤ σ 1 1 ∧ ((w6 = 1000000 ∧ ∀ i, i < w7 → ¬ rvC x2 i σ) ∨ (rvC x2 w5 σ ∧ w5 < w7 ∧ w6 = f_X1_measure x1 w5 σ ∧ ∀ i, i < w7 → rvC x2 i σ → f_X1_measure x1 w5 σ < f_X1_measure x1 i σ ∨ (f_X1_measure x1 w5 σ = f_X1_measure x1 i σ ∧ w5 ≤ i)))
def mu_X1_choose_23 (x1 x2 : Int) (w3 w4 w5 w6 w7 : Int) (τ : Mem) : Nat := (8 - w7).toNat
theorem ms_in {M : Nat} {σ : Mem} {n : Int} (h : FI M σ n) (hb : ∀ j, hN σ j → 0 ≤ σ 30 j ∧ σ 30 j ≤ 20000) {j : Int} (q : hN σ j) {r : Int} (hr : inR r) : -20000 ≤ f_X1_measure r j σ ∧ f_X1_measure r j σ ≤ 20000 ∧ pre_X1_measure M r j σ := by
  have qi := hN_in h q
  have a := h.2.1 j qi.1 qi.2.1
  have b := h.1.1.1.2.2.2.2.1 j qi.1 qi.2.1
  have c := (h.1.1.2.1 j qi.1 qi.2.1).2.1
  have d := hb j q
  have e := sumI_bd (f := fun p => σ 7 (10 * j + p)) (lo := σ 27 j) (hi := σ 5 j) (B := 50) (by omega) (fun p p1 p2 => (h.1.1.2.2.2.1 (10 * j + p) (by omega) (by omega)).2) 6 (by omega)
  refine ⟨?_, ?_, hr, qi.1, qi.2.1, by omega, by omega, by omega, by omega⟩
  · unfold f_X1_measure; split
    · omega
    · split
      · omega
      · split <;> omega
  · unfold f_X1_measure; split
    · omega
    · split
      · omega
      · split <;> omega
def VC_X1_choose_0 (M : Nat) (K23 : Int → Int → Int → Int → Int → Mem → Prop) (post : Int → Mem → Prop) (x1 : Int) (x2 : Int) (σ : Mem) : Prop :=
 (pre_X1_machineOfNext M x2 σ) ∧ ∀ v2 : Int, v2 = f_X1_machineOfNext x2 σ → (pre_X1_wouldEnd M x2 σ) ∧ ∀ v4 : Int, v4 = f_X1_wouldEnd x2 σ → K23 v2 v4 x2 1000000 0 σ
set_option maxRecDepth 20000 in
set_option maxHeartbeats 4000000 in
theorem seg_X1_choose_0 {G : GG} {X : XX} {post : Int → Mem → Prop} (C : CX G X cX1_choose RX1 9 (some .int) 2)   (x1 : Int) (x2 : Int) (σ : Mem) (vc : VC_X1_choose_0 (gM G) (fun w3 w4 w5 w6 w7 σ => RW G X 9 (QI G X post) 23 [(0, pR 26), (1, pI x1), (2, pI x2), (3, pI w3), (4, pI w4), (5, pI w5), (6, pI w6), (7, pI w7)] [] σ) post  x1 x2 σ) : RW G X 9 (QI G X post) 0 [(0, pR 26), (1, pI x1), (2, pI x2)] [] σ := by
  unfold VC_X1_choose_0 at vc
  refine w_aload_n C 0 dX1_choose_0 rfl ?_
  refine w_iload_n C 2 dX1_choose_1 rfl ?_
  obtain ⟨sc1, vc⟩ := vc
  refine w_callVI C [pI x2] [] rfl dX1_choose_2 (c_X1_machineOfNext C.gi (xL X) x2 σ sc1) oc_26 mw_X1_machineOfNext ml_X1_87 im_X1_machineOfNext se_X1_machineOfNext (by decide) (Nat.le_of_ble_eq_true rfl) (fun z σ' hz => ?_)
  obtain ⟨rfl, hz2⟩ := hz
  have hz2 := hz2.symm
  subst hz2
  refine w_top (fun v2 hv2 => ?_)
  have vc := vc v2 hv2
  refine w_istore_n C [(3, pI v2), (0, pR 26), (1, pI x1), (2, pI x2)] dX1_choose_5 (by decide) rfl ?_
  refine w_aload_n C 1 dX1_choose_6 rfl ?_
  refine w_iload_n C 3 dX1_choose_7 rfl ?_
  obtain ⟨sc3, vc⟩ := vc
  refine w_callVI C [pI x2] [] rfl dX1_choose_8 (c_X1_wouldEnd C.gi (xL X) x2 σ sc3) oc_26 mw_X1_wouldEnd ml_X1_110 im_X1_wouldEnd se_X1_wouldEnd (by decide) (Nat.le_of_ble_eq_true rfl) (fun z σ' hz => ?_)
  obtain ⟨rfl, hz2⟩ := hz
  have hz2 := hz2.symm
  subst hz2
  refine w_top (fun v4 hv4 => ?_)
  have vc := vc v4 hv4
  refine w_istore C [(4, pI v4), (3, pI v2), (0, pR 26), (1, pI x1), (2, pI x2)] dX1_choose_11 (by decide) rfl ?_
  refine w_iload_n C 4 dX1_choose_13 rfl ?_
  refine w_istore C [(5, pI x2), (4, pI v4), (3, pI v2), (0, pR 26), (1, pI x1), (2, pI x2)] dX1_choose_14 (by decide) rfl ?_
  refine w_ldc (n := 1000000) C dX1_choose_16 cs_X1_109 ?_
  refine w_istore C [(6, pI 1000000), (5, pI x2), (4, pI v4), (3, pI v2), (0, pR 26), (1, pI x1), (2, pI x2)] dX1_choose_18 (by decide) rfl ?_
  refine w_iconst C dX1_choose_20 ?_
  refine w_istore C [(7, pI 0), (6, pI 1000000), (5, pI x2), (4, pI v4), (3, pI v2), (0, pR 26), (1, pI x1), (2, pI x2)] dX1_choose_21 (by decide) rfl ?_
  exact w_sub _ [5, 6, 7, 4, 3, 2, 1, 0] rfl vc
def VC_X1_choose_23 (M : Nat) (K23 : Int → Int → Int → Int → Int → Mem → Prop) (post : Int → Mem → Prop) (x1 : Int) (x2 : Int) (w3 : Int) (w4 : Int) (w5 : Int) (w6 : Int) (w7 : Int) (σ : Mem) : Prop :=
 (inR w7 ∧ inR (σ 1 1)) ∧ (((σ 1 1) ≤ w7 → post w5 σ) ∧ (w7 < (σ 1 1) → (pre_X1_hasNext M w7 σ) ∧ ((P_X1_hasNext w7 σ → (pre_X1_machineOfNext M w7 σ) ∧ (inR (f_X1_machineOfNext w7 σ) ∧ inR w3) ∧ (((f_X1_machineOfNext w7 σ) = w3 → (inR w7 ∧ inR x2) ∧ ((w7 = x2 → (pre_X1_measure M x1 w7 σ) ∧ (inR (f_X1_measure x1 w7 σ) ∧ inR w6) ∧ ((w6 ≤ (f_X1_measure x1 w7 σ) → K23 w3 w4 w5 w6 (w7 + 1) σ) ∧ ((f_X1_measure x1 w7 σ) < w6 → (pre_X1_measure M x1 w7 σ) ∧ ∀ v18 : Int, v18 = f_X1_measure x1 w7 σ → K23 w3 w4 w7 v18 (w7 + 1) σ))) ∧ (¬ w7 = x2 → (0 ≤ w7 ∧ w7 < 8) ∧ (inR (σ 30 w7) ∧ inR w4) ∧ ((w4 ≤ (σ 30 w7) → K23 w3 w4 w5 w6 (w7 + 1) σ) ∧ ((σ 30 w7) < w4 → (pre_X1_measure M x1 w7 σ) ∧ (inR (f_X1_measure x1 w7 σ) ∧ inR w6) ∧ ((w6 ≤ (f_X1_measure x1 w7 σ) → K23 w3 w4 w5 w6 (w7 + 1) σ) ∧ ((f_X1_measure x1 w7 σ) < w6 → (pre_X1_measure M x1 w7 σ) ∧ ∀ v29 : Int, v29 = f_X1_measure x1 w7 σ → K23 w3 w4 w7 v29 (w7 + 1) σ))))))) ∧ (¬ (f_X1_machineOfNext w7 σ) = w3 → K23 w3 w4 w5 w6 (w7 + 1) σ))) ∧ (¬ P_X1_hasNext w7 σ → K23 w3 w4 w5 w6 (w7 + 1) σ))))
set_option maxRecDepth 20000 in
set_option maxHeartbeats 4000000 in
theorem seg_X1_choose_23 {G : GG} {X : XX} {post : Int → Mem → Prop} (C : CX G X cX1_choose RX1 9 (some .int) 2)   (x1 : Int) (x2 : Int) (w3 : Int) (w4 : Int) (w5 : Int) (w6 : Int) (w7 : Int) (σ : Mem) (vc : VC_X1_choose_23 (gM G) (fun w3 w4 w5 w6 w7 σ => RW G X 9 (QI G X post) 23 [(0, pR 26), (1, pI x1), (2, pI x2), (3, pI w3), (4, pI w4), (5, pI w5), (6, pI w6), (7, pI w7)] [] σ) post  x1 x2 w3 w4 w5 w6 w7 σ) : RW G X 9 (QI G X post) 23 [(0, pR 26), (1, pI x1), (2, pI x2), (3, pI w3), (4, pI w4), (5, pI w5), (6, pI w6), (7, pI w7)] [] σ := by
  unfold VC_X1_choose_23 at vc
  refine w_iload C 7 dX1_choose_23 rfl ?_
  refine w_aload_n C 0 dX1_choose_25 rfl ?_
  refine w_getR C dX1_choose_26 gf_X1_24 ob_26 rfl ?_
  refine w_getI C 1 dX1_choose_29 gf_X1_80 ob_1 rfl rfl ?_
  obtain ⟨⟨sc1, sc2⟩, vc⟩ := vc
  refine w_icmp_ge C 118 dX1_choose_32 (by decide) sc1 sc2 (fun h3 => ?_) (fun h3 => ?_)
  · have vc := vc.1 h3
    refine w_iload C 5 dX1_choose_118 rfl ?_
    exact w_ireturn C dX1_choose_120 vc
  · have vc := vc.2 h3
    refine w_aload_n C 0 dX1_choose_35 rfl ?_
    refine w_iload C 7 dX1_choose_36 rfl ?_
    obtain ⟨sc4, vc⟩ := vc
    refine w_callVI C [pI w7] [] rfl dX1_choose_38 (c_X1_hasNext C.gi (xL X) w7 σ sc4) oc_26 mw_X1_hasNext ml_X1_83 im_X1_hasNext se_X1_hasNext (by decide) (Nat.le_of_ble_eq_true rfl) (fun z σ' hz => ?_)
    obtain ⟨hz2, hz⟩ := hz
    have hz2 := hz2.symm
    subst hz2
    rcases hz with ⟨h5, rfl⟩ | ⟨h5, rfl⟩
    · have vc := vc.1 h5
      refine w_if_eq C 112 dX1_choose_41 (by decide) ⟨by omega, by omega⟩ (fun q => absurd q (by decide)) (fun _ => ?_)
      refine w_aload_n C 0 dX1_choose_44 rfl ?_
      refine w_iload C 7 dX1_choose_45 rfl ?_
      obtain ⟨sc6, vc⟩ := vc
      refine w_callVI C [pI w7] [] rfl dX1_choose_47 (c_X1_machineOfNext C.gi (xL X) w7 σ sc6) oc_26 mw_X1_machineOfNext ml_X1_87 im_X1_machineOfNext se_X1_machineOfNext (by decide) (Nat.le_of_ble_eq_true rfl) (fun z σ' hz => ?_)
      obtain ⟨rfl, hz2⟩ := hz
      have hz2 := hz2.symm
      subst hz2
      refine w_iload_n C 3 dX1_choose_50 rfl ?_
      obtain ⟨⟨sc7, sc8⟩, vc⟩ := vc
      refine w_icmp_eq C 57 dX1_choose_51 (by decide) sc7 sc8 (fun h9 => ?_) (fun h9 => ?_)
      · have vc := vc.1 h9
        refine w_iload C 7 dX1_choose_57 rfl ?_
        refine w_iload_n C 2 dX1_choose_59 rfl ?_
        obtain ⟨⟨sc10, sc11⟩, vc⟩ := vc
        refine w_icmp_eq C 75 dX1_choose_60 (by decide) sc10 sc11 (fun h12 => ?_) (fun h12 => ?_)
        · have vc := vc.1 h12
          refine w_iconst C dX1_choose_75 ?_
          refine w_goto C 80 dX1_choose_76 (by decide) ?_
          refine w_istore C [(8, pI 1), (0, pR 26), (1, pI x1), (2, pI x2), (3, pI w3), (4, pI w4), (5, pI w5), (6, pI w6), (7, pI w7)] dX1_choose_80 (by decide) rfl ?_
          refine w_iload C 0 dX1_choose_82 rfl ?_
          refine w_if_eq C 112 dX1_choose_84 (by decide) ⟨by omega, by omega⟩ (fun q => absurd q (by decide)) (fun _ => ?_)
          refine w_aload_n C 1 dX1_choose_87 rfl ?_
          refine w_iload_n C 2 dX1_choose_88 rfl ?_
          refine w_iload C 8 dX1_choose_89 rfl ?_
          obtain ⟨sc13, vc⟩ := vc
          refine w_callVI C [pI x1, pI w7] [] rfl dX1_choose_91 (c_X1_measure C.gi (xL X) x1 w7 σ sc13) oc_26 mw_X1_measure ml_X1_113 im_X1_measure se_X1_measure (by decide) (Nat.le_of_ble_eq_true rfl) (fun z σ' hz => ?_)
          obtain ⟨rfl, hz2⟩ := hz
          have hz2 := hz2.symm
          subst hz2
          refine w_iload C 7 dX1_choose_94 rfl ?_
          obtain ⟨⟨sc14, sc15⟩, vc⟩ := vc
          refine w_icmp_ge C 112 dX1_choose_96 (by decide) sc14 sc15 (fun h16 => ?_) (fun h16 => ?_)
          · have vc := vc.1 h16
            refine w_iinc C 8 [(7, pI (w7 + 1)), (8, pI 1), (0, pR 26), (1, pI x1), (2, pI x2), (3, pI w3), (4, pI w4), (5, pI w5), (6, pI w6)] dX1_choose_112 rfl (by decide) rfl ?_
            refine w_goto C 23 dX1_choose_115 (by decide) ?_
            exact w_sub _ [2, 3, 4, 5, 6, 7, 8, 0] rfl vc
          · have vc := vc.2 h16
            refine w_iload C 8 dX1_choose_99 rfl ?_
            refine w_istore C [(5, pI w7), (8, pI 1), (0, pR 26), (1, pI x1), (2, pI x2), (3, pI w3), (4, pI w4), (6, pI w6), (7, pI w7)] dX1_choose_101 (by decide) rfl ?_
            refine w_aload_n C 2 dX1_choose_103 rfl ?_
            refine w_iload_n C 3 dX1_choose_104 rfl ?_
            refine w_iload C 8 dX1_choose_105 rfl ?_
            obtain ⟨sc17, vc⟩ := vc
            refine w_callVI C [pI x1, pI w7] [] rfl dX1_choose_107 (c_X1_measure C.gi (xL X) x1 w7 σ sc17) oc_26 mw_X1_measure ml_X1_113 im_X1_measure se_X1_measure (by decide) (Nat.le_of_ble_eq_true rfl) (fun z σ' hz => ?_)
            obtain ⟨rfl, hz2⟩ := hz
            have hz2 := hz2.symm
            subst hz2
            refine w_top (fun v18 hv18 => ?_)
            have vc := vc v18 hv18
            refine w_istore C [(6, pI v18), (5, pI w7), (8, pI 1), (0, pR 26), (1, pI x1), (2, pI x2), (3, pI w3), (4, pI w4), (7, pI w7)] dX1_choose_110 (by decide) rfl ?_
            refine w_iinc C 8 [(7, pI (w7 + 1)), (6, pI v18), (5, pI w7), (8, pI 1), (0, pR 26), (1, pI x1), (2, pI x2), (3, pI w3), (4, pI w4)] dX1_choose_112 rfl (by decide) rfl ?_
            refine w_goto C 23 dX1_choose_115 (by decide) ?_
            exact w_sub _ [4, 5, 6, 7, 8, 2, 1, 0] rfl vc
        · have vc := vc.2 h12
          refine w_aload_n C 0 dX1_choose_63 rfl ?_
          refine w_getR C dX1_choose_64 gf_X1_21 ob_26 rfl ?_
          refine w_iload C 7 dX1_choose_67 rfl ?_
          obtain ⟨⟨sc19, sc20⟩, vc⟩ := vc
          refine w_iald C dX1_choose_69 ia_30 sc19 sc20 ?_
          refine w_iload C 4 dX1_choose_70 rfl ?_
          obtain ⟨⟨sc21, sc22⟩, vc⟩ := vc
          refine w_icmp_ge C 79 dX1_choose_72 (by decide) sc21 sc22 (fun h23 => ?_) (fun h23 => ?_)
          · have vc := vc.1 h23
            refine w_iconst C dX1_choose_79 ?_
            refine w_istore C [(8, pI 0), (0, pR 26), (1, pI x1), (2, pI x2), (3, pI w3), (4, pI w4), (5, pI w5), (6, pI w6), (7, pI w7)] dX1_choose_80 (by decide) rfl ?_
            refine w_iload C 0 dX1_choose_82 rfl ?_
            refine w_if_eq C 112 dX1_choose_84 (by decide) ⟨by omega, by omega⟩ (fun _ => ?_) (fun q => absurd q (by decide))
            refine w_iinc C 8 [(7, pI (w7 + 1)), (8, pI 0), (0, pR 26), (1, pI x1), (2, pI x2), (3, pI w3), (4, pI w4), (5, pI w5), (6, pI w6)] dX1_choose_112 rfl (by decide) rfl ?_
            refine w_goto C 23 dX1_choose_115 (by decide) ?_
            exact w_sub _ [2, 3, 4, 5, 6, 7, 8, 0] rfl vc
          · have vc := vc.2 h23
            refine w_iconst C dX1_choose_75 ?_
            refine w_goto C 80 dX1_choose_76 (by decide) ?_
            refine w_istore C [(8, pI 1), (0, pR 26), (1, pI x1), (2, pI x2), (3, pI w3), (4, pI w4), (5, pI w5), (6, pI w6), (7, pI w7)] dX1_choose_80 (by decide) rfl ?_
            refine w_iload C 0 dX1_choose_82 rfl ?_
            refine w_if_eq C 112 dX1_choose_84 (by decide) ⟨by omega, by omega⟩ (fun q => absurd q (by decide)) (fun _ => ?_)
            refine w_aload_n C 1 dX1_choose_87 rfl ?_
            refine w_iload_n C 2 dX1_choose_88 rfl ?_
            refine w_iload C 8 dX1_choose_89 rfl ?_
            obtain ⟨sc24, vc⟩ := vc
            refine w_callVI C [pI x1, pI w7] [] rfl dX1_choose_91 (c_X1_measure C.gi (xL X) x1 w7 σ sc24) oc_26 mw_X1_measure ml_X1_113 im_X1_measure se_X1_measure (by decide) (Nat.le_of_ble_eq_true rfl) (fun z σ' hz => ?_)
            obtain ⟨rfl, hz2⟩ := hz
            have hz2 := hz2.symm
            subst hz2
            refine w_iload C 7 dX1_choose_94 rfl ?_
            obtain ⟨⟨sc25, sc26⟩, vc⟩ := vc
            refine w_icmp_ge C 112 dX1_choose_96 (by decide) sc25 sc26 (fun h27 => ?_) (fun h27 => ?_)
            · have vc := vc.1 h27
              refine w_iinc C 8 [(7, pI (w7 + 1)), (8, pI 1), (0, pR 26), (1, pI x1), (2, pI x2), (3, pI w3), (4, pI w4), (5, pI w5), (6, pI w6)] dX1_choose_112 rfl (by decide) rfl ?_
              refine w_goto C 23 dX1_choose_115 (by decide) ?_
              exact w_sub _ [2, 3, 4, 5, 6, 7, 8, 0] rfl vc
            · have vc := vc.2 h27
              refine w_iload C 8 dX1_choose_99 rfl ?_
              refine w_istore C [(5, pI w7), (8, pI 1), (0, pR 26), (1, pI x1), (2, pI x2), (3, pI w3), (4, pI w4), (6, pI w6), (7, pI w7)] dX1_choose_101 (by decide) rfl ?_
              refine w_aload_n C 2 dX1_choose_103 rfl ?_
              refine w_iload_n C 3 dX1_choose_104 rfl ?_
              refine w_iload C 8 dX1_choose_105 rfl ?_
              obtain ⟨sc28, vc⟩ := vc
              refine w_callVI C [pI x1, pI w7] [] rfl dX1_choose_107 (c_X1_measure C.gi (xL X) x1 w7 σ sc28) oc_26 mw_X1_measure ml_X1_113 im_X1_measure se_X1_measure (by decide) (Nat.le_of_ble_eq_true rfl) (fun z σ' hz => ?_)
              obtain ⟨rfl, hz2⟩ := hz
              have hz2 := hz2.symm
              subst hz2
              refine w_top (fun v29 hv29 => ?_)
              have vc := vc v29 hv29
              refine w_istore C [(6, pI v29), (5, pI w7), (8, pI 1), (0, pR 26), (1, pI x1), (2, pI x2), (3, pI w3), (4, pI w4), (7, pI w7)] dX1_choose_110 (by decide) rfl ?_
              refine w_iinc C 8 [(7, pI (w7 + 1)), (6, pI v29), (5, pI w7), (8, pI 1), (0, pR 26), (1, pI x1), (2, pI x2), (3, pI w3), (4, pI w4)] dX1_choose_112 rfl (by decide) rfl ?_
              refine w_goto C 23 dX1_choose_115 (by decide) ?_
              exact w_sub _ [4, 5, 6, 7, 8, 2, 1, 0] rfl vc
      · have vc := vc.2 h9
        refine w_goto C 112 dX1_choose_54 (by decide) ?_
        refine w_iinc C 7 [(7, pI (w7 + 1)), (0, pR 26), (1, pI x1), (2, pI x2), (3, pI w3), (4, pI w4), (5, pI w5), (6, pI w6)] dX1_choose_112 rfl (by decide) rfl ?_
        refine w_goto C 23 dX1_choose_115 (by decide) ?_
        exact w_sub _ [1, 2, 3, 4, 5, 6, 7, 0] rfl vc
    · have vc := vc.2 h5
      refine w_if_eq C 112 dX1_choose_41 (by decide) ⟨by omega, by omega⟩ (fun _ => ?_) (fun q => absurd q (by decide))
      refine w_iinc C 7 [(7, pI (w7 + 1)), (0, pR 26), (1, pI x1), (2, pI x2), (3, pI w3), (4, pI w4), (5, pI w5), (6, pI w6)] dX1_choose_112 rfl (by decide) rfl ?_
      refine w_goto C 23 dX1_choose_115 (by decide) ?_
      exact w_sub _ [1, 2, 3, 4, 5, 6, 7, 0] rfl vc
set_option maxHeartbeats 1000000 in
theorem ok_X1_choose_0 {M : Nat} {x1 : Int} {x2 : Int} {σ : Mem} {K23 : Int → Int → Int → Int → Int → Mem → Prop} (h : pre_X1_choose M x1 x2 σ) (hK23 : ∀ (y3 y4 y5 y6 y7 : Int) (τ' : Mem), inv_X1_choose_23 M x1 x2 σ y3 y4 y5 y6 y7 τ' → K23 y3 y4 y5 y6 y7 τ') : VC_X1_choose_0 M K23 (post_X1_choose M x1 x2 σ) x1 x2 σ := by
  obtain ⟨hr, hq, n, h, hb⟩ := h
  have qi := hN_in h hq
  have vb := VS_in h.1.1.1 qi.2.2.1
  have := h.1.1.1.2.2.2.1
  exact ⟨⟨qi.1, qi.2.1, vb.1, vb.2.1⟩, fun v e => ⟨⟨qi.1, qi.2.1, vb.1, vb.2.1⟩, fun v4 e4 => hK23 _ _ _ _ _ _ ⟨rfl, e, e4, by omega, by omega, Or.inl ⟨rfl, fun i p1 p2 => by have := p2.1.1; omega⟩⟩⟩⟩
set_option maxHeartbeats 1000000 in
theorem ok_X1_choose_23 {M : Nat} {x1 : Int} {x2 : Int} {σ : Mem} {w3 w4 w5 w6 w7 : Int} {τ : Mem} {K23 : Int → Int → Int → Int → Int → Mem → Prop} (h : pre_X1_choose M x1 x2 σ) (hinv : inv_X1_choose_23 M x1 x2 σ w3 w4 w5 w6 w7 τ) (hK23 : ∀ (y3 y4 y5 y6 y7 : Int) (τ' : Mem), inv_X1_choose_23 M x1 x2 σ y3 y4 y5 y6 y7 τ' → mu_X1_choose_23 x1 x2 y3 y4 y5 y6 y7 τ' < mu_X1_choose_23 x1 x2 w3 w4 w5 w6 w7 τ → K23 y3 y4 y5 y6 y7 τ') : VC_X1_choose_23 M K23 (post_X1_choose M x1 x2 σ) x1 x2 w3 w4 w5 w6 w7 τ := by
  obtain ⟨hr, hq, n, h, hb⟩ := h
  obtain ⟨rfl, rfl, rfl, i1, i2, hor⟩ := hinv
  have hj := h.1.1.1.2.2.2.1
  have qi := hN_in h hq
  obtain ⟨x0, x1', x2'⟩ := wE_in h hb hq
  have hw6 : -20000 ≤ w6 ∧ w6 ≤ 1000000 := by
    rcases hor with ⟨q, -⟩ | ⟨q1, q2, q3, q4⟩
    · omega
    · have := ms_in h hb q1.1 hr; omega
  -- the step that is looked at is no rival: nothing changes
  have skip : ¬ rvC x2 w7 τ → w7 < τ 1 1 → K23 (τ 6 (nxt τ x2)) (f_X1_wouldEnd x2 τ) w5 w6 (w7 + 1) τ := by
    intro nq g
    refine hK23 _ _ _ _ _ _ ⟨rfl, rfl, rfl, by omega, by omega, ?_⟩ (by unfold mu_X1_choose_23; omega)
    rcases hor with ⟨q1, q⟩ | ⟨q1, q2, q3, q4⟩
    · refine Or.inl ⟨q1, fun i p1 => ?_⟩
      by_cases ei : i = w7
      · subst ei; exact nq
      · exact q i (by omega)
    · refine Or.inr ⟨q1, by omega, q3, fun i p1 p2 => ?_⟩
      by_cases ei : i = w7
      · subst ei; exact absurd p2 nq
      · exact q4 i (by omega) p2
  have riv : rvC x2 w7 τ → w7 < τ 1 1 → (pre_X1_measure M x1 w7 τ) ∧ (inR (f_X1_measure x1 w7 τ) ∧ inR w6) ∧ ((w6 ≤ (f_X1_measure x1 w7 τ) → K23 (τ 6 (nxt τ x2)) (f_X1_wouldEnd x2 τ) w5 w6 (w7 + 1) τ) ∧ ((f_X1_measure x1 w7 τ) < w6 → (pre_X1_measure M x1 w7 τ) ∧ ∀ v18 : Int, v18 = f_X1_measure x1 w7 τ → K23 (τ 6 (nxt τ x2)) (f_X1_wouldEnd x2 τ) w7 v18 (w7 + 1) τ)) := by
    intro q g
    obtain ⟨m0, m1, m2⟩ := ms_in h hb q.1 hr
    refine ⟨m2, ⟨⟨by omega, by omega⟩, ⟨by omega, by omega⟩⟩, fun g3 => hK23 _ _ _ _ _ _ ⟨rfl, rfl, rfl, by omega, by omega, ?_⟩ (by unfold mu_X1_choose_23; omega), fun g3 => ⟨m2, fun v ev => hK23 _ _ _ _ _ _ ⟨rfl, rfl, rfl, by omega, by omega, Or.inr ⟨q, by omega, ev, fun i p1 p2 => ?_⟩⟩ (by unfold mu_X1_choose_23; omega)⟩⟩
    · rcases hor with ⟨q1, -⟩ | ⟨q1, q2, q3, q4⟩
      · omega
      · refine Or.inr ⟨q1, by omega, q3, fun i p1 p2 => ?_⟩
        by_cases ei : i = w7
        · subst ei; omega
        · exact q4 i (by omega) p2
    · by_cases ei : i = w7
      · subst ei; omega
      · rcases hor with ⟨-, q1⟩ | ⟨q1, q2, q3, q4⟩
        · exact absurd p2 (q1 i (by omega))
        · have := q4 i (by omega) p2
          omega
  refine ⟨⟨⟨by omega, by omega⟩, ⟨by omega, by omega⟩⟩, fun g => ?_, fun g => ⟨FI_hasNext h i1 (by omega), fun g2 => ?_, fun g2 => skip (fun z => g2 z.1.2.2) g⟩⟩
  · rcases hor with ⟨-, q⟩ | ⟨q1, q2, q3, q4⟩
    · exact absurd ⟨hq, rfl, Or.inl rfl⟩ (q x2 (by have := hq.2.1; omega))
    · exact ⟨rfl, q1, fun i q => q4 i (by have := q.1.2.1; omega) q⟩
  · have q : hN τ w7 := ⟨i1, g, g2⟩
    have q7 := hN_in h q
    have vb := VS_in h.1.1.1 q7.2.2.1
    have hM : M ≤ 5 := h.1.1.1.2.2.1
    have hm7 := q7.2.2.2.2.2.2.2.2.1
    have hm2 := qi.2.2.2.2.2.2.2.2.1
    refine ⟨⟨q7.1, q7.2.1, vb.1, vb.2.1⟩, ⟨(show inR (τ 6 (nxt τ w7)) from ⟨by omega, by omega⟩), ⟨by omega, by omega⟩⟩, fun g3 => ⟨⟨⟨by omega, by omega⟩, ⟨by omega, by omega⟩⟩, fun g4 => riv ⟨q, g3, Or.inl g4⟩ g, fun g4 => ⟨⟨q7.1, q7.2.1⟩, ⟨?_, ⟨by omega, by omega⟩⟩, fun g5 => skip (fun z => ?_) g, fun g5 => riv ⟨q, g3, Or.inr g5⟩ g⟩⟩, fun g3 => skip (fun z => g3 z.2.1) g⟩
    · have := hb w7 q
      exact ⟨by omega, by omega⟩
    · rcases z.2.2 with z | z <;> omega
theorem c_X1_choose {G : GG} (hG : GI G) (l : Launch) (x1 : Int) (x2 : Int) (σ : Mem) (h : pre_X1_choose (gM G) x1 x2 σ) : CtI G l yX1_choose cX1_choose 9 (some .int) 2 [pR 26, pI x1, pI x2] σ (post_X1_choose (gM G) x1 x2 σ) := by
  refine CtI.of hG (by decide) (Nat.le_of_ble_eq_true rfl) (fun X hl C => ?_)
  show RW G X 9 (QI G X _) 0 [(0, pR 26), (1, pI x1), (2, pI x2)] [] σ
  have key : ∀ n : Nat, (∀ (w3 w4 w5 w6 w7 : Int) (τ : Mem), inv_X1_choose_23 (gM G) x1 x2 σ w3 w4 w5 w6 w7 τ → mu_X1_choose_23 x1 x2 w3 w4 w5 w6 w7 τ < n → RW G X 9 (QI G X (post_X1_choose (gM G) x1 x2 σ)) 23 [(0, pR 26), (1, pI x1), (2, pI x2), (3, pI w3), (4, pI w4), (5, pI w5), (6, pI w6), (7, pI w7)] [] τ) := by
    intro n
    induction n with
    | zero => exact fun w3 w4 w5 w6 w7 τ _ h0 => absurd h0 (Nat.not_lt_zero _)
    | succ n ih =>
      exact (fun w3 w4 w5 w6 w7 τ hinv h0 => seg_X1_choose_23 C x1 x2 w3 w4 w5 w6 w7 τ (ok_X1_choose_23 h hinv (fun y3 y4 y5 y6 y7 τ' hi hm => ih y3 y4 y5 y6 y7 τ' hi (Nat.lt_of_lt_of_le hm (Nat.le_of_lt_succ h0)))))
  exact seg_X1_choose_0 C x1 x2 σ (ok_X1_choose_0 h (fun y3 y4 y5 y6 y7 τ' hi => (key _) y3 y4 y5 y6 y7 τ' hi (Nat.lt_succ_self _)))

/-! X1_append -/
def m_X1_append (x1 : Int) (σ : Mem) : Mem := up (up (up (m_X3_insert (nxt σ x1) (σ 10 (σ 6 (nxt σ x1))) σ) 28 x1 (f_X1_wouldEnd x1 σ)) 29 (σ 6 (nxt σ x1)) (f_X1_wouldEnd x1 σ)) 27 x1 (σ 27 x1 + 1)
def pre_X1_append (M : Nat) (x1 : Int) (σ : Mem) : Prop := hN σ x1 ∧ ∃ n, FI M σ n
def VC_X1_append_0 (M : Nat) (post : Mem → Prop) (x1 : Int) (σ : Mem) : Prop :=
 (pre_X1_machineOfNext M x1 σ) ∧ ∀ v2 : Int, v2 = f_X1_machineOfNext x1 σ → (pre_X1_wouldEnd M x1 σ) ∧ ∀ v4 : Int, v4 = f_X1_wouldEnd x1 σ → (pre_X1_nextOf M x1 σ) ∧ (0 ≤ v2 ∧ v2 < M) ∧ (pre_X3_insert M (f_X1_nextOf x1 σ) (σ 10 v2) σ) ∧ ∀ s9 : Mem, s9 = m_X3_insert (f_X1_nextOf x1 σ) (σ 10 v2) σ → (0 ≤ x1 ∧ x1 < 8) ∧ ∀ s12 : Mem, s12 = up s9 28 x1 v4 → (0 ≤ v2 ∧ v2 < 5) ∧ ∀ s15 : Mem, s15 = up s12 29 v2 v4 → (0 ≤ x1 ∧ x1 < 8) ∧ (0 ≤ x1 ∧ x1 < 8) ∧ ∀ s20 : Mem, s20 = up s15 27 x1 ((s15 27 x1) + 1) → post s20
set_option maxRecDepth 20000 in
set_option maxHeartbeats 4000000 in
theorem seg_X1_append_0 {G : GG} {X : XX} {post : Mem → Prop} (C : CX G X cX1_append RX1 4 none 2)   (x1 : Int) (σ : Mem) (vc : VC_X1_append_0 (gM G)  post  x1 σ) : RW G X 4 (QV G X post) 0 [(0, pR 26), (1, pI x1)] [] σ := by
  unfold VC_X1_append_0 at vc
  refine w_aload_n C 0 dX1_append_0 rfl ?_
  refine w_iload_n C 1 dX1_append_1 rfl ?_
  obtain ⟨sc1, vc⟩ := vc
  refine w_callVI C [pI x1] [] rfl dX1_append_2 (c_X1_machineOfNext C.gi (xL X) x1 σ sc1) oc_26 mw_X1_machineOfNext ml_X1_87 im_X1_machineOfNext se_X1_machineOfNext (by decide) (Nat.le_of_ble_eq_true rfl) (fun z σ' hz => ?_)
  obtain ⟨rfl, hz2⟩ := hz
  have hz2 := hz2.symm
  subst hz2
  refine w_top (fun v2 hv2 => ?_)
  have vc := vc v2 hv2
  refine w_istore_n C [(2, pI v2), (0, pR 26), (1, pI x1)] dX1_append_5 (by decide) rfl ?_
  refine w_aload_n C 1 dX1_append_6 rfl ?_
  refine w_iload_n C 2 dX1_append_7 rfl ?_
  obtain ⟨sc3, vc⟩ := vc
  refine w_callVI C [pI x1] [] rfl dX1_append_8 (c_X1_wouldEnd C.gi (xL X) x1 σ sc3) oc_26 mw_X1_wouldEnd ml_X1_110 im_X1_wouldEnd se_X1_wouldEnd (by decide) (Nat.le_of_ble_eq_true rfl) (fun z σ' hz => ?_)
  obtain ⟨rfl, hz2⟩ := hz
  have hz2 := hz2.symm
  subst hz2
  refine w_top (fun v4 hv4 => ?_)
  have vc := vc v4 hv4
  refine w_istore_n C [(3, pI v4), (2, pI v2), (0, pR 26), (1, pI x1)] dX1_append_11 (by decide) rfl ?_
  refine w_aload_n C 2 dX1_append_12 rfl ?_
  refine w_getR C dX1_append_13 gf_X1_24 ob_26 rfl ?_
  refine w_aload_n C 2 dX1_append_16 rfl ?_
  refine w_iload_n C 3 dX1_append_17 rfl ?_
  obtain ⟨sc5, vc⟩ := vc
  refine w_callVI C [pI x1] [pR 1] rfl dX1_append_18 (c_X1_nextOf C.gi (xL X) x1 σ sc5) oc_26 mw_X1_nextOf ml_X1_73 im_X1_nextOf se_X1_nextOf (by decide) (Nat.le_of_ble_eq_true rfl) (fun z σ' hz => ?_)
  obtain ⟨rfl, hz2⟩ := hz
  have hz2 := hz2.symm
  subst hz2
  refine w_aload_n C 2 dX1_append_21 rfl ?_
  refine w_getR C dX1_append_22 gf_X1_24 ob_26 rfl ?_
  refine w_getR C dX1_append_25 gf_X1_98 ob_1 rfl ?_
  refine w_iload_n C 1 dX1_append_28 rfl ?_
  obtain ⟨⟨sc6, sc7⟩, vc⟩ := vc
  refine w_iald C dX1_append_29 (ia_10 C.gi) sc6 sc7 ?_
  obtain ⟨sc8, vc⟩ := vc
  refine w_callVV C [pI (f_X1_nextOf x1 σ), pI (σ 10 v2)] [] rfl dX1_append_30 (c_X3_insert C.gi (xL X) (f_X1_nextOf x1 σ) (σ 10 v2) σ sc8) oc_1 mw_X3_insert ml_X1_122 im_X3_insert se_X3_insert (by decide) (Nat.le_of_ble_eq_true rfl) (fun s9 hs9 => ?_)
  have vc := vc s9 hs9
  refine w_aload_n C 2 dX1_append_33 rfl ?_
  refine w_getR C dX1_append_34 gf_X1_15 ob_26 rfl ?_
  refine w_iload_n C 3 dX1_append_37 rfl ?_
  refine w_iload_n C 0 dX1_append_38 rfl ?_
  obtain ⟨⟨sc10, sc11⟩, vc⟩ := vc
  refine w_iast C dX1_append_39 ia_28 sc10 sc11 ?_
  refine w_mem (fun s12 hs12 => ?_)
  have vc := vc s12 hs12
  refine w_aload_n C 2 dX1_append_40 rfl ?_
  refine w_getR C dX1_append_41 gf_X1_18 ob_26 rfl ?_
  refine w_iload_n C 1 dX1_append_44 rfl ?_
  refine w_iload_n C 0 dX1_append_45 rfl ?_
  obtain ⟨⟨sc13, sc14⟩, vc⟩ := vc
  refine w_iast C dX1_append_46 ia_29 sc13 sc14 ?_
  refine w_mem (fun s15 hs15 => ?_)
  have vc := vc s15 hs15
  refine w_aload_n C 2 dX1_append_47 rfl ?_
  refine w_getR C dX1_append_48 gf_X1_9 ob_26 rfl ?_
  refine w_iload_n C 3 dX1_append_51 rfl ?_
  refine w_dup2 C dX1_append_52 rfl rfl ?_
  obtain ⟨⟨sc16, sc17⟩, vc⟩ := vc
  refine w_iald C dX1_append_53 ia_27 sc16 sc17 ?_
  refine w_iconst C dX1_append_54 ?_
  refine w_iadd C dX1_append_55 ?_
  obtain ⟨⟨sc18, sc19⟩, vc⟩ := vc
  refine w_iast C dX1_append_56 ia_27 sc18 sc19 ?_
  refine w_mem (fun s20 hs20 => ?_)
  have vc := vc s20 hs20
  exact w_vreturn C dX1_append_57 vc
set_option maxHeartbeats 1000000 in
theorem ok_X1_append_0 {M : Nat} {x1 : Int} {σ : Mem} (h : pre_X1_append M x1 σ) : VC_X1_append_0 M (fun σ' => σ' = m_X1_append x1 σ) x1 σ := by
  obtain ⟨hq, n, h⟩ := h
  have qi := hN_in h hq
  have vb := VS_in h.1.1.1 qi.2.2.1
  have hm := qi.2.2.2.2.2.2.2.2.1
  have hM : M ≤ 5 := h.1.1.1.2.2.1
  have hz := h.1.1.1.2.2.2.2.2 _ hm.1 hm.2
  have hlt := size_lt h.1 qi.2.2.1 qi.2.2.2.2.2.2.2.1 hm.1 hm.2
  refine ⟨⟨qi.1, qi.2.1, vb.1, vb.2.1⟩, fun v2 e2 => ⟨⟨qi.1, qi.2.1, vb.1, vb.2.1⟩, fun v4 e4 => ?_⟩⟩
  subst e2
  subst e4
  refine ⟨⟨qi.1, qi.2.1⟩, hm, ⟨vb.1, vb.2.1, hm.1, hm.2, hz.1, Int.le_refl _, hlt⟩, fun s9 e9 => ⟨⟨qi.1, qi.2.1⟩, fun s12 e12 => ⟨⟨hm.1, (show σ 6 (nxt σ x1) < 5 from by omega)⟩, fun s15 e15 => ⟨⟨qi.1, qi.2.1⟩, ⟨qi.1, qi.2.1⟩, fun s20 e20 => ?_⟩⟩⟩⟩
  have q27 : s15 27 x1 = σ 27 x1 := by
    rw [e15, e12, e9]
    rw [up_ne _ _ (Or.inl (by omega)), up_ne _ _ (Or.inl (by omega)), (ins_acc _ _ σ hm.1).2.2.2.2.2 27 (by omega) (by omega)]
  unfold m_X1_append
  rw [e20, q27, e15, e12, e9]
theorem c_X1_append {G : GG} (hG : GI G) (l : Launch) (x1 : Int) (σ : Mem) (h : pre_X1_append (gM G) x1 σ) : CtV G l yX1_append cX1_append 4 none 2 [pR 26, pI x1] σ (fun σ' => σ' = m_X1_append x1 σ) := by
  refine CtV.of hG (by decide) (Nat.le_of_ble_eq_true rfl) (fun X hl C => ?_)
  show RW G X 4 (QV G X _) 0 [(0, pR 26), (1, pI x1)] [] σ
  exact seg_X1_append_0 C x1 σ (ok_X1_append_0 h)

/-! X1_run -/
def pre_X1_run (M : Nat) (x1 : Int) (σ : Mem) : Prop := WF M σ ∧ inR x1
def post_X1_run (M : Nat) (x1 : Int) (σ σ' : Mem) : Prop := C30 (fillN x1 (fill0 σ) (σ 1 2).toNat) σ' ∧ FI M (fillN x1 (fill0 σ) (σ 1 2).toNat) (σ 1 2) ∧ FK σ (fillN x1 (fill0 σ) (σ 1 2).toNat) ∧ ∀ c : Int, (12 ≤ c ∧ c ≤ 26) ∨ (31 ≤ c ∧ c ≤ 56) → σ' c = σ c
def inv_X1_run_43 (M : Nat) (x1 : Int) (σ : Mem) (w2 : Int) (τ : Mem) : Prop := 0 ≤ w2 ∧ w2 ≤ σ 1 2 ∧ C30 (fillN x1 (fill0 σ) w2.toNat) τ ∧ FI M (fillN x1 (fill0 σ) w2.toNat) w2 ∧ FK σ (fillN x1 (fill0 σ) w2.toNat) ∧ τ 1 2 = σ 1 2 ∧ ∀ c : Int, (12 ≤ c ∧ c ≤ 26) ∨ (31 ≤ c ∧ c ≤ 56) → τ c = σ c
def mu_X1_run_43 (x1 : Int) (w2 : Int) (τ : Mem) : Nat := (48 - w2).toNat
def VC_X1_run_0 (M : Nat) (K43 : Int → Mem → Prop) (post : Mem → Prop) (x1 : Int) (σ : Mem) : Prop :=
 (pre_X3_emptyOrders M σ) ∧ ∀ s2 : Mem, s2 = m_X3_emptyOrders σ → (pre_J7_fill_53178 M 27 8 0 s2) ∧ ∀ s4 : Mem, s4 = m_J7_fill_53178 27 8 0 s2 → ∀ s5 : Mem, s5 = cpM s4 2 28 8 → (pre_J7_fill_53178 M 29 5 0 s5) ∧ ∀ s7 : Mem, s7 = m_J7_fill_53178 29 5 0 s5 → K43 0 s7
set_option maxRecDepth 20000 in
set_option maxHeartbeats 4000000 in
theorem seg_X1_run_0 {G : GG} {X : XX} {post : Mem → Prop} (C : CX G X cX1_run RX1 3 none 3)   (x1 : Int) (σ : Mem) (vc : VC_X1_run_0 (gM G) (fun w2 σ => RW G X 3 (QV G X post) 43 [(0, pR 26), (1, pI x1), (2, pI w2)] [] σ) post  x1 σ) : RW G X 3 (QV G X post) 0 [(0, pR 26), (1, pI x1)] [] σ := by
  unfold VC_X1_run_0 at vc
  refine w_aload_n C 0 dX1_run_0 rfl ?_
  refine w_getR C dX1_run_1 gf_X1_24 ob_26 rfl ?_
  obtain ⟨sc1, vc⟩ := vc
  refine w_callVV C [] [] rfl dX1_run_4 (c_X3_emptyOrders C.gi (xL X)  σ sc1) oc_1 mw_X3_emptyOrders ml_X1_28 im_X3_emptyOrders se_X3_emptyOrders (by decide) (Nat.le_of_ble_eq_true rfl) (fun s2 hs2 => ?_)
  have vc := vc s2 hs2
  refine w_aload_n C 0 dX1_run_7 rfl ?_
  refine w_getR C dX1_run_8 gf_X1_9 ob_26 rfl ?_
  refine w_iconst C dX1_run_11 ?_
  obtain ⟨sc3, vc⟩ := vc
  refine w_callSV C [pR 27, pI 0] [] rfl dX1_run_12 (c_J7_fill_53178 C.gi (xL X) 27 8 0 s2 ia_27 sc3) mw_J7_fill_53178 ml_X1_33 ss_J7_fill_53178 (by decide) (Nat.le_of_ble_eq_true rfl) (fun s4 hs4 => ?_)
  have vc := vc s4 hs4
  refine w_aload_n C 0 dX1_run_15 rfl ?_
  refine w_getR C dX1_run_16 gf_X1_24 ob_26 rfl ?_
  refine w_getR C dX1_run_19 gf_X1_39 ob_1 rfl ?_
  refine w_iconst C dX1_run_22 ?_
  refine w_aload_n C 0 dX1_run_23 rfl ?_
  refine w_getR C dX1_run_24 gf_X1_15 ob_26 rfl ?_
  refine w_iconst C dX1_run_27 ?_
  refine w_bipush C dX1_run_28 (by decide) ?_
  refine w_acopy (n := 8) C rfl dX1_run_30 ml_X1_42 mt_copy ia_2 ia_28 (by decide) (by decide) (Nat.le_of_ble_eq_true rfl) ?_
  refine w_mem (fun s5 hs5 => ?_)
  have vc := vc s5 hs5
  refine w_aload_n C 0 dX1_run_33 rfl ?_
  refine w_getR C dX1_run_34 gf_X1_18 ob_26 rfl ?_
  refine w_iconst C dX1_run_37 ?_
  obtain ⟨sc6, vc⟩ := vc
  refine w_callSV C [pR 29, pI 0] [] rfl dX1_run_38 (c_J7_fill_53178 C.gi (xL X) 29 5 0 s5 ia_29 sc6) mw_J7_fill_53178 ml_X1_33 ss_J7_fill_53178 (by decide) (Nat.le_of_ble_eq_true rfl) (fun s7 hs7 => ?_)
  have vc := vc s7 hs7
  refine w_iconst C dX1_run_41 ?_
  refine w_istore_n C [(2, pI 0), (0, pR 26), (1, pI x1)] dX1_run_42 (by decide) rfl ?_
  exact w_sub _ [1, 2, 0] rfl vc
def VC_X1_run_43 (M : Nat) (K43 : Int → Mem → Prop) (post : Mem → Prop) (x1 : Int) (w2 : Int) (σ : Mem) : Prop :=
 (inR w2 ∧ inR (σ 1 2)) ∧ (((σ 1 2) ≤ w2 → post σ) ∧ (w2 < (σ 1 2) → (pre_X1_lookAhead M σ) ∧ ∀ s5 : Mem, post_X1_lookAhead M σ s5 → (pre_X1_firstToEnd M s5) ∧ ∀ (z8 : Int) (s7 : Mem), post_X1_firstToEnd M s5 z8 s7 → (pre_X1_choose M x1 z8 s7) ∧ ∀ (z11 : Int) (s10 : Mem), post_X1_choose M x1 z8 s7 z11 s10 → (pre_X1_append M z11 s10) ∧ ∀ s13 : Mem, s13 = m_X1_append z11 s10 → K43 (w2 + 1) s13))
set_option maxRecDepth 20000 in
set_option maxHeartbeats 4000000 in
theorem seg_X1_run_43 {G : GG} {X : XX} {post : Mem → Prop} (C : CX G X cX1_run RX1 3 none 3)   (x1 : Int) (w2 : Int) (σ : Mem) (vc : VC_X1_run_43 (gM G) (fun w2 σ => RW G X 3 (QV G X post) 43 [(0, pR 26), (1, pI x1), (2, pI w2)] [] σ) post  x1 w2 σ) : RW G X 3 (QV G X post) 43 [(0, pR 26), (1, pI x1), (2, pI w2)] [] σ := by
  unfold VC_X1_run_43 at vc
  refine w_iload_n C 2 dX1_run_43 rfl ?_
  refine w_aload_n C 0 dX1_run_44 rfl ?_
  refine w_getR C dX1_run_45 gf_X1_24 ob_26 rfl ?_
  refine w_getI C 2 dX1_run_48 gf_X1_48 ob_1 rfl rfl ?_
  obtain ⟨⟨sc1, sc2⟩, vc⟩ := vc
  refine w_icmp_ge C 77 dX1_run_51 (by decide) sc1 sc2 (fun h3 => ?_) (fun h3 => ?_)
  · have vc := vc.1 h3
    exact w_vreturn C dX1_run_77 vc
  · have vc := vc.2 h3
    refine w_aload_n C 0 dX1_run_54 rfl ?_
    obtain ⟨sc4, vc⟩ := vc
    refine w_callVV C [] [] rfl dX1_run_55 (c_X1_lookAhead C.gi (xL X)  σ sc4) oc_26 mw_X1_lookAhead ml_X1_52 im_X1_lookAhead se_X1_lookAhead (by decide) (Nat.le_of_ble_eq_true rfl) (fun s5 hs5 => ?_)
    have vc := vc s5 hs5
    refine w_aload_n C 0 dX1_run_58 rfl ?_
    refine w_aload_n C 0 dX1_run_59 rfl ?_
    refine w_iload_n C 1 dX1_run_60 rfl ?_
    refine w_aload_n C 0 dX1_run_61 rfl ?_
    obtain ⟨sc6, vc⟩ := vc
    refine w_callVI C [] [pI x1, pR 26, pR 26] rfl dX1_run_62 (c_X1_firstToEnd C.gi (xL X)  s5 sc6) oc_26 mw_X1_firstToEnd ml_X1_55 im_X1_firstToEnd se_X1_firstToEnd (by decide) (Nat.le_of_ble_eq_true rfl) (fun z8 s7 hs7 => ?_)
    have vc := vc z8 s7 hs7
    obtain ⟨sc9, vc⟩ := vc
    refine w_callVI C [pI x1, pI z8] [pR 26] rfl dX1_run_65 (c_X1_choose C.gi (xL X) x1 z8 s7 sc9) oc_26 mw_X1_choose ml_X1_59 im_X1_choose se_X1_choose (by decide) (Nat.le_of_ble_eq_true rfl) (fun z11 s10 hs10 => ?_)
    have vc := vc z11 s10 hs10
    obtain ⟨sc12, vc⟩ := vc
    refine w_callVV C [pI z11] [] rfl dX1_run_68 (c_X1_append C.gi (xL X) z11 s10 sc12) oc_26 mw_X1_append ml_X1_63 im_X1_append se_X1_append (by decide) (Nat.le_of_ble_eq_true rfl) (fun s13 hs13 => ?_)
    have vc := vc s13 hs13
    refine w_iinc C 2 [(2, pI (w2 + 1)), (0, pR 26), (1, pI x1)] dX1_run_71 rfl (by decide) rfl ?_
    refine w_goto C 43 dX1_run_74 (by decide) ?_
    exact w_sub _ [1, 2, 0] rfl vc
set_option maxHeartbeats 1000000 in
theorem ok_X1_run_0 {M : Nat} {x1 : Int} {σ : Mem} {K43 : Int → Mem → Prop} (h : pre_X1_run M x1 σ) (hK43 : ∀ (y2 : Int) (τ' : Mem), inv_X1_run_43 M x1 σ y2 τ' → K43 y2 τ') : VC_X1_run_0 M K43 (post_X1_run M x1 σ) x1 σ := by
  obtain ⟨h, hr⟩ := h
  have hs := steps_in h
  have hF := FI_0 h
  obtain ⟨af, a1, a8, a10, a27, a28, a29, ao⟩ := fill0_acc σ
  refine ⟨⟨h.1.1.1, h.1.1.2.2.1⟩, fun s2 e2 => ⟨by unfold pre_J7_fill_53178; omega, fun s4 e4 s5 e5 => ⟨by unfold pre_J7_fill_53178; omega, fun s7 e7 => ?_⟩⟩⟩
  have e : s7 = fill0 σ := by rw [e7, e5, e4, e2]; rfl
  rw [e]
  refine hK43 _ _ ⟨by omega, by omega, fun c _ => rfl, hF, FK_0 σ, by rw [a1]; simp, fun c hc => ao c (by omega) (by omega)⟩
set_option maxHeartbeats 1000000 in
theorem ok_X1_run_43 {M : Nat} {x1 : Int} {σ : Mem} {w2 : Int} {τ : Mem} {K43 : Int → Mem → Prop} (h : pre_X1_run M x1 σ) (hinv : inv_X1_run_43 M x1 σ w2 τ) (hK43 : ∀ (y2 : Int) (τ' : Mem), inv_X1_run_43 M x1 σ y2 τ' → mu_X1_run_43 x1 y2 τ' < mu_X1_run_43 x1 w2 τ → K43 y2 τ') : VC_X1_run_43 M K43 (post_X1_run M x1 σ) x1 w2 τ := by
  obtain ⟨h, hr⟩ := h
  have hs := steps_in h
  obtain ⟨i1, i2, hc, hF, hFK, e12, ho⟩ := hinv
  have hFτ := FI_c hc hF
  refine ⟨⟨⟨by omega, by omega⟩, ⟨by omega, by omega⟩⟩, fun g => ?_, fun g => ⟨⟨w2, hFτ⟩, fun s5 h5 => ?_⟩⟩
  · have : w2 = σ 1 2 := by omega
    subst this
    exact ⟨hc, hF, hFK, ho⟩
  · obtain ⟨c5, b5⟩ := h5
    have hF5 := FI_c c5 hFτ
    obtain ⟨f, hf⟩ : ∃ f, f = fillN x1 (fill0 σ) w2.toNat := ⟨_, rfl⟩
    rw [← hf] at hc hF hFK
    have cf : C30 f s5 := hc.trans c5
    have hm : ∀ j, hN f j → 0 ≤ f 6 (nxt f j) := fun j q => (hN_in hF q).2.2.2.2.2.2.2.2.1.1
    have b5' : ∀ j, hN s5 j → s5 30 j = bgF f j := fun j q => by
      have q' := (hN_c cf j).mp q
      rw [b5 j ((hN_c c5 j).mp q), bgF_c hc (hm j q')]
    have hb : ∀ j, hN s5 j → 0 ≤ s5 30 j ∧ s5 30 j ≤ 20000 := fun j q => by
      have := bgF_in hF ((hN_c cf j).mp q)
      rw [b5' j q]
      omega
    have eE : ∀ j, hN s5 j → f_X1_wouldEnd j s5 = enF f j := fun j q => by
      unfold f_X1_wouldEnd enF
      rw [b5' j q, nxt_c cf, cf 7 (by omega)]
    have eM : ∀ j, hN s5 j → f_X1_measure x1 j s5 = msF x1 f j := fun j q => by
      unfold f_X1_measure msF
      rw [nxt_c cf, cf 7 (by omega), cf 3 (by omega), cf 27 (by omega), cf 5 (by omega), b5' j q]
    have hmore := FI_more hF5 (n := w2) (by rw [c5 1 (by omega), e12]; omega)
    refine ⟨⟨w2, hF5, hmore, hb⟩, fun z8 s7 h7 => ?_⟩
    obtain ⟨e7, q8, m8⟩ := h7
    subst e7
    have fs8 : fsF f z8 := ⟨(hN_c cf z8).mp q8, fun i q => by
      have q' := (hN_c cf i).mpr q
      have := m8 i q'
      rw [eE z8 q8, eE i q'] at this
      exact this⟩
    refine ⟨⟨hr, q8, w2, hF5, hb⟩, fun z11 s10 h10 => ?_⟩
    obtain ⟨e10, r11, m11⟩ := h10
    subst e10
    have rveq : ∀ i, rvC z8 i s10 ↔ rvF f z8 i := fun i => by
      unfold rvC rvF
      rw [hN_c cf, nxt_c cf, nxt_c cf, cf 6 (by omega), eE z8 q8]
      constructor
      · rintro ⟨p1, p2, p3⟩
        refine ⟨p1, p2, ?_⟩
        rw [← b5' i ((hN_c cf i).mpr p1)]
        exact p3
      · rintro ⟨p1, p2, p3⟩
        refine ⟨p1, p2, ?_⟩
        rw [b5' i ((hN_c cf i).mpr p1)]
        exact p3
    have q11 := r11.1
    have ch11 : chF x1 f z8 z11 := ⟨(rveq z11).mp r11, fun i q => by
      have q' := (rveq i).mpr q
      have := m11 i q'
      rw [eM z11 q11, eM i q'.1] at this
      exact this⟩
    refine ⟨⟨q11, w2, hF5⟩, fun s13 e13 => ?_⟩
    have q11f := (hN_c cf z11).mp q11
    have hap : C30 (apF f z11) s13 := by
      rw [e13]
      unfold m_X1_append apF
      rw [nxt_c cf, cf 10 (by omega), cf 6 (by omega), cf 27 (by omega), eE z11 q11]
      exact up_c30 (up_c30 (up_c30 (ins_c30 cf _ _) _ _ _) _ _ _) _ _ _
    have hnx : fillN x1 (fill0 σ) (w2 + 1).toNat = apF f z11 := by
      rw [show (w2 + 1).toNat = w2.toNat + 1 by omega]
      show nextF x1 (fillN x1 (fill0 σ) w2.toNat) = _
      rw [← hf]
      exact nextF_eq fs8 ch11
    have hF' := FI_step hF q11f
    have hmf := hm z11 q11f
    obtain ⟨ac, a27, a28, a29⟩ := apF_acc f z11 hmf
    obtain ⟨af, a1, a8, a10, ar, ao⟩ := ins_acc (nxt f z11) (f 10 (f 6 (nxt f z11))) f hmf
    refine hK43 _ _ ⟨by omega, by omega, by rw [hnx]; exact hap, by rw [hnx]; exact hF', by rw [hnx]; exact FK_step hFK hmf, ?_, fun c hcc => ?_⟩ ?_
    · rw [hap 1 (by omega), ac 1 (by omega) (by omega) (by omega), a1]
      simp only [show ¬ (2 : Int) = 3 by omega, if_false]
      rw [← hc 1 (by omega)]
      exact e12
    · rw [hap c (by omega), ac c (by omega) (by omega) (by omega), ao c (by omega) (by omega), ← hc c (by omega)]
      exact ho c hcc
    · unfold mu_X1_run_43; omega
theorem c_X1_run {G : GG} (hG : GI G) (l : Launch) (x1 : Int) (σ : Mem) (h : pre_X1_run (gM G) x1 σ) : CtV G l yX1_run cX1_run 3 none 3 [pR 26, pI x1] σ (post_X1_run (gM G) x1 σ) := by
  refine CtV.of hG (by decide) (Nat.le_of_ble_eq_true rfl) (fun X hl C => ?_)
  show RW G X 3 (QV G X _) 0 [(0, pR 26), (1, pI x1)] [] σ
  have key : ∀ n : Nat, (∀ (w2 : Int) (τ : Mem), inv_X1_run_43 (gM G) x1 σ w2 τ → mu_X1_run_43 x1 w2 τ < n → RW G X 3 (QV G X (post_X1_run (gM G) x1 σ)) 43 [(0, pR 26), (1, pI x1), (2, pI w2)] [] τ) := by
    intro n
    induction n with
    | zero => exact fun w2 τ _ h0 => absurd h0 (Nat.not_lt_zero _)
    | succ n ih =>
      exact (fun w2 τ hinv h0 => seg_X1_run_43 C x1 w2 τ (ok_X1_run_43 h hinv (fun y2 τ' hi hm => ih y2 τ' hi (Nat.lt_of_lt_of_le hm (Nat.le_of_lt_succ h0)))))
  exact seg_X1_run_0 C x1 σ (ok_X1_run_0 h (fun y2 τ' hi => (key _) y2 τ' hi (Nat.lt_succ_self _)))
