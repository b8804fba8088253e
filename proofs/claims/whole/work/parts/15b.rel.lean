/-! what the document asks, as relations over the shop's cells -/
def Tr (_ : Int) : Prop := True
def PLN (M : Nat) (a : Mem) (B : Int → Int) : Prop := a 1 2 ≤ a 1 3 ∧ ∃ rk, PP M a Tr B rk
def NP (M : Nat) (a : Mem) : Prop := ¬ ∃ B, PLN M a B
theorem PLN_uniq {M : Nat} {a : Mem} (h : WF M a) {B B' : Int → Int} (x : PLN M a B) (y : PLN M a B') : ∀ s, VS a s → B s = B' s := by
  obtain ⟨x1, rk, x2⟩ := x
  obtain ⟨-, rk', y2⟩ := y
  exact fun s hs => PP_uniq h.1 h.2.1 (WF_AO h x1) x2 y2 (fun _ _ _ => trivial) s hs trivial
theorem PLN_span {M : Nat} {a : Mem} (h : WF M a) {B B' : Int → Int} {g g' : Int} (x : PLN M a B) (y : PLN M a B') (z : SPN a Tr B g) (w : SPN a Tr B' g') : g = g' :=
  SPN_uniq (fun _ _ => Iff.rfl) (fun s hs _ => PLN_uniq h x y s hs) z w
theorem PLN_rest {M : Nat} {a : Mem} (h : WF M a) {B R R' : Int → Int} (x : PLN M a B) (z : RS M a R) (w : RS M a R') : ∀ s, VS a s → R s = R' s := by
  obtain ⟨x1, rk, x2⟩ := x
  exact RS_uniq h.1 h.2.1 (WF_AO h x1) x2 (fun _ _ => trivial) z w
/-- a partial plan that can't go on and isn't all: there is no plan -/
theorem NP_of {M : Nat} {a : Mem} (h : WF M a) {D : Int → Prop} (g : MX M a D) (hn : ¬ All a D) : NP M a := by
  rintro ⟨B, x1, rk, x2⟩
  exact hn (fun s hs => PP_sub h.1 h.2.1 (WF_AO h x1) x2 g s hs trivial)
theorem NP_open {M : Nat} {a : Mem} (h : a 1 3 < a 1 2) : NP M a := by
  rintro ⟨B, x1, -⟩
  omega
theorem SE_inO {M : Nat} {a b : Mem} (h : SE a b) (m i : Int) : inO M a m i ↔ inO M b m i := by unfold inO; rw [h 10 (by omega)]
theorem SE_PP {M : Nat} {a b : Mem} (h : SE a b) {D : Int → Prop} {B rk : Int → Int} (x : PP M a D B rk) : PP M b D B rk := by
  intro m i hi hd
  have hi' := (SE_inO h m i).mpr hi
  have er := SE_row h hi.1
  rw [← er] at hd ⊢
  obtain ⟨y1, y2, y3, y4⟩ := x m i hi' hd
  exact ⟨y1, y2, y3, y4.trans (bV_congr h hi.1 (fun _ => rfl) (fun _ => rfl))⟩
theorem SE_PLN {M : Nat} {a b : Mem} (h : SE a b) {B : Int → Int} (x : PLN M a B) : PLN M b B := by
  obtain ⟨x1, rk, x2⟩ := x
  exact ⟨by rw [← h 1 (by omega)]; exact x1, rk, SE_PP h x2⟩
theorem SE_NP {M : Nat} {a b : Mem} (h : SE a b) (x : NP M a) : NP M b := fun ⟨B, y⟩ => x ⟨B, SE_PLN h.symm y⟩
theorem SE_SPN {a b : Mem} (h : SE a b) {D : Int → Prop} {B : Int → Int} {g : Int} (x : SPN a D B g) : SPN b D B g := by
  obtain ⟨x1, x2, x3⟩ := x
  have e7 := h 7 (by omega)
  refine ⟨x1, fun s hs hd => ?_, ?_⟩
  · rw [← e7]; exact x2 s ((SE_VS h s).mpr hs) hd
  · rcases x3 with e | ⟨s, p1, p2, p3⟩
    · exact Or.inl e
    · exact Or.inr ⟨s, (SE_VS h s).mp p1, p2, by rw [← e7]; exact p3⟩
theorem SE_RS {M : Nat} {a b : Mem} (h : SE a b) {R : Int → Int} (x : RS M a R) : RS M b R := by
  intro m i hi
  have y := x m i ((SE_inO h m i).mpr hi)
  have er := SE_row h hi.1
  unfold rV at *
  rw [er, h 7 (by omega), h 5 (by omega), h 10 (by omega), h 11 (by omega)] at y
  exact y
def spanR (M : Nat) (a : Mem) (z : Int) : Prop := (NP M a ∧ z = -3) ∨ ∃ B, PLN M a B ∧ SPN a Tr B z
theorem spanR_det {M : Nat} {a : Mem} (h : WF M a) {z z' : Int} (x : spanR M a z) (y : spanR M a z') : z = z' := by
  rcases x with ⟨x1, x2⟩ | ⟨B, x1, x2⟩
  · rcases y with ⟨y1, y2⟩ | ⟨B', y1, y2⟩
    · omega
    · exact absurd ⟨B', y1⟩ x1
  · rcases y with ⟨y1, y2⟩ | ⟨B', y1, y2⟩
    · exact absurd ⟨B, x1⟩ y1
    · exact PLN_span h x1 y1 x2 y2
theorem SE_spanR {M : Nat} {a b : Mem} (h : SE a b) {z : Int} (x : spanR M a z) : spanR M b z := by
  rcases x with ⟨x1, x2⟩ | ⟨B, x1, x2⟩
  · exact Or.inl ⟨SE_NP h x1, x2⟩
  · exact Or.inr ⟨B, SE_PLN h x1, SE_SPN h x2⟩
def R_state (M : Nat) (a : Mem) (z : Int) : Prop := (z = 1 ∧ a 1 3 < a 1 2) ∨ (z = 2 ∧ a 1 2 ≤ a 1 3 ∧ NP M a) ∨ (z = 0 ∧ ∃ B, PLN M a B)
theorem R_state_det {M : Nat} {a : Mem} {z z' : Int} (x : R_state M a z) (y : R_state M a z') : z = z' := by
  rcases x with ⟨e, x1⟩ | ⟨e, x1, x2⟩ | ⟨e, B, x1⟩ <;> rcases y with ⟨e', y1⟩ | ⟨e', y1, y2⟩ | ⟨e', B', y1⟩
  · omega
  · omega
  · have := y1.1; omega
  · omega
  · omega
  · exact absurd ⟨B', y1⟩ x2
  · have := x1.1; omega
  · exact absurd ⟨B, x1⟩ y2
  · omega
def R_when (M : Nat) (a : Mem) (x1 x2 z : Int) : Prop := (¬ VS a x1 ∧ z = -1) ∨ (VS a x1 ∧ ¬ (0 ≤ x2 ∧ x2 ≤ 2) ∧ z = -2) ∨ (VS a x1 ∧ (0 ≤ x2 ∧ x2 ≤ 2) ∧ ((NP M a ∧ z = -3) ∨ ∃ B, PLN M a B ∧ ((x2 = 0 ∧ z = B x1) ∨ (x2 = 1 ∧ z = B x1 + a 7 x1) ∨ (x2 = 2 ∧ ∃ g R, SPN a Tr B g ∧ RS M a R ∧ z = g - B x1 - R x1))))
theorem R_when_det {M : Nat} {a : Mem} (h : WF M a) {x1 x2 z z' : Int} (x : R_when M a x1 x2 z) (y : R_when M a x1 x2 z') : z = z' := by
  rcases x with ⟨p, e⟩ | ⟨p, q, e⟩ | ⟨p, q, r⟩ <;> rcases y with ⟨p', e'⟩ | ⟨p', q', e'⟩ | ⟨p', q', r'⟩
  · omega
  · exact absurd p' p
  · exact absurd p' p
  · exact absurd p p'
  · omega
  · exact absurd q' q
  · exact absurd p p'
  · exact absurd q q'
  · rcases r with ⟨n, e⟩ | ⟨B, b1, b2⟩ <;> rcases r' with ⟨n', e'⟩ | ⟨B', b1', b2'⟩
    · omega
    · exact absurd ⟨B', b1'⟩ n
    · exact absurd ⟨B, b1⟩ n'
    · have eB := PLN_uniq h b1 b1' x1 p
      rcases b2 with ⟨u, v⟩ | ⟨u, v⟩ | ⟨u, g, R, v1, v2, v3⟩ <;> rcases b2' with ⟨u', v'⟩ | ⟨u', v'⟩ | ⟨u', g', R', v1', v2', v3'⟩
      · rw [v, v', eB]
      · omega
      · omega
      · omega
      · rw [v, v', eB]
      · omega
      · omega
      · omega
      · rw [v3, v3', eB, PLN_rest h b1 v2 v2' x1 p, PLN_span h b1 b1' v1 v1']
def eJ (a : Mem) (B : Int → Int) (j : Int) : Int := if a 5 j = 0 then a 2 j else B (10 * j + a 5 j - 1) + a 7 (10 * j + a 5 j - 1)
def R_late (M : Nat) (a : Mem) (z : Int) : Prop := (NP M a ∧ z = -9223372036854775808) ∨ ∃ B, PLN M a B ∧ z = sumI (fun j => a 4 j * max 0 (eJ a B j - a 3 j)) 0 (a 1 1)
theorem last_VS {M : Nat} {a : Mem} (hN : WN M a) {j : Int} (j0 : 0 ≤ j) (j1 : j < a 1 1) (h : a 5 j ≠ 0) : VS a (10 * j + a 5 j - 1) := by
  have h1 := hN.1.2.2.2.1
  have h5 := hN.1.2.2.2.2.1 j j0 (by omega)
  have e : (10 * j + a 5 j - 1) / 10 = j := by omega
  exact ⟨by omega, by rw [e]; exact j1, by rw [e]; omega⟩
theorem R_late_det {M : Nat} {a : Mem} (h : WF M a) {z z' : Int} (x : R_late M a z) (y : R_late M a z') : z = z' := by
  rcases x with ⟨x1, x2⟩ | ⟨B, x1, x2⟩ <;> rcases y with ⟨y1, y2⟩ | ⟨B', y1, y2⟩
  · omega
  · exact absurd ⟨B', y1⟩ x1
  · exact absurd ⟨B, x1⟩ y1
  · rw [x2, y2]
    refine sumI_congr (fun j j0 j1 => ?_)
    have : eJ a B j = eJ a B' j := by
      unfold eJ
      by_cases e : a 5 j = 0
      · rw [if_pos e, if_pos e]
      · rw [if_neg e, if_neg e, PLN_uniq h x1 y1 _ (last_VS h.1 j0 j1 e)]
    rw [this]
def R_swapped (M : Nat) (a : Mem) (x1 x2 z : Int) : Prop := (¬ P_X3_hasNeighbours x1 x2 a ∧ z = -1) ∨ (P_X3_hasNeighbours x1 x2 a ∧ ((NP M a ∧ z = -3) ∨ (¬ NP M a ∧ spanR M (m_X3_exchange x1 x2 a) z)))
theorem R_swapped_det {M : Nat} {a : Mem} (h : WF M a) {x1 x2 z z' : Int} (x : R_swapped M a x1 x2 z) (y : R_swapped M a x1 x2 z') : z = z' := by
  rcases x with ⟨p, e⟩ | ⟨p, q⟩ <;> rcases y with ⟨p', e'⟩ | ⟨p', q'⟩
  · omega
  · exact absurd p' p
  · exact absurd p p'
  · rcases q with ⟨n, e⟩ | ⟨n, r⟩ <;> rcases q' with ⟨n', e'⟩ | ⟨n', r'⟩
    · omega
    · exact absurd n n'
    · exact absurd n' n
    · exact spanR_det (WF_exchange h p) r r'
/-- a swap of two critical neighbours that brings less -/
def cnd (M : Nat) (a : Mem) (g : Int) (sl : Int → Int) (m p v : Int) : Prop := P_X3_hasNeighbours m p a ∧ sl (a (57 + m) p) = 0 ∧ sl (a (57 + m) (p + 1)) = 0 ∧ spanR M (m_X3_exchange m p a) v ∧ v ≠ -3 ∧ v < g
def lexle (m p m' p' : Int) : Prop := m < m' ∨ (m = m' ∧ p ≤ p')
/-- the best one of those ahead of place q of machine u -/
def BT (M : Nat) (a : Mem) (g : Int) (sl : Int → Int) (u q best least : Int) : Prop := (best = -3 ∧ least = g ∧ ∀ m p v : Int, (m < u ∨ (m = u ∧ p < q)) → ¬ cnd M a g sl m p v) ∨ ∃ m p : Int, cnd M a g sl m p least ∧ best = 100 * m + p ∧ (m < u ∨ (m = u ∧ p < q)) ∧ ∀ m' p' v' : Int, (m' < u ∨ (m' = u ∧ p' < q)) → cnd M a g sl m' p' v' → least < v' ∨ (least = v' ∧ lexle m p m' p')
def R_better (M : Nat) (a : Mem) (z : Int) : Prop := (NP M a ∧ z = -3) ∨ ∃ B g R w, PLN M a B ∧ SPN a Tr B g ∧ RS M a R ∧ BT M a g (fun s => g - B s - R s) M 0 z w
theorem R_better_det {M : Nat} {a : Mem} (h : WF M a) {z z' : Int} (x : R_better M a z) (y : R_better M a z') : z = z' := by
  rcases x with ⟨x1, x2⟩ | ⟨B, g, R, w, x1, x2, x3, x4⟩ <;> rcases y with ⟨y1, y2⟩ | ⟨B', g', R', w', y1, y2, y3, y4⟩
  · omega
  · exact absurd ⟨B', y1⟩ x1
  · exact absurd ⟨B, x1⟩ y1
  · have eg := PLN_span h x1 y1 x2 y2
    subst eg
    have sle : ∀ s, VS a s → g - B s - R s = g - B' s - R' s := fun s hs => by rw [PLN_uniq h x1 y1 s hs, PLN_rest h x1 x3 y3 s hs]
    have nbV : ∀ m p, P_X3_hasNeighbours m p a → VS a (a (57 + m) p) ∧ VS a (a (57 + m) (p + 1)) ∧ m < M := fun m p hn => by
      obtain ⟨⟨m0, m1⟩, p0, p1⟩ := hn
      rw [h.1.1.1] at m1
      exact ⟨(h.2.1.1 m p m0 m1 p0 (by omega)).1, (h.2.1.1 m (p + 1) m0 m1 (by omega) (by omega)).1, m1⟩
    have ce : ∀ m p v, cnd M a g (fun s => g - B s - R s) m p v ↔ cnd M a g (fun s => g - B' s - R' s) m p v := fun m p v => by
      unfold cnd
      constructor
      · rintro ⟨c1, c2, c3, c4⟩
        have q := nbV m p c1
        exact ⟨c1, (sle _ q.1).symm.trans c2, (sle _ q.2.1).symm.trans c3, c4⟩
      · rintro ⟨c1, c2, c3, c4⟩
        have q := nbV m p c1
        exact ⟨c1, (sle _ q.1).trans c2, (sle _ q.2.1).trans c3, c4⟩
    have inn : ∀ {m p v : Int} {sl : Int → Int}, cnd M a g sl m p v → m < M ∨ (m = M ∧ p < 0) := fun c => Or.inl (nbV _ _ c.1).2.2
    rcases x4 with ⟨u1, u2, u3⟩ | ⟨m, p, u1, u2, u3, u4⟩ <;> rcases y4 with ⟨v1, v2, v3⟩ | ⟨m', p', v1, v2, v3, v4⟩
    · omega
    · exact absurd ((ce _ _ _).mpr v1) (u3 _ _ _ v3)
    · exact absurd ((ce _ _ _).mp u1) (v3 _ _ _ u3)
    · have k1 := u4 m' p' w' v3 ((ce _ _ _).mpr v1)
      have k2 := v4 m p w u3 ((ce _ _ _).mp u1)
      unfold lexle at k1 k2
      omega
/-- a pair is looked at, and is no better one -/
theorem BT_skip {M : Nat} {a : Mem} {g : Int} {sl : Int → Int} {u q best least : Int} (h : BT M a g sl u q best least) (hn : ∀ v, cnd M a g sl u q v → least ≤ v) : BT M a g sl u (q + 1) best least := by
  rcases h with ⟨h1, h2, h3⟩ | ⟨m, p, h1, h2, h3, h4⟩
  · refine Or.inl ⟨h1, h2, fun m p v hb c => ?_⟩
    by_cases e : m = u ∧ p = q
    · obtain ⟨rfl, rfl⟩ := e
      have := hn v c
      have := c.2.2.2.2.2
      omega
    · exact h3 m p v (by omega) c
  · refine Or.inr ⟨m, p, h1, h2, by omega, fun m' p' v' hb c => ?_⟩
    by_cases e : m' = u ∧ p' = q
    · obtain ⟨rfl, rfl⟩ := e
      have := hn v' c
      unfold lexle
      omega
    · exact h4 m' p' v' (by omega) c
/-- a pair that is better -/
theorem BT_take {M : Nat} {a : Mem} {g : Int} {sl : Int → Int} {u q best least v : Int} (hdet : ∀ v', cnd M a g sl u q v' → v = v') (h : BT M a g sl u q best least) (c : cnd M a g sl u q v) (hv : v < least) : BT M a g sl u (q + 1) (100 * u + q) v := by
  refine Or.inr ⟨u, q, c, rfl, by omega, fun m' p' v' hb c' => ?_⟩
  by_cases e : m' = u ∧ p' = q
  · obtain ⟨rfl, rfl⟩ := e
    exact Or.inr ⟨hdet v' c', Or.inr ⟨rfl, Int.le_refl _⟩⟩
  · rcases h with ⟨h1, h2, h3⟩ | ⟨m, p, h1, h2, h3, h4⟩
    · exact absurd c' (h3 m' p' v' (by omega))
    · have := h4 m' p' v' (by omega) c'
      omega
theorem BT_row {M : Nat} {a : Mem} {g : Int} {sl : Int → Int} {u q best least : Int} (hq : a 10 u ≤ q + 1) (h : BT M a g sl u q best least) : BT M a g sl (u + 1) 0 best least := by
  have key : ∀ {m p v : Int}, cnd M a g sl m p v → (m < u + 1 ∨ (m = u + 1 ∧ p < 0)) → (m < u ∨ (m = u ∧ p < q)) := by
    intro m p v c hb
    have := c.1.2
    by_cases e : m = u
    · subst e; omega
    · omega
  rcases h with ⟨h1, h2, h3⟩ | ⟨m, p, h1, h2, h3, h4⟩
  · exact Or.inl ⟨h1, h2, fun m p v hb c => h3 m p v (key c hb) c⟩
  · exact Or.inr ⟨m, p, h1, h2, by omega, fun m' p' v' hb c => h4 m' p' v' (key c hb) c⟩
theorem BT_0 {M : Nat} {a : Mem} (h : WF M a) {g : Int} {sl : Int → Int} : BT M a g sl 0 0 (-3) g := Or.inl ⟨rfl, rfl, fun m p v hb c => by have := c.1.1.1; have := c.1.2.1; omega⟩
/-! the answers of the other calls, and the shop behind them -/
def wi (x lo hi : Int) : Prop := lo ≤ x ∧ x ≤ hi
def R_job (a : Mem) (x1 x2 x3 z : Int) (a' : Mem) : Prop := (¬ (wi x1 0 1000 ∧ wi x2 0 1000 ∧ wi x3 0 20) ∧ z = -2 ∧ a' = a) ∨ ((wi x1 0 1000 ∧ wi x2 0 1000 ∧ wi x3 0 20) ∧ 8 ≤ a 1 1 ∧ z = -4 ∧ a' = a) ∨ ((wi x1 0 1000 ∧ wi x2 0 1000 ∧ wi x3 0 20) ∧ a 1 1 < 8 ∧ z = a 1 1 ∧ a' = m_addJob x1 x2 x3 a)
def R_step (a : Mem) (x1 x2 x3 z : Int) (a' : Mem) : Prop := (¬ P_X3_hasJob x1 a ∧ z = -1 ∧ a' = a) ∨ (P_X3_hasJob x1 a ∧ ¬ (P_X3_hasMachine x2 a ∧ wi x3 0 50) ∧ z = -2 ∧ a' = a) ∨ (P_X3_hasJob x1 a ∧ (P_X3_hasMachine x2 a ∧ wi x3 0 50) ∧ 6 ≤ a 5 x1 ∧ z = -4 ∧ a' = a) ∨ (P_X3_hasJob x1 a ∧ (P_X3_hasMachine x2 a ∧ wi x3 0 50) ∧ a 5 x1 < 6 ∧ z = a 5 x1 + 1 ∧ a' = m_addStep x1 x2 x3 a)
def R_change (a : Mem) (x1 x2 x3 x4 z : Int) (a' : Mem) : Prop := (¬ (P_X3_hasMachine x1 a ∧ P_X3_hasJob x2 a ∧ P_X3_hasJob x3 a ∧ ¬ x2 = x3) ∧ z = -1 ∧ a' = a) ∨ ((P_X3_hasMachine x1 a ∧ P_X3_hasJob x2 a ∧ P_X3_hasJob x3 a ∧ ¬ x2 = x3) ∧ ¬ wi x4 0 50 ∧ z = -2 ∧ a' = a) ∨ ((P_X3_hasMachine x1 a ∧ P_X3_hasJob x2 a ∧ P_X3_hasJob x3 a ∧ ¬ x2 = x3) ∧ wi x4 0 50 ∧ z = a 11 ((x1 * 8 + x2) * 8 + x3) ∧ a' = m_X3_setChange x1 x2 x3 x4 a)
def R_put (a : Mem) (x1 x2 z : Int) (a' : Mem) : Prop := (¬ VS a x1 ∧ z = -1 ∧ a' = a) ∨ (VS a x1 ∧ ¬ wi x2 0 (a 10 (a 6 x1)) ∧ z = -2 ∧ a' = a) ∨ (VS a x1 ∧ wi x2 0 (a 10 (a 6 x1)) ∧ ¬ a 8 x1 = 0 ∧ z = -3 ∧ a' = a) ∨ (VS a x1 ∧ wi x2 0 (a 10 (a 6 x1)) ∧ a 8 x1 = 0 ∧ z = a 10 (a 6 x1) + 1 ∧ a' = m_X3_insert x1 x2 a)
def R_take (a : Mem) (x1 z : Int) (a' : Mem) : Prop := (¬ VS a x1 ∧ z = -1 ∧ a' = a) ∨ (VS a x1 ∧ a 8 x1 = 0 ∧ z = -3 ∧ a' = a) ∨ (VS a x1 ∧ ¬ a 8 x1 = 0 ∧ 0 ≤ z ∧ z < a 10 (a 6 x1) ∧ a (57 + a 6 x1) z = x1 ∧ a' = m_remove x1 z a)
def R_swap (a : Mem) (x1 x2 z : Int) (a' : Mem) : Prop := (¬ P_X3_hasNeighbours x1 x2 a ∧ z = -1 ∧ a' = a) ∨ (P_X3_hasNeighbours x1 x2 a ∧ z = 1 ∧ a' = m_X3_exchange x1 x2 a)
def R_at (a : Mem) (x1 x2 z : Int) : Prop := (¬ (P_X3_hasMachine x1 a ∧ wi x2 (-1) (a 10 x1 - 1)) ∧ z = -1) ∨ ((P_X3_hasMachine x1 a ∧ wi x2 (-1) (a 10 x1 - 1)) ∧ x2 = -1 ∧ z = a 10 x1) ∨ ((P_X3_hasMachine x1 a ∧ wi x2 (-1) (a 10 x1 - 1)) ∧ ¬ x2 = -1 ∧ z = a (57 + x1) x2)
def R_fill (a : Mem) (x1 z : Int) (a' : Mem) : Prop := (¬ wi x1 0 3 ∧ z = -2 ∧ a' = a) ∨ (wi x1 0 3 ∧ z = a 1 2 ∧ a' = fillN x1 (fill0 a) (a 1 2).toNat)
def R_part (a : Mem) (x1 x2 z : Int) : Prop := (¬ VS a x1 ∧ z = -1) ∨ (VS a x1 ∧ ¬ wi x2 0 1 ∧ z = -2) ∨ (VS a x1 ∧ x2 = 0 ∧ z = hdA a x1) ∨ (VS a x1 ∧ x2 = 1 ∧ z = tlA a x1)
def R_bound (a : Mem) (x1 z : Int) : Prop := (¬ P_X3_hasMachine x1 a ∧ z = -1) ∨ (P_X3_hasMachine x1 a ∧ 8 < cU a x1 80 ∧ z = -3) ∨ (P_X3_hasMachine x1 a ∧ cU a x1 80 ≤ 8 ∧ BND a x1 z)
theorem R_job_det {a : Mem} {x1 x2 x3 z z' : Int} {b b' : Mem} (x : R_job a x1 x2 x3 z b) (y : R_job a x1 x2 x3 z' b') : z = z' ∧ b = b' := by
  rcases x with ⟨p, q, r⟩ | ⟨p, q, r, s⟩ | ⟨p, q, r, s⟩ <;> rcases y with ⟨p', q', r'⟩ | ⟨p', q', r', s'⟩ | ⟨p', q', r', s'⟩ <;> first | exact ⟨q.trans q'.symm, r.trans r'.symm⟩ | exact ⟨r.trans r'.symm, s.trans s'.symm⟩ | exact absurd p p' | exact absurd p' p | omega
theorem R_step_det {a : Mem} {x1 x2 x3 z z' : Int} {b b' : Mem} (x : R_step a x1 x2 x3 z b) (y : R_step a x1 x2 x3 z' b') : z = z' ∧ b = b' := by
  rcases x with ⟨p, q, r⟩ | ⟨p, p2, q, r⟩ | ⟨p, p2, p3, q, r⟩ | ⟨p, p2, p3, q, r⟩ <;> rcases y with ⟨p', q', r'⟩ | ⟨p', p2', q', r'⟩ | ⟨p', p2', p3', q', r'⟩ | ⟨p', p2', p3', q', r'⟩ <;> first | exact absurd p p' | exact absurd p' p | exact absurd p2 p2' | exact absurd p2' p2 | exact ⟨q.trans q'.symm, r.trans r'.symm⟩ | omega
theorem R_change_det {a : Mem} {x1 x2 x3 x4 z z' : Int} {b b' : Mem} (x : R_change a x1 x2 x3 x4 z b) (y : R_change a x1 x2 x3 x4 z' b') : z = z' ∧ b = b' := by
  rcases x with ⟨p, q, r⟩ | ⟨p, p2, q, r⟩ | ⟨p, p2, q, r⟩ <;> rcases y with ⟨p', q', r'⟩ | ⟨p', p2', q', r'⟩ | ⟨p', p2', q', r'⟩ <;> first | exact absurd p p' | exact absurd p' p | exact absurd p2 p2' | exact absurd p2' p2 | exact ⟨q.trans q'.symm, r.trans r'.symm⟩
theorem R_put_det {a : Mem} {x1 x2 z z' : Int} {b b' : Mem} (x : R_put a x1 x2 z b) (y : R_put a x1 x2 z' b') : z = z' ∧ b = b' := by
  rcases x with ⟨p, q, r⟩ | ⟨p, p2, q, r⟩ | ⟨p, p2, p3, q, r⟩ | ⟨p, p2, p3, q, r⟩ <;> rcases y with ⟨p', q', r'⟩ | ⟨p', p2', q', r'⟩ | ⟨p', p2', p3', q', r'⟩ | ⟨p', p2', p3', q', r'⟩ <;> first | exact absurd p p' | exact absurd p' p | exact absurd p2 p2' | exact absurd p2' p2 | exact absurd p3 p3' | exact absurd p3' p3 | exact ⟨q.trans q'.symm, r.trans r'.symm⟩
theorem R_take_det {M : Nat} {a : Mem} (h : WF M a) {x1 z z' : Int} {b b' : Mem} (x : R_take a x1 z b) (y : R_take a x1 z' b') : z = z' ∧ b = b' := by
  rcases x with ⟨p, q, r⟩ | ⟨p, p2, q, r⟩ | ⟨p, p2, p3, p4, p5, r⟩ <;> rcases y with ⟨p', q', r'⟩ | ⟨p', p2', q', r'⟩ | ⟨p', p2', p3', p4', p5', r'⟩ <;> first | exact absurd p p' | exact absurd p' p | exact absurd p2 p2' | exact absurd p2' p2 | exact ⟨q.trans q'.symm, r.trans r'.symm⟩ | skip
  have hb := VS_in h.1.1 p
  have hm := (h.1.2.2.2.1 x1 hb.1 hb.2.1).1
  have e := h.2.1.2 (a 6 x1) z z' hm.1 hm.2 p3 p4 p3' p4' (p5.trans p5'.symm)
  exact ⟨e, by rw [r, r', e]⟩
theorem R_swap_det {a : Mem} {x1 x2 z z' : Int} {b b' : Mem} (x : R_swap a x1 x2 z b) (y : R_swap a x1 x2 z' b') : z = z' ∧ b = b' := by
  rcases x with ⟨p, q, r⟩ | ⟨p, q, r⟩ <;> rcases y with ⟨p', q', r'⟩ | ⟨p', q', r'⟩ <;> first | exact absurd p p' | exact absurd p' p | exact ⟨q.trans q'.symm, r.trans r'.symm⟩
theorem R_at_det {a : Mem} {x1 x2 z z' : Int} (x : R_at a x1 x2 z) (y : R_at a x1 x2 z') : z = z' := by
  rcases x with ⟨p, q⟩ | ⟨p, p2, q⟩ | ⟨p, p2, q⟩ <;> rcases y with ⟨p', q'⟩ | ⟨p', p2', q'⟩ | ⟨p', p2', q'⟩ <;> first | exact absurd p p' | exact absurd p' p | exact absurd p2 p2' | exact absurd p2' p2 | exact q.trans q'.symm
theorem R_fill_det {a : Mem} {x1 z z' : Int} {b b' : Mem} (x : R_fill a x1 z b) (y : R_fill a x1 z' b') : z = z' ∧ b = b' := by
  rcases x with ⟨p, q, r⟩ | ⟨p, q, r⟩ <;> rcases y with ⟨p', q', r'⟩ | ⟨p', q', r'⟩ <;> first | exact absurd p p' | exact absurd p' p | exact ⟨q.trans q'.symm, r.trans r'.symm⟩
theorem R_part_det {a : Mem} {x1 x2 z z' : Int} (x : R_part a x1 x2 z) (y : R_part a x1 x2 z') : z = z' := by
  unfold R_part wi at x y
  rcases x with ⟨p, q⟩ | ⟨p, p2, q⟩ | ⟨p, p2, q⟩ | ⟨p, p2, q⟩ <;> rcases y with ⟨p', q'⟩ | ⟨p', p2', q'⟩ | ⟨p', p2', q'⟩ | ⟨p', p2', q'⟩ <;> first | exact absurd p p' | exact absurd p' p | exact q.trans q'.symm | omega
theorem R_bound_det {a : Mem} {x1 z z' : Int} (x : R_bound a x1 z) (y : R_bound a x1 z') : z = z' := by
  rcases x with ⟨p, q⟩ | ⟨p, p2, q⟩ | ⟨p, p2, q⟩ <;> rcases y with ⟨p', q'⟩ | ⟨p', p2', q'⟩ | ⟨p', p2', q'⟩ <;> first | exact absurd p p' | exact absurd p' p | exact BND_uniq q q' | exact q.trans q'.symm | omega
