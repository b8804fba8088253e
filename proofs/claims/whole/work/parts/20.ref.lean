/-! the reference: its cells stand for a shop -/
def tl (k : Int) : Int := 10 * (k / 6) + k % 6
def pl (s : Int) : Int := 6 * (s / 10) + s % 10
/-- the shop that is meant: cells that no code knows -/
def gh (σ : Mem) : Mem := fun c => σ (-1000 - (c.natAbs : Int))
def RM (M : Nat) (a σ : Mem) : Prop := σ 37 1 = M ∧ σ 37 2 = a 1 1
  ∧ (∀ j : Int, 0 ≤ j → j < 8 → σ 38 j = a 2 j ∧ σ 39 j = a 3 j ∧ σ 40 j = a 4 j ∧ σ 41 j = a 5 j)
  ∧ (∀ k : Int, 0 ≤ k → k < 48 → σ 42 k = a 6 (tl k) ∧ σ 43 k = a 7 (tl k) ∧ σ 44 k = a 8 (tl k))
  ∧ (∀ i : Int, 0 ≤ i → i < 64 * M → σ 45 i = a 11 i)
  ∧ (∀ m : Int, 0 ≤ m → m < M → σ 46 m = a 10 m)
  ∧ (∀ m i : Int, inO M a m i → σ 47 (48 * m + i) = pl (a (57 + m) i))
/-- the class's cells, out, and what is meant stay -/
def FM (σ σ' : Mem) : Prop := ∀ c : Int, c < 37 ∨ 56 ≤ c → σ' c = σ c
/-- only the reference's own scratch changes -/
def RFr (σ σ' : Mem) : Prop := (∀ c : Int, c < 37 ∨ (37 < c ∧ c < 48) ∨ 56 ≤ c → σ' c = σ c) ∧ ∀ i : Int, i ≠ 0 → i ≠ 15 → i ≠ 16 → i ≠ 21 → σ' 37 i = σ 37 i
theorem FM.gh {σ σ' : Mem} (h : FM σ σ') {c : Int} (hc : -1000 < c) : gh σ' c = gh σ c := h _ (by omega)
theorem FM.trans {a b c : Mem} (h : FM a b) (g : FM b c) : FM a c := fun d hd => (g d hd).trans (h d hd)
theorem FM.refl (σ : Mem) : FM σ σ := fun _ _ => rfl
theorem RFr.FM {σ σ' : Mem} (h : RFr σ σ') : FM σ σ' := fun c hc => h.1 c (by omega)
theorem RFr.trans {a b c : Mem} (h : RFr a b) (g : RFr b c) : RFr a c := ⟨fun d hd => (g.1 d hd).trans (h.1 d hd), fun i h0 h1 h2 h3 => (g.2 i h0 h1 h2 h3).trans (h.2 i h0 h1 h2 h3)⟩
theorem RFr.refl (σ : Mem) : RFr σ σ := ⟨fun _ _ => rfl, fun _ _ _ _ _ => rfl⟩
theorem gh_eq {σ σ' : Mem} (h : FM σ σ') : gh σ' = gh σ := funext fun c => h _ (by omega)
theorem gh_up (σ : Mem) {c : Int} (i v : Int) (hc : 0 ≤ c) {d : Int} (hd : -1000 < d) : gh (up σ c i v) d = gh σ d := by
  unfold gh
  rw [up_other _ _ _ (by omega)]
theorem tl_pl {s : Int} (h0 : 0 ≤ s) (h1 : s % 10 < 6) : tl (pl s) = s := by unfold tl pl; omega
theorem pl_tl {k : Int} (h0 : 0 ≤ k) : pl (tl k) = k := by unfold tl pl; omega
theorem pl_in {M : Nat} {a : Mem} (hB : SB M a) {s : Int} (hs : VS a s) : 0 ≤ pl s ∧ pl s < 48 ∧ tl (pl s) = s ∧ pl s / 6 = s / 10 ∧ pl s % 6 = s % 10 := by
  have hb := VS_in hB hs
  unfold tl pl
  omega
theorem pl_inj {M : Nat} {a : Mem} (hB : SB M a) {s s' : Int} (hs : VS a s) (hs' : VS a s') (e : pl s = pl s') : s = s' := by
  have x := (pl_in hB hs).2.2.1
  have y := (pl_in hB hs').2.2.1
  rw [← x, ← y, e]
theorem RM_fr {M : Nat} {a σ σ' : Mem} (h : RFr σ σ') (r : RM M a σ) : RM M a σ' := by
  obtain ⟨h1, h2⟩ := h
  unfold RM at *
  rw [h2 1 (by omega) (by omega) (by omega) (by omega), h2 2 (by omega) (by omega) (by omega) (by omega), h1 38 (by omega), h1 39 (by omega), h1 40 (by omega), h1 41 (by omega), h1 42 (by omega), h1 43 (by omega), h1 44 (by omega), h1 45 (by omega), h1 46 (by omega), h1 47 (by omega)]
  exact r
theorem RM_SE {M : Nat} {a b σ : Mem} (h : SE a b) (r : RM M a σ) : RM M b σ := by
  obtain ⟨r1, r2, r3, r4, r5, r6, r7⟩ := r
  refine ⟨r1, by rw [r2, h 1 (by omega)], fun j j0 j1 => ?_, fun k k0 k1 => ?_, fun i i0 i1 => ?_, fun m m0 m1 => ?_, fun m i hi => ?_⟩
  · rw [← h 2 (by omega), ← h 3 (by omega), ← h 4 (by omega), ← h 5 (by omega)]; exact r3 j j0 j1
  · rw [← h 6 (by omega), ← h 7 (by omega), ← h 8 (by omega)]; exact r4 k k0 k1
  · rw [← h 11 (by omega)]; exact r5 i i0 i1
  · rw [← h 10 (by omega)]; exact r6 m m0 m1
  · rw [← SE_row h hi.1]; exact r7 m i ((SE_inO h m i).mpr hi)
/-- what the reference's indices and ranges need -/
def NB (M : Nat) (σ : Mem) : Prop := (σ 37 1 = M ∧ 1 ≤ M ∧ M ≤ 5) ∧ (0 ≤ σ 37 2 ∧ σ 37 2 ≤ 8) ∧ (∀ j : Int, 0 ≤ j → j < 8 → 0 ≤ σ 41 j ∧ σ 41 j ≤ 6) ∧ (∀ m : Int, 0 ≤ m → m < M → 0 ≤ σ 46 m ∧ σ 46 m ≤ 48) ∧ (∀ k : Int, 0 ≤ k → k < 48 → (0 ≤ σ 42 k ∧ σ 42 k < M) ∧ (0 ≤ σ 43 k ∧ σ 43 k ≤ 50) ∧ (σ 44 k = 0 ∨ σ 44 k = 1)) ∧ (∀ m i : Int, 0 ≤ m → m < M → 0 ≤ i → i < σ 46 m → 0 ≤ σ 47 (48 * m + i) ∧ σ 47 (48 * m + i) < 48)
theorem RM_NB {M : Nat} {a σ : Mem} (h : WF M a) (r : RM M a σ) : NB M σ := by
  obtain ⟨r1, r2, r3, r4, r5, r6, r7⟩ := r
  obtain ⟨hN, hO, hP⟩ := h
  have hB := hN.1
  refine ⟨⟨r1, hB.2.1, hB.2.2.1⟩, by rw [r2]; exact hB.2.2.2.1, fun j j0 j1 => by rw [(r3 j j0 j1).2.2.2]; exact hB.2.2.2.2.1 j j0 j1, fun m m0 m1 => by rw [r6 m m0 m1]; exact hB.2.2.2.2.2 m m0 m1, fun k k0 k1 => ?_, fun m i m0 m1 i0 i1 => ?_⟩
  · obtain ⟨q1, q2, q3⟩ := r4 k k0 k1
    have t : 0 ≤ tl k ∧ tl k < 80 := by unfold tl; omega
    have n4 := hN.2.2.2.1 (tl k) t.1 t.2
    rw [q1, q2, q3]
    refine ⟨n4.1, n4.2, ?_⟩
    rcases hP.1 (tl k) t.1 t.2 with e | ⟨e, -⟩
    · exact Or.inl e
    · exact Or.inr e
  · rw [r6 m m0 m1] at i1
    rw [r7 m i ⟨m0, m1, i0, i1⟩]
    have := pl_in hB (hO.1 m i m0 m1 i0 i1).1
    exact ⟨this.1, this.2.1⟩
/-- the reference stands for the shop that is meant -/
def RP (M : Nat) (σ : Mem) : Prop := WF M (gh σ) ∧ RM M (gh σ) σ
theorem gh_SE {σ σ' : Mem} (h : FM σ σ') : SE (gh σ) (gh σ') := fun c hc => (h.gh (by omega)).symm
theorem RP_fr {M : Nat} {σ σ' : Mem} (h : RFr σ σ') (r : RP M σ) : RP M σ' := ⟨SE_WF (gh_SE h.FM) r.1, RM_SE (gh_SE h.FM) (RM_fr h r.2)⟩
theorem thr_fr (σ : Mem) (v : Int) : RFr σ (up σ 37 0 v) := ⟨fun c hc => up_other _ _ _ (by omega), fun i h0 _ _ _ => up_ne _ _ (Or.inr h0)⟩
theorem RM_thr {M : Nat} {a σ : Mem} (r : RM M a σ) (v : Int) : RM M a (up σ 37 0 v) := RM_fr (thr_fr σ v) r
theorem VS_r {M : Nat} {a σ : Mem} (h : WF M a) (r : RM M a σ) (s : Int) : VS a s ↔ (0 ≤ s ∧ s / 10 ≤ σ 37 2 - 1 ∧ s % 10 < σ 41 (s / 10)) := by
  unfold VS
  rw [r.2.1]
  constructor
  · rintro ⟨p, q, x⟩
    have hj := h.1.1.2.2.2.1.2
    exact ⟨p, by omega, by rw [(r.2.2.1 (s / 10) (by omega) (by omega)).2.2.2]; exact x⟩
  · rintro ⟨p, q, x⟩
    have hj := h.1.1.2.2.2.1.2
    exact ⟨p, by omega, by rw [← (r.2.2.1 (s / 10) (by omega) (by omega)).2.2.2]; exact x⟩
theorem at_pl {M : Nat} {a σ : Mem} (h : WF M a) (r : RM M a σ) {s : Int} (hs : VS a s) : σ 42 (pl s) = a 6 s ∧ σ 43 (pl s) = a 7 s ∧ σ 44 (pl s) = a 8 s := by
  have hp := pl_in h.1.1 hs
  have := r.2.2.2.1 (pl s) hp.1 hp.2.1
  rw [hp.2.2.1] at this
  exact this

/-! X5_thrown -/
def f_X5_thrown (σ : Mem) : Int := σ 37 0
def pre_X5_thrown (M : Nat) (σ : Mem) : Prop := True
def VC_X5_thrown_0 (M : Nat) (post : Int → Mem → Prop)  (σ : Mem) : Prop :=
  post (σ 37 0) σ
set_option maxRecDepth 20000 in
set_option maxHeartbeats 4000000 in
theorem seg_X5_thrown_0 {G : GG} {X : XX} {post : Int → Mem → Prop} (C : CX G X cX5_thrown RX5 1 (some .int) 0)    (σ : Mem) (vc : VC_X5_thrown_0 (gM G)  post   σ) : RW G X 1 (QI G X post) 0 [(0, pR 37)] [] σ := by
  unfold VC_X5_thrown_0 at vc
  refine w_aload_n C 0 dX5_thrown_0 rfl ?_
  refine w_getI C 0 dX5_thrown_1 gf_X5_69 ob_37 rfl rfl ?_
  exact w_ireturn C dX5_thrown_4 vc
set_option maxHeartbeats 1000000 in
theorem ok_X5_thrown_0 {M : Nat} {σ : Mem} (h : pre_X5_thrown M σ) : VC_X5_thrown_0 M (fun z σ' => z = f_X5_thrown σ ∧ σ' = σ) σ := by
  exact ⟨rfl, rfl⟩
theorem c_X5_thrown {G : GG} (hG : GI G) (l : Launch) (σ : Mem) (h : pre_X5_thrown (gM G) σ) : CtI G l yX5_thrown cX5_thrown 1 (some .int) 0 [pR 37] σ (fun z σ' => z = f_X5_thrown σ ∧ σ' = σ) := by
  refine CtI.of hG (by decide) (Nat.le_of_ble_eq_true rfl) (fun X hl C => ?_)
  show RW G X 1 (QI G X _) 0 [(0, pR 37)] [] σ
  exact seg_X5_thrown_0 C σ (ok_X5_thrown_0 h)

/-! X5_in -/
def P_X5_in (x0 x1 x2 : Int) (σ : Mem) : Prop := x1 ≤ x0 ∧ x0 ≤ x2
def pre_X5_in (M : Nat) (x0 x1 x2 : Int) (σ : Mem) : Prop := inR x0 ∧ inR x1 ∧ inR x2
def VC_X5_in_0 (M : Nat) (post : Int → Mem → Prop) (x0 : Int) (x1 : Int) (x2 : Int) (σ : Mem) : Prop :=
 (inR x0 ∧ inR x1) ∧ ((x0 < x1 → post 0 σ) ∧ (x1 ≤ x0 → (inR x0 ∧ inR x2) ∧ ((x2 < x0 → post 0 σ) ∧ (x0 ≤ x2 → post 1 σ))))
set_option maxRecDepth 20000 in
set_option maxHeartbeats 4000000 in
theorem seg_X5_in_0 {G : GG} {X : XX} {post : Int → Mem → Prop} (C : CX G X cX5_in RX5 3 (some .boolean) 0)   (x0 : Int) (x1 : Int) (x2 : Int) (σ : Mem) (vc : VC_X5_in_0 (gM G)  post  x0 x1 x2 σ) : RW G X 3 (QI G X post) 0 [(0, pI x0), (1, pI x1), (2, pI x2)] [] σ := by
  unfold VC_X5_in_0 at vc
  refine w_iload_n C 0 dX5_in_0 rfl ?_
  refine w_iload_n C 1 dX5_in_1 rfl ?_
  obtain ⟨⟨sc1, sc2⟩, vc⟩ := vc
  refine w_icmp_lt C 14 dX5_in_2 (by decide) sc1 sc2 (fun h3 => ?_) (fun h3 => ?_)
  · have vc := vc.1 h3
    refine w_iconst C dX5_in_14 ?_
    exact w_zreturn C dX5_in_15 (Or.inl rfl) vc
  · have vc := vc.2 h3
    refine w_iload_n C 0 dX5_in_5 rfl ?_
    refine w_iload_n C 2 dX5_in_6 rfl ?_
    obtain ⟨⟨sc4, sc5⟩, vc⟩ := vc
    refine w_icmp_gt C 14 dX5_in_7 (by decide) sc4 sc5 (fun h6 => ?_) (fun h6 => ?_)
    · have vc := vc.1 h6
      refine w_iconst C dX5_in_14 ?_
      exact w_zreturn C dX5_in_15 (Or.inl rfl) vc
    · have vc := vc.2 h6
      refine w_iconst C dX5_in_10 ?_
      refine w_goto C 15 dX5_in_11 (by decide) ?_
      exact w_zreturn C dX5_in_15 (Or.inr rfl) vc
set_option maxHeartbeats 1000000 in
theorem ok_X5_in_0 {M : Nat} {x0 : Int} {x1 : Int} {x2 : Int} {σ : Mem} (h : pre_X5_in M x0 x1 x2 σ) : VC_X5_in_0 M (fun z σ' => σ' = σ ∧ (P_X5_in x0 x1 x2 σ ∧ z = 1 ∨ ¬ P_X5_in x0 x1 x2 σ ∧ z = 0)) x0 x1 x2 σ := by
  obtain ⟨a, b, c⟩ := h
  exact ⟨⟨a, b⟩, fun g => ⟨rfl, Or.inr ⟨fun z => by have := z.1; omega, rfl⟩⟩, fun g => ⟨⟨a, c⟩, fun g2 => ⟨rfl, Or.inr ⟨fun z => by have := z.2; omega, rfl⟩⟩, fun g2 => ⟨rfl, Or.inl ⟨⟨g, g2⟩, rfl⟩⟩⟩⟩
theorem c_X5_in {G : GG} (hG : GI G) (l : Launch) (x0 : Int) (x1 : Int) (x2 : Int) (σ : Mem) (h : pre_X5_in (gM G) x0 x1 x2 σ) : CtI G l yX5_in cX5_in 3 (some .boolean) 0 [pI x0, pI x1, pI x2] σ (fun z σ' => σ' = σ ∧ (P_X5_in x0 x1 x2 σ ∧ z = 1 ∨ ¬ P_X5_in x0 x1 x2 σ ∧ z = 0)) := by
  refine CtI.of hG (by decide) (Nat.le_of_ble_eq_true rfl) (fun X hl C => ?_)
  show RW G X 3 (QI G X _) 0 [(0, pI x0), (1, pI x1), (2, pI x2)] [] σ
  exact seg_X5_in_0 C x0 x1 x2 σ (ok_X5_in_0 h)

/-! X5_isJob -/
def P_X5_isJob (x1 : Int) (σ : Mem) : Prop := 0 ≤ x1 ∧ x1 ≤ σ 37 2 - 1
def pre_X5_isJob (M : Nat) (x1 : Int) (σ : Mem) : Prop := NB M σ ∧ inR x1
def VC_X5_isJob_0 (M : Nat) (post : Int → Mem → Prop) (x1 : Int) (σ : Mem) : Prop :=
 (pre_X5_in M x1 0 ((σ 37 2) - 1) σ) ∧ ((P_X5_in x1 0 ((σ 37 2) - 1) σ → post 1 σ) ∧ (¬ P_X5_in x1 0 ((σ 37 2) - 1) σ → post 0 σ))
set_option maxRecDepth 20000 in
set_option maxHeartbeats 4000000 in
theorem seg_X5_isJob_0 {G : GG} {X : XX} {post : Int → Mem → Prop} (C : CX G X cX5_isJob RX5 2 (some .boolean) 1)   (x1 : Int) (σ : Mem) (vc : VC_X5_isJob_0 (gM G)  post  x1 σ) : RW G X 2 (QI G X post) 0 [(0, pR 37), (1, pI x1)] [] σ := by
  unfold VC_X5_isJob_0 at vc
  refine w_iload_n C 1 dX5_isJob_0 rfl ?_
  refine w_iconst C dX5_isJob_1 ?_
  refine w_aload_n C 0 dX5_isJob_2 rfl ?_
  refine w_getI C 2 dX5_isJob_3 gf_X5_72 ob_37 rfl rfl ?_
  refine w_iconst C dX5_isJob_6 ?_
  refine w_isub C dX5_isJob_7 ?_
  obtain ⟨sc1, vc⟩ := vc
  refine w_callSI C [pI x1, pI 0, pI ((σ 37 2) - 1)] [] rfl dX5_isJob_8 (c_X5_in C.gi (xL X) x1 0 ((σ 37 2) - 1) σ sc1) mw_X5_in ml_X5_75 ss_X5_in (by decide) (Nat.le_of_ble_eq_true rfl) (fun z σ' hz => ?_)
  obtain ⟨hz2, hz⟩ := hz
  have hz2 := hz2.symm
  subst hz2
  rcases hz with ⟨h2, rfl⟩ | ⟨h2, rfl⟩
  · have vc := vc.1 h2
    exact w_zreturn C dX5_isJob_11 (Or.inr rfl) vc
  · have vc := vc.2 h2
    exact w_zreturn C dX5_isJob_11 (Or.inl rfl) vc
set_option maxHeartbeats 1000000 in
theorem ok_X5_isJob_0 {M : Nat} {x1 : Int} {σ : Mem} (h : pre_X5_isJob M x1 σ) : VC_X5_isJob_0 M (fun z σ' => σ' = σ ∧ (P_X5_isJob x1 σ ∧ z = 1 ∨ ¬ P_X5_isJob x1 σ ∧ z = 0)) x1 σ := by
  obtain ⟨hn, r⟩ := h
  have := hn.2.1
  exact ⟨⟨r, ⟨by omega, by omega⟩, ⟨by omega, by omega⟩⟩, fun g => ⟨rfl, Or.inl ⟨g, rfl⟩⟩, fun g => ⟨rfl, Or.inr ⟨g, rfl⟩⟩⟩
theorem c_X5_isJob {G : GG} (hG : GI G) (l : Launch) (x1 : Int) (σ : Mem) (h : pre_X5_isJob (gM G) x1 σ) : CtI G l yX5_isJob cX5_isJob 2 (some .boolean) 1 [pR 37, pI x1] σ (fun z σ' => σ' = σ ∧ (P_X5_isJob x1 σ ∧ z = 1 ∨ ¬ P_X5_isJob x1 σ ∧ z = 0)) := by
  refine CtI.of hG (by decide) (Nat.le_of_ble_eq_true rfl) (fun X hl C => ?_)
  show RW G X 2 (QI G X _) 0 [(0, pR 37), (1, pI x1)] [] σ
  exact seg_X5_isJob_0 C x1 σ (ok_X5_isJob_0 h)

/-! X5_isMachine -/
def P_X5_isMachine (x1 : Int) (σ : Mem) : Prop := 0 ≤ x1 ∧ x1 ≤ σ 37 1 - 1
def pre_X5_isMachine (M : Nat) (x1 : Int) (σ : Mem) : Prop := NB M σ ∧ inR x1
def VC_X5_isMachine_0 (M : Nat) (post : Int → Mem → Prop) (x1 : Int) (σ : Mem) : Prop :=
 (pre_X5_in M x1 0 ((σ 37 1) - 1) σ) ∧ ((P_X5_in x1 0 ((σ 37 1) - 1) σ → post 1 σ) ∧ (¬ P_X5_in x1 0 ((σ 37 1) - 1) σ → post 0 σ))
set_option maxRecDepth 20000 in
set_option maxHeartbeats 4000000 in
theorem seg_X5_isMachine_0 {G : GG} {X : XX} {post : Int → Mem → Prop} (C : CX G X cX5_isMachine RX5 2 (some .boolean) 1)   (x1 : Int) (σ : Mem) (vc : VC_X5_isMachine_0 (gM G)  post  x1 σ) : RW G X 2 (QI G X post) 0 [(0, pR 37), (1, pI x1)] [] σ := by
  unfold VC_X5_isMachine_0 at vc
  refine w_iload_n C 1 dX5_isMachine_0 rfl ?_
  refine w_iconst C dX5_isMachine_1 ?_
  refine w_aload_n C 0 dX5_isMachine_2 rfl ?_
  refine w_getI C 1 dX5_isMachine_3 gf_X5_65 ob_37 rfl rfl ?_
  refine w_iconst C dX5_isMachine_6 ?_
  refine w_isub C dX5_isMachine_7 ?_
  obtain ⟨sc1, vc⟩ := vc
  refine w_callSI C [pI x1, pI 0, pI ((σ 37 1) - 1)] [] rfl dX5_isMachine_8 (c_X5_in C.gi (xL X) x1 0 ((σ 37 1) - 1) σ sc1) mw_X5_in ml_X5_75 ss_X5_in (by decide) (Nat.le_of_ble_eq_true rfl) (fun z σ' hz => ?_)
  obtain ⟨hz2, hz⟩ := hz
  have hz2 := hz2.symm
  subst hz2
  rcases hz with ⟨h2, rfl⟩ | ⟨h2, rfl⟩
  · have vc := vc.1 h2
    exact w_zreturn C dX5_isMachine_11 (Or.inr rfl) vc
  · have vc := vc.2 h2
    exact w_zreturn C dX5_isMachine_11 (Or.inl rfl) vc
set_option maxHeartbeats 1000000 in
theorem ok_X5_isMachine_0 {M : Nat} {x1 : Int} {σ : Mem} (h : pre_X5_isMachine M x1 σ) : VC_X5_isMachine_0 M (fun z σ' => σ' = σ ∧ (P_X5_isMachine x1 σ ∧ z = 1 ∨ ¬ P_X5_isMachine x1 σ ∧ z = 0)) x1 σ := by
  obtain ⟨hn, r⟩ := h
  have := hn.1
  exact ⟨⟨r, ⟨by omega, by omega⟩, ⟨by omega, by omega⟩⟩, fun g => ⟨rfl, Or.inl ⟨g, rfl⟩⟩, fun g => ⟨rfl, Or.inr ⟨g, rfl⟩⟩⟩
theorem c_X5_isMachine {G : GG} (hG : GI G) (l : Launch) (x1 : Int) (σ : Mem) (h : pre_X5_isMachine (gM G) x1 σ) : CtI G l yX5_isMachine cX5_isMachine 2 (some .boolean) 1 [pR 37, pI x1] σ (fun z σ' => σ' = σ ∧ (P_X5_isMachine x1 σ ∧ z = 1 ∨ ¬ P_X5_isMachine x1 σ ∧ z = 0)) := by
  refine CtI.of hG (by decide) (Nat.le_of_ble_eq_true rfl) (fun X hl C => ?_)
  show RW G X 2 (QI G X _) 0 [(0, pR 37), (1, pI x1)] [] σ
  exact seg_X5_isMachine_0 C x1 σ (ok_X5_isMachine_0 h)

/-! X5_isStep -/
def P_X5_isStep (x1 : Int) (σ : Mem) : Prop := 0 ≤ x1 ∧ x1 / 10 ≤ σ 37 2 - 1 ∧ x1 % 10 < σ 41 (x1 / 10)
def pre_X5_isStep (M : Nat) (x1 : Int) (σ : Mem) : Prop := NB M σ ∧ inR x1
def VC_X5_isStep_0 (M : Nat) (post : Int → Mem → Prop) (x1 : Int) (σ : Mem) : Prop :=
 (inR x1) ∧ ((x1 < 0 → post 0 σ) ∧ (0 ≤ x1 → (0 ≤ x1 ∧ inR x1) ∧ (pre_X5_isJob M (x1 / 10) σ) ∧ ((P_X5_isJob (x1 / 10) σ → (0 ≤ x1 ∧ inR x1) ∧ (0 ≤ x1 ∧ inR x1) ∧ (0 ≤ (x1 / 10) ∧ (x1 / 10) < 8) ∧ (inR (x1 % 10) ∧ inR (σ 41 (x1 / 10))) ∧ (((σ 41 (x1 / 10)) ≤ (x1 % 10) → post 0 σ) ∧ ((x1 % 10) < (σ 41 (x1 / 10)) → post 1 σ))) ∧ (¬ P_X5_isJob (x1 / 10) σ → post 0 σ))))
set_option maxRecDepth 20000 in
set_option maxHeartbeats 4000000 in
theorem seg_X5_isStep_0 {G : GG} {X : XX} {post : Int → Mem → Prop} (C : CX G X cX5_isStep RX5 2 (some .boolean) 2)   (x1 : Int) (σ : Mem) (vc : VC_X5_isStep_0 (gM G)  post  x1 σ) : RW G X 2 (QI G X post) 0 [(0, pR 37), (1, pI x1)] [] σ := by
  unfold VC_X5_isStep_0 at vc
  refine w_iload_n C 1 dX5_isStep_0 rfl ?_
  obtain ⟨sc1, vc⟩ := vc
  refine w_if_lt C 35 dX5_isStep_1 (by decide) sc1 (fun h2 => ?_) (fun h2 => ?_)
  · have vc := vc.1 h2
    refine w_iconst C dX5_isStep_35 ?_
    exact w_zreturn C dX5_isStep_36 (Or.inl rfl) vc
  · have vc := vc.2 h2
    refine w_aload_n C 0 dX5_isStep_4 rfl ?_
    refine w_iload_n C 1 dX5_isStep_5 rfl ?_
    refine w_bipush C dX5_isStep_6 (by decide) ?_
    obtain ⟨⟨sc3, sc4⟩, vc⟩ := vc
    refine w_idivN C dX5_isStep_8 sc3 sc4 ⟨by omega, by omega⟩ (by omega) ?_
    obtain ⟨sc5, vc⟩ := vc
    refine w_callVI C [pI (x1 / 10)] [] rfl dX5_isStep_9 (c_X5_isJob C.gi (xL X) (x1 / 10) σ sc5) oc_37 mw_X5_isJob ml_X5_79 im_X5_isJob se_X5_isJob (by decide) (Nat.le_of_ble_eq_true rfl) (fun z σ' hz => ?_)
    obtain ⟨hz2, hz⟩ := hz
    have hz2 := hz2.symm
    subst hz2
    rcases hz with ⟨h6, rfl⟩ | ⟨h6, rfl⟩
    · have vc := vc.1 h6
      refine w_if_eq C 35 dX5_isStep_12 (by decide) ⟨by omega, by omega⟩ (fun q => absurd q (by decide)) (fun _ => ?_)
      refine w_iload_n C 1 dX5_isStep_15 rfl ?_
      refine w_bipush C dX5_isStep_16 (by decide) ?_
      obtain ⟨⟨sc7, sc8⟩, vc⟩ := vc
      refine w_iremN C dX5_isStep_18 sc7 sc8 ⟨by omega, by omega⟩ (by omega) ?_
      refine w_aload_n C 0 dX5_isStep_19 rfl ?_
      refine w_getR C dX5_isStep_20 gf_X5_19 ob_37 rfl ?_
      refine w_iload_n C 1 dX5_isStep_23 rfl ?_
      refine w_bipush C dX5_isStep_24 (by decide) ?_
      obtain ⟨⟨sc9, sc10⟩, vc⟩ := vc
      refine w_idivN C dX5_isStep_26 sc9 sc10 ⟨by omega, by omega⟩ (by omega) ?_
      obtain ⟨⟨sc11, sc12⟩, vc⟩ := vc
      refine w_iald C dX5_isStep_27 ia_41 sc11 sc12 ?_
      obtain ⟨⟨sc13, sc14⟩, vc⟩ := vc
      refine w_icmp_ge C 35 dX5_isStep_28 (by decide) sc13 sc14 (fun h15 => ?_) (fun h15 => ?_)
      · have vc := vc.1 h15
        refine w_iconst C dX5_isStep_35 ?_
        exact w_zreturn C dX5_isStep_36 (Or.inl rfl) vc
      · have vc := vc.2 h15
        refine w_iconst C dX5_isStep_31 ?_
        refine w_goto C 36 dX5_isStep_32 (by decide) ?_
        exact w_zreturn C dX5_isStep_36 (Or.inr rfl) vc
    · have vc := vc.2 h6
      refine w_if_eq C 35 dX5_isStep_12 (by decide) ⟨by omega, by omega⟩ (fun _ => ?_) (fun q => absurd q (by decide))
      refine w_iconst C dX5_isStep_35 ?_
      exact w_zreturn C dX5_isStep_36 (Or.inl rfl) vc
set_option maxHeartbeats 1000000 in
theorem ok_X5_isStep_0 {M : Nat} {x1 : Int} {σ : Mem} (h : pre_X5_isStep M x1 σ) : VC_X5_isStep_0 M (fun z σ' => σ' = σ ∧ (P_X5_isStep x1 σ ∧ z = 1 ∨ ¬ P_X5_isStep x1 σ ∧ z = 0)) x1 σ := by
  obtain ⟨hn, r⟩ := h
  have r' := r
  unfold inR at r'
  have hj := hn.2.1
  refine ⟨r, fun g => ⟨rfl, Or.inr ⟨fun z => by have := z.1; omega, rfl⟩⟩, fun g => ⟨⟨g, r⟩, ⟨hn, by omega, by omega⟩, fun g2 => ?_, fun g2 => ⟨rfl, Or.inr ⟨fun z => g2 ⟨by omega, z.2.1⟩, rfl⟩⟩⟩⟩
  have g3 : x1 / 10 ≤ σ 37 2 - 1 := g2.2
  have := hn.2.2.1 (x1 / 10) (by omega) (by omega)
  exact ⟨⟨g, r⟩, ⟨g, r⟩, ⟨by omega, by omega⟩, ⟨⟨by omega, by omega⟩, ⟨by omega, by omega⟩⟩, fun g4 => ⟨rfl, Or.inr ⟨fun z => by have := z.2.2; omega, rfl⟩⟩, fun g4 => ⟨rfl, Or.inl ⟨⟨g, g3, g4⟩, rfl⟩⟩⟩
theorem c_X5_isStep {G : GG} (hG : GI G) (l : Launch) (x1 : Int) (σ : Mem) (h : pre_X5_isStep (gM G) x1 σ) : CtI G l yX5_isStep cX5_isStep 2 (some .boolean) 2 [pR 37, pI x1] σ (fun z σ' => σ' = σ ∧ (P_X5_isStep x1 σ ∧ z = 1 ∨ ¬ P_X5_isStep x1 σ ∧ z = 0)) := by
  refine CtI.of hG (by decide) (Nat.le_of_ble_eq_true rfl) (fun X hl C => ?_)
  show RW G X 2 (QI G X _) 0 [(0, pR 37), (1, pI x1)] [] σ
  exact seg_X5_isStep_0 C x1 σ (ok_X5_isStep_0 h)

/-! X5_placeOf -/
def f_X5_placeOf (x0 : Int) (σ : Mem) : Int := pl x0
def pre_X5_placeOf (M : Nat) (x0 : Int) (σ : Mem) : Prop := 0 ≤ x0 ∧ inR x0
def VC_X5_placeOf_0 (M : Nat) (post : Int → Mem → Prop) (x0 : Int) (σ : Mem) : Prop :=
 (0 ≤ x0 ∧ inR x0) ∧ (0 ≤ x0 ∧ inR x0) ∧ post ((6 * (x0 / 10)) + (x0 % 10)) σ
set_option maxRecDepth 20000 in
set_option maxHeartbeats 4000000 in
theorem seg_X5_placeOf_0 {G : GG} {X : XX} {post : Int → Mem → Prop} (C : CX G X cX5_placeOf RX5 1 (some .int) 0)   (x0 : Int) (σ : Mem) (vc : VC_X5_placeOf_0 (gM G)  post  x0 σ) : RW G X 1 (QI G X post) 0 [(0, pI x0)] [] σ := by
  unfold VC_X5_placeOf_0 at vc
  refine w_bipush C dX5_placeOf_0 (by decide) ?_
  refine w_iload_n C 0 dX5_placeOf_2 rfl ?_
  refine w_bipush C dX5_placeOf_3 (by decide) ?_
  obtain ⟨⟨sc1, sc2⟩, vc⟩ := vc
  refine w_idivN C dX5_placeOf_5 sc1 sc2 ⟨by omega, by omega⟩ (by omega) ?_
  refine w_imul C dX5_placeOf_6 ?_
  refine w_iload_n C 0 dX5_placeOf_7 rfl ?_
  refine w_bipush C dX5_placeOf_8 (by decide) ?_
  obtain ⟨⟨sc3, sc4⟩, vc⟩ := vc
  refine w_iremN C dX5_placeOf_10 sc3 sc4 ⟨by omega, by omega⟩ (by omega) ?_
  refine w_iadd C dX5_placeOf_11 ?_
  exact w_ireturn C dX5_placeOf_12 vc
set_option maxHeartbeats 1000000 in
theorem ok_X5_placeOf_0 {M : Nat} {x0 : Int} {σ : Mem} (h : pre_X5_placeOf M x0 σ) : VC_X5_placeOf_0 M (fun z σ' => z = f_X5_placeOf x0 σ ∧ σ' = σ) x0 σ := by
  exact ⟨h, h, rfl, rfl⟩
theorem c_X5_placeOf {G : GG} (hG : GI G) (l : Launch) (x0 : Int) (σ : Mem) (h : pre_X5_placeOf (gM G) x0 σ) : CtI G l yX5_placeOf cX5_placeOf 1 (some .int) 0 [pI x0] σ (fun z σ' => z = f_X5_placeOf x0 σ ∧ σ' = σ) := by
  refine CtI.of hG (by decide) (Nat.le_of_ble_eq_true rfl) (fun X hl C => ?_)
  show RW G X 1 (QI G X _) 0 [(0, pI x0)] [] σ
  exact seg_X5_placeOf_0 C x0 σ (ok_X5_placeOf_0 h)

/-! X5_told -/
def f_X5_told (x0 : Int) (σ : Mem) : Int := tl x0
def pre_X5_told (M : Nat) (x0 : Int) (σ : Mem) : Prop := 0 ≤ x0 ∧ inR x0
def VC_X5_told_0 (M : Nat) (post : Int → Mem → Prop) (x0 : Int) (σ : Mem) : Prop :=
 (0 ≤ x0 ∧ inR x0) ∧ (0 ≤ x0 ∧ inR x0) ∧ post ((10 * (x0 / 6)) + (x0 % 6)) σ
set_option maxRecDepth 20000 in
set_option maxHeartbeats 4000000 in
theorem seg_X5_told_0 {G : GG} {X : XX} {post : Int → Mem → Prop} (C : CX G X cX5_told RX5 1 (some .int) 0)   (x0 : Int) (σ : Mem) (vc : VC_X5_told_0 (gM G)  post  x0 σ) : RW G X 1 (QI G X post) 0 [(0, pI x0)] [] σ := by
  unfold VC_X5_told_0 at vc
  refine w_bipush C dX5_told_0 (by decide) ?_
  refine w_iload_n C 0 dX5_told_2 rfl ?_
  refine w_bipush C dX5_told_3 (by decide) ?_
  obtain ⟨⟨sc1, sc2⟩, vc⟩ := vc
  refine w_idivN C dX5_told_5 sc1 sc2 ⟨by omega, by omega⟩ (by omega) ?_
  refine w_imul C dX5_told_6 ?_
  refine w_iload_n C 0 dX5_told_7 rfl ?_
  refine w_bipush C dX5_told_8 (by decide) ?_
  obtain ⟨⟨sc3, sc4⟩, vc⟩ := vc
  refine w_iremN C dX5_told_10 sc3 sc4 ⟨by omega, by omega⟩ (by omega) ?_
  refine w_iadd C dX5_told_11 ?_
  exact w_ireturn C dX5_told_12 vc
set_option maxHeartbeats 1000000 in
theorem ok_X5_told_0 {M : Nat} {x0 : Int} {σ : Mem} (h : pre_X5_told M x0 σ) : VC_X5_told_0 M (fun z σ' => z = f_X5_told x0 σ ∧ σ' = σ) x0 σ := by
  exact ⟨h, h, rfl, rfl⟩
theorem c_X5_told {G : GG} (hG : GI G) (l : Launch) (x0 : Int) (σ : Mem) (h : pre_X5_told (gM G) x0 σ) : CtI G l yX5_told cX5_told 1 (some .int) 0 [pI x0] σ (fun z σ' => z = f_X5_told x0 σ ∧ σ' = σ) := by
  refine CtI.of hG (by decide) (Nat.le_of_ble_eq_true rfl) (fun X hl C => ?_)
  show RW G X 1 (QI G X _) 0 [(0, pI x0)] [] σ
  exact seg_X5_told_0 C x0 σ (ok_X5_told_0 h)

/-! X5_job -/
def pre_X5_job (M : Nat) (x1 x2 x3 : Int) (σ : Mem) : Prop := RP M σ ∧ inR x1 ∧ inR x2 ∧ inR x3
def post_X5_job (M : Nat) (x1 x2 x3 : Int) (σ : Mem) (z : Int) (σ' : Mem) : Prop := FM σ σ' ∧ ∃ a', R_job (gh σ) x1 x2 x3 z a' ∧ RM M a' σ'
def VC_X5_job_0 (M : Nat) (post : Int → Mem → Prop) (x1 : Int) (x2 : Int) (x3 : Int) (σ : Mem) : Prop :=
  ∀ s1 : Mem, s1 = up σ 37 0 0 → (pre_X5_in M x1 0 1000 s1) ∧ ((P_X5_in x1 0 1000 s1 → (pre_X5_in M x2 0 1000 s1) ∧ ((P_X5_in x2 0 1000 s1 → (pre_X5_in M x3 0 20 s1) ∧ ((P_X5_in x3 0 20 s1 → (inR (s1 37 2)) ∧ ((¬ (s1 37 2) = 8 → (0 ≤ (s1 37 2) ∧ (s1 37 2) < 8) ∧ ∀ s12 : Mem, s12 = up s1 38 (s1 37 2) x1 → (0 ≤ (s12 37 2) ∧ (s12 37 2) < 8) ∧ ∀ s15 : Mem, s15 = up s12 39 (s12 37 2) x2 → (0 ≤ (s15 37 2) ∧ (s15 37 2) < 8) ∧ ∀ s18 : Mem, s18 = up s15 40 (s15 37 2) x3 → ∀ s19 : Mem, s19 = up s18 37 2 ((s18 37 2) + 1) → post ((s19 37 2) - 1) s19) ∧ ((s1 37 2) = 8 → post (-4) s1))) ∧ (¬ P_X5_in x3 0 20 s1 → post (-2) s1))) ∧ (¬ P_X5_in x2 0 1000 s1 → post (-2) s1))) ∧ (¬ P_X5_in x1 0 1000 s1 → post (-2) s1))
set_option maxRecDepth 20000 in
set_option maxHeartbeats 4000000 in
theorem seg_X5_job_0 {G : GG} {X : XX} {post : Int → Mem → Prop} (C : CX G X cX5_job RX5 4 (some .int) 1)   (x1 : Int) (x2 : Int) (x3 : Int) (σ : Mem) (vc : VC_X5_job_0 (gM G)  post  x1 x2 x3 σ) : RW G X 4 (QI G X post) 0 [(0, pR 37), (1, pI x1), (2, pI x2), (3, pI x3)] [] σ := by
  unfold VC_X5_job_0 at vc
  refine w_aload_n C 0 dX5_job_0 rfl ?_
  refine w_iconst C dX5_job_1 ?_
  refine w_putI C 0 dX5_job_2 pf_X5_69 ob_37 rfl rfl ?_
  refine w_mem (fun s1 hs1 => ?_)
  have vc := vc s1 hs1
  refine w_iload_n C 1 dX5_job_5 rfl ?_
  refine w_iconst C dX5_job_6 ?_
  refine w_sipush C dX5_job_7 (by decide) ?_
  obtain ⟨sc2, vc⟩ := vc
  refine w_callSI C [pI x1, pI 0, pI 1000] [] rfl dX5_job_10 (c_X5_in C.gi (xL X) x1 0 1000 s1 sc2) mw_X5_in ml_X5_75 ss_X5_in (by decide) (Nat.le_of_ble_eq_true rfl) (fun z σ' hz => ?_)
  obtain ⟨hz2, hz⟩ := hz
  have hz2 := hz2.symm
  subst hz2
  rcases hz with ⟨h3, rfl⟩ | ⟨h3, rfl⟩
  · have vc := vc.1 h3
    refine w_if_eq C 37 dX5_job_13 (by decide) ⟨by omega, by omega⟩ (fun q => absurd q (by decide)) (fun _ => ?_)
    refine w_iload_n C 2 dX5_job_16 rfl ?_
    refine w_iconst C dX5_job_17 ?_
    refine w_sipush C dX5_job_18 (by decide) ?_
    obtain ⟨sc4, vc⟩ := vc
    refine w_callSI C [pI x2, pI 0, pI 1000] [] rfl dX5_job_21 (c_X5_in C.gi (xL X) x2 0 1000 s1 sc4) mw_X5_in ml_X5_75 ss_X5_in (by decide) (Nat.le_of_ble_eq_true rfl) (fun z σ' hz => ?_)
    obtain ⟨hz2, hz⟩ := hz
    have hz2 := hz2.symm
    subst hz2
    rcases hz with ⟨h5, rfl⟩ | ⟨h5, rfl⟩
    · have vc := vc.1 h5
      refine w_if_eq C 37 dX5_job_24 (by decide) ⟨by omega, by omega⟩ (fun q => absurd q (by decide)) (fun _ => ?_)
      refine w_iload_n C 3 dX5_job_27 rfl ?_
      refine w_iconst C dX5_job_28 ?_
      refine w_bipush C dX5_job_29 (by decide) ?_
      obtain ⟨sc6, vc⟩ := vc
      refine w_callSI C [pI x3, pI 0, pI 20] [] rfl dX5_job_31 (c_X5_in C.gi (xL X) x3 0 20 s1 sc6) mw_X5_in ml_X5_75 ss_X5_in (by decide) (Nat.le_of_ble_eq_true rfl) (fun z σ' hz => ?_)
      obtain ⟨hz2, hz⟩ := hz
      have hz2 := hz2.symm
      subst hz2
      rcases hz with ⟨h7, rfl⟩ | ⟨h7, rfl⟩
      · have vc := vc.1 h7
        refine w_if_ne C 40 dX5_job_34 (by decide) ⟨by omega, by omega⟩ (fun _ => ?_) (fun q => absurd q (by decide))
        refine w_aload_n C 0 dX5_job_40 rfl ?_
        refine w_getI C 2 dX5_job_41 gf_X5_72 ob_37 rfl rfl ?_
        refine w_bipush C dX5_job_44 (by decide) ?_
        obtain ⟨sc8, vc⟩ := vc
        refine w_icmp_ne C 52 dX5_job_46 (by decide) sc8 ⟨by omega, by omega⟩ (fun h9 => ?_) (fun h9 => ?_)
        · have vc := vc.1 h9
          refine w_aload_n C 0 dX5_job_52 rfl ?_
          refine w_getR C dX5_job_53 gf_X5_7 ob_37 rfl ?_
          refine w_aload_n C 0 dX5_job_56 rfl ?_
          refine w_getI C 2 dX5_job_57 gf_X5_72 ob_37 rfl rfl ?_
          refine w_iload_n C 1 dX5_job_60 rfl ?_
          obtain ⟨⟨sc10, sc11⟩, vc⟩ := vc
          refine w_iast C dX5_job_61 ia_38 sc10 sc11 ?_
          refine w_mem (fun s12 hs12 => ?_)
          have vc := vc s12 hs12
          refine w_aload_n C 0 dX5_job_62 rfl ?_
          refine w_getR C dX5_job_63 gf_X5_13 ob_37 rfl ?_
          refine w_aload_n C 0 dX5_job_66 rfl ?_
          refine w_getI C 2 dX5_job_67 gf_X5_72 ob_37 rfl rfl ?_
          refine w_iload_n C 2 dX5_job_70 rfl ?_
          obtain ⟨⟨sc13, sc14⟩, vc⟩ := vc
          refine w_iast C dX5_job_71 ia_39 sc13 sc14 ?_
          refine w_mem (fun s15 hs15 => ?_)
          have vc := vc s15 hs15
          refine w_aload_n C 0 dX5_job_72 rfl ?_
          refine w_getR C dX5_job_73 gf_X5_16 ob_37 rfl ?_
          refine w_aload_n C 0 dX5_job_76 rfl ?_
          refine w_getI C 2 dX5_job_77 gf_X5_72 ob_37 rfl rfl ?_
          refine w_iload_n C 3 dX5_job_80 rfl ?_
          obtain ⟨⟨sc16, sc17⟩, vc⟩ := vc
          refine w_iast C dX5_job_81 ia_40 sc16 sc17 ?_
          refine w_mem (fun s18 hs18 => ?_)
          have vc := vc s18 hs18
          refine w_aload_n C 0 dX5_job_82 rfl ?_
          refine w_dup C dX5_job_83 rfl ?_
          refine w_getI C 2 dX5_job_84 gf_X5_72 ob_37 rfl rfl ?_
          refine w_iconst C dX5_job_87 ?_
          refine w_iadd C dX5_job_88 ?_
          refine w_putI C 2 dX5_job_89 pf_X5_72 ob_37 rfl rfl ?_
          refine w_mem (fun s19 hs19 => ?_)
          have vc := vc s19 hs19
          refine w_aload_n C 0 dX5_job_92 rfl ?_
          refine w_getI C 2 dX5_job_93 gf_X5_72 ob_37 rfl rfl ?_
          refine w_iconst C dX5_job_96 ?_
          refine w_isub C dX5_job_97 ?_
          exact w_ireturn C dX5_job_98 vc
        · have vc := vc.2 h9
          refine w_bipush C dX5_job_49 (by decide) ?_
          exact w_ireturn C dX5_job_51 vc
      · have vc := vc.2 h7
        refine w_if_ne C 40 dX5_job_34 (by decide) ⟨by omega, by omega⟩ (fun q => absurd q (by decide)) (fun _ => ?_)
        refine w_bipush C dX5_job_37 (by decide) ?_
        exact w_ireturn C dX5_job_39 vc
    · have vc := vc.2 h5
      refine w_if_eq C 37 dX5_job_24 (by decide) ⟨by omega, by omega⟩ (fun _ => ?_) (fun q => absurd q (by decide))
      refine w_bipush C dX5_job_37 (by decide) ?_
      exact w_ireturn C dX5_job_39 vc
  · have vc := vc.2 h3
    refine w_if_eq C 37 dX5_job_13 (by decide) ⟨by omega, by omega⟩ (fun _ => ?_) (fun q => absurd q (by decide))
    refine w_bipush C dX5_job_37 (by decide) ?_
    exact w_ireturn C dX5_job_39 vc
set_option maxHeartbeats 1000000 in
theorem ok_X5_job_0 {M : Nat} {x1 : Int} {x2 : Int} {x3 : Int} {σ : Mem} (h : pre_X5_job M x1 x2 x3 σ) : VC_X5_job_0 M (post_X5_job M x1 x2 x3 σ) x1 x2 x3 σ := by
  obtain ⟨⟨hW, hR⟩, r1, r2, r3⟩ := h
  intro s1 e1
  have f1 : RFr σ s1 := by rw [e1]; exact thr_fr σ 0
  have hR1 := RM_fr f1 hR
  have hn := RM_NB hW hR1
  have hj := hn.2.1
  have ej := hR1.2.1
  have no : ¬ (wi x1 0 1000 ∧ wi x2 0 1000 ∧ wi x3 0 20) → post_X5_job M x1 x2 x3 σ (-2) s1 := fun q => ⟨f1.FM, gh σ, Or.inl ⟨q, rfl, rfl⟩, hR1⟩
  refine ⟨⟨r1, ⟨by omega, by omega⟩, ⟨by omega, by omega⟩⟩, fun g1 => ⟨⟨r2, ⟨by omega, by omega⟩, ⟨by omega, by omega⟩⟩, fun g2 => ⟨⟨r3, ⟨by omega, by omega⟩, ⟨by omega, by omega⟩⟩, fun g3 => ⟨⟨by omega, by omega⟩, fun g4 => ?_, fun g4 => ⟨f1.FM, gh σ, Or.inr (Or.inl ⟨⟨g1, g2, g3⟩, by omega, rfl, rfl⟩), hR1⟩⟩, fun g3 => no (fun q => g3 q.2.2)⟩, fun g2 => no (fun q => g2 q.2.1)⟩, fun g1 => no (fun q => g1 q.1)⟩
  refine ⟨⟨by omega, by omega⟩, fun s12 e12 => ?_⟩
  have q12 : s12 37 2 = s1 37 2 := by rw [e12, up_ne _ _ (Or.inl (by omega))]
  refine ⟨⟨by omega, by omega⟩, fun s15 e15 => ?_⟩
  have q15 : s15 37 2 = s1 37 2 := by rw [e15, up_ne _ _ (Or.inl (by omega)), q12]
  refine ⟨⟨by omega, by omega⟩, fun s18 e18 s19 e19 => ?_⟩
  have q18 : s18 37 2 = s1 37 2 := by rw [e18, up_ne _ _ (Or.inl (by omega)), q15]
  rw [q18] at e19
  rw [q15] at e18
  rw [q12] at e15
  have q19 : s19 37 2 = s1 37 2 + 1 := by rw [e19, up_self]
  have acc : ∀ c : Int, c ≠ 37 → c ≠ 38 → c ≠ 39 → c ≠ 40 → s19 c = s1 c := fun c c1 c2 c3 c4 => by
    rw [e19, up_other _ _ _ c1, e18, up_other _ _ _ c4, e15, up_other _ _ _ c3, e12, up_other _ _ _ c2]
  have a38 : ∀ x, s19 38 x = if x = s1 37 2 then x1 else s1 38 x := fun x => by
    rw [e19, up_ne _ _ (Or.inl (by omega)), e18, up_ne _ _ (Or.inl (by omega)), e15, up_ne _ _ (Or.inl (by omega)), e12]; simp [up]
  have a39 : ∀ x, s19 39 x = if x = s1 37 2 then x2 else s1 39 x := fun x => by
    rw [e19, up_ne _ _ (Or.inl (by omega)), e18, up_ne _ _ (Or.inl (by omega)), e15, e12]; simp [up]
  have a40 : ∀ x, s19 40 x = if x = s1 37 2 then x3 else s1 40 x := fun x => by
    rw [e19, up_ne _ _ (Or.inl (by omega)), e18, e15, e12]; simp [up]
  obtain ⟨r1', r2', r3', r4', r5', r6', r7'⟩ := hR1
  obtain ⟨ac, a1, a2, a3, a4⟩ := job_acc x1 x2 x3 (gh σ)
  refine ⟨f1.FM.trans (fun c hc => acc c (by omega) (by omega) (by omega) (by omega)), _, Or.inr (Or.inr ⟨⟨g1, g2, g3⟩, by omega, by omega, rfl⟩), ?_, ?_, fun j j0 j1 => ?_, ?_, ?_, ?_, ?_⟩
  · rw [e19, up_ne _ _ (Or.inr (by omega)), e18, up_ne _ _ (Or.inl (by omega)), e15, up_ne _ _ (Or.inl (by omega)), e12, up_ne _ _ (Or.inl (by omega))]; exact r1'
  · rw [q19, a1, if_pos rfl, ej]
  · rw [a38, a39, a40, acc 41 (by omega) (by omega) (by omega) (by omega), a2, a3, a4, ac 5 (by omega) (by omega) (by omega) (by omega), ej]
    have := r3' j j0 j1
    by_cases e : j = gh σ 1 1
    · simp only [e, if_true]; exact ⟨trivial, trivial, trivial, by rw [← e]; exact this.2.2.2⟩
    · simp only [e, if_false]; exact this
  · rw [acc 42 (by omega) (by omega) (by omega) (by omega), acc 43 (by omega) (by omega) (by omega) (by omega), acc 44 (by omega) (by omega) (by omega) (by omega), ac 6 (by omega) (by omega) (by omega) (by omega), ac 7 (by omega) (by omega) (by omega) (by omega), ac 8 (by omega) (by omega) (by omega) (by omega)]; exact r4'
  · rw [acc 45 (by omega) (by omega) (by omega) (by omega), ac 11 (by omega) (by omega) (by omega) (by omega)]; exact r5'
  · rw [acc 46 (by omega) (by omega) (by omega) (by omega), ac 10 (by omega) (by omega) (by omega) (by omega)]; exact r6'
  · intro m i hi
    unfold inO at hi
    rw [ac 10 (by omega) (by omega) (by omega) (by omega)] at hi
    rw [acc 47 (by omega) (by omega) (by omega) (by omega), ac (57 + m) (by omega) (by omega) (by omega) (by omega)]
    exact r7' m i hi
theorem c_X5_job {G : GG} (hG : GI G) (l : Launch) (x1 : Int) (x2 : Int) (x3 : Int) (σ : Mem) (h : pre_X5_job (gM G) x1 x2 x3 σ) : CtI G l yX5_job cX5_job 4 (some .int) 1 [pR 37, pI x1, pI x2, pI x3] σ (post_X5_job (gM G) x1 x2 x3 σ) := by
  refine CtI.of hG (by decide) (Nat.le_of_ble_eq_true rfl) (fun X hl C => ?_)
  show RW G X 4 (QI G X _) 0 [(0, pR 37), (1, pI x1), (2, pI x2), (3, pI x3)] [] σ
  exact seg_X5_job_0 C x1 x2 x3 σ (ok_X5_job_0 h)

/-! X5_step -/
def pre_X5_step (M : Nat) (x1 x2 x3 : Int) (σ : Mem) : Prop := RP M σ ∧ inR x1 ∧ inR x2 ∧ inR x3
def post_X5_step (M : Nat) (x1 x2 x3 : Int) (σ : Mem) (z : Int) (σ' : Mem) : Prop := FM σ σ' ∧ ∃ a', R_step (gh σ) x1 x2 x3 z a' ∧ RM M a' σ'
theorem isJob_r {M : Nat} {a σ : Mem} (r : RM M a σ) (j : Int) : P_X5_isJob j σ ↔ P_X3_hasJob j a := by
  unfold P_X5_isJob P_X3_hasJob
  rw [r.2.1]
  omega
theorem isMachine_r {M : Nat} {a σ : Mem} (h : WF M a) (r : RM M a σ) (m : Int) : P_X5_isMachine m σ ↔ P_X3_hasMachine m a := by
  unfold P_X5_isMachine P_X3_hasMachine
  rw [r.1, h.1.1.1]
  omega
def VC_X5_step_0 (M : Nat) (post : Int → Mem → Prop) (x1 : Int) (x2 : Int) (x3 : Int) (σ : Mem) : Prop :=
  ∀ s1 : Mem, s1 = up σ 37 0 0 → (pre_X5_isJob M x1 s1) ∧ ((P_X5_isJob x1 s1 → (pre_X5_isMachine M x2 s1) ∧ ((P_X5_isMachine x2 s1 → (pre_X5_in M x3 0 50 s1) ∧ ((P_X5_in x3 0 50 s1 → (0 ≤ x1 ∧ x1 < 8) ∧ (inR (s1 41 x1)) ∧ ((¬ (s1 41 x1) = 6 → (0 ≤ x1 ∧ x1 < 8) ∧ ∀ v14 : Int, v14 = (6 * x1) + (s1 41 x1) → (0 ≤ v14 ∧ v14 < 48) ∧ ∀ s17 : Mem, s17 = up s1 42 v14 x2 → (0 ≤ v14 ∧ v14 < 48) ∧ ∀ s20 : Mem, s20 = up s17 43 v14 x3 → (0 ≤ v14 ∧ v14 < 48) ∧ ∀ s23 : Mem, s23 = up s20 44 v14 0 → (0 ≤ x1 ∧ x1 < 8) ∧ (0 ≤ x1 ∧ x1 < 8) ∧ ∀ s28 : Mem, s28 = up s23 41 x1 ((s23 41 x1) + 1) → (0 ≤ x1 ∧ x1 < 8) ∧ post (s28 41 x1) s28) ∧ ((s1 41 x1) = 6 → post (-4) s1))) ∧ (¬ P_X5_in x3 0 50 s1 → post (-2) s1))) ∧ (¬ P_X5_isMachine x2 s1 → post (-2) s1))) ∧ (¬ P_X5_isJob x1 s1 → post (-1) s1))
set_option maxRecDepth 20000 in
set_option maxHeartbeats 4000000 in
theorem seg_X5_step_0 {G : GG} {X : XX} {post : Int → Mem → Prop} (C : CX G X cX5_step RX5 5 (some .int) 2)   (x1 : Int) (x2 : Int) (x3 : Int) (σ : Mem) (vc : VC_X5_step_0 (gM G)  post  x1 x2 x3 σ) : RW G X 5 (QI G X post) 0 [(0, pR 37), (1, pI x1), (2, pI x2), (3, pI x3)] [] σ := by
  unfold VC_X5_step_0 at vc
  refine w_aload_n C 0 dX5_step_0 rfl ?_
  refine w_iconst C dX5_step_1 ?_
  refine w_putI C 0 dX5_step_2 pf_X5_69 ob_37 rfl rfl ?_
  refine w_mem (fun s1 hs1 => ?_)
  have vc := vc s1 hs1
  refine w_aload_n C 0 dX5_step_5 rfl ?_
  refine w_iload_n C 1 dX5_step_6 rfl ?_
  obtain ⟨sc2, vc⟩ := vc
  refine w_callVI C [pI x1] [] rfl dX5_step_7 (c_X5_isJob C.gi (xL X) x1 s1 sc2) oc_37 mw_X5_isJob ml_X5_79 im_X5_isJob se_X5_isJob (by decide) (Nat.le_of_ble_eq_true rfl) (fun z σ' hz => ?_)
  obtain ⟨hz2, hz⟩ := hz
  have hz2 := hz2.symm
  subst hz2
  rcases hz with ⟨h3, rfl⟩ | ⟨h3, rfl⟩
  · have vc := vc.1 h3
    refine w_if_ne C 15 dX5_step_10 (by decide) ⟨by omega, by omega⟩ (fun _ => ?_) (fun q => absurd q (by decide))
    refine w_aload_n C 0 dX5_step_15 rfl ?_
    refine w_iload_n C 2 dX5_step_16 rfl ?_
    obtain ⟨sc4, vc⟩ := vc
    refine w_callVI C [pI x2] [] rfl dX5_step_17 (c_X5_isMachine C.gi (xL X) x2 s1 sc4) oc_37 mw_X5_isMachine ml_X5_83 im_X5_isMachine se_X5_isMachine (by decide) (Nat.le_of_ble_eq_true rfl) (fun z σ' hz => ?_)
    obtain ⟨hz2, hz⟩ := hz
    have hz2 := hz2.symm
    subst hz2
    rcases hz with ⟨h5, rfl⟩ | ⟨h5, rfl⟩
    · have vc := vc.1 h5
      refine w_if_eq C 33 dX5_step_20 (by decide) ⟨by omega, by omega⟩ (fun q => absurd q (by decide)) (fun _ => ?_)
      refine w_iload_n C 3 dX5_step_23 rfl ?_
      refine w_iconst C dX5_step_24 ?_
      refine w_bipush C dX5_step_25 (by decide) ?_
      obtain ⟨sc6, vc⟩ := vc
      refine w_callSI C [pI x3, pI 0, pI 50] [] rfl dX5_step_27 (c_X5_in C.gi (xL X) x3 0 50 s1 sc6) mw_X5_in ml_X5_75 ss_X5_in (by decide) (Nat.le_of_ble_eq_true rfl) (fun z σ' hz => ?_)
      obtain ⟨hz2, hz⟩ := hz
      have hz2 := hz2.symm
      subst hz2
      rcases hz with ⟨h7, rfl⟩ | ⟨h7, rfl⟩
      · have vc := vc.1 h7
        refine w_if_ne C 36 dX5_step_30 (by decide) ⟨by omega, by omega⟩ (fun _ => ?_) (fun q => absurd q (by decide))
        refine w_aload_n C 0 dX5_step_36 rfl ?_
        refine w_getR C dX5_step_37 gf_X5_19 ob_37 rfl ?_
        refine w_iload_n C 1 dX5_step_40 rfl ?_
        obtain ⟨⟨sc8, sc9⟩, vc⟩ := vc
        refine w_iald C dX5_step_41 ia_41 sc8 sc9 ?_
        refine w_bipush C dX5_step_42 (by decide) ?_
        obtain ⟨sc10, vc⟩ := vc
        refine w_icmp_ne C 50 dX5_step_44 (by decide) sc10 ⟨by omega, by omega⟩ (fun h11 => ?_) (fun h11 => ?_)
        · have vc := vc.1 h11
          refine w_bipush C dX5_step_50 (by decide) ?_
          refine w_iload_n C 1 dX5_step_52 rfl ?_
          refine w_imul C dX5_step_53 ?_
          refine w_aload_n C 0 dX5_step_54 rfl ?_
          refine w_getR C dX5_step_55 gf_X5_19 ob_37 rfl ?_
          refine w_iload_n C 1 dX5_step_58 rfl ?_
          obtain ⟨⟨sc12, sc13⟩, vc⟩ := vc
          refine w_iald C dX5_step_59 ia_41 sc12 sc13 ?_
          refine w_iadd C dX5_step_60 ?_
          refine w_top (fun v14 hv14 => ?_)
          have vc := vc v14 hv14
          refine w_istore C [(4, pI v14), (0, pR 37), (1, pI x1), (2, pI x2), (3, pI x3)] dX5_step_61 (by decide) rfl ?_
          refine w_aload_n C 1 dX5_step_63 rfl ?_
          refine w_getR C dX5_step_64 gf_X5_22 ob_37 rfl ?_
          refine w_iload C 0 dX5_step_67 rfl ?_
          refine w_iload_n C 3 dX5_step_69 rfl ?_
          obtain ⟨⟨sc15, sc16⟩, vc⟩ := vc
          refine w_iast C dX5_step_70 ia_42 sc15 sc16 ?_
          refine w_mem (fun s17 hs17 => ?_)
          have vc := vc s17 hs17
          refine w_aload_n C 1 dX5_step_71 rfl ?_
          refine w_getR C dX5_step_72 gf_X5_25 ob_37 rfl ?_
          refine w_iload C 0 dX5_step_75 rfl ?_
          refine w_iload_n C 4 dX5_step_77 rfl ?_
          obtain ⟨⟨sc18, sc19⟩, vc⟩ := vc
          refine w_iast C dX5_step_78 ia_43 sc18 sc19 ?_
          refine w_mem (fun s20 hs20 => ?_)
          have vc := vc s20 hs20
          refine w_aload_n C 1 dX5_step_79 rfl ?_
          refine w_getR C dX5_step_80 gf_X5_28 ob_37 rfl ?_
          refine w_iload C 0 dX5_step_83 rfl ?_
          refine w_iconst C dX5_step_85 ?_
          obtain ⟨⟨sc21, sc22⟩, vc⟩ := vc
          refine w_bast C dX5_step_86 ba_44 sc21 sc22 (Or.inl rfl) ?_
          refine w_mem (fun s23 hs23 => ?_)
          have vc := vc s23 hs23
          refine w_aload_n C 1 dX5_step_87 rfl ?_
          refine w_getR C dX5_step_88 gf_X5_19 ob_37 rfl ?_
          refine w_iload_n C 2 dX5_step_91 rfl ?_
          refine w_dup2 C dX5_step_92 rfl rfl ?_
          obtain ⟨⟨sc24, sc25⟩, vc⟩ := vc
          refine w_iald C dX5_step_93 ia_41 sc24 sc25 ?_
          refine w_iconst C dX5_step_94 ?_
          refine w_iadd C dX5_step_95 ?_
          obtain ⟨⟨sc26, sc27⟩, vc⟩ := vc
          refine w_iast C dX5_step_96 ia_41 sc26 sc27 ?_
          refine w_mem (fun s28 hs28 => ?_)
          have vc := vc s28 hs28
          refine w_aload_n C 1 dX5_step_97 rfl ?_
          refine w_getR C dX5_step_98 gf_X5_19 ob_37 rfl ?_
          refine w_iload_n C 2 dX5_step_101 rfl ?_
          obtain ⟨⟨sc29, sc30⟩, vc⟩ := vc
          refine w_iald C dX5_step_102 ia_41 sc29 sc30 ?_
          exact w_ireturn C dX5_step_103 vc
        · have vc := vc.2 h11
          refine w_bipush C dX5_step_47 (by decide) ?_
          exact w_ireturn C dX5_step_49 vc
      · have vc := vc.2 h7
        refine w_if_ne C 36 dX5_step_30 (by decide) ⟨by omega, by omega⟩ (fun q => absurd q (by decide)) (fun _ => ?_)
        refine w_bipush C dX5_step_33 (by decide) ?_
        exact w_ireturn C dX5_step_35 vc
    · have vc := vc.2 h5
      refine w_if_eq C 33 dX5_step_20 (by decide) ⟨by omega, by omega⟩ (fun _ => ?_) (fun q => absurd q (by decide))
      refine w_bipush C dX5_step_33 (by decide) ?_
      exact w_ireturn C dX5_step_35 vc
  · have vc := vc.2 h3
    refine w_if_ne C 15 dX5_step_10 (by decide) ⟨by omega, by omega⟩ (fun q => absurd q (by decide)) (fun _ => ?_)
    refine w_iconst C dX5_step_13 ?_
    exact w_ireturn C dX5_step_14 vc
set_option maxHeartbeats 1000000 in
theorem ok_X5_step_0 {M : Nat} {x1 : Int} {x2 : Int} {x3 : Int} {σ : Mem} (h : pre_X5_step M x1 x2 x3 σ) : VC_X5_step_0 M (post_X5_step M x1 x2 x3 σ) x1 x2 x3 σ := by
  obtain ⟨⟨hW, hR⟩, r1, r2, r3⟩ := h
  intro s1 e1
  have f1 : RFr σ s1 := by rw [e1]; exact thr_fr σ 0
  have hR1 := RM_fr f1 hR
  have hn := RM_NB hW hR1
  have hj := hn.2.1
  have eJ' := isJob_r hR1
  have eM' := isMachine_r hW hR1
  have same : ∀ z, R_step (gh σ) x1 x2 x3 z (gh σ) → post_X5_step M x1 x2 x3 σ z s1 := fun z q => ⟨f1.FM, gh σ, q, hR1⟩
  refine ⟨⟨hn, r1⟩, fun g1 => ⟨⟨hn, r2⟩, fun g2 => ⟨⟨r3, ⟨by omega, by omega⟩, ⟨by omega, by omega⟩⟩, fun g3 => ?_, fun g3 => same _ (Or.inr (Or.inl ⟨(eJ' _).mp g1, fun q => g3 q.2, rfl, rfl⟩))⟩, fun g2 => same _ (Or.inr (Or.inl ⟨(eJ' _).mp g1, fun q => g2 ((eM' _).mpr q.1), rfl, rfl⟩))⟩, fun g1 => same _ (Or.inl ⟨fun q => g1 ((eJ' _).mpr q), rfl, rfl⟩)⟩
  have gj := (eJ' _).mp g1
  have gm := (eM' _).mp g2
  have g10 : 0 ≤ x1 := g1.1
  have hj8 : x1 < 8 := by have := g1.2; omega
  have h41 := hn.2.2.1 x1 g1.1 hj8
  have e41 : s1 41 x1 = gh σ 5 x1 := (hR1.2.2.1 x1 g1.1 hj8).2.2.2
  refine ⟨⟨g1.1, hj8⟩, ⟨by omega, by omega⟩, fun g4 => ⟨⟨g1.1, hj8⟩, fun v14 e14 => ⟨⟨by omega, by omega⟩, fun s17 e17 => ⟨⟨by omega, by omega⟩, fun s20 e20 => ⟨⟨by omega, by omega⟩, fun s23 e23 => ⟨⟨g1.1, hj8⟩, ⟨g1.1, hj8⟩, fun s28 e28 => ⟨⟨g1.1, hj8⟩, ?_⟩⟩⟩⟩⟩⟩, fun g4 => same _ (Or.inr (Or.inr (Or.inl ⟨gj, ⟨gm, g3⟩, by omega, rfl, rfl⟩)))⟩
  have q23 : s23 41 x1 = s1 41 x1 := by rw [e23, up_ne _ _ (Or.inl (by omega)), e20, up_ne _ _ (Or.inl (by omega)), e17, up_ne _ _ (Or.inl (by omega))]
  rw [q23] at e28
  have acc : ∀ c : Int, c ≠ 41 → c ≠ 42 → c ≠ 43 → c ≠ 44 → s28 c = s1 c := fun c c1 c2 c3 c4 => by
    rw [e28, up_other _ _ _ c1, e23, up_other _ _ _ c4, e20, up_other _ _ _ c3, e17, up_other _ _ _ c2]
  have a41 : ∀ x, s28 41 x = if x = x1 then s1 41 x1 + 1 else s1 41 x := fun x => by
    rw [e28]
    simp only [up]
    by_cases e : x = x1
    · simp [e]
    · simp only [e, and_false, if_false]
      rw [e23, up_ne _ _ (Or.inl (by omega)), e20, up_ne _ _ (Or.inl (by omega)), e17, up_ne _ _ (Or.inl (by omega))]
  have a42 : ∀ x, s28 42 x = if x = v14 then x2 else s1 42 x := fun x => by
    rw [e28, up_ne _ _ (Or.inl (by omega)), e23, up_ne _ _ (Or.inl (by omega)), e20, up_ne _ _ (Or.inl (by omega)), e17]; simp [up]
  have a43 : ∀ x, s28 43 x = if x = v14 then x3 else s1 43 x := fun x => by
    rw [e28, up_ne _ _ (Or.inl (by omega)), e23, up_ne _ _ (Or.inl (by omega)), e20, e17]; simp [up]
  have a44 : ∀ x, s28 44 x = if x = v14 then 0 else s1 44 x := fun x => by
    rw [e28, up_ne _ _ (Or.inl (by omega)), e23, e20, e17]; simp [up]
  obtain ⟨r1', r2', r3', r4', r5', r6', r7'⟩ := hR1
  obtain ⟨ac, a1, a5, a6, a7⟩ := stp_acc x1 x2 x3 (gh σ)
  have evt : 10 * x1 + gh σ 5 x1 = tl v14 := by unfold tl; rw [e14, e41]; rw [e41] at h41 g4; omega
  have n8 : gh σ 8 (tl v14) = 0 := by
    rcases hW.2.2.1 (tl v14) (by unfold tl; omega) (by unfold tl; omega) with e | ⟨-, v⟩
    · exact e
    · exfalso
      have := v.2.2
      rw [← evt, show (10 * x1 + gh σ 5 x1) / 10 = x1 by omega] at this
      omega
  have tinj : ∀ k : Int, 0 ≤ k → k < 48 → (k = v14 ↔ tl k = tl v14) := fun k k0 k1 => by
    constructor
    · intro e; rw [e]
    · intro e; rw [← pl_tl k0, e, pl_tl (by omega)]
  refine ⟨f1.FM.trans (fun c hc => acc c (by omega) (by omega) (by omega) (by omega)), _, Or.inr (Or.inr (Or.inr ⟨gj, ⟨gm, g3⟩, by omega, ?_, rfl⟩)), ?_, ?_, fun j j0 j1 => ?_, fun k k0 k1 => ?_, ?_, ?_, ?_⟩
  · rw [a41, if_pos rfl, e41]
  · rw [acc 37 (by omega) (by omega) (by omega) (by omega)]; exact r1'
  · rw [acc 37 (by omega) (by omega) (by omega) (by omega), a1]; simpa using r2'
  · rw [acc 38 (by omega) (by omega) (by omega) (by omega), acc 39 (by omega) (by omega) (by omega) (by omega), acc 40 (by omega) (by omega) (by omega) (by omega), a41, a5, ac 2 (by omega) (by omega) (by omega) (by omega), ac 3 (by omega) (by omega) (by omega) (by omega), ac 4 (by omega) (by omega) (by omega) (by omega)]
    have := r3' j j0 j1
    refine ⟨this.1, this.2.1, this.2.2.1, ?_⟩
    by_cases e : j = x1
    · rw [if_pos e, if_pos e, e, e41]
    · rw [if_neg e, if_neg e]; exact this.2.2.2
  · rw [a42, a43, a44, a6, a7, ac 8 (by omega) (by omega) (by omega) (by omega), evt]
    have := r4' k k0 k1
    by_cases e : k = v14
    · have e2 := (tinj k k0 k1).mp e
      rw [if_pos e, if_pos e, if_pos e, if_pos e2, if_pos e2, e2, n8]
      exact ⟨rfl, rfl, rfl⟩
    · have e2 : ¬ tl k = tl v14 := fun z => e ((tinj k k0 k1).mpr z)
      rw [if_neg e, if_neg e, if_neg e, if_neg e2, if_neg e2]
      exact this
  · rw [acc 45 (by omega) (by omega) (by omega) (by omega), ac 11 (by omega) (by omega) (by omega) (by omega)]; exact r5'
  · rw [acc 46 (by omega) (by omega) (by omega) (by omega), ac 10 (by omega) (by omega) (by omega) (by omega)]; exact r6'
  · intro m i hi
    unfold inO at hi
    rw [ac 10 (by omega) (by omega) (by omega) (by omega)] at hi
    rw [acc 47 (by omega) (by omega) (by omega) (by omega), ac (57 + m) (by omega) (by omega) (by omega) (by omega)]
    exact r7' m i hi
theorem c_X5_step {G : GG} (hG : GI G) (l : Launch) (x1 : Int) (x2 : Int) (x3 : Int) (σ : Mem) (h : pre_X5_step (gM G) x1 x2 x3 σ) : CtI G l yX5_step cX5_step 5 (some .int) 2 [pR 37, pI x1, pI x2, pI x3] σ (post_X5_step (gM G) x1 x2 x3 σ) := by
  refine CtI.of hG (by decide) (Nat.le_of_ble_eq_true rfl) (fun X hl C => ?_)
  show RW G X 5 (QI G X _) 0 [(0, pR 37), (1, pI x1), (2, pI x2), (3, pI x3)] [] σ
  exact seg_X5_step_0 C x1 x2 x3 σ (ok_X5_step_0 h)

/-! X5_change -/
def pre_X5_change (M : Nat) (x1 x2 x3 x4 : Int) (σ : Mem) : Prop := RP M σ ∧ inR x1 ∧ inR x2 ∧ inR x3 ∧ inR x4
def post_X5_change (M : Nat) (x1 x2 x3 x4 : Int) (σ : Mem) (z : Int) (σ' : Mem) : Prop := FM σ σ' ∧ ∃ a', R_change (gh σ) x1 x2 x3 x4 z a' ∧ RM M a' σ'
def VC_X5_change_0 (M : Nat) (post : Int → Mem → Prop) (x1 : Int) (x2 : Int) (x3 : Int) (x4 : Int) (σ : Mem) : Prop :=
  ∀ s1 : Mem, s1 = up σ 37 0 0 → (pre_X5_isMachine M x1 s1) ∧ ((P_X5_isMachine x1 s1 → (pre_X5_isJob M x2 s1) ∧ ((P_X5_isJob x2 s1 → (pre_X5_isJob M x3 s1) ∧ ((P_X5_isJob x3 s1 → (inR x2 ∧ inR x3) ∧ ((¬ x2 = x3 → (pre_X5_in M x4 0 50 s1) ∧ ((P_X5_in x4 0 50 s1 → (0 ≤ (((64 * x1) + (8 * x2)) + x3) ∧ (((64 * x1) + (8 * x2)) + x3) < 320) ∧ ∀ v15 : Int, v15 = s1 45 (((64 * x1) + (8 * x2)) + x3) → (0 ≤ (((64 * x1) + (8 * x2)) + x3) ∧ (((64 * x1) + (8 * x2)) + x3) < 320) ∧ ∀ s18 : Mem, s18 = up s1 45 (((64 * x1) + (8 * x2)) + x3) x4 → post v15 s18) ∧ (¬ P_X5_in x4 0 50 s1 → post (-2) s1))) ∧ (x2 = x3 → post (-1) s1))) ∧ (¬ P_X5_isJob x3 s1 → post (-1) s1))) ∧ (¬ P_X5_isJob x2 s1 → post (-1) s1))) ∧ (¬ P_X5_isMachine x1 s1 → post (-1) s1))
set_option maxRecDepth 20000 in
set_option maxHeartbeats 4000000 in
theorem seg_X5_change_0 {G : GG} {X : XX} {post : Int → Mem → Prop} (C : CX G X cX5_change RX5 6 (some .int) 2)   (x1 : Int) (x2 : Int) (x3 : Int) (x4 : Int) (σ : Mem) (vc : VC_X5_change_0 (gM G)  post  x1 x2 x3 x4 σ) : RW G X 6 (QI G X post) 0 [(0, pR 37), (1, pI x1), (2, pI x2), (3, pI x3), (4, pI x4)] [] σ := by
  unfold VC_X5_change_0 at vc
  refine w_aload_n C 0 dX5_change_0 rfl ?_
  refine w_iconst C dX5_change_1 ?_
  refine w_putI C 0 dX5_change_2 pf_X5_69 ob_37 rfl rfl ?_
  refine w_mem (fun s1 hs1 => ?_)
  have vc := vc s1 hs1
  refine w_aload_n C 0 dX5_change_5 rfl ?_
  refine w_iload_n C 1 dX5_change_6 rfl ?_
  obtain ⟨sc2, vc⟩ := vc
  refine w_callVI C [pI x1] [] rfl dX5_change_7 (c_X5_isMachine C.gi (xL X) x1 s1 sc2) oc_37 mw_X5_isMachine ml_X5_83 im_X5_isMachine se_X5_isMachine (by decide) (Nat.le_of_ble_eq_true rfl) (fun z σ' hz => ?_)
  obtain ⟨hz2, hz⟩ := hz
  have hz2 := hz2.symm
  subst hz2
  rcases hz with ⟨h3, rfl⟩ | ⟨h3, rfl⟩
  · have vc := vc.1 h3
    refine w_if_eq C 34 dX5_change_10 (by decide) ⟨by omega, by omega⟩ (fun q => absurd q (by decide)) (fun _ => ?_)
    refine w_aload_n C 0 dX5_change_13 rfl ?_
    refine w_iload_n C 2 dX5_change_14 rfl ?_
    obtain ⟨sc4, vc⟩ := vc
    refine w_callVI C [pI x2] [] rfl dX5_change_15 (c_X5_isJob C.gi (xL X) x2 s1 sc4) oc_37 mw_X5_isJob ml_X5_79 im_X5_isJob se_X5_isJob (by decide) (Nat.le_of_ble_eq_true rfl) (fun z σ' hz => ?_)
    obtain ⟨hz2, hz⟩ := hz
    have hz2 := hz2.symm
    subst hz2
    rcases hz with ⟨h5, rfl⟩ | ⟨h5, rfl⟩
    · have vc := vc.1 h5
      refine w_if_eq C 34 dX5_change_18 (by decide) ⟨by omega, by omega⟩ (fun q => absurd q (by decide)) (fun _ => ?_)
      refine w_aload_n C 0 dX5_change_21 rfl ?_
      refine w_iload_n C 3 dX5_change_22 rfl ?_
      obtain ⟨sc6, vc⟩ := vc
      refine w_callVI C [pI x3] [] rfl dX5_change_23 (c_X5_isJob C.gi (xL X) x3 s1 sc6) oc_37 mw_X5_isJob ml_X5_79 im_X5_isJob se_X5_isJob (by decide) (Nat.le_of_ble_eq_true rfl) (fun z σ' hz => ?_)
      obtain ⟨hz2, hz⟩ := hz
      have hz2 := hz2.symm
      subst hz2
      rcases hz with ⟨h7, rfl⟩ | ⟨h7, rfl⟩
      · have vc := vc.1 h7
        refine w_if_eq C 34 dX5_change_26 (by decide) ⟨by omega, by omega⟩ (fun q => absurd q (by decide)) (fun _ => ?_)
        refine w_iload_n C 2 dX5_change_29 rfl ?_
        refine w_iload_n C 3 dX5_change_30 rfl ?_
        obtain ⟨⟨sc8, sc9⟩, vc⟩ := vc
        refine w_icmp_ne C 36 dX5_change_31 (by decide) sc8 sc9 (fun h10 => ?_) (fun h10 => ?_)
        · have vc := vc.1 h10
          refine w_iload C 4 dX5_change_36 rfl ?_
          refine w_iconst C dX5_change_38 ?_
          refine w_bipush C dX5_change_39 (by decide) ?_
          obtain ⟨sc11, vc⟩ := vc
          refine w_callSI C [pI x4, pI 0, pI 50] [] rfl dX5_change_41 (c_X5_in C.gi (xL X) x4 0 50 s1 sc11) mw_X5_in ml_X5_75 ss_X5_in (by decide) (Nat.le_of_ble_eq_true rfl) (fun z σ' hz => ?_)
          obtain ⟨hz2, hz⟩ := hz
          have hz2 := hz2.symm
          subst hz2
          rcases hz with ⟨h12, rfl⟩ | ⟨h12, rfl⟩
          · have vc := vc.1 h12
            refine w_if_ne C 50 dX5_change_44 (by decide) ⟨by omega, by omega⟩ (fun _ => ?_) (fun q => absurd q (by decide))
            refine w_aload_n C 0 dX5_change_50 rfl ?_
            refine w_getR C dX5_change_51 gf_X5_32 ob_37 rfl ?_
            refine w_bipush C dX5_change_54 (by decide) ?_
            refine w_iload_n C 1 dX5_change_56 rfl ?_
            refine w_imul C dX5_change_57 ?_
            refine w_bipush C dX5_change_58 (by decide) ?_
            refine w_iload_n C 2 dX5_change_60 rfl ?_
            refine w_imul C dX5_change_61 ?_
            refine w_iadd C dX5_change_62 ?_
            refine w_iload_n C 3 dX5_change_63 rfl ?_
            refine w_iadd C dX5_change_64 ?_
            obtain ⟨⟨sc13, sc14⟩, vc⟩ := vc
            refine w_iald C dX5_change_65 ia_45 sc13 sc14 ?_
            refine w_top (fun v15 hv15 => ?_)
            have vc := vc v15 hv15
            refine w_istore C [(5, pI v15), (0, pR 37), (1, pI x1), (2, pI x2), (3, pI x3), (4, pI x4)] dX5_change_66 (by decide) rfl ?_
            refine w_aload_n C 1 dX5_change_68 rfl ?_
            refine w_getR C dX5_change_69 gf_X5_32 ob_37 rfl ?_
            refine w_bipush C dX5_change_72 (by decide) ?_
            refine w_iload_n C 2 dX5_change_74 rfl ?_
            refine w_imul C dX5_change_75 ?_
            refine w_bipush C dX5_change_76 (by decide) ?_
            refine w_iload_n C 3 dX5_change_78 rfl ?_
            refine w_imul C dX5_change_79 ?_
            refine w_iadd C dX5_change_80 ?_
            refine w_iload_n C 4 dX5_change_81 rfl ?_
            refine w_iadd C dX5_change_82 ?_
            refine w_iload C 5 dX5_change_83 rfl ?_
            obtain ⟨⟨sc16, sc17⟩, vc⟩ := vc
            refine w_iast C dX5_change_85 ia_45 sc16 sc17 ?_
            refine w_mem (fun s18 hs18 => ?_)
            have vc := vc s18 hs18
            refine w_iload C 0 dX5_change_86 rfl ?_
            exact w_ireturn C dX5_change_88 vc
          · have vc := vc.2 h12
            refine w_if_ne C 50 dX5_change_44 (by decide) ⟨by omega, by omega⟩ (fun q => absurd q (by decide)) (fun _ => ?_)
            refine w_bipush C dX5_change_47 (by decide) ?_
            exact w_ireturn C dX5_change_49 vc
        · have vc := vc.2 h10
          refine w_iconst C dX5_change_34 ?_
          exact w_ireturn C dX5_change_35 vc
      · have vc := vc.2 h7
        refine w_if_eq C 34 dX5_change_26 (by decide) ⟨by omega, by omega⟩ (fun _ => ?_) (fun q => absurd q (by decide))
        refine w_iconst C dX5_change_34 ?_
        exact w_ireturn C dX5_change_35 vc
    · have vc := vc.2 h5
      refine w_if_eq C 34 dX5_change_18 (by decide) ⟨by omega, by omega⟩ (fun _ => ?_) (fun q => absurd q (by decide))
      refine w_iconst C dX5_change_34 ?_
      exact w_ireturn C dX5_change_35 vc
  · have vc := vc.2 h3
    refine w_if_eq C 34 dX5_change_10 (by decide) ⟨by omega, by omega⟩ (fun _ => ?_) (fun q => absurd q (by decide))
    refine w_iconst C dX5_change_34 ?_
    exact w_ireturn C dX5_change_35 vc
set_option maxHeartbeats 1000000 in
theorem ok_X5_change_0 {M : Nat} {x1 : Int} {x2 : Int} {x3 : Int} {x4 : Int} {σ : Mem} (h : pre_X5_change M x1 x2 x3 x4 σ) : VC_X5_change_0 M (post_X5_change M x1 x2 x3 x4 σ) x1 x2 x3 x4 σ := by
  obtain ⟨⟨hW, hR⟩, r1, r2, r3, r4⟩ := h
  intro s1 e1
  have f1 : RFr σ s1 := by rw [e1]; exact thr_fr σ 0
  have hR1 := RM_fr f1 hR
  have hn := RM_NB hW hR1
  have hj := hn.2.1
  have hM := hn.1
  have eJ' := isJob_r hR1
  have eM' := isMachine_r hW hR1
  have same : ∀ z, R_change (gh σ) x1 x2 x3 x4 z (gh σ) → post_X5_change M x1 x2 x3 x4 σ z s1 := fun z q => ⟨f1.FM, gh σ, q, hR1⟩
  refine ⟨⟨hn, r1⟩, fun g1 => ⟨⟨hn, r2⟩, fun g2 => ⟨⟨hn, r3⟩, fun g3 => ⟨⟨r2, r3⟩, fun g4 => ⟨⟨r4, ⟨by omega, by omega⟩, ⟨by omega, by omega⟩⟩, fun g5 => ?_, fun g5 => same _ (Or.inr (Or.inl ⟨⟨(eM' _).mp g1, (eJ' _).mp g2, (eJ' _).mp g3, g4⟩, g5, rfl, rfl⟩))⟩, fun g4 => same _ (Or.inl ⟨fun q => q.2.2.2 g4, rfl, rfl⟩)⟩, fun g3 => same _ (Or.inl ⟨fun q => g3 ((eJ' _).mpr q.2.2.1), rfl, rfl⟩)⟩, fun g2 => same _ (Or.inl ⟨fun q => g2 ((eJ' _).mpr q.2.1), rfl, rfl⟩)⟩, fun g1 => same _ (Or.inl ⟨fun q => g1 ((eM' _).mpr q.1), rfl, rfl⟩)⟩
  have b1 := g1.1
  have b1' := g1.2
  have b2 := g2.1
  have b2' := g2.2
  have b3 := g3.1
  have b3' := g3.2
  have ei : 64 * x1 + 8 * x2 + x3 = (x1 * 8 + x2) * 8 + x3 := by omega
  refine ⟨⟨by omega, by omega⟩, fun v15 e15 => ⟨⟨by omega, by omega⟩, fun s18 e18 => ?_⟩⟩
  rw [ei] at e15 e18
  obtain ⟨r1', r2', r3', r4', r5', r6', r7'⟩ := hR1
  have hc : ∀ c : Int, c ≠ 11 → m_X3_setChange x1 x2 x3 x4 (gh σ) c = gh σ c := fun c q => by unfold m_X3_setChange; rw [up_other _ _ _ q]
  have hs : ∀ c : Int, c ≠ 45 → s18 c = s1 c := fun c q => by rw [e18, up_other _ _ _ q]
  refine ⟨f1.FM.trans (fun c hcc => hs c (by omega)), _, Or.inr (Or.inr ⟨⟨(eM' _).mp g1, (eJ' _).mp g2, (eJ' _).mp g3, g4⟩, g5, ?_, rfl⟩), ?_, ?_, ?_, ?_, fun i i0 i1 => ?_, ?_, ?_⟩
  · rw [e15, r5' _ (by omega) (by omega)]
  · rw [hs 37 (by omega)]; exact r1'
  · rw [hs 37 (by omega), hc 1 (by omega)]; exact r2'
  · rw [hs 38 (by omega), hs 39 (by omega), hs 40 (by omega), hs 41 (by omega), hc 2 (by omega), hc 3 (by omega), hc 4 (by omega), hc 5 (by omega)]; exact r3'
  · rw [hs 42 (by omega), hs 43 (by omega), hs 44 (by omega), hc 6 (by omega), hc 7 (by omega), hc 8 (by omega)]; exact r4'
  · rw [e18]
    unfold m_X3_setChange
    simp only [up, true_and]
    rw [r5' i i0 i1]
  · rw [hs 46 (by omega), hc 10 (by omega)]; exact r6'
  · intro m i hi
    unfold inO at hi
    rw [hc 10 (by omega)] at hi
    rw [hs 47 (by omega), hc (57 + m) (by omega)]
    exact r7' m i hi
theorem c_X5_change {G : GG} (hG : GI G) (l : Launch) (x1 : Int) (x2 : Int) (x3 : Int) (x4 : Int) (σ : Mem) (h : pre_X5_change (gM G) x1 x2 x3 x4 σ) : CtI G l yX5_change cX5_change 6 (some .int) 2 [pR 37, pI x1, pI x2, pI x3, pI x4] σ (post_X5_change (gM G) x1 x2 x3 x4 σ) := by
  refine CtI.of hG (by decide) (Nat.le_of_ble_eq_true rfl) (fun X hl C => ?_)
  show RW G X 6 (QI G X _) 0 [(0, pR 37), (1, pI x1), (2, pI x2), (3, pI x3), (4, pI x4)] [] σ
  exact seg_X5_change_0 C x1 x2 x3 x4 σ (ok_X5_change_0 h)

/-! X5_put -/
def pre_X5_put (M : Nat) (x1 x2 : Int) (σ : Mem) : Prop := RP M σ ∧ inR x1 ∧ inR x2
def post_X5_put (M : Nat) (x1 x2 : Int) (σ : Mem) (z : Int) (σ' : Mem) : Prop := FM σ σ' ∧ ∃ a', R_put (gh σ) x1 x2 z a' ∧ RM M a' σ'
def inv_X5_put_67 (M : Nat) (x1 x2 : Int) (σ : Mem) (w3 w4 w5 : Int) (τ : Mem) : Prop := VS (gh σ) x1 ∧ wi x2 0 (gh σ 10 (gh σ 6 x1)) ∧ gh σ 8 x1 = 0 ∧ w3 = pl x1 ∧ w4 = gh σ 6 x1 ∧ x2 ≤ w5 ∧ w5 ≤ gh σ 10 (gh σ 6 x1) ∧ τ = fun c i => if c = 37 ∧ i = 0 then 0 else if c = 47 ∧ 48 * gh σ 6 x1 + w5 < i ∧ i ≤ 48 * gh σ 6 x1 + gh σ 10 (gh σ 6 x1) then σ c (i - 1) else σ c i
def mu_X5_put_67 (x1 x2 : Int) (w3 w4 w5 : Int) (τ : Mem) : Nat := (w5 - x2).toNat
def VC_X5_put_0 (M : Nat) (K67 : Int → Int → Int → Mem → Prop) (post : Int → Mem → Prop) (x1 : Int) (x2 : Int) (σ : Mem) : Prop :=
  ∀ s1 : Mem, s1 = up σ 37 0 0 → (pre_X5_isStep M x1 s1) ∧ ((P_X5_isStep x1 s1 → (pre_X5_placeOf M x1 s1) ∧ ∀ v5 : Int, v5 = f_X5_placeOf x1 s1 → (0 ≤ v5 ∧ v5 < 48) ∧ ∀ v8 : Int, v8 = s1 42 v5 → (0 ≤ v8 ∧ v8 < 5) ∧ (pre_X5_in M x2 0 (s1 46 v8) s1) ∧ ((P_X5_in x2 0 (s1 46 v8) s1 → (0 ≤ v5 ∧ v5 < 48) ∧ (inR (s1 44 v5)) ∧ (((s1 44 v5) = 0 → (0 ≤ v8 ∧ v8 < 5) ∧ ∀ v19 : Int, v19 = s1 46 v8 → K67 v5 v8 v19 s1) ∧ (¬ (s1 44 v5) = 0 → post (-3) s1))) ∧ (¬ P_X5_in x2 0 (s1 46 v8) s1 → post (-2) s1))) ∧ (¬ P_X5_isStep x1 s1 → post (-1) s1))
set_option maxRecDepth 20000 in
set_option maxHeartbeats 4000000 in
theorem seg_X5_put_0 {G : GG} {X : XX} {post : Int → Mem → Prop} (C : CX G X cX5_put RX5 6 (some .int) 3)   (x1 : Int) (x2 : Int) (σ : Mem) (vc : VC_X5_put_0 (gM G) (fun w3 w4 w5 σ => RW G X 6 (QI G X post) 67 [(0, pR 37), (1, pI x1), (2, pI x2), (3, pI w3), (4, pI w4), (5, pI w5)] [] σ) post  x1 x2 σ) : RW G X 6 (QI G X post) 0 [(0, pR 37), (1, pI x1), (2, pI x2)] [] σ := by
  unfold VC_X5_put_0 at vc
  refine w_aload_n C 0 dX5_put_0 rfl ?_
  refine w_iconst C dX5_put_1 ?_
  refine w_putI C 0 dX5_put_2 pf_X5_69 ob_37 rfl rfl ?_
  refine w_mem (fun s1 hs1 => ?_)
  have vc := vc s1 hs1
  refine w_aload_n C 0 dX5_put_5 rfl ?_
  refine w_iload_n C 1 dX5_put_6 rfl ?_
  obtain ⟨sc2, vc⟩ := vc
  refine w_callVI C [pI x1] [] rfl dX5_put_7 (c_X5_isStep C.gi (xL X) x1 s1 sc2) oc_37 mw_X5_isStep ml_X5_86 im_X5_isStep se_X5_isStep (by decide) (Nat.le_of_ble_eq_true rfl) (fun z σ' hz => ?_)
  obtain ⟨hz2, hz⟩ := hz
  have hz2 := hz2.symm
  subst hz2
  rcases hz with ⟨h3, rfl⟩ | ⟨h3, rfl⟩
  · have vc := vc.1 h3
    refine w_if_ne C 15 dX5_put_10 (by decide) ⟨by omega, by omega⟩ (fun _ => ?_) (fun q => absurd q (by decide))
    refine w_iload_n C 1 dX5_put_15 rfl ?_
    obtain ⟨sc4, vc⟩ := vc
    refine w_callSI C [pI x1] [] rfl dX5_put_16 (c_X5_placeOf C.gi (xL X) x1 s1 sc4) mw_X5_placeOf ml_X5_89 ss_X5_placeOf (by decide) (Nat.le_of_ble_eq_true rfl) (fun z σ' hz => ?_)
    obtain ⟨rfl, hz2⟩ := hz
    have hz2 := hz2.symm
    subst hz2
    refine w_top (fun v5 hv5 => ?_)
    have vc := vc v5 hv5
    refine w_istore_n C [(3, pI v5), (0, pR 37), (1, pI x1), (2, pI x2)] dX5_put_19 (by decide) rfl ?_
    refine w_aload_n C 1 dX5_put_20 rfl ?_
    refine w_getR C dX5_put_21 gf_X5_22 ob_37 rfl ?_
    refine w_iload_n C 0 dX5_put_24 rfl ?_
    obtain ⟨⟨sc6, sc7⟩, vc⟩ := vc
    refine w_iald C dX5_put_25 ia_42 sc6 sc7 ?_
    refine w_top (fun v8 hv8 => ?_)
    have vc := vc v8 hv8
    refine w_istore C [(4, pI v8), (3, pI v5), (0, pR 37), (1, pI x1), (2, pI x2)] dX5_put_26 (by decide) rfl ?_
    refine w_iload_n C 4 dX5_put_28 rfl ?_
    refine w_iconst C dX5_put_29 ?_
    refine w_aload_n C 2 dX5_put_30 rfl ?_
    refine w_getR C dX5_put_31 gf_X5_35 ob_37 rfl ?_
    refine w_iload C 0 dX5_put_34 rfl ?_
    obtain ⟨⟨sc9, sc10⟩, vc⟩ := vc
    refine w_iald C dX5_put_36 ia_46 sc9 sc10 ?_
    obtain ⟨sc11, vc⟩ := vc
    refine w_callSI C [pI x2, pI 0, pI (s1 46 v8)] [] rfl dX5_put_37 (c_X5_in C.gi (xL X) x2 0 (s1 46 v8) s1 sc11) mw_X5_in ml_X5_75 ss_X5_in (by decide) (Nat.le_of_ble_eq_true rfl) (fun z σ' hz => ?_)
    obtain ⟨hz2, hz⟩ := hz
    have hz2 := hz2.symm
    subst hz2
    rcases hz with ⟨h12, rfl⟩ | ⟨h12, rfl⟩
    · have vc := vc.1 h12
      refine w_if_ne C 46 dX5_put_40 (by decide) ⟨by omega, by omega⟩ (fun _ => ?_) (fun q => absurd q (by decide))
      refine w_aload_n C 2 dX5_put_46 rfl ?_
      refine w_getR C dX5_put_47 gf_X5_28 ob_37 rfl ?_
      refine w_iload_n C 1 dX5_put_50 rfl ?_
      obtain ⟨⟨sc13, sc14⟩, vc⟩ := vc
      refine w_bald C dX5_put_51 ba_44 sc13 sc14 ?_
      obtain ⟨sc15, vc⟩ := vc
      refine w_if_eq C 58 dX5_put_52 (by decide) sc15 (fun h16 => ?_) (fun h16 => ?_)
      · have vc := vc.1 h16
        refine w_aload_n C 2 dX5_put_58 rfl ?_
        refine w_getR C dX5_put_59 gf_X5_35 ob_37 rfl ?_
        refine w_iload C 0 dX5_put_62 rfl ?_
        obtain ⟨⟨sc17, sc18⟩, vc⟩ := vc
        refine w_iald C dX5_put_64 ia_46 sc17 sc18 ?_
        refine w_top (fun v19 hv19 => ?_)
        have vc := vc v19 hv19
        refine w_istore C [(5, pI v19), (4, pI v8), (3, pI v5), (0, pR 37), (1, pI x1), (2, pI x2)] dX5_put_65 (by decide) rfl ?_
        exact w_sub _ [3, 4, 5, 2, 1, 0] rfl vc
      · have vc := vc.2 h16
        refine w_bipush C dX5_put_55 (by decide) ?_
        exact w_ireturn C dX5_put_57 vc
    · have vc := vc.2 h12
      refine w_if_ne C 46 dX5_put_40 (by decide) ⟨by omega, by omega⟩ (fun q => absurd q (by decide)) (fun _ => ?_)
      refine w_bipush C dX5_put_43 (by decide) ?_
      exact w_ireturn C dX5_put_45 vc
  · have vc := vc.2 h3
    refine w_if_ne C 15 dX5_put_10 (by decide) ⟨by omega, by omega⟩ (fun q => absurd q (by decide)) (fun _ => ?_)
    refine w_iconst C dX5_put_13 ?_
    exact w_ireturn C dX5_put_14 vc
def VC_X5_put_67 (M : Nat) (K67 : Int → Int → Int → Mem → Prop) (post : Int → Mem → Prop) (x1 : Int) (x2 : Int) (w3 : Int) (w4 : Int) (w5 : Int) (σ : Mem) : Prop :=
 (inR w5 ∧ inR x2) ∧ ((w5 ≤ x2 → (0 ≤ ((48 * w4) + x2) ∧ ((48 * w4) + x2) < 240) ∧ ∀ s6 : Mem, s6 = up σ 47 ((48 * w4) + x2) w3 → (0 ≤ w4 ∧ w4 < 5) ∧ (0 ≤ w4 ∧ w4 < 5) ∧ ∀ s11 : Mem, s11 = up s6 46 w4 ((s6 46 w4) + 1) → (0 ≤ w3 ∧ w3 < 48) ∧ ∀ s14 : Mem, s14 = up s11 44 w3 1 → (0 ≤ w4 ∧ w4 < 5) ∧ post (s14 46 w4) s14) ∧ (x2 < w5 → (0 ≤ (((48 * w4) + w5) - 1) ∧ (((48 * w4) + w5) - 1) < 240) ∧ (0 ≤ ((48 * w4) + w5) ∧ ((48 * w4) + w5) < 240) ∧ ∀ s21 : Mem, s21 = up σ 47 ((48 * w4) + w5) (σ 47 (((48 * w4) + w5) - 1)) → K67 w3 w4 (w5 + (-1)) s21))
set_option maxRecDepth 20000 in
set_option maxHeartbeats 4000000 in
theorem seg_X5_put_67 {G : GG} {X : XX} {post : Int → Mem → Prop} (C : CX G X cX5_put RX5 6 (some .int) 3)   (x1 : Int) (x2 : Int) (w3 : Int) (w4 : Int) (w5 : Int) (σ : Mem) (vc : VC_X5_put_67 (gM G) (fun w3 w4 w5 σ => RW G X 6 (QI G X post) 67 [(0, pR 37), (1, pI x1), (2, pI x2), (3, pI w3), (4, pI w4), (5, pI w5)] [] σ) post  x1 x2 w3 w4 w5 σ) : RW G X 6 (QI G X post) 67 [(0, pR 37), (1, pI x1), (2, pI x2), (3, pI w3), (4, pI w4), (5, pI w5)] [] σ := by
  unfold VC_X5_put_67 at vc
  refine w_iload C 5 dX5_put_67 rfl ?_
  refine w_iload_n C 2 dX5_put_69 rfl ?_
  obtain ⟨⟨sc1, sc2⟩, vc⟩ := vc
  refine w_icmp_le C 107 dX5_put_70 (by decide) sc1 sc2 (fun h3 => ?_) (fun h3 => ?_)
  · have vc := vc.1 h3
    refine w_aload_n C 0 dX5_put_107 rfl ?_
    refine w_getR C dX5_put_108 gf_X5_38 ob_37 rfl ?_
    refine w_bipush C dX5_put_111 (by decide) ?_
    refine w_iload C 4 dX5_put_113 rfl ?_
    refine w_imul C dX5_put_115 ?_
    refine w_iload_n C 2 dX5_put_116 rfl ?_
    refine w_iadd C dX5_put_117 ?_
    refine w_iload_n C 3 dX5_put_118 rfl ?_
    obtain ⟨⟨sc4, sc5⟩, vc⟩ := vc
    refine w_iast C dX5_put_119 ia_47 sc4 sc5 ?_
    refine w_mem (fun s6 hs6 => ?_)
    have vc := vc s6 hs6
    refine w_aload_n C 0 dX5_put_120 rfl ?_
    refine w_getR C dX5_put_121 gf_X5_35 ob_37 rfl ?_
    refine w_iload C 4 dX5_put_124 rfl ?_
    refine w_dup2 C dX5_put_126 rfl rfl ?_
    obtain ⟨⟨sc7, sc8⟩, vc⟩ := vc
    refine w_iald C dX5_put_127 ia_46 sc7 sc8 ?_
    refine w_iconst C dX5_put_128 ?_
    refine w_iadd C dX5_put_129 ?_
    obtain ⟨⟨sc9, sc10⟩, vc⟩ := vc
    refine w_iast C dX5_put_130 ia_46 sc9 sc10 ?_
    refine w_mem (fun s11 hs11 => ?_)
    have vc := vc s11 hs11
    refine w_aload_n C 0 dX5_put_131 rfl ?_
    refine w_getR C dX5_put_132 gf_X5_28 ob_37 rfl ?_
    refine w_iload_n C 3 dX5_put_135 rfl ?_
    refine w_iconst C dX5_put_136 ?_
    obtain ⟨⟨sc12, sc13⟩, vc⟩ := vc
    refine w_bast C dX5_put_137 ba_44 sc12 sc13 (Or.inr rfl) ?_
    refine w_mem (fun s14 hs14 => ?_)
    have vc := vc s14 hs14
    refine w_aload_n C 0 dX5_put_138 rfl ?_
    refine w_getR C dX5_put_139 gf_X5_35 ob_37 rfl ?_
    refine w_iload C 4 dX5_put_142 rfl ?_
    obtain ⟨⟨sc15, sc16⟩, vc⟩ := vc
    refine w_iald C dX5_put_144 ia_46 sc15 sc16 ?_
    exact w_ireturn C dX5_put_145 vc
  · have vc := vc.2 h3
    refine w_aload_n C 0 dX5_put_73 rfl ?_
    refine w_getR C dX5_put_74 gf_X5_38 ob_37 rfl ?_
    refine w_bipush C dX5_put_77 (by decide) ?_
    refine w_iload C 4 dX5_put_79 rfl ?_
    refine w_imul C dX5_put_81 ?_
    refine w_iload C 5 dX5_put_82 rfl ?_
    refine w_iadd C dX5_put_84 ?_
    refine w_aload_n C 0 dX5_put_85 rfl ?_
    refine w_getR C dX5_put_86 gf_X5_38 ob_37 rfl ?_
    refine w_bipush C dX5_put_89 (by decide) ?_
    refine w_iload C 4 dX5_put_91 rfl ?_
    refine w_imul C dX5_put_93 ?_
    refine w_iload C 5 dX5_put_94 rfl ?_
    refine w_iadd C dX5_put_96 ?_
    refine w_iconst C dX5_put_97 ?_
    refine w_isub C dX5_put_98 ?_
    obtain ⟨⟨sc17, sc18⟩, vc⟩ := vc
    refine w_iald C dX5_put_99 ia_47 sc17 sc18 ?_
    obtain ⟨⟨sc19, sc20⟩, vc⟩ := vc
    refine w_iast C dX5_put_100 ia_47 sc19 sc20 ?_
    refine w_mem (fun s21 hs21 => ?_)
    have vc := vc s21 hs21
    refine w_iinc C 5 [(5, pI (w5 + (-1))), (0, pR 37), (1, pI x1), (2, pI x2), (3, pI w3), (4, pI w4)] dX5_put_101 rfl (by decide) rfl ?_
    refine w_goto C 67 dX5_put_104 (by decide) ?_
    exact w_sub _ [1, 2, 3, 4, 5, 0] rfl vc
set_option maxHeartbeats 1000000 in
theorem ok_X5_put_0 {M : Nat} {x1 : Int} {x2 : Int} {σ : Mem} {K67 : Int → Int → Int → Mem → Prop} (h : pre_X5_put M x1 x2 σ) (hK67 : ∀ (y3 y4 y5 : Int) (τ' : Mem), inv_X5_put_67 M x1 x2 σ y3 y4 y5 τ' → K67 y3 y4 y5 τ') : VC_X5_put_0 M K67 (post_X5_put M x1 x2 σ) x1 x2 σ := by
  obtain ⟨⟨hW, hR⟩, r1, r2⟩ := h
  intro s1 e1
  have f1 : RFr σ s1 := by rw [e1]; exact thr_fr σ 0
  have hR1 := RM_fr f1 hR
  have hn := RM_NB hW hR1
  have eV := VS_r hW hR1 x1
  have same : ∀ z, R_put (gh σ) x1 x2 z (gh σ) → post_X5_put M x1 x2 σ z s1 := fun z q => ⟨f1.FM, gh σ, q, hR1⟩
  refine ⟨⟨hn, r1⟩, fun g1 => ?_, fun g1 => same _ (Or.inl ⟨fun q => g1 (eV.mp q), rfl, rfl⟩)⟩
  have g1' : VS (gh σ) x1 := eV.mpr g1
  have hp := pl_in hW.1.1 g1'
  have hat := at_pl hW hR1 g1'
  obtain ⟨hm, hz⟩ := sz_in hW g1'
  have hM := hn.1
  refine ⟨⟨g1.1, r1⟩, fun v5 e5 => ?_⟩
  subst e5
  refine ⟨⟨hp.1, hp.2.1⟩, fun v8 e8 => ?_⟩
  have e8' : v8 = gh σ 6 x1 := e8.trans hat.1
  subst e8'
  have e46 : s1 46 (gh σ 6 x1) = gh σ 10 (gh σ 6 x1) := hR1.2.2.2.2.2.1 _ hm.1 hm.2
  have e44 : s1 44 (f_X5_placeOf x1 s1) = gh σ 8 x1 := hat.2.2
  refine ⟨⟨hm.1, by omega⟩, ⟨r2, ⟨by omega, by omega⟩, by rw [e46]; exact ⟨by omega, by omega⟩⟩, fun g2 => ⟨⟨hp.1, hp.2.1⟩, ?_, fun g3 => ⟨⟨hm.1, by omega⟩, fun v19 e19 => hK67 _ _ _ _ ⟨g1', by rw [← e46]; exact g2, by rw [← e44]; exact g3, rfl, rfl, ?_, by rw [e19, e46]; exact Int.le_refl _, ?_⟩⟩, fun g3 => same _ (Or.inr (Or.inr (Or.inl ⟨g1', by rw [← e46]; exact g2, by rw [← e44]; exact g3, rfl, rfl⟩)))⟩, fun g2 => same _ (Or.inr (Or.inl ⟨g1', by rw [← e46]; exact g2, rfl, rfl⟩))⟩
  · have := (hn.2.2.2.2.1 (pl x1) hp.1 hp.2.1).2.2
    have e : s1 44 (f_X5_placeOf x1 s1) = s1 44 (pl x1) := rfl
    rw [e]
    rcases this with q | q <;> rw [q] <;> exact ⟨by omega, by omega⟩
  · rw [e19]; exact g2.2
  · rw [e1, e19, e46]
    funext c i
    simp only [up]
    by_cases q : c = 37 ∧ i = 0
    · rw [if_pos q, if_pos q]
    · rw [if_neg q, if_neg q, if_neg (by omega)]
set_option maxHeartbeats 1000000 in
theorem ok_X5_put_67 {M : Nat} {x1 : Int} {x2 : Int} {σ : Mem} {w3 w4 w5 : Int} {τ : Mem} {K67 : Int → Int → Int → Mem → Prop} (h : pre_X5_put M x1 x2 σ) (hinv : inv_X5_put_67 M x1 x2 σ w3 w4 w5 τ) (hK67 : ∀ (y3 y4 y5 : Int) (τ' : Mem), inv_X5_put_67 M x1 x2 σ y3 y4 y5 τ' → mu_X5_put_67 x1 x2 y3 y4 y5 τ' < mu_X5_put_67 x1 x2 w3 w4 w5 τ → K67 y3 y4 y5 τ') : VC_X5_put_67 M K67 (post_X5_put M x1 x2 σ) x1 x2 w3 w4 w5 τ := by
  obtain ⟨⟨hW, hR⟩, r1, r2⟩ := h
  obtain ⟨g1, g2, g3, rfl, rfl, i1, i2, rfl⟩ := hinv
  have hp := pl_in hW.1.1 g1
  obtain ⟨hm, hz⟩ := sz_in hW g1
  have hM := (RM_NB hW hR).1
  have hlt := size_lt hW g1 g3 hm.1 hm.2
  have g20 := g2.1
  have g21 := g2.2
  refine ⟨⟨⟨by omega, by omega⟩, ⟨by omega, by omega⟩⟩, fun g => ?_, fun g => ⟨⟨by omega, by omega⟩, ⟨by omega, by omega⟩, fun s21 e21 => hK67 _ _ _ _ ⟨g1, g2, g3, rfl, rfl, by omega, by omega, ?_⟩ (by unfold mu_X5_put_67; omega)⟩⟩
  · have e5 : w5 = x2 := by omega
    subst e5
    refine ⟨⟨by omega, by omega⟩, fun s6 e6 => ⟨⟨hm.1, by omega⟩, ⟨hm.1, by omega⟩, fun s11 e11 => ⟨⟨hp.1, hp.2.1⟩, fun s14 e14 => ⟨⟨hm.1, by omega⟩, ?_⟩⟩⟩⟩
    have hac : ∀ c i, s14 c i = if c = 37 ∧ i = 0 then 0 else if c = 44 ∧ i = pl x1 then 1 else if c = 46 ∧ i = gh σ 6 x1 then σ 46 i + 1 else if c = 47 ∧ i = 48 * gh σ 6 x1 + w5 then pl x1 else if c = 47 ∧ 48 * gh σ 6 x1 + w5 < i ∧ i ≤ 48 * gh σ 6 x1 + gh σ 10 (gh σ 6 x1) then σ c (i - 1) else σ c i := by
      intro c i
      rw [e14, e11, e6]
      simp only [up]
      grind
    obtain ⟨r1', r2', r3', r4', r5', r6', r7'⟩ := hR
    obtain ⟨af, a1, a8, a10, ar, -⟩ := ins_acc x1 w5 (gh σ) hm.1
    have hcc : ∀ c : Int, c ≠ 37 → c ≠ 44 → c ≠ 46 → c ≠ 47 → s14 c = σ c := fun c c1 c2 c3 c4 => by
      funext i
      rw [hac, if_neg (fun z => c1 z.1), if_neg (fun z => c2 z.1), if_neg (fun z => c3 z.1), if_neg (fun z => c4 z.1), if_neg (fun z => c4 z.1)]
    have h37 : ∀ i : Int, i ≠ 0 → s14 37 i = σ 37 i := fun i q => by
      rw [hac, if_neg (fun z => q z.2), if_neg (by omega), if_neg (by omega), if_neg (by omega), if_neg (by omega)]
    have h46 : ∀ i, s14 46 i = if i = gh σ 6 x1 then σ 46 i + 1 else σ 46 i := fun i => by
      rw [hac, if_neg (by omega), if_neg (by omega)]
      by_cases q : i = gh σ 6 x1
      · rw [if_pos ⟨rfl, q⟩, if_pos q]
      · rw [if_neg (fun z => q z.2), if_neg q, if_neg (by omega), if_neg (by omega)]
    refine ⟨fun c hc => hcc c (by omega) (by omega) (by omega) (by omega), _, Or.inr (Or.inr (Or.inr ⟨g1, g2, g3, ?_, rfl⟩)), ?_, ?_, ?_, fun k k0 k1 => ?_, ?_, fun m m0 m1 => ?_, fun m i hi => ?_⟩
    · rw [h46, if_pos rfl, r6' _ hm.1 hm.2]
    · rw [h37 1 (by omega)]; exact r1'
    · rw [h37 2 (by omega), a1]; simpa using r2'
    · rw [hcc 38 (by omega) (by omega) (by omega) (by omega), hcc 39 (by omega) (by omega) (by omega) (by omega), hcc 40 (by omega) (by omega) (by omega) (by omega), hcc 41 (by omega) (by omega) (by omega) (by omega), af 2 (by omega), af 3 (by omega), af 4 (by omega), af 5 (by omega)]; exact r3'
    · rw [hcc 42 (by omega) (by omega) (by omega) (by omega), hcc 43 (by omega) (by omega) (by omega) (by omega), af 6 (by omega), af 7 (by omega), a8]
      have := r4' k k0 k1
      refine ⟨this.1, this.2.1, ?_⟩
      rw [hac, if_neg (by omega)]
      by_cases q : k = pl x1
      · rw [if_pos ⟨rfl, q⟩, if_pos (by rw [q]; exact hp.2.2.1)]
      · have q2 : ¬ tl k = x1 := fun z => q (by rw [← z, pl_tl k0])
        rw [if_neg (fun z => q z.2), if_neg (by omega), if_neg (by omega), if_neg (by omega), if_neg q2]
        exact this.2.2
    · rw [hcc 45 (by omega) (by omega) (by omega) (by omega), af 11 (by omega)]; exact r5'
    · rw [h46, a10, r6' m m0 m1]
    · obtain ⟨m0, m1, i0, i1'⟩ := hi
      rw [a10] at i1'
      rw [ar m i m0, hac, if_neg (by omega), if_neg (by omega), if_neg (by omega)]
      have hzm := hW.1.1.2.2.2.2.2 m m0 m1
      by_cases em : m = gh σ 6 x1
      · rw [if_pos em] at i1'
        rw [if_pos em]
        subst em
        by_cases q : i = w5
        · rw [if_pos ⟨rfl, by omega⟩, if_pos q]
        · rw [if_neg (by omega), if_neg q]
          by_cases q2 : w5 < i ∧ i ≤ gh σ 10 (gh σ 6 x1)
          · rw [if_pos ⟨rfl, by omega, by omega⟩, if_pos q2, show 48 * gh σ 6 x1 + i - 1 = 48 * gh σ 6 x1 + (i - 1) by omega]
            exact r7' _ _ ⟨m0, m1, by omega, by omega⟩
          · rw [if_neg (by omega), if_neg q2]
            exact r7' _ _ ⟨m0, m1, i0, by omega⟩
      · rw [if_neg em] at i1'
        rw [if_neg em, if_neg (by omega), if_neg (by omega)]
        exact r7' _ _ ⟨m0, m1, i0, i1'⟩
  · rw [e21]
    funext c i
    simp only [up]
    have hm1 := hm.1

    grind
theorem c_X5_put {G : GG} (hG : GI G) (l : Launch) (x1 : Int) (x2 : Int) (σ : Mem) (h : pre_X5_put (gM G) x1 x2 σ) : CtI G l yX5_put cX5_put 6 (some .int) 3 [pR 37, pI x1, pI x2] σ (post_X5_put (gM G) x1 x2 σ) := by
  refine CtI.of hG (by decide) (Nat.le_of_ble_eq_true rfl) (fun X hl C => ?_)
  show RW G X 6 (QI G X _) 0 [(0, pR 37), (1, pI x1), (2, pI x2)] [] σ
  have key : ∀ n : Nat, (∀ (w3 w4 w5 : Int) (τ : Mem), inv_X5_put_67 (gM G) x1 x2 σ w3 w4 w5 τ → mu_X5_put_67 x1 x2 w3 w4 w5 τ < n → RW G X 6 (QI G X (post_X5_put (gM G) x1 x2 σ)) 67 [(0, pR 37), (1, pI x1), (2, pI x2), (3, pI w3), (4, pI w4), (5, pI w5)] [] τ) := by
    intro n
    induction n with
    | zero => exact fun w3 w4 w5 τ _ h0 => absurd h0 (Nat.not_lt_zero _)
    | succ n ih =>
      exact (fun w3 w4 w5 τ hinv h0 => seg_X5_put_67 C x1 x2 w3 w4 w5 τ (ok_X5_put_67 h hinv (fun y3 y4 y5 τ' hi hm => ih y3 y4 y5 τ' hi (Nat.lt_of_lt_of_le hm (Nat.le_of_lt_succ h0)))))
  exact seg_X5_put_0 C x1 x2 σ (ok_X5_put_0 h (fun y3 y4 y5 τ' hi => (key _) y3 y4 y5 τ' hi (Nat.lt_succ_self _)))

/-! X5_whereIs -/
def pre_X5_whereIs (M : Nat) (x1 : Int) (σ : Mem) : Prop := NB M σ ∧ 0 ≤ x1 ∧ x1 < 48 ∧ ∃ i, 0 ≤ i ∧ i < σ 46 (σ 42 x1) ∧ σ 47 (48 * σ 42 x1 + i) = x1
def post_X5_whereIs (M : Nat) (x1 : Int) (σ : Mem) (z : Int) (σ' : Mem) : Prop := σ' = σ ∧ 0 ≤ z ∧ z < σ 46 (σ 42 x1) ∧ σ 47 (48 * σ 42 x1 + z) = x1
def inv_X5_whereIs_9 (M : Nat) (x1 : Int) (σ : Mem) (w2 w3 : Int) (τ : Mem) : Prop := τ = σ ∧ w2 = σ 42 x1 ∧ 0 ≤ w3 ∧ w3 ≤ 48 ∧ ∀ i, 0 ≤ i → i < w3 → σ 47 (48 * σ 42 x1 + i) ≠ x1
def mu_X5_whereIs_9 (x1 : Int) (w2 w3 : Int) (τ : Mem) : Nat := (60 - w3).toNat
def VC_X5_whereIs_0 (M : Nat) (K9 : Int → Int → Mem → Prop) (post : Int → Mem → Prop) (x1 : Int) (σ : Mem) : Prop :=
 (0 ≤ x1 ∧ x1 < 48) ∧ ∀ v3 : Int, v3 = σ 42 x1 → K9 v3 0 σ
set_option maxRecDepth 20000 in
set_option maxHeartbeats 4000000 in
theorem seg_X5_whereIs_0 {G : GG} {X : XX} {post : Int → Mem → Prop} (C : CX G X cX5_whereIs RX5 4 (some .int) 0)   (x1 : Int) (σ : Mem) (vc : VC_X5_whereIs_0 (gM G) (fun w2 w3 σ => RW G X 4 (QI G X post) 9 [(0, pR 37), (1, pI x1), (2, pI w2), (3, pI w3)] [] σ) post  x1 σ) : RW G X 4 (QI G X post) 0 [(0, pR 37), (1, pI x1)] [] σ := by
  unfold VC_X5_whereIs_0 at vc
  refine w_aload_n C 0 dX5_whereIs_0 rfl ?_
  refine w_getR C dX5_whereIs_1 gf_X5_22 ob_37 rfl ?_
  refine w_iload_n C 1 dX5_whereIs_4 rfl ?_
  obtain ⟨⟨sc1, sc2⟩, vc⟩ := vc
  refine w_iald C dX5_whereIs_5 ia_42 sc1 sc2 ?_
  refine w_top (fun v3 hv3 => ?_)
  have vc := vc v3 hv3
  refine w_istore_n C [(2, pI v3), (0, pR 37), (1, pI x1)] dX5_whereIs_6 (by decide) rfl ?_
  refine w_iconst C dX5_whereIs_7 ?_
  refine w_istore_n C [(3, pI 0), (2, pI v3), (0, pR 37), (1, pI x1)] dX5_whereIs_8 (by decide) rfl ?_
  exact w_sub _ [2, 3, 1, 0] rfl vc
def VC_X5_whereIs_9 (M : Nat) (K9 : Int → Int → Mem → Prop) (post : Int → Mem → Prop) (x1 : Int) (w2 : Int) (w3 : Int) (σ : Mem) : Prop :=
 (0 ≤ ((48 * w2) + w3) ∧ ((48 * w2) + w3) < 240) ∧ (inR (σ 47 ((48 * w2) + w3)) ∧ inR x1) ∧ (((σ 47 ((48 * w2) + w3)) = x1 → post w3 σ) ∧ (¬ (σ 47 ((48 * w2) + w3)) = x1 → K9 w2 (w3 + 1) σ))
set_option maxRecDepth 20000 in
set_option maxHeartbeats 4000000 in
theorem seg_X5_whereIs_9 {G : GG} {X : XX} {post : Int → Mem → Prop} (C : CX G X cX5_whereIs RX5 4 (some .int) 0)   (x1 : Int) (w2 : Int) (w3 : Int) (σ : Mem) (vc : VC_X5_whereIs_9 (gM G) (fun w2 w3 σ => RW G X 4 (QI G X post) 9 [(0, pR 37), (1, pI x1), (2, pI w2), (3, pI w3)] [] σ) post  x1 w2 w3 σ) : RW G X 4 (QI G X post) 9 [(0, pR 37), (1, pI x1), (2, pI w2), (3, pI w3)] [] σ := by
  unfold VC_X5_whereIs_9 at vc
  refine w_aload_n C 0 dX5_whereIs_9 rfl ?_
  refine w_getR C dX5_whereIs_10 gf_X5_38 ob_37 rfl ?_
  refine w_bipush C dX5_whereIs_13 (by decide) ?_
  refine w_iload_n C 2 dX5_whereIs_15 rfl ?_
  refine w_imul C dX5_whereIs_16 ?_
  refine w_iload_n C 3 dX5_whereIs_17 rfl ?_
  refine w_iadd C dX5_whereIs_18 ?_
  obtain ⟨⟨sc1, sc2⟩, vc⟩ := vc
  refine w_iald C dX5_whereIs_19 ia_47 sc1 sc2 ?_
  refine w_iload_n C 1 dX5_whereIs_20 rfl ?_
  obtain ⟨⟨sc3, sc4⟩, vc⟩ := vc
  refine w_icmp_eq C 30 dX5_whereIs_21 (by decide) sc3 sc4 (fun h5 => ?_) (fun h5 => ?_)
  · have vc := vc.1 h5
    refine w_iload_n C 3 dX5_whereIs_30 rfl ?_
    exact w_ireturn C dX5_whereIs_31 vc
  · have vc := vc.2 h5
    refine w_iinc C 3 [(3, pI (w3 + 1)), (0, pR 37), (1, pI x1), (2, pI w2)] dX5_whereIs_24 rfl (by decide) rfl ?_
    refine w_goto C 9 dX5_whereIs_27 (by decide) ?_
    exact w_sub _ [1, 2, 3, 0] rfl vc
set_option maxHeartbeats 1000000 in
theorem ok_X5_whereIs_0 {M : Nat} {x1 : Int} {σ : Mem} {K9 : Int → Int → Mem → Prop} (h : pre_X5_whereIs M x1 σ) (hK9 : ∀ (y2 y3 : Int) (τ' : Mem), inv_X5_whereIs_9 M x1 σ y2 y3 τ' → K9 y2 y3 τ') : VC_X5_whereIs_0 M K9 (post_X5_whereIs M x1 σ) x1 σ := by
  obtain ⟨hn, x0, x48, -⟩ := h
  exact ⟨⟨x0, x48⟩, fun v e => hK9 _ _ _ ⟨rfl, e, by omega, by omega, fun i h0 h1 => by omega⟩⟩
set_option maxHeartbeats 1000000 in
theorem ok_X5_whereIs_9 {M : Nat} {x1 : Int} {σ : Mem} {w2 w3 : Int} {τ : Mem} {K9 : Int → Int → Mem → Prop} (h : pre_X5_whereIs M x1 σ) (hinv : inv_X5_whereIs_9 M x1 σ w2 w3 τ) (hK9 : ∀ (y2 y3 : Int) (τ' : Mem), inv_X5_whereIs_9 M x1 σ y2 y3 τ' → mu_X5_whereIs_9 x1 y2 y3 τ' < mu_X5_whereIs_9 x1 w2 w3 τ → K9 y2 y3 τ') : VC_X5_whereIs_9 M K9 (post_X5_whereIs M x1 σ) x1 w2 w3 τ := by
  obtain ⟨hn, x0, x48, i, i0, i1, i2⟩ := h
  obtain ⟨rfl, rfl, j0, j1, j2⟩ := hinv
  have hk := (hn.2.2.2.2.1 x1 x0 x48).1
  have hz := hn.2.2.2.1 _ hk.1 hk.2
  have hM := hn.1
  have hle : w3 ≤ i := by
    apply Int.not_lt.mp
    intro q
    exact j2 i i0 q i2
  have he := hn.2.2.2.2.2 _ w3 hk.1 hk.2 j0 (by omega)
  refine ⟨⟨by omega, by omega⟩, ⟨⟨by omega, by omega⟩, ⟨by omega, by omega⟩⟩, fun g => ⟨rfl, j0, by omega, g⟩, fun g => hK9 _ _ _ ⟨rfl, rfl, by omega, by omega, fun k k0 k1 => ?_⟩ (by unfold mu_X5_whereIs_9; omega)⟩
  by_cases e : k = w3
  · subst e; exact g
  · exact j2 k k0 (by omega)
theorem c_X5_whereIs {G : GG} (hG : GI G) (l : Launch) (x1 : Int) (σ : Mem) (h : pre_X5_whereIs (gM G) x1 σ) : CtI G l yX5_whereIs cX5_whereIs 4 (some .int) 0 [pR 37, pI x1] σ (post_X5_whereIs (gM G) x1 σ) := by
  refine CtI.of hG (by decide) (Nat.le_of_ble_eq_true rfl) (fun X hl C => ?_)
  show RW G X 4 (QI G X _) 0 [(0, pR 37), (1, pI x1)] [] σ
  have key : ∀ n : Nat, (∀ (w2 w3 : Int) (τ : Mem), inv_X5_whereIs_9 (gM G) x1 σ w2 w3 τ → mu_X5_whereIs_9 x1 w2 w3 τ < n → RW G X 4 (QI G X (post_X5_whereIs (gM G) x1 σ)) 9 [(0, pR 37), (1, pI x1), (2, pI w2), (3, pI w3)] [] τ) := by
    intro n
    induction n with
    | zero => exact fun w2 w3 τ _ h0 => absurd h0 (Nat.not_lt_zero _)
    | succ n ih =>
      exact (fun w2 w3 τ hinv h0 => seg_X5_whereIs_9 C x1 w2 w3 τ (ok_X5_whereIs_9 h hinv (fun y2 y3 τ' hi hm => ih y2 y3 τ' hi (Nat.lt_of_lt_of_le hm (Nat.le_of_lt_succ h0)))))
  exact seg_X5_whereIs_0 C x1 σ (ok_X5_whereIs_0 h (fun y2 y3 τ' hi => (key _) y2 y3 τ' hi (Nat.lt_succ_self _)))

/-! X5_take -/
def pre_X5_take (M : Nat) (x1 : Int) (σ : Mem) : Prop := RP M σ ∧ inR x1
def post_X5_take (M : Nat) (x1 : Int) (σ : Mem) (z : Int) (σ' : Mem) : Prop := FM σ σ' ∧ ∃ a', R_take (gh σ) x1 z a' ∧ RM M a' σ'
def inv_X5_take_60 (M : Nat) (x1 : Int) (σ : Mem) (w2 w3 w4 w5 : Int) (τ : Mem) : Prop := VS (gh σ) x1 ∧ ¬ gh σ 8 x1 = 0 ∧ w2 = pl x1 ∧ w3 = gh σ 6 x1 ∧ 0 ≤ w4 ∧ w4 ≤ w5 ∧ w5 < gh σ 10 (gh σ 6 x1) ∧ gh σ (57 + gh σ 6 x1) w4 = x1 ∧ τ = fun c i => if c = 37 ∧ i = 0 then 0 else if c = 46 ∧ i = gh σ 6 x1 then σ 46 i - 1 else if c = 47 ∧ 48 * gh σ 6 x1 + w4 ≤ i ∧ i < 48 * gh σ 6 x1 + w5 then σ c (i + 1) else σ c i
def mu_X5_take_60 (x1 : Int) (w2 w3 w4 w5 : Int) (τ : Mem) : Nat := (60 - w5).toNat
theorem put_where {M : Nat} {a σ : Mem} (h : WF M a) (r : RM M a σ) {s : Int} (hs : VS a s) (h8 : a 8 s = 1) : pre_X5_whereIs M (pl s) σ := by
  have hp := pl_in h.1.1 hs
  obtain ⟨hm, hz⟩ := sz_in h hs
  have hat := at_pl h r hs
  obtain ⟨i, i0, i1, i2⟩ := h.2.2.2.1 s hs h8
  refine ⟨RM_NB h r, hp.1, hp.2.1, i, i0, ?_, ?_⟩
  · rw [hat.1, r.2.2.2.2.2.1 _ hm.1 hm.2]; exact i1
  · rw [hat.1, r.2.2.2.2.2.2 _ i ⟨hm.1, hm.2, i0, i1⟩, i2]
theorem where_r {M : Nat} {a σ σ' : Mem} (h : WF M a) (r : RM M a σ) {s z : Int} (hs : VS a s) (x : post_X5_whereIs M (pl s) σ z σ') : σ' = σ ∧ 0 ≤ z ∧ z < a 10 (a 6 s) ∧ a (57 + a 6 s) z = s := by
  obtain ⟨x1, x2, x3, x4⟩ := x
  obtain ⟨hm, hz⟩ := sz_in h hs
  have hat := at_pl h r hs
  rw [hat.1, r.2.2.2.2.2.1 _ hm.1 hm.2] at x3
  have hi : inO M a (a 6 s) z := ⟨hm.1, hm.2, x2, x3⟩
  rw [hat.1, r.2.2.2.2.2.2 _ z hi] at x4
  exact ⟨x1, x2, x3, pl_inj h.1.1 (inO_VS h.1 h.2.1 hi).1 hs x4⟩
def VC_X5_take_0 (M : Nat) (K60 : Int → Int → Int → Int → Mem → Prop) (post : Int → Mem → Prop) (x1 : Int) (σ : Mem) : Prop :=
  ∀ s1 : Mem, s1 = up σ 37 0 0 → (pre_X5_isStep M x1 s1) ∧ ((P_X5_isStep x1 s1 → (pre_X5_placeOf M x1 s1) ∧ ∀ v5 : Int, v5 = f_X5_placeOf x1 s1 → (0 ≤ v5 ∧ v5 < 48) ∧ ∀ v8 : Int, v8 = s1 42 v5 → (0 ≤ v5 ∧ v5 < 48) ∧ (inR (s1 44 v5)) ∧ ((¬ (s1 44 v5) = 0 → (pre_X5_whereIs M v5 s1) ∧ ∀ (z15 : Int) (s14 : Mem), post_X5_whereIs M v5 s1 z15 s14 → (0 ≤ v8 ∧ v8 < 5) ∧ (0 ≤ v8 ∧ v8 < 5) ∧ ∀ s20 : Mem, s20 = up s14 46 v8 ((s14 46 v8) - 1) → K60 v5 v8 z15 z15 s20) ∧ ((s1 44 v5) = 0 → post (-3) s1))) ∧ (¬ P_X5_isStep x1 s1 → post (-1) s1))
set_option maxRecDepth 20000 in
set_option maxHeartbeats 4000000 in
theorem seg_X5_take_0 {G : GG} {X : XX} {post : Int → Mem → Prop} (C : CX G X cX5_take RX5 6 (some .int) 3)   (x1 : Int) (σ : Mem) (vc : VC_X5_take_0 (gM G) (fun w2 w3 w4 w5 σ => RW G X 6 (QI G X post) 60 [(0, pR 37), (1, pI x1), (2, pI w2), (3, pI w3), (4, pI w4), (5, pI w5)] [] σ) post  x1 σ) : RW G X 6 (QI G X post) 0 [(0, pR 37), (1, pI x1)] [] σ := by
  unfold VC_X5_take_0 at vc
  refine w_aload_n C 0 dX5_take_0 rfl ?_
  refine w_iconst C dX5_take_1 ?_
  refine w_putI C 0 dX5_take_2 pf_X5_69 ob_37 rfl rfl ?_
  refine w_mem (fun s1 hs1 => ?_)
  have vc := vc s1 hs1
  refine w_aload_n C 0 dX5_take_5 rfl ?_
  refine w_iload_n C 1 dX5_take_6 rfl ?_
  obtain ⟨sc2, vc⟩ := vc
  refine w_callVI C [pI x1] [] rfl dX5_take_7 (c_X5_isStep C.gi (xL X) x1 s1 sc2) oc_37 mw_X5_isStep ml_X5_86 im_X5_isStep se_X5_isStep (by decide) (Nat.le_of_ble_eq_true rfl) (fun z σ' hz => ?_)
  obtain ⟨hz2, hz⟩ := hz
  have hz2 := hz2.symm
  subst hz2
  rcases hz with ⟨h3, rfl⟩ | ⟨h3, rfl⟩
  · have vc := vc.1 h3
    refine w_if_ne C 15 dX5_take_10 (by decide) ⟨by omega, by omega⟩ (fun _ => ?_) (fun q => absurd q (by decide))
    refine w_iload_n C 1 dX5_take_15 rfl ?_
    obtain ⟨sc4, vc⟩ := vc
    refine w_callSI C [pI x1] [] rfl dX5_take_16 (c_X5_placeOf C.gi (xL X) x1 s1 sc4) mw_X5_placeOf ml_X5_89 ss_X5_placeOf (by decide) (Nat.le_of_ble_eq_true rfl) (fun z σ' hz => ?_)
    obtain ⟨rfl, hz2⟩ := hz
    have hz2 := hz2.symm
    subst hz2
    refine w_top (fun v5 hv5 => ?_)
    have vc := vc v5 hv5
    refine w_istore_n C [(2, pI v5), (0, pR 37), (1, pI x1)] dX5_take_19 (by decide) rfl ?_
    refine w_aload_n C 1 dX5_take_20 rfl ?_
    refine w_getR C dX5_take_21 gf_X5_22 ob_37 rfl ?_
    refine w_iload_n C 0 dX5_take_24 rfl ?_
    obtain ⟨⟨sc6, sc7⟩, vc⟩ := vc
    refine w_iald C dX5_take_25 ia_42 sc6 sc7 ?_
    refine w_top (fun v8 hv8 => ?_)
    have vc := vc v8 hv8
    refine w_istore_n C [(3, pI v8), (2, pI v5), (0, pR 37), (1, pI x1)] dX5_take_26 (by decide) rfl ?_
    refine w_aload_n C 2 dX5_take_27 rfl ?_
    refine w_getR C dX5_take_28 gf_X5_28 ob_37 rfl ?_
    refine w_iload_n C 1 dX5_take_31 rfl ?_
    obtain ⟨⟨sc9, sc10⟩, vc⟩ := vc
    refine w_bald C dX5_take_32 ba_44 sc9 sc10 ?_
    obtain ⟨sc11, vc⟩ := vc
    refine w_if_ne C 39 dX5_take_33 (by decide) sc11 (fun h12 => ?_) (fun h12 => ?_)
    · have vc := vc.1 h12
      refine w_aload_n C 2 dX5_take_39 rfl ?_
      refine w_iload_n C 1 dX5_take_40 rfl ?_
      obtain ⟨sc13, vc⟩ := vc
      refine w_callVI C [pI v5] [] rfl dX5_take_41 (c_X5_whereIs C.gi (xL X) v5 s1 sc13) oc_37 mw_X5_whereIs ml_X5_93 im_X5_whereIs se_X5_whereIs (by decide) (Nat.le_of_ble_eq_true rfl) (fun z15 s14 hs14 => ?_)
      have vc := vc z15 s14 hs14
      refine w_istore C [(4, pI z15), (3, pI v8), (2, pI v5), (0, pR 37), (1, pI x1)] dX5_take_44 (by decide) rfl ?_
      refine w_aload_n C 3 dX5_take_46 rfl ?_
      refine w_getR C dX5_take_47 gf_X5_35 ob_37 rfl ?_
      refine w_iload_n C 1 dX5_take_50 rfl ?_
      refine w_dup2 C dX5_take_51 rfl rfl ?_
      obtain ⟨⟨sc16, sc17⟩, vc⟩ := vc
      refine w_iald C dX5_take_52 ia_46 sc16 sc17 ?_
      refine w_iconst C dX5_take_53 ?_
      refine w_isub C dX5_take_54 ?_
      obtain ⟨⟨sc18, sc19⟩, vc⟩ := vc
      refine w_iast C dX5_take_55 ia_46 sc18 sc19 ?_
      refine w_mem (fun s20 hs20 => ?_)
      have vc := vc s20 hs20
      refine w_iload C 0 dX5_take_56 rfl ?_
      refine w_istore C [(5, pI z15), (4, pI z15), (3, pI v8), (2, pI v5), (0, pR 37), (1, pI x1)] dX5_take_58 (by decide) rfl ?_
      exact w_sub _ [4, 5, 3, 2, 1, 0] rfl vc
    · have vc := vc.2 h12
      refine w_bipush C dX5_take_36 (by decide) ?_
      exact w_ireturn C dX5_take_38 vc
  · have vc := vc.2 h3
    refine w_if_ne C 15 dX5_take_10 (by decide) ⟨by omega, by omega⟩ (fun q => absurd q (by decide)) (fun _ => ?_)
    refine w_iconst C dX5_take_13 ?_
    exact w_ireturn C dX5_take_14 vc
def VC_X5_take_60 (M : Nat) (K60 : Int → Int → Int → Int → Mem → Prop) (post : Int → Mem → Prop) (x1 : Int) (w2 : Int) (w3 : Int) (w4 : Int) (w5 : Int) (σ : Mem) : Prop :=
 (0 ≤ w3 ∧ w3 < 5) ∧ (inR w5 ∧ inR (σ 46 w3)) ∧ (((σ 46 w3) ≤ w5 → (0 ≤ w2 ∧ w2 < 48) ∧ ∀ s8 : Mem, s8 = up σ 44 w2 0 → post w4 s8) ∧ (w5 < (σ 46 w3) → (0 ≤ (((48 * w3) + w5) + 1) ∧ (((48 * w3) + w5) + 1) < 240) ∧ (0 ≤ ((48 * w3) + w5) ∧ ((48 * w3) + w5) < 240) ∧ ∀ s13 : Mem, s13 = up σ 47 ((48 * w3) + w5) (σ 47 (((48 * w3) + w5) + 1)) → K60 w2 w3 w4 (w5 + 1) s13))
set_option maxRecDepth 20000 in
set_option maxHeartbeats 4000000 in
theorem seg_X5_take_60 {G : GG} {X : XX} {post : Int → Mem → Prop} (C : CX G X cX5_take RX5 6 (some .int) 3)   (x1 : Int) (w2 : Int) (w3 : Int) (w4 : Int) (w5 : Int) (σ : Mem) (vc : VC_X5_take_60 (gM G) (fun w2 w3 w4 w5 σ => RW G X 6 (QI G X post) 60 [(0, pR 37), (1, pI x1), (2, pI w2), (3, pI w3), (4, pI w4), (5, pI w5)] [] σ) post  x1 w2 w3 w4 w5 σ) : RW G X 6 (QI G X post) 60 [(0, pR 37), (1, pI x1), (2, pI w2), (3, pI w3), (4, pI w4), (5, pI w5)] [] σ := by
  unfold VC_X5_take_60 at vc
  refine w_iload C 5 dX5_take_60 rfl ?_
  refine w_aload_n C 0 dX5_take_62 rfl ?_
  refine w_getR C dX5_take_63 gf_X5_35 ob_37 rfl ?_
  refine w_iload_n C 3 dX5_take_66 rfl ?_
  obtain ⟨⟨sc1, sc2⟩, vc⟩ := vc
  refine w_iald C dX5_take_67 ia_46 sc1 sc2 ?_
  obtain ⟨⟨sc3, sc4⟩, vc⟩ := vc
  refine w_icmp_ge C 103 dX5_take_68 (by decide) sc3 sc4 (fun h5 => ?_) (fun h5 => ?_)
  · have vc := vc.1 h5
    refine w_aload_n C 0 dX5_take_103 rfl ?_
    refine w_getR C dX5_take_104 gf_X5_28 ob_37 rfl ?_
    refine w_iload_n C 2 dX5_take_107 rfl ?_
    refine w_iconst C dX5_take_108 ?_
    obtain ⟨⟨sc6, sc7⟩, vc⟩ := vc
    refine w_bast C dX5_take_109 ba_44 sc6 sc7 (Or.inl rfl) ?_
    refine w_mem (fun s8 hs8 => ?_)
    have vc := vc s8 hs8
    refine w_iload C 4 dX5_take_110 rfl ?_
    exact w_ireturn C dX5_take_112 vc
  · have vc := vc.2 h5
    refine w_aload_n C 0 dX5_take_71 rfl ?_
    refine w_getR C dX5_take_72 gf_X5_38 ob_37 rfl ?_
    refine w_bipush C dX5_take_75 (by decide) ?_
    refine w_iload_n C 3 dX5_take_77 rfl ?_
    refine w_imul C dX5_take_78 ?_
    refine w_iload C 5 dX5_take_79 rfl ?_
    refine w_iadd C dX5_take_81 ?_
    refine w_aload_n C 0 dX5_take_82 rfl ?_
    refine w_getR C dX5_take_83 gf_X5_38 ob_37 rfl ?_
    refine w_bipush C dX5_take_86 (by decide) ?_
    refine w_iload_n C 3 dX5_take_88 rfl ?_
    refine w_imul C dX5_take_89 ?_
    refine w_iload C 5 dX5_take_90 rfl ?_
    refine w_iadd C dX5_take_92 ?_
    refine w_iconst C dX5_take_93 ?_
    refine w_iadd C dX5_take_94 ?_
    obtain ⟨⟨sc9, sc10⟩, vc⟩ := vc
    refine w_iald C dX5_take_95 ia_47 sc9 sc10 ?_
    obtain ⟨⟨sc11, sc12⟩, vc⟩ := vc
    refine w_iast C dX5_take_96 ia_47 sc11 sc12 ?_
    refine w_mem (fun s13 hs13 => ?_)
    have vc := vc s13 hs13
    refine w_iinc C 5 [(5, pI (w5 + 1)), (0, pR 37), (1, pI x1), (2, pI w2), (3, pI w3), (4, pI w4)] dX5_take_97 rfl (by decide) rfl ?_
    refine w_goto C 60 dX5_take_100 (by decide) ?_
    exact w_sub _ [1, 2, 3, 4, 5, 0] rfl vc
set_option maxHeartbeats 1000000 in
theorem ok_X5_take_0 {M : Nat} {x1 : Int} {σ : Mem} {K60 : Int → Int → Int → Int → Mem → Prop} (h : pre_X5_take M x1 σ) (hK60 : ∀ (y2 y3 y4 y5 : Int) (τ' : Mem), inv_X5_take_60 M x1 σ y2 y3 y4 y5 τ' → K60 y2 y3 y4 y5 τ') : VC_X5_take_0 M K60 (post_X5_take M x1 σ) x1 σ := by
  obtain ⟨⟨hW, hR⟩, r1⟩ := h
  intro s1 e1
  have f1 : RFr σ s1 := by rw [e1]; exact thr_fr σ 0
  have hR1 := RM_fr f1 hR
  have hn := RM_NB hW hR1
  have eV := VS_r hW hR1 x1
  refine ⟨⟨hn, r1⟩, fun g1 => ?_, fun g1 => ⟨f1.FM, gh σ, Or.inl ⟨fun q => g1 (eV.mp q), rfl, rfl⟩, hR1⟩⟩
  have g1' : VS (gh σ) x1 := eV.mpr g1
  have hp := pl_in hW.1.1 g1'
  have hb := VS_in hW.1.1 g1'
  have hat := at_pl hW hR1 g1'
  obtain ⟨hm, hz⟩ := sz_in hW g1'
  have hM := hn.1
  have h8 : gh σ 8 x1 = 0 ∨ gh σ 8 x1 = 1 := by
    rcases hW.2.2.1 x1 hb.1 hb.2.1 with q | ⟨q, -⟩
    · exact Or.inl q
    · exact Or.inr q
  refine ⟨⟨g1.1, r1⟩, fun v5 e5 => ?_⟩
  have e5' : v5 = pl x1 := e5
  subst e5'
  refine ⟨⟨hp.1, hp.2.1⟩, fun v8 e8 => ?_⟩
  rw [hat.1] at e8
  subst e8
  rw [hat.2.2]
  refine ⟨⟨hp.1, hp.2.1⟩, ⟨by omega, by omega⟩, fun g3 => ⟨put_where hW hR1 g1' (by omega), fun z s14 h14 => ?_⟩, fun g3 => ⟨f1.FM, gh σ, Or.inr (Or.inl ⟨g1', g3, rfl, rfl⟩), hR1⟩⟩
  obtain ⟨e14, z0, z1, z2⟩ := where_r hW hR1 g1' h14
  rw [e14]
  have e46 : s1 46 (gh σ 6 x1) = σ 46 (gh σ 6 x1) := by rw [e1, up_ne _ _ (Or.inl (by omega))]
  refine ⟨⟨hm.1, by omega⟩, ⟨hm.1, by omega⟩, fun s20 e20 => hK60 _ _ _ _ _ ⟨g1', g3, rfl, rfl, z0, Int.le_refl _, z1, z2, ?_⟩⟩
  rw [e20, e46, e1]
  funext c i
  simp only [up]
  grind
set_option maxHeartbeats 1000000 in
theorem ok_X5_take_60 {M : Nat} {x1 : Int} {σ : Mem} {w2 w3 w4 w5 : Int} {τ : Mem} {K60 : Int → Int → Int → Int → Mem → Prop} (h : pre_X5_take M x1 σ) (hinv : inv_X5_take_60 M x1 σ w2 w3 w4 w5 τ) (hK60 : ∀ (y2 y3 y4 y5 : Int) (τ' : Mem), inv_X5_take_60 M x1 σ y2 y3 y4 y5 τ' → mu_X5_take_60 x1 y2 y3 y4 y5 τ' < mu_X5_take_60 x1 w2 w3 w4 w5 τ → K60 y2 y3 y4 y5 τ') : VC_X5_take_60 M K60 (post_X5_take M x1 σ) x1 w2 w3 w4 w5 τ := by
  obtain ⟨⟨hW, hR⟩, r1⟩ := h
  obtain ⟨g1, g3, rfl, rfl, i1, i2, i3, i4, rfl⟩ := hinv
  have hp := pl_in hW.1.1 g1
  obtain ⟨hm, hz⟩ := sz_in hW g1
  have hM := (RM_NB hW hR).1
  have e46 : σ 46 (gh σ 6 x1) = gh σ 10 (gh σ 6 x1) := hR.2.2.2.2.2.1 _ hm.1 hm.2
  have q46 : (fun c i => if c = 37 ∧ i = 0 then 0 else if c = 46 ∧ i = gh σ 6 x1 then σ 46 i - 1 else if c = 47 ∧ 48 * gh σ 6 x1 + w4 ≤ i ∧ i < 48 * gh σ 6 x1 + w5 then σ c (i + 1) else σ c i : Mem) 46 (gh σ 6 x1) = gh σ 10 (gh σ 6 x1) - 1 := by
    rw [← e46]
    simp
  refine ⟨⟨hm.1, by omega⟩, ⟨⟨by omega, by omega⟩, by rw [q46]; exact ⟨by omega, by omega⟩⟩, fun g => ⟨⟨hp.1, hp.2.1⟩, fun s8 e8 => ?_⟩, fun g => ⟨⟨by omega, by omega⟩, ⟨by omega, by omega⟩, fun s13 e13 => hK60 _ _ _ _ _ ⟨g1, g3, rfl, rfl, i1, by omega, ?_, i4, ?_⟩ (by unfold mu_X5_take_60; omega)⟩⟩
  · rw [q46] at g
    have e5 : w5 = gh σ 10 (gh σ 6 x1) - 1 := by omega
    subst e5
    have hac : ∀ c i, s8 c i = if c = 37 ∧ i = 0 then 0 else if c = 44 ∧ i = pl x1 then 0 else if c = 46 ∧ i = gh σ 6 x1 then σ 46 i - 1 else if c = 47 ∧ 48 * gh σ 6 x1 + w4 ≤ i ∧ i < 48 * gh σ 6 x1 + (gh σ 10 (gh σ 6 x1) - 1) then σ c (i + 1) else σ c i := by
      intro c i
      rw [e8]
      simp only [up]
      grind
    obtain ⟨r1', r2', r3', r4', r5', r6', r7'⟩ := hR
    obtain ⟨af, a1, a8, a10, ar, -⟩ := rem_acc x1 w4 (gh σ) hm.1
    have hcc : ∀ c : Int, c ≠ 37 → c ≠ 44 → c ≠ 46 → c ≠ 47 → s8 c = σ c := fun c c1 c2 c3 c4 => by
      funext i
      rw [hac, if_neg (fun z => c1 z.1), if_neg (fun z => c2 z.1), if_neg (fun z => c3 z.1), if_neg (fun z => c4 z.1)]
    have h37 : ∀ i : Int, i ≠ 0 → s8 37 i = σ 37 i := fun i q => by
      rw [hac, if_neg (fun z => q z.2), if_neg (by omega), if_neg (by omega), if_neg (by omega)]
    have h46 : ∀ i, s8 46 i = if i = gh σ 6 x1 then σ 46 i - 1 else σ 46 i := fun i => by
      rw [hac, if_neg (by omega), if_neg (by omega)]
      by_cases q : i = gh σ 6 x1
      · rw [if_pos ⟨rfl, q⟩, if_pos q]
      · rw [if_neg (fun z => q z.2), if_neg q, if_neg (by omega)]
    refine ⟨fun c hc => hcc c (by omega) (by omega) (by omega) (by omega), _, Or.inr (Or.inr ⟨g1, g3, i1, by omega, i4, rfl⟩), ?_, ?_, ?_, fun k k0 k1 => ?_, ?_, fun m m0 m1 => ?_, fun m i hi => ?_⟩
    · rw [h37 1 (by omega)]; exact r1'
    · rw [h37 2 (by omega), a1]; simpa using r2'
    · rw [hcc 38 (by omega) (by omega) (by omega) (by omega), hcc 39 (by omega) (by omega) (by omega) (by omega), hcc 40 (by omega) (by omega) (by omega) (by omega), hcc 41 (by omega) (by omega) (by omega) (by omega), af 2 (by omega), af 3 (by omega), af 4 (by omega), af 5 (by omega)]; exact r3'
    · rw [hcc 42 (by omega) (by omega) (by omega) (by omega), hcc 43 (by omega) (by omega) (by omega) (by omega), af 6 (by omega), af 7 (by omega), a8]
      have := r4' k k0 k1
      refine ⟨this.1, this.2.1, ?_⟩
      rw [hac, if_neg (by omega)]
      by_cases q : k = pl x1
      · rw [if_pos ⟨rfl, q⟩, if_pos (by rw [q]; exact hp.2.2.1)]
      · have q2 : ¬ tl k = x1 := fun z => q (by rw [← z, pl_tl k0])
        rw [if_neg (fun z => q z.2), if_neg (by omega), if_neg (by omega), if_neg q2]
        exact this.2.2
    · rw [hcc 45 (by omega) (by omega) (by omega) (by omega), af 11 (by omega)]; exact r5'
    · rw [h46, a10, r6' m m0 m1]
    · obtain ⟨m0, m1, i0, i1'⟩ := hi
      rw [a10] at i1'
      rw [ar m i m0, hac, if_neg (by omega), if_neg (by omega), if_neg (by omega)]
      have hzm := hW.1.1.2.2.2.2.2 m m0 m1
      by_cases em : m = gh σ 6 x1
      · rw [if_pos em] at i1'
        subst em
        by_cases q : w4 ≤ i
        · rw [if_pos ⟨rfl, by omega, by omega⟩, if_pos ⟨rfl, q, i1'⟩, show 48 * gh σ 6 x1 + i + 1 = 48 * gh σ 6 x1 + (i + 1) by omega]
          exact r7' _ _ ⟨m0, m1, by omega, by omega⟩
        · rw [if_neg (by omega), if_neg (by omega)]
          exact r7' _ _ ⟨m0, m1, i0, by omega⟩
      · rw [if_neg em] at i1'
        rw [if_neg (by omega), if_neg (fun z => em z.1)]
        exact r7' _ _ ⟨m0, m1, i0, i1'⟩
  · rw [q46] at g
    omega
  · rw [e13]
    funext c i
    simp only [up]
    grind
theorem c_X5_take {G : GG} (hG : GI G) (l : Launch) (x1 : Int) (σ : Mem) (h : pre_X5_take (gM G) x1 σ) : CtI G l yX5_take cX5_take 6 (some .int) 3 [pR 37, pI x1] σ (post_X5_take (gM G) x1 σ) := by
  refine CtI.of hG (by decide) (Nat.le_of_ble_eq_true rfl) (fun X hl C => ?_)
  show RW G X 6 (QI G X _) 0 [(0, pR 37), (1, pI x1)] [] σ
  have key : ∀ n : Nat, (∀ (w2 w3 w4 w5 : Int) (τ : Mem), inv_X5_take_60 (gM G) x1 σ w2 w3 w4 w5 τ → mu_X5_take_60 x1 w2 w3 w4 w5 τ < n → RW G X 6 (QI G X (post_X5_take (gM G) x1 σ)) 60 [(0, pR 37), (1, pI x1), (2, pI w2), (3, pI w3), (4, pI w4), (5, pI w5)] [] τ) := by
    intro n
    induction n with
    | zero => exact fun w2 w3 w4 w5 τ _ h0 => absurd h0 (Nat.not_lt_zero _)
    | succ n ih =>
      exact (fun w2 w3 w4 w5 τ hinv h0 => seg_X5_take_60 C x1 w2 w3 w4 w5 τ (ok_X5_take_60 h hinv (fun y2 y3 y4 y5 τ' hi hm => ih y2 y3 y4 y5 τ' hi (Nat.lt_of_lt_of_le hm (Nat.le_of_lt_succ h0)))))
  exact seg_X5_take_0 C x1 σ (ok_X5_take_0 h (fun y2 y3 y4 y5 τ' hi => (key _) y2 y3 y4 y5 τ' hi (Nat.lt_succ_self _)))

/-! X5_arePlaces -/
def P_X5_arePlaces (x1 x2 : Int) (σ : Mem) : Prop := P_X5_isMachine x1 σ ∧ 0 ≤ x2 ∧ x2 ≤ σ 46 x1 - 2
def pre_X5_arePlaces (M : Nat) (x1 x2 : Int) (σ : Mem) : Prop := NB M σ ∧ inR x1 ∧ inR x2
theorem arePlaces_r {M : Nat} {a σ : Mem} (h : WF M a) (r : RM M a σ) (m p : Int) : P_X5_arePlaces m p σ ↔ P_X3_hasNeighbours m p a := by
  unfold P_X5_arePlaces P_X3_hasNeighbours P_X5_isMachine
  rw [r.1, h.1.1.1]
  constructor
  · rintro ⟨⟨q1, q2⟩, q3, q4⟩
    rw [r.2.2.2.2.2.1 m q1 (by omega)] at q4
    exact ⟨⟨q1, by omega⟩, q3, by omega⟩
  · rintro ⟨⟨q1, q2⟩, q3, q4⟩
    refine ⟨⟨q1, by omega⟩, q3, ?_⟩
    rw [r.2.2.2.2.2.1 m q1 (by omega)]
    omega
def VC_X5_arePlaces_0 (M : Nat) (post : Int → Mem → Prop) (x1 : Int) (x2 : Int) (σ : Mem) : Prop :=
 (pre_X5_isMachine M x1 σ) ∧ ((P_X5_isMachine x1 σ → (0 ≤ x1 ∧ x1 < 5) ∧ (pre_X5_in M x2 0 ((σ 46 x1) - 2) σ) ∧ ((P_X5_in x2 0 ((σ 46 x1) - 2) σ → post 1 σ) ∧ (¬ P_X5_in x2 0 ((σ 46 x1) - 2) σ → post 0 σ))) ∧ (¬ P_X5_isMachine x1 σ → post 0 σ))
set_option maxRecDepth 20000 in
set_option maxHeartbeats 4000000 in
theorem seg_X5_arePlaces_0 {G : GG} {X : XX} {post : Int → Mem → Prop} (C : CX G X cX5_arePlaces RX5 3 (some .boolean) 2)   (x1 : Int) (x2 : Int) (σ : Mem) (vc : VC_X5_arePlaces_0 (gM G)  post  x1 x2 σ) : RW G X 3 (QI G X post) 0 [(0, pR 37), (1, pI x1), (2, pI x2)] [] σ := by
  unfold VC_X5_arePlaces_0 at vc
  refine w_aload_n C 0 dX5_arePlaces_0 rfl ?_
  refine w_iload_n C 1 dX5_arePlaces_1 rfl ?_
  obtain ⟨sc1, vc⟩ := vc
  refine w_callVI C [pI x1] [] rfl dX5_arePlaces_2 (c_X5_isMachine C.gi (xL X) x1 σ sc1) oc_37 mw_X5_isMachine ml_X5_83 im_X5_isMachine se_X5_isMachine (by decide) (Nat.le_of_ble_eq_true rfl) (fun z σ' hz => ?_)
  obtain ⟨hz2, hz⟩ := hz
  have hz2 := hz2.symm
  subst hz2
  rcases hz with ⟨h2, rfl⟩ | ⟨h2, rfl⟩
  · have vc := vc.1 h2
    refine w_if_eq C 28 dX5_arePlaces_5 (by decide) ⟨by omega, by omega⟩ (fun q => absurd q (by decide)) (fun _ => ?_)
    refine w_iload_n C 2 dX5_arePlaces_8 rfl ?_
    refine w_iconst C dX5_arePlaces_9 ?_
    refine w_aload_n C 0 dX5_arePlaces_10 rfl ?_
    refine w_getR C dX5_arePlaces_11 gf_X5_35 ob_37 rfl ?_
    refine w_iload_n C 1 dX5_arePlaces_14 rfl ?_
    obtain ⟨⟨sc3, sc4⟩, vc⟩ := vc
    refine w_iald C dX5_arePlaces_15 ia_46 sc3 sc4 ?_
    refine w_iconst C dX5_arePlaces_16 ?_
    refine w_isub C dX5_arePlaces_17 ?_
    obtain ⟨sc5, vc⟩ := vc
    refine w_callSI C [pI x2, pI 0, pI ((σ 46 x1) - 2)] [] rfl dX5_arePlaces_18 (c_X5_in C.gi (xL X) x2 0 ((σ 46 x1) - 2) σ sc5) mw_X5_in ml_X5_75 ss_X5_in (by decide) (Nat.le_of_ble_eq_true rfl) (fun z σ' hz => ?_)
    obtain ⟨hz2, hz⟩ := hz
    have hz2 := hz2.symm
    subst hz2
    rcases hz with ⟨h6, rfl⟩ | ⟨h6, rfl⟩
    · have vc := vc.1 h6
      refine w_if_eq C 28 dX5_arePlaces_21 (by decide) ⟨by omega, by omega⟩ (fun q => absurd q (by decide)) (fun _ => ?_)
      refine w_iconst C dX5_arePlaces_24 ?_
      refine w_goto C 29 dX5_arePlaces_25 (by decide) ?_
      exact w_zreturn C dX5_arePlaces_29 (Or.inr rfl) vc
    · have vc := vc.2 h6
      refine w_if_eq C 28 dX5_arePlaces_21 (by decide) ⟨by omega, by omega⟩ (fun _ => ?_) (fun q => absurd q (by decide))
      refine w_iconst C dX5_arePlaces_28 ?_
      exact w_zreturn C dX5_arePlaces_29 (Or.inl rfl) vc
  · have vc := vc.2 h2
    refine w_if_eq C 28 dX5_arePlaces_5 (by decide) ⟨by omega, by omega⟩ (fun _ => ?_) (fun q => absurd q (by decide))
    refine w_iconst C dX5_arePlaces_28 ?_
    exact w_zreturn C dX5_arePlaces_29 (Or.inl rfl) vc
set_option maxHeartbeats 1000000 in
theorem ok_X5_arePlaces_0 {M : Nat} {x1 : Int} {x2 : Int} {σ : Mem} (h : pre_X5_arePlaces M x1 x2 σ) : VC_X5_arePlaces_0 M (fun z σ' => σ' = σ ∧ (P_X5_arePlaces x1 x2 σ ∧ z = 1 ∨ ¬ P_X5_arePlaces x1 x2 σ ∧ z = 0)) x1 x2 σ := by
  obtain ⟨hn, r1, r2⟩ := h
  have hM := hn.1
  refine ⟨⟨hn, r1⟩, fun g => ?_, fun g => ⟨rfl, Or.inr ⟨fun q => g q.1, rfl⟩⟩⟩
  have g1 := g.1
  have g2 := g.2
  have hz := hn.2.2.2.1 x1 g1 (by omega)
  exact ⟨⟨g1, by omega⟩, ⟨r2, ⟨by omega, by omega⟩, ⟨by omega, by omega⟩⟩, fun q => ⟨rfl, Or.inl ⟨⟨g, q.1, q.2⟩, rfl⟩⟩, fun q => ⟨rfl, Or.inr ⟨fun w => q w.2, rfl⟩⟩⟩
theorem c_X5_arePlaces {G : GG} (hG : GI G) (l : Launch) (x1 : Int) (x2 : Int) (σ : Mem) (h : pre_X5_arePlaces (gM G) x1 x2 σ) : CtI G l yX5_arePlaces cX5_arePlaces 3 (some .boolean) 2 [pR 37, pI x1, pI x2] σ (fun z σ' => σ' = σ ∧ (P_X5_arePlaces x1 x2 σ ∧ z = 1 ∨ ¬ P_X5_arePlaces x1 x2 σ ∧ z = 0)) := by
  refine CtI.of hG (by decide) (Nat.le_of_ble_eq_true rfl) (fun X hl C => ?_)
  show RW G X 3 (QI G X _) 0 [(0, pR 37), (1, pI x1), (2, pI x2)] [] σ
  exact seg_X5_arePlaces_0 C x1 x2 σ (ok_X5_arePlaces_0 h)

/-! X5_exchange -/
def m_X5_exchange (x1 x2 : Int) (σ : Mem) : Mem := up (up σ 47 (48 * x1 + x2) (σ 47 (48 * x1 + x2 + 1))) 47 (48 * x1 + x2 + 1) (σ 47 (48 * x1 + x2))
def pre_X5_exchange (M : Nat) (x1 x2 : Int) (σ : Mem) : Prop := 0 ≤ x1 ∧ x1 < 5 ∧ 0 ≤ x2 ∧ x2 < 47
theorem xex_acc (x1 x2 : Int) (σ : Mem) : (∀ c : Int, c ≠ 47 → m_X5_exchange x1 x2 σ c = σ c) ∧ ∀ i, m_X5_exchange x1 x2 σ 47 i = if i = 48 * x1 + x2 then σ 47 (48 * x1 + x2 + 1) else if i = 48 * x1 + x2 + 1 then σ 47 (48 * x1 + x2) else σ 47 i := by
  refine ⟨fun c hc => ?_, fun i => ?_⟩
  · unfold m_X5_exchange
    rw [up_other _ _ _ hc, up_other _ _ _ hc]
  · simp only [m_X5_exchange, up]
    grind
theorem xex_RM {M : Nat} {a σ : Mem} (h : WF M a) (r : RM M a σ) {m p : Int} (hn : P_X3_hasNeighbours m p a) : RM M (m_X3_exchange m p a) (m_X5_exchange m p σ) := by
  obtain ⟨r1', r2', r3', r4', r5', r6', r7'⟩ := r
  obtain ⟨⟨m0, m1⟩, p0, p1⟩ := hn
  rw [h.1.1.1] at m1
  obtain ⟨ac, ar⟩ := ex_acc m p a
  obtain ⟨bc, br⟩ := xex_acc m p σ
  have hz := h.1.1.2.2.2.2.2 m m0 m1
  refine ⟨?_, ?_, ?_, ?_, ?_, ?_, fun m' i hi => ?_⟩
  · rw [bc 37 (by omega)]; exact r1'
  · rw [bc 37 (by omega), ac 1 (by omega)]; exact r2'
  · rw [bc 38 (by omega), bc 39 (by omega), bc 40 (by omega), bc 41 (by omega), ac 2 (by omega), ac 3 (by omega), ac 4 (by omega), ac 5 (by omega)]; exact r3'
  · rw [bc 42 (by omega), bc 43 (by omega), bc 44 (by omega), ac 6 (by omega), ac 7 (by omega), ac 8 (by omega)]; exact r4'
  · rw [bc 45 (by omega), ac 11 (by omega)]; exact r5'
  · rw [bc 46 (by omega), ac 10 (by omega)]; exact r6'
  · obtain ⟨q0, q1, q2, q3⟩ := hi
    rw [ac 10 (by omega)] at q3
    have hz' := h.1.1.2.2.2.2.2 m' q0 q1
    rw [br]
    by_cases em : m' = m
    · subst em
      rw [ar]
      by_cases e1 : i = p
      · rw [if_pos (by omega), if_pos e1, show 48 * m' + p + 1 = 48 * m' + (p + 1) by omega]
        exact r7' _ _ ⟨q0, q1, by omega, by omega⟩
      · by_cases e2 : i = p + 1
        · rw [if_neg (by omega), if_pos (by omega), if_neg e1, if_pos e2]
          exact r7' _ _ ⟨q0, q1, by omega, by omega⟩
        · rw [if_neg (by omega), if_neg (by omega), if_neg e1, if_neg e2]
          exact r7' _ _ ⟨q0, q1, q2, q3⟩
    · rw [if_neg (by omega), if_neg (by omega), ac _ (by omega)]
      exact r7' _ _ ⟨q0, q1, q2, q3⟩
def VC_X5_exchange_0 (M : Nat) (post : Mem → Prop) (x1 : Int) (x2 : Int) (σ : Mem) : Prop :=
  ∀ v1 : Int, v1 = (48 * x1) + x2 → (0 ≤ v1 ∧ v1 < 240) ∧ ∀ v4 : Int, v4 = σ 47 v1 → (0 ≤ (v1 + 1) ∧ (v1 + 1) < 240) ∧ (0 ≤ v1 ∧ v1 < 240) ∧ ∀ s9 : Mem, s9 = up σ 47 v1 (σ 47 (v1 + 1)) → (0 ≤ (v1 + 1) ∧ (v1 + 1) < 240) ∧ ∀ s12 : Mem, s12 = up s9 47 (v1 + 1) v4 → post s12
set_option maxRecDepth 20000 in
set_option maxHeartbeats 4000000 in
theorem seg_X5_exchange_0 {G : GG} {X : XX} {post : Mem → Prop} (C : CX G X cX5_exchange RX5 5 none 0)   (x1 : Int) (x2 : Int) (σ : Mem) (vc : VC_X5_exchange_0 (gM G)  post  x1 x2 σ) : RW G X 5 (QV G X post) 0 [(0, pR 37), (1, pI x1), (2, pI x2)] [] σ := by
  unfold VC_X5_exchange_0 at vc
  refine w_bipush C dX5_exchange_0 (by decide) ?_
  refine w_iload_n C 1 dX5_exchange_2 rfl ?_
  refine w_imul C dX5_exchange_3 ?_
  refine w_iload_n C 2 dX5_exchange_4 rfl ?_
  refine w_iadd C dX5_exchange_5 ?_
  refine w_top (fun v1 hv1 => ?_)
  have vc := vc v1 hv1
  refine w_istore_n C [(3, pI v1), (0, pR 37), (1, pI x1), (2, pI x2)] dX5_exchange_6 (by decide) rfl ?_
  refine w_aload_n C 1 dX5_exchange_7 rfl ?_
  refine w_getR C dX5_exchange_8 gf_X5_38 ob_37 rfl ?_
  refine w_iload_n C 0 dX5_exchange_11 rfl ?_
  obtain ⟨⟨sc2, sc3⟩, vc⟩ := vc
  refine w_iald C dX5_exchange_12 ia_47 sc2 sc3 ?_
  refine w_top (fun v4 hv4 => ?_)
  have vc := vc v4 hv4
  refine w_istore C [(4, pI v4), (3, pI v1), (0, pR 37), (1, pI x1), (2, pI x2)] dX5_exchange_13 (by decide) rfl ?_
  refine w_aload_n C 2 dX5_exchange_15 rfl ?_
  refine w_getR C dX5_exchange_16 gf_X5_38 ob_37 rfl ?_
  refine w_iload_n C 1 dX5_exchange_19 rfl ?_
  refine w_aload_n C 2 dX5_exchange_20 rfl ?_
  refine w_getR C dX5_exchange_21 gf_X5_38 ob_37 rfl ?_
  refine w_iload_n C 1 dX5_exchange_24 rfl ?_
  refine w_iconst C dX5_exchange_25 ?_
  refine w_iadd C dX5_exchange_26 ?_
  obtain ⟨⟨sc5, sc6⟩, vc⟩ := vc
  refine w_iald C dX5_exchange_27 ia_47 sc5 sc6 ?_
  obtain ⟨⟨sc7, sc8⟩, vc⟩ := vc
  refine w_iast C dX5_exchange_28 ia_47 sc7 sc8 ?_
  refine w_mem (fun s9 hs9 => ?_)
  have vc := vc s9 hs9
  refine w_aload_n C 2 dX5_exchange_29 rfl ?_
  refine w_getR C dX5_exchange_30 gf_X5_38 ob_37 rfl ?_
  refine w_iload_n C 1 dX5_exchange_33 rfl ?_
  refine w_iconst C dX5_exchange_34 ?_
  refine w_iadd C dX5_exchange_35 ?_
  refine w_iload C 0 dX5_exchange_36 rfl ?_
  obtain ⟨⟨sc10, sc11⟩, vc⟩ := vc
  refine w_iast C dX5_exchange_38 ia_47 sc10 sc11 ?_
  refine w_mem (fun s12 hs12 => ?_)
  have vc := vc s12 hs12
  exact w_vreturn C dX5_exchange_39 vc
set_option maxHeartbeats 1000000 in
theorem ok_X5_exchange_0 {M : Nat} {x1 : Int} {x2 : Int} {σ : Mem} (h : pre_X5_exchange M x1 x2 σ) : VC_X5_exchange_0 M (fun σ' => σ' = m_X5_exchange x1 x2 σ) x1 x2 σ := by
  obtain ⟨a1, a2, a3, a4⟩ := h
  intro v1 e1
  subst e1
  exact ⟨⟨by omega, by omega⟩, fun v e => ⟨⟨by omega, by omega⟩, ⟨by omega, by omega⟩, fun s e2 => ⟨⟨by omega, by omega⟩, fun s12 e3 => by rw [e3, e2, e]; rfl⟩⟩⟩
theorem c_X5_exchange {G : GG} (hG : GI G) (l : Launch) (x1 : Int) (x2 : Int) (σ : Mem) (h : pre_X5_exchange (gM G) x1 x2 σ) : CtV G l yX5_exchange cX5_exchange 5 none 0 [pR 37, pI x1, pI x2] σ (fun σ' => σ' = m_X5_exchange x1 x2 σ) := by
  refine CtV.of hG (by decide) (Nat.le_of_ble_eq_true rfl) (fun X hl C => ?_)
  show RW G X 5 (QV G X _) 0 [(0, pR 37), (1, pI x1), (2, pI x2)] [] σ
  exact seg_X5_exchange_0 C x1 x2 σ (ok_X5_exchange_0 h)

/-! X5_swap -/
def pre_X5_swap (M : Nat) (x1 x2 : Int) (σ : Mem) : Prop := RP M σ ∧ inR x1 ∧ inR x2
def post_X5_swap (M : Nat) (x1 x2 : Int) (σ : Mem) (z : Int) (σ' : Mem) : Prop := FM σ σ' ∧ ∃ a', R_swap (gh σ) x1 x2 z a' ∧ RM M a' σ'
theorem nb5 {M : Nat} {a : Mem} (h : WF M a) {m p : Int} (hn : P_X3_hasNeighbours m p a) (σ : Mem) : pre_X5_exchange M m p σ := by
  obtain ⟨m0, m1, p0, p1⟩ := nb_pre h hn
  have hM : M ≤ 5 := h.1.1.2.2.1
  exact ⟨m0, by omega, p0, p1⟩
def VC_X5_swap_0 (M : Nat) (post : Int → Mem → Prop) (x1 : Int) (x2 : Int) (σ : Mem) : Prop :=
  ∀ s1 : Mem, s1 = up σ 37 0 0 → (pre_X5_arePlaces M x1 x2 s1) ∧ ((P_X5_arePlaces x1 x2 s1 → (pre_X5_exchange M x1 x2 s1) ∧ ∀ s5 : Mem, s5 = m_X5_exchange x1 x2 s1 → post 1 s5) ∧ (¬ P_X5_arePlaces x1 x2 s1 → post (-1) s1))
set_option maxRecDepth 20000 in
set_option maxHeartbeats 4000000 in
theorem seg_X5_swap_0 {G : GG} {X : XX} {post : Int → Mem → Prop} (C : CX G X cX5_swap RX5 3 (some .int) 3)   (x1 : Int) (x2 : Int) (σ : Mem) (vc : VC_X5_swap_0 (gM G)  post  x1 x2 σ) : RW G X 3 (QI G X post) 0 [(0, pR 37), (1, pI x1), (2, pI x2)] [] σ := by
  unfold VC_X5_swap_0 at vc
  refine w_aload_n C 0 dX5_swap_0 rfl ?_
  refine w_iconst C dX5_swap_1 ?_
  refine w_putI C 0 dX5_swap_2 pf_X5_69 ob_37 rfl rfl ?_
  refine w_mem (fun s1 hs1 => ?_)
  have vc := vc s1 hs1
  refine w_aload_n C 0 dX5_swap_5 rfl ?_
  refine w_iload_n C 1 dX5_swap_6 rfl ?_
  refine w_iload_n C 2 dX5_swap_7 rfl ?_
  obtain ⟨sc2, vc⟩ := vc
  refine w_callVI C [pI x1, pI x2] [] rfl dX5_swap_8 (c_X5_arePlaces C.gi (xL X) x1 x2 s1 sc2) oc_37 mw_X5_arePlaces ml_X5_96 im_X5_arePlaces se_X5_arePlaces (by decide) (Nat.le_of_ble_eq_true rfl) (fun z σ' hz => ?_)
  obtain ⟨hz2, hz⟩ := hz
  have hz2 := hz2.symm
  subst hz2
  rcases hz with ⟨h3, rfl⟩ | ⟨h3, rfl⟩
  · have vc := vc.1 h3
    refine w_if_ne C 16 dX5_swap_11 (by decide) ⟨by omega, by omega⟩ (fun _ => ?_) (fun q => absurd q (by decide))
    refine w_aload_n C 0 dX5_swap_16 rfl ?_
    refine w_iload_n C 1 dX5_swap_17 rfl ?_
    refine w_iload_n C 2 dX5_swap_18 rfl ?_
    obtain ⟨sc4, vc⟩ := vc
    refine w_callVV C [pI x1, pI x2] [] rfl dX5_swap_19 (c_X5_exchange C.gi (xL X) x1 x2 s1 sc4) oc_37 mw_X5_exchange ml_X5_100 im_X5_exchange se_X5_exchange (by decide) (Nat.le_of_ble_eq_true rfl) (fun s5 hs5 => ?_)
    have vc := vc s5 hs5
    refine w_iconst C dX5_swap_22 ?_
    exact w_ireturn C dX5_swap_23 vc
  · have vc := vc.2 h3
    refine w_if_ne C 16 dX5_swap_11 (by decide) ⟨by omega, by omega⟩ (fun q => absurd q (by decide)) (fun _ => ?_)
    refine w_iconst C dX5_swap_14 ?_
    exact w_ireturn C dX5_swap_15 vc
set_option maxHeartbeats 1000000 in
theorem ok_X5_swap_0 {M : Nat} {x1 : Int} {x2 : Int} {σ : Mem} (h : pre_X5_swap M x1 x2 σ) : VC_X5_swap_0 M (post_X5_swap M x1 x2 σ) x1 x2 σ := by
  obtain ⟨⟨hW, hR⟩, r1, r2⟩ := h
  intro s1 e1
  have f1 : RFr σ s1 := by rw [e1]; exact thr_fr σ 0
  have hR1 := RM_fr f1 hR
  have eP := arePlaces_r hW hR1 x1 x2
  refine ⟨⟨RM_NB hW hR1, r1, r2⟩, fun g => ⟨nb5 hW (eP.mp g) s1, fun s5 e5 => ?_⟩, fun g => ⟨f1.FM, gh σ, Or.inl ⟨fun q => g (eP.mpr q), rfl, rfl⟩, hR1⟩⟩
  rw [e5]
  exact ⟨f1.FM.trans (fun c hc => (xex_acc x1 x2 s1).1 c (by omega)), _, Or.inr ⟨eP.mp g, rfl, rfl⟩, xex_RM hW hR1 (eP.mp g)⟩
theorem c_X5_swap {G : GG} (hG : GI G) (l : Launch) (x1 : Int) (x2 : Int) (σ : Mem) (h : pre_X5_swap (gM G) x1 x2 σ) : CtI G l yX5_swap cX5_swap 3 (some .int) 3 [pR 37, pI x1, pI x2] σ (post_X5_swap (gM G) x1 x2 σ) := by
  refine CtI.of hG (by decide) (Nat.le_of_ble_eq_true rfl) (fun X hl C => ?_)
  show RW G X 3 (QI G X _) 0 [(0, pR 37), (1, pI x1), (2, pI x2)] [] σ
  exact seg_X5_swap_0 C x1 x2 σ (ok_X5_swap_0 h)

/-! X5_at -/
def pre_X5_at (M : Nat) (x1 x2 : Int) (σ : Mem) : Prop := RP M σ ∧ inR x1 ∧ inR x2
def post_X5_at (M : Nat) (x1 x2 : Int) (σ : Mem) (z : Int) (σ' : Mem) : Prop := RFr σ σ' ∧ R_at (gh σ) x1 x2 z
def VC_X5_at_0 (M : Nat) (post : Int → Mem → Prop) (x1 : Int) (x2 : Int) (σ : Mem) : Prop :=
  ∀ s1 : Mem, s1 = up σ 37 0 0 → (pre_X5_isMachine M x1 s1) ∧ ((P_X5_isMachine x1 s1 → (0 ≤ x1 ∧ x1 < 5) ∧ (pre_X5_in M x2 (-1) ((s1 46 x1) - 1) s1) ∧ ((P_X5_in x2 (-1) ((s1 46 x1) - 1) s1 → (inR x2) ∧ ((0 ≤ x2 → (0 ≤ ((48 * x1) + x2) ∧ ((48 * x1) + x2) < 240) ∧ (pre_X5_told M (s1 47 ((48 * x1) + x2)) s1) ∧ post (f_X5_told (s1 47 ((48 * x1) + x2)) s1) s1) ∧ (x2 < 0 → (0 ≤ x1 ∧ x1 < 5) ∧ post (s1 46 x1) s1))) ∧ (¬ P_X5_in x2 (-1) ((s1 46 x1) - 1) s1 → post (-1) s1))) ∧ (¬ P_X5_isMachine x1 s1 → post (-1) s1))
set_option maxRecDepth 20000 in
set_option maxHeartbeats 4000000 in
theorem seg_X5_at_0 {G : GG} {X : XX} {post : Int → Mem → Prop} (C : CX G X cX5_at RX5 3 (some .int) 2)   (x1 : Int) (x2 : Int) (σ : Mem) (vc : VC_X5_at_0 (gM G)  post  x1 x2 σ) : RW G X 3 (QI G X post) 0 [(0, pR 37), (1, pI x1), (2, pI x2)] [] σ := by
  unfold VC_X5_at_0 at vc
  refine w_aload_n C 0 dX5_at_0 rfl ?_
  refine w_iconst C dX5_at_1 ?_
  refine w_putI C 0 dX5_at_2 pf_X5_69 ob_37 rfl rfl ?_
  refine w_mem (fun s1 hs1 => ?_)
  have vc := vc s1 hs1
  refine w_aload_n C 0 dX5_at_5 rfl ?_
  refine w_iload_n C 1 dX5_at_6 rfl ?_
  obtain ⟨sc2, vc⟩ := vc
  refine w_callVI C [pI x1] [] rfl dX5_at_7 (c_X5_isMachine C.gi (xL X) x1 s1 sc2) oc_37 mw_X5_isMachine ml_X5_83 im_X5_isMachine se_X5_isMachine (by decide) (Nat.le_of_ble_eq_true rfl) (fun z σ' hz => ?_)
  obtain ⟨hz2, hz⟩ := hz
  have hz2 := hz2.symm
  subst hz2
  rcases hz with ⟨h3, rfl⟩ | ⟨h3, rfl⟩
  · have vc := vc.1 h3
    refine w_if_eq C 29 dX5_at_10 (by decide) ⟨by omega, by omega⟩ (fun q => absurd q (by decide)) (fun _ => ?_)
    refine w_iload_n C 2 dX5_at_13 rfl ?_
    refine w_iconst C dX5_at_14 ?_
    refine w_aload_n C 0 dX5_at_15 rfl ?_
    refine w_getR C dX5_at_16 gf_X5_35 ob_37 rfl ?_
    refine w_iload_n C 1 dX5_at_19 rfl ?_
    obtain ⟨⟨sc4, sc5⟩, vc⟩ := vc
    refine w_iald C dX5_at_20 ia_46 sc4 sc5 ?_
    refine w_iconst C dX5_at_21 ?_
    refine w_isub C dX5_at_22 ?_
    obtain ⟨sc6, vc⟩ := vc
    refine w_callSI C [pI x2, pI (-1), pI ((s1 46 x1) - 1)] [] rfl dX5_at_23 (c_X5_in C.gi (xL X) x2 (-1) ((s1 46 x1) - 1) s1 sc6) mw_X5_in ml_X5_75 ss_X5_in (by decide) (Nat.le_of_ble_eq_true rfl) (fun z σ' hz => ?_)
    obtain ⟨hz2, hz⟩ := hz
    have hz2 := hz2.symm
    subst hz2
    rcases hz with ⟨h7, rfl⟩ | ⟨h7, rfl⟩
    · have vc := vc.1 h7
      refine w_if_ne C 31 dX5_at_26 (by decide) ⟨by omega, by omega⟩ (fun _ => ?_) (fun q => absurd q (by decide))
      refine w_iload_n C 2 dX5_at_31 rfl ?_
      obtain ⟨sc8, vc⟩ := vc
      refine w_if_ge C 44 dX5_at_32 (by decide) sc8 (fun h9 => ?_) (fun h9 => ?_)
      · have vc := vc.1 h9
        refine w_aload_n C 0 dX5_at_44 rfl ?_
        refine w_getR C dX5_at_45 gf_X5_38 ob_37 rfl ?_
        refine w_bipush C dX5_at_48 (by decide) ?_
        refine w_iload_n C 1 dX5_at_50 rfl ?_
        refine w_imul C dX5_at_51 ?_
        refine w_iload_n C 2 dX5_at_52 rfl ?_
        refine w_iadd C dX5_at_53 ?_
        obtain ⟨⟨sc10, sc11⟩, vc⟩ := vc
        refine w_iald C dX5_at_54 ia_47 sc10 sc11 ?_
        obtain ⟨sc12, vc⟩ := vc
        refine w_callSI C [pI (s1 47 ((48 * x1) + x2))] [] rfl dX5_at_55 (c_X5_told C.gi (xL X) (s1 47 ((48 * x1) + x2)) s1 sc12) mw_X5_told ml_X5_104 ss_X5_told (by decide) (Nat.le_of_ble_eq_true rfl) (fun z σ' hz => ?_)
        obtain ⟨rfl, hz2⟩ := hz
        have hz2 := hz2.symm
        subst hz2
        exact w_ireturn C dX5_at_58 vc
      · have vc := vc.2 h9
        refine w_aload_n C 0 dX5_at_35 rfl ?_
        refine w_getR C dX5_at_36 gf_X5_35 ob_37 rfl ?_
        refine w_iload_n C 1 dX5_at_39 rfl ?_
        obtain ⟨⟨sc13, sc14⟩, vc⟩ := vc
        refine w_iald C dX5_at_40 ia_46 sc13 sc14 ?_
        refine w_goto C 58 dX5_at_41 (by decide) ?_
        exact w_ireturn C dX5_at_58 vc
    · have vc := vc.2 h7
      refine w_if_ne C 31 dX5_at_26 (by decide) ⟨by omega, by omega⟩ (fun q => absurd q (by decide)) (fun _ => ?_)
      refine w_iconst C dX5_at_29 ?_
      exact w_ireturn C dX5_at_30 vc
  · have vc := vc.2 h3
    refine w_if_eq C 29 dX5_at_10 (by decide) ⟨by omega, by omega⟩ (fun _ => ?_) (fun q => absurd q (by decide))
    refine w_iconst C dX5_at_29 ?_
    exact w_ireturn C dX5_at_30 vc
set_option maxHeartbeats 1000000 in
theorem ok_X5_at_0 {M : Nat} {x1 : Int} {x2 : Int} {σ : Mem} (h : pre_X5_at M x1 x2 σ) : VC_X5_at_0 M (post_X5_at M x1 x2 σ) x1 x2 σ := by
  obtain ⟨⟨hW, hR⟩, r1, r2⟩ := h
  intro s1 e1
  have f1 : RFr σ s1 := by rw [e1]; exact thr_fr σ 0
  have hR1 := RM_fr f1 hR
  have hn := RM_NB hW hR1
  have hM := hn.1
  have eM' := isMachine_r hW hR1 x1
  refine ⟨⟨hn, r1⟩, fun g => ?_, fun g => ⟨f1, Or.inl ⟨fun q => g (eM'.mpr q.1), rfl⟩⟩⟩
  have g1 := g.1
  have g2 := g.2
  have hz := hn.2.2.2.1 x1 g1 (by omega)
  have e46 : s1 46 x1 = gh σ 10 x1 := hR1.2.2.2.2.2.1 x1 g1 (by omega)
  refine ⟨⟨g1, by omega⟩, ⟨r2, ⟨by omega, by omega⟩, ⟨by omega, by omega⟩⟩, fun q => ⟨r2, fun q2 => ?_, fun q2 => ⟨⟨g1, by omega⟩, f1, Or.inr (Or.inl ⟨⟨eM'.mp g, by unfold wi; rw [← e46]; exact q⟩, by have := q.1; omega, e46⟩)⟩⟩, fun q => ⟨f1, Or.inl ⟨fun w => q (by have := w.2; unfold wi at this; rw [← e46] at this; exact this), rfl⟩⟩⟩
  have q' := q.2
  have he := hn.2.2.2.2.2 x1 x2 g1 (by omega) q2 (by omega)
  refine ⟨⟨by omega, by omega⟩, ⟨he.1, by omega, by omega⟩, f1, Or.inr (Or.inr ⟨⟨eM'.mp g, by unfold wi; rw [← e46]; exact q⟩, by omega, ?_⟩)⟩
  have hi : inO M (gh σ) x1 x2 := ⟨g1, by omega, q2, by omega⟩
  show tl (s1 47 (48 * x1 + x2)) = _
  rw [hR1.2.2.2.2.2.2 x1 x2 hi]
  exact (pl_in hW.1.1 (inO_VS hW.1 hW.2.1 hi).1).2.2.1
theorem c_X5_at {G : GG} (hG : GI G) (l : Launch) (x1 : Int) (x2 : Int) (σ : Mem) (h : pre_X5_at (gM G) x1 x2 σ) : CtI G l yX5_at cX5_at 3 (some .int) 2 [pR 37, pI x1, pI x2] σ (post_X5_at (gM G) x1 x2 σ) := by
  refine CtI.of hG (by decide) (Nat.le_of_ble_eq_true rfl) (fun X hl C => ?_)
  show RW G X 3 (QI G X _) 0 [(0, pR 37), (1, pI x1), (2, pI x2)] [] σ
  exact seg_X5_at_0 C x1 x2 σ (ok_X5_at_0 h)

/-! X5_leftOf -/
def f_X5_leftOf (x1 : Int) (σ : Mem) : Int := sumI (fun i => σ 43 i) x1 (6 * (x1 / 6) + σ 41 (x1 / 6))
def pre_X5_leftOf (M : Nat) (x1 : Int) (σ : Mem) : Prop := 0 ≤ x1 ∧ x1 < 48 ∧ 0 ≤ σ 41 (x1 / 6) ∧ σ 41 (x1 / 6) ≤ 6
def inv_X5_leftOf_4 (M : Nat) (x1 : Int) (σ : Mem) (w2 w3 : Int) (τ : Mem) : Prop := τ = σ ∧ x1 ≤ w3 ∧ (w3 ≤ 6 * (x1 / 6) + σ 41 (x1 / 6) ∨ w3 = x1) ∧ w2 = sumI (fun i => σ 43 i) x1 w3
def mu_X5_leftOf_4 (x1 : Int) (w2 w3 : Int) (τ : Mem) : Nat := (60 - w3).toNat
def VC_X5_leftOf_0 (M : Nat) (K4 : Int → Int → Mem → Prop) (post : Int → Mem → Prop) (x1 : Int) (σ : Mem) : Prop :=
  K4 0 x1 σ
set_option maxRecDepth 20000 in
set_option maxHeartbeats 4000000 in
theorem seg_X5_leftOf_0 {G : GG} {X : XX} {post : Int → Mem → Prop} (C : CX G X cX5_leftOf RX5 4 (some .int) 0)   (x1 : Int) (σ : Mem) (vc : VC_X5_leftOf_0 (gM G) (fun w2 w3 σ => RW G X 4 (QI G X post) 4 [(0, pR 37), (1, pI x1), (2, pI w2), (3, pI w3)] [] σ) post  x1 σ) : RW G X 4 (QI G X post) 0 [(0, pR 37), (1, pI x1)] [] σ := by
  unfold VC_X5_leftOf_0 at vc
  refine w_iconst C dX5_leftOf_0 ?_
  refine w_istore_n C [(2, pI 0), (0, pR 37), (1, pI x1)] dX5_leftOf_1 (by decide) rfl ?_
  refine w_iload_n C 2 dX5_leftOf_2 rfl ?_
  refine w_istore_n C [(3, pI x1), (2, pI 0), (0, pR 37), (1, pI x1)] dX5_leftOf_3 (by decide) rfl ?_
  exact w_sub _ [2, 3, 1, 0] rfl vc
def VC_X5_leftOf_4 (M : Nat) (K4 : Int → Int → Mem → Prop) (post : Int → Mem → Prop) (x1 : Int) (w2 : Int) (w3 : Int) (σ : Mem) : Prop :=
 (0 ≤ x1 ∧ inR x1) ∧ (0 ≤ x1 ∧ inR x1) ∧ (0 ≤ (x1 / 6) ∧ (x1 / 6) < 8) ∧ (inR w3 ∧ inR ((6 * (x1 / 6)) + (σ 41 (x1 / 6)))) ∧ ((((6 * (x1 / 6)) + (σ 41 (x1 / 6))) ≤ w3 → post w2 σ) ∧ (w3 < ((6 * (x1 / 6)) + (σ 41 (x1 / 6))) → (0 ≤ w3 ∧ w3 < 48) ∧ ∀ v12 : Int, v12 = w2 + (σ 43 w3) → K4 v12 (w3 + 1) σ))
set_option maxRecDepth 20000 in
set_option maxHeartbeats 4000000 in
theorem seg_X5_leftOf_4 {G : GG} {X : XX} {post : Int → Mem → Prop} (C : CX G X cX5_leftOf RX5 4 (some .int) 0)   (x1 : Int) (w2 : Int) (w3 : Int) (σ : Mem) (vc : VC_X5_leftOf_4 (gM G) (fun w2 w3 σ => RW G X 4 (QI G X post) 4 [(0, pR 37), (1, pI x1), (2, pI w2), (3, pI w3)] [] σ) post  x1 w2 w3 σ) : RW G X 4 (QI G X post) 4 [(0, pR 37), (1, pI x1), (2, pI w2), (3, pI w3)] [] σ := by
  unfold VC_X5_leftOf_4 at vc
  refine w_iload_n C 3 dX5_leftOf_4 rfl ?_
  refine w_bipush C dX5_leftOf_5 (by decide) ?_
  refine w_iload_n C 1 dX5_leftOf_7 rfl ?_
  refine w_bipush C dX5_leftOf_8 (by decide) ?_
  obtain ⟨⟨sc1, sc2⟩, vc⟩ := vc
  refine w_idivN C dX5_leftOf_10 sc1 sc2 ⟨by omega, by omega⟩ (by omega) ?_
  refine w_imul C dX5_leftOf_11 ?_
  refine w_aload_n C 0 dX5_leftOf_12 rfl ?_
  refine w_getR C dX5_leftOf_13 gf_X5_19 ob_37 rfl ?_
  refine w_iload_n C 1 dX5_leftOf_16 rfl ?_
  refine w_bipush C dX5_leftOf_17 (by decide) ?_
  obtain ⟨⟨sc3, sc4⟩, vc⟩ := vc
  refine w_idivN C dX5_leftOf_19 sc3 sc4 ⟨by omega, by omega⟩ (by omega) ?_
  obtain ⟨⟨sc5, sc6⟩, vc⟩ := vc
  refine w_iald C dX5_leftOf_20 ia_41 sc5 sc6 ?_
  refine w_iadd C dX5_leftOf_21 ?_
  obtain ⟨⟨sc7, sc8⟩, vc⟩ := vc
  refine w_icmp_ge C 40 dX5_leftOf_22 (by decide) sc7 sc8 (fun h9 => ?_) (fun h9 => ?_)
  · have vc := vc.1 h9
    refine w_iload_n C 2 dX5_leftOf_40 rfl ?_
    exact w_ireturn C dX5_leftOf_41 vc
  · have vc := vc.2 h9
    refine w_iload_n C 2 dX5_leftOf_25 rfl ?_
    refine w_aload_n C 0 dX5_leftOf_26 rfl ?_
    refine w_getR C dX5_leftOf_27 gf_X5_25 ob_37 rfl ?_
    refine w_iload_n C 3 dX5_leftOf_30 rfl ?_
    obtain ⟨⟨sc10, sc11⟩, vc⟩ := vc
    refine w_iald C dX5_leftOf_31 ia_43 sc10 sc11 ?_
    refine w_iadd C dX5_leftOf_32 ?_
    refine w_top (fun v12 hv12 => ?_)
    have vc := vc v12 hv12
    refine w_istore_n C [(2, pI v12), (0, pR 37), (1, pI x1), (3, pI w3)] dX5_leftOf_33 (by decide) rfl ?_
    refine w_iinc C 3 [(3, pI (w3 + 1)), (2, pI v12), (0, pR 37), (1, pI x1)] dX5_leftOf_34 rfl (by decide) rfl ?_
    refine w_goto C 4 dX5_leftOf_37 (by decide) ?_
    exact w_sub _ [2, 3, 1, 0] rfl vc
set_option maxHeartbeats 1000000 in
theorem ok_X5_leftOf_0 {M : Nat} {x1 : Int} {σ : Mem} {K4 : Int → Int → Mem → Prop} (h : pre_X5_leftOf M x1 σ) (hK4 : ∀ (y2 y3 : Int) (τ' : Mem), inv_X5_leftOf_4 M x1 σ y2 y3 τ' → K4 y2 y3 τ') : VC_X5_leftOf_0 M K4 (fun z σ' => z = f_X5_leftOf x1 σ ∧ σ' = σ) x1 σ := by
  exact hK4 _ _ _ ⟨rfl, by omega, Or.inr rfl, by rw [sumI_0 _ (by omega)]⟩
set_option maxHeartbeats 1000000 in
theorem ok_X5_leftOf_4 {M : Nat} {x1 : Int} {σ : Mem} {w2 w3 : Int} {τ : Mem} {K4 : Int → Int → Mem → Prop} (h : pre_X5_leftOf M x1 σ) (hinv : inv_X5_leftOf_4 M x1 σ w2 w3 τ) (hK4 : ∀ (y2 y3 : Int) (τ' : Mem), inv_X5_leftOf_4 M x1 σ y2 y3 τ' → mu_X5_leftOf_4 x1 y2 y3 τ' < mu_X5_leftOf_4 x1 w2 w3 τ → K4 y2 y3 τ') : VC_X5_leftOf_4 M K4 (fun z σ' => z = f_X5_leftOf x1 σ ∧ σ' = σ) x1 w2 w3 τ := by
  obtain ⟨rfl, i1, i2, rfl⟩ := hinv
  obtain ⟨a1, a2, a3, a4⟩ := h
  refine ⟨⟨a1, by omega, by omega⟩, ⟨a1, by omega, by omega⟩, ⟨by omega, by omega⟩, ⟨⟨by omega, by omega⟩, ⟨by omega, by omega⟩⟩, fun g => ⟨?_, rfl⟩, fun g => ⟨⟨by omega, by omega⟩, fun v e => hK4 _ _ _ ⟨rfl, by omega, Or.inl (by omega), ?_⟩ (by unfold mu_X5_leftOf_4; omega)⟩⟩
  · unfold f_X5_leftOf
    rcases i2 with i2 | i2
    · rw [show w3 = 6 * (x1 / 6) + τ 41 (x1 / 6) by omega]
    · rw [i2, sumI_0 _ (by omega), sumI_0 _ (by omega)]
  · rw [e, sumI_s _ i1]
theorem c_X5_leftOf {G : GG} (hG : GI G) (l : Launch) (x1 : Int) (σ : Mem) (h : pre_X5_leftOf (gM G) x1 σ) : CtI G l yX5_leftOf cX5_leftOf 4 (some .int) 0 [pR 37, pI x1] σ (fun z σ' => z = f_X5_leftOf x1 σ ∧ σ' = σ) := by
  refine CtI.of hG (by decide) (Nat.le_of_ble_eq_true rfl) (fun X hl C => ?_)
  show RW G X 4 (QI G X _) 0 [(0, pR 37), (1, pI x1)] [] σ
  have key : ∀ n : Nat, (∀ (w2 w3 : Int) (τ : Mem), inv_X5_leftOf_4 (gM G) x1 σ w2 w3 τ → mu_X5_leftOf_4 x1 w2 w3 τ < n → RW G X 4 (QI G X (fun z σ' => z = f_X5_leftOf x1 σ ∧ σ' = σ)) 4 [(0, pR 37), (1, pI x1), (2, pI w2), (3, pI w3)] [] τ) := by
    intro n
    induction n with
    | zero => exact fun w2 w3 τ _ h0 => absurd h0 (Nat.not_lt_zero _)
    | succ n ih =>
      exact (fun w2 w3 τ hinv h0 => seg_X5_leftOf_4 C x1 w2 w3 τ (ok_X5_leftOf_4 h hinv (fun y2 y3 τ' hi hm => ih y2 y3 τ' hi (Nat.lt_of_lt_of_le hm (Nat.le_of_lt_succ h0)))))
  exact seg_X5_leftOf_0 C x1 σ (ok_X5_leftOf_0 h (fun y2 y3 τ' hi => (key _) y2 y3 τ' hi (Nat.lt_succ_self _)))

/-! X5_headOf -/
def f_X5_headOf (x1 : Int) (σ : Mem) : Int := σ 38 (x1 / 6) + sumI (fun i => σ 43 i) (6 * (x1 / 6)) x1
def pre_X5_headOf (M : Nat) (x1 : Int) (σ : Mem) : Prop := 0 ≤ x1 ∧ x1 < 48
def inv_X5_headOf_18 (M : Nat) (x1 : Int) (σ : Mem) (w2 w3 : Int) (τ : Mem) : Prop := τ = σ ∧ 6 * (x1 / 6) ≤ w3 ∧ w3 ≤ x1 ∧ w2 = σ 38 (x1 / 6) + sumI (fun i => σ 43 i) (6 * (x1 / 6)) w3
def mu_X5_headOf_18 (x1 : Int) (w2 w3 : Int) (τ : Mem) : Nat := (60 - w3).toNat
def VC_X5_headOf_0 (M : Nat) (K18 : Int → Int → Mem → Prop) (post : Int → Mem → Prop) (x1 : Int) (σ : Mem) : Prop :=
 (0 ≤ x1 ∧ inR x1) ∧ (0 ≤ (x1 / 6) ∧ (x1 / 6) < 8) ∧ ∀ v5 : Int, v5 = σ 38 (x1 / 6) → (0 ≤ x1 ∧ inR x1) ∧ ∀ v8 : Int, v8 = 6 * (x1 / 6) → K18 v5 v8 σ
set_option maxRecDepth 20000 in
set_option maxHeartbeats 4000000 in
theorem seg_X5_headOf_0 {G : GG} {X : XX} {post : Int → Mem → Prop} (C : CX G X cX5_headOf RX5 4 (some .int) 0)   (x1 : Int) (σ : Mem) (vc : VC_X5_headOf_0 (gM G) (fun w2 w3 σ => RW G X 4 (QI G X post) 18 [(0, pR 37), (1, pI x1), (2, pI w2), (3, pI w3)] [] σ) post  x1 σ) : RW G X 4 (QI G X post) 0 [(0, pR 37), (1, pI x1)] [] σ := by
  unfold VC_X5_headOf_0 at vc
  refine w_aload_n C 0 dX5_headOf_0 rfl ?_
  refine w_getR C dX5_headOf_1 gf_X5_7 ob_37 rfl ?_
  refine w_iload_n C 1 dX5_headOf_4 rfl ?_
  refine w_bipush C dX5_headOf_5 (by decide) ?_
  obtain ⟨⟨sc1, sc2⟩, vc⟩ := vc
  refine w_idivN C dX5_headOf_7 sc1 sc2 ⟨by omega, by omega⟩ (by omega) ?_
  obtain ⟨⟨sc3, sc4⟩, vc⟩ := vc
  refine w_iald C dX5_headOf_8 ia_38 sc3 sc4 ?_
  refine w_top (fun v5 hv5 => ?_)
  have vc := vc v5 hv5
  refine w_istore_n C [(2, pI v5), (0, pR 37), (1, pI x1)] dX5_headOf_9 (by decide) rfl ?_
  refine w_bipush C dX5_headOf_10 (by decide) ?_
  refine w_iload_n C 2 dX5_headOf_12 rfl ?_
  refine w_bipush C dX5_headOf_13 (by decide) ?_
  obtain ⟨⟨sc6, sc7⟩, vc⟩ := vc
  refine w_idivN C dX5_headOf_15 sc6 sc7 ⟨by omega, by omega⟩ (by omega) ?_
  refine w_imul C dX5_headOf_16 ?_
  refine w_top (fun v8 hv8 => ?_)
  have vc := vc v8 hv8
  refine w_istore_n C [(3, pI v8), (2, pI v5), (0, pR 37), (1, pI x1)] dX5_headOf_17 (by decide) rfl ?_
  exact w_sub _ [2, 3, 1, 0] rfl vc
def VC_X5_headOf_18 (M : Nat) (K18 : Int → Int → Mem → Prop) (post : Int → Mem → Prop) (x1 : Int) (w2 : Int) (w3 : Int) (σ : Mem) : Prop :=
 (inR w3 ∧ inR x1) ∧ ((x1 ≤ w3 → post w2 σ) ∧ (w3 < x1 → (0 ≤ w3 ∧ w3 < 48) ∧ ∀ v6 : Int, v6 = w2 + (σ 43 w3) → K18 v6 (w3 + 1) σ))
set_option maxRecDepth 20000 in
set_option maxHeartbeats 4000000 in
theorem seg_X5_headOf_18 {G : GG} {X : XX} {post : Int → Mem → Prop} (C : CX G X cX5_headOf RX5 4 (some .int) 0)   (x1 : Int) (w2 : Int) (w3 : Int) (σ : Mem) (vc : VC_X5_headOf_18 (gM G) (fun w2 w3 σ => RW G X 4 (QI G X post) 18 [(0, pR 37), (1, pI x1), (2, pI w2), (3, pI w3)] [] σ) post  x1 w2 w3 σ) : RW G X 4 (QI G X post) 18 [(0, pR 37), (1, pI x1), (2, pI w2), (3, pI w3)] [] σ := by
  unfold VC_X5_headOf_18 at vc
  refine w_iload_n C 3 dX5_headOf_18 rfl ?_
  refine w_iload_n C 1 dX5_headOf_19 rfl ?_
  obtain ⟨⟨sc1, sc2⟩, vc⟩ := vc
  refine w_icmp_ge C 38 dX5_headOf_20 (by decide) sc1 sc2 (fun h3 => ?_) (fun h3 => ?_)
  · have vc := vc.1 h3
    refine w_iload_n C 2 dX5_headOf_38 rfl ?_
    exact w_ireturn C dX5_headOf_39 vc
  · have vc := vc.2 h3
    refine w_iload_n C 2 dX5_headOf_23 rfl ?_
    refine w_aload_n C 0 dX5_headOf_24 rfl ?_
    refine w_getR C dX5_headOf_25 gf_X5_25 ob_37 rfl ?_
    refine w_iload_n C 3 dX5_headOf_28 rfl ?_
    obtain ⟨⟨sc4, sc5⟩, vc⟩ := vc
    refine w_iald C dX5_headOf_29 ia_43 sc4 sc5 ?_
    refine w_iadd C dX5_headOf_30 ?_
    refine w_top (fun v6 hv6 => ?_)
    have vc := vc v6 hv6
    refine w_istore_n C [(2, pI v6), (0, pR 37), (1, pI x1), (3, pI w3)] dX5_headOf_31 (by decide) rfl ?_
    refine w_iinc C 3 [(3, pI (w3 + 1)), (2, pI v6), (0, pR 37), (1, pI x1)] dX5_headOf_32 rfl (by decide) rfl ?_
    refine w_goto C 18 dX5_headOf_35 (by decide) ?_
    exact w_sub _ [2, 3, 1, 0] rfl vc
set_option maxHeartbeats 1000000 in
theorem ok_X5_headOf_0 {M : Nat} {x1 : Int} {σ : Mem} {K18 : Int → Int → Mem → Prop} (h : pre_X5_headOf M x1 σ) (hK18 : ∀ (y2 y3 : Int) (τ' : Mem), inv_X5_headOf_18 M x1 σ y2 y3 τ' → K18 y2 y3 τ') : VC_X5_headOf_0 M K18 (fun z σ' => z = f_X5_headOf x1 σ ∧ σ' = σ) x1 σ := by
  obtain ⟨a1, a2⟩ := h
  exact ⟨⟨a1, by omega, by omega⟩, ⟨by omega, by omega⟩, fun v5 e5 => ⟨⟨a1, by omega, by omega⟩, fun v8 e8 => hK18 _ _ _ ⟨rfl, by omega, by omega, by rw [e8, sumI_0 _ (by omega), e5]; omega⟩⟩⟩
set_option maxHeartbeats 1000000 in
theorem ok_X5_headOf_18 {M : Nat} {x1 : Int} {σ : Mem} {w2 w3 : Int} {τ : Mem} {K18 : Int → Int → Mem → Prop} (h : pre_X5_headOf M x1 σ) (hinv : inv_X5_headOf_18 M x1 σ w2 w3 τ) (hK18 : ∀ (y2 y3 : Int) (τ' : Mem), inv_X5_headOf_18 M x1 σ y2 y3 τ' → mu_X5_headOf_18 x1 y2 y3 τ' < mu_X5_headOf_18 x1 w2 w3 τ → K18 y2 y3 τ') : VC_X5_headOf_18 M K18 (fun z σ' => z = f_X5_headOf x1 σ ∧ σ' = σ) x1 w2 w3 τ := by
  obtain ⟨a1, a2⟩ := h
  obtain ⟨rfl, i1, i2, rfl⟩ := hinv
  refine ⟨⟨⟨by omega, by omega⟩, ⟨by omega, by omega⟩⟩, fun g => ⟨?_, rfl⟩, fun g => ⟨⟨by omega, by omega⟩, fun v e => hK18 _ _ _ ⟨rfl, by omega, by omega, ?_⟩ (by unfold mu_X5_headOf_18; omega)⟩⟩
  · unfold f_X5_headOf
    rw [show w3 = x1 by omega]
  · rw [e, sumI_s _ i1]; omega
theorem c_X5_headOf {G : GG} (hG : GI G) (l : Launch) (x1 : Int) (σ : Mem) (h : pre_X5_headOf (gM G) x1 σ) : CtI G l yX5_headOf cX5_headOf 4 (some .int) 0 [pR 37, pI x1] σ (fun z σ' => z = f_X5_headOf x1 σ ∧ σ' = σ) := by
  refine CtI.of hG (by decide) (Nat.le_of_ble_eq_true rfl) (fun X hl C => ?_)
  show RW G X 4 (QI G X _) 0 [(0, pR 37), (1, pI x1)] [] σ
  have key : ∀ n : Nat, (∀ (w2 w3 : Int) (τ : Mem), inv_X5_headOf_18 (gM G) x1 σ w2 w3 τ → mu_X5_headOf_18 x1 w2 w3 τ < n → RW G X 4 (QI G X (fun z σ' => z = f_X5_headOf x1 σ ∧ σ' = σ)) 18 [(0, pR 37), (1, pI x1), (2, pI w2), (3, pI w3)] [] τ) := by
    intro n
    induction n with
    | zero => exact fun w2 w3 τ _ h0 => absurd h0 (Nat.not_lt_zero _)
    | succ n ih =>
      exact (fun w2 w3 τ hinv h0 => seg_X5_headOf_18 C x1 w2 w3 τ (ok_X5_headOf_18 h hinv (fun y2 y3 τ' hi hm => ih y2 y3 τ' hi (Nat.lt_of_lt_of_le hm (Nat.le_of_lt_succ h0)))))
  exact seg_X5_headOf_0 C x1 σ (ok_X5_headOf_0 h (fun y2 y3 τ' hi => (key _) y2 y3 τ' hi (Nat.lt_succ_self _)))

/-! X5_part -/
theorem sum_r {M : Nat} {a σ : Mem} (h : WF M a) (r : RM M a σ) {j u v : Int} (j0 : 0 ≤ j) (j1 : j < 8) (u0 : 0 ≤ u) (v6 : v ≤ 6) : sumI (fun i => σ 43 i) (6 * j + u) (6 * j + v) = sumI (fun p => a 7 (10 * j + p)) u v := by
  have key : ∀ n : Nat, u + n ≤ 6 → sumI (fun i => σ 43 i) (6 * j + u) (6 * j + (u + n)) = sumI (fun p => a 7 (10 * j + p)) u (u + n) := by
    intro n
    induction n with
    | zero => intro _; rw [sumI_0 _ (by omega), sumI_0 _ (by omega)]
    | succ n ih =>
      intro hn
      rw [show 6 * j + (u + ((n + 1 : Nat) : Int)) = 6 * j + (u + n) + 1 by omega, show u + ((n + 1 : Nat) : Int) = u + n + 1 by omega, sumI_s _ (by omega), sumI_s _ (by omega), ih (by omega)]
      have := (r.2.2.2.1 (6 * j + (u + n)) (by omega) (by omega)).2.1
      rw [this]
      congr 2
      unfold tl
      omega
  by_cases e : u ≤ v
  · have := key (v - u).toNat (by omega)
    rw [show u + ((v - u).toNat : Int) = v by omega] at this
    exact this
  · rw [sumI_0 _ (by omega), sumI_0 _ (by omega)]
theorem hd_r {M : Nat} {a σ : Mem} (h : WF M a) (r : RM M a σ) {s : Int} (hs : VS a s) : f_X5_headOf (pl s) σ = hdA a s ∧ f_X5_leftOf (pl s) σ - σ 43 (pl s) = tlA a s ∧ pre_X5_headOf M (pl s) σ ∧ pre_X5_leftOf M (pl s) σ ∧ f_X5_leftOf (pl s) σ = a 7 s + tlA a s := by
  have hb := VS_in h.1.1 hs
  have hp := pl_in h.1.1 hs
  have hat := at_pl h r hs
  have r3 := r.2.2.1 (s / 10) hb.2.2.1 hb.2.2.2.1
  have h5 := h.1.1.2.2.2.2.1 (s / 10) hb.2.2.1 hb.2.2.2.1
  have e1 : f_X5_leftOf (pl s) σ = sumI (fun p => a 7 (10 * (s / 10) + p)) (s % 10) (a 5 (s / 10)) := by
    unfold f_X5_leftOf
    rw [hp.2.2.2.1, r3.2.2.2]
    exact sum_r h r (u := s % 10) hb.2.2.1 hb.2.2.2.1 (by omega) h5.2
  have e2 : sumI (fun p => a 7 (10 * (s / 10) + p)) (s % 10) (a 5 (s / 10)) = a 7 s + sumI (fun p => a 7 (10 * (s / 10) + p)) (s % 10 + 1) (a 5 (s / 10)) := by
    have hv := hs.2.2
    have key : ∀ n : Nat, sumI (fun p => a 7 (10 * (s / 10) + p)) (s % 10) (s % 10 + 1 + n) = a 7 (10 * (s / 10) + s % 10) + sumI (fun p => a 7 (10 * (s / 10) + p)) (s % 10 + 1) (s % 10 + 1 + n) := by
      intro n
      induction n with
      | zero =>
        rw [show s % 10 + 1 + ((0 : Nat) : Int) = s % 10 + 1 by omega, sumI_s _ (Int.le_refl _), sumI_0 _ (Int.le_refl _), sumI_0 _ (Int.le_refl _)]
        omega
      | succ n ih =>
        rw [show s % 10 + 1 + ((n + 1 : Nat) : Int) = s % 10 + 1 + n + 1 by omega, sumI_s _ (by omega), sumI_s _ (by omega), ih]
        omega
    have := key (a 5 (s / 10) - s % 10 - 1).toNat
    rw [show s % 10 + 1 + ((a 5 (s / 10) - s % 10 - 1).toNat : Int) = a 5 (s / 10) by omega, show 10 * (s / 10) + s % 10 = s by omega] at this
    exact this
  refine ⟨?_, ?_, ⟨hp.1, hp.2.1⟩, ⟨hp.1, hp.2.1, by rw [hp.2.2.2.1, r3.2.2.2]; exact h5.1, by rw [hp.2.2.2.1, r3.2.2.2]; exact h5.2⟩, ?_⟩
  · unfold f_X5_headOf hdA
    rw [hp.2.2.2.1, r3.1]
    congr 1
    have := sum_r h r (u := 0) (v := s % 10) hb.2.2.1 hb.2.2.2.1 (Int.le_refl _) (by omega)
    rw [Int.add_zero] at this
    exact this
  · rw [e1, e2, hat.2.1]
    unfold tlA
    omega
  · rw [e1, e2]; rfl
def pre_X5_part (M : Nat) (x1 x2 : Int) (σ : Mem) : Prop := RP M σ ∧ inR x1 ∧ inR x2
def post_X5_part (M : Nat) (x1 x2 : Int) (σ : Mem) (z : Int) (σ' : Mem) : Prop := RFr σ σ' ∧ R_part (gh σ) x1 x2 z
def VC_X5_part_0 (M : Nat) (post : Int → Mem → Prop) (x1 : Int) (x2 : Int) (σ : Mem) : Prop :=
  ∀ s1 : Mem, s1 = up σ 37 0 0 → (pre_X5_isStep M x1 s1) ∧ ((P_X5_isStep x1 s1 → (pre_X5_placeOf M x1 s1) ∧ ∀ v5 : Int, v5 = f_X5_placeOf x1 s1 → (inR x2) ∧ ((¬ x2 = 0 → (inR x2) ∧ ((¬ x2 = 1 → post (-2) s1) ∧ (x2 = 1 → (pre_X5_leftOf M v5 s1) ∧ (0 ≤ v5 ∧ v5 < 48) ∧ post ((f_X5_leftOf v5 s1) - (s1 43 v5)) s1))) ∧ (x2 = 0 → (pre_X5_headOf M v5 s1) ∧ post (f_X5_headOf v5 s1) s1))) ∧ (¬ P_X5_isStep x1 s1 → post (-1) s1))
set_option maxRecDepth 20000 in
set_option maxHeartbeats 4000000 in
theorem seg_X5_part_0 {G : GG} {X : XX} {post : Int → Mem → Prop} (C : CX G X cX5_part RX5 4 (some .int) 3)   (x1 : Int) (x2 : Int) (σ : Mem) (vc : VC_X5_part_0 (gM G)  post  x1 x2 σ) : RW G X 4 (QI G X post) 0 [(0, pR 37), (1, pI x1), (2, pI x2)] [] σ := by
  unfold VC_X5_part_0 at vc
  refine w_aload_n C 0 dX5_part_0 rfl ?_
  refine w_iconst C dX5_part_1 ?_
  refine w_putI C 0 dX5_part_2 pf_X5_69 ob_37 rfl rfl ?_
  refine w_mem (fun s1 hs1 => ?_)
  have vc := vc s1 hs1
  refine w_aload_n C 0 dX5_part_5 rfl ?_
  refine w_iload_n C 1 dX5_part_6 rfl ?_
  obtain ⟨sc2, vc⟩ := vc
  refine w_callVI C [pI x1] [] rfl dX5_part_7 (c_X5_isStep C.gi (xL X) x1 s1 sc2) oc_37 mw_X5_isStep ml_X5_86 im_X5_isStep se_X5_isStep (by decide) (Nat.le_of_ble_eq_true rfl) (fun z σ' hz => ?_)
  obtain ⟨hz2, hz⟩ := hz
  have hz2 := hz2.symm
  subst hz2
  rcases hz with ⟨h3, rfl⟩ | ⟨h3, rfl⟩
  · have vc := vc.1 h3
    refine w_if_ne C 15 dX5_part_10 (by decide) ⟨by omega, by omega⟩ (fun _ => ?_) (fun q => absurd q (by decide))
    refine w_iload_n C 1 dX5_part_15 rfl ?_
    obtain ⟨sc4, vc⟩ := vc
    refine w_callSI C [pI x1] [] rfl dX5_part_16 (c_X5_placeOf C.gi (xL X) x1 s1 sc4) mw_X5_placeOf ml_X5_89 ss_X5_placeOf (by decide) (Nat.le_of_ble_eq_true rfl) (fun z σ' hz => ?_)
    obtain ⟨rfl, hz2⟩ := hz
    have hz2 := hz2.symm
    subst hz2
    refine w_top (fun v5 hv5 => ?_)
    have vc := vc v5 hv5
    refine w_istore_n C [(3, pI v5), (0, pR 37), (1, pI x1), (2, pI x2)] dX5_part_19 (by decide) rfl ?_
    refine w_iload_n C 3 dX5_part_20 rfl ?_
    obtain ⟨sc6, vc⟩ := vc
    refine w_if_ne C 32 dX5_part_21 (by decide) sc6 (fun h7 => ?_) (fun h7 => ?_)
    · have vc := vc.1 h7
      refine w_iload_n C 3 dX5_part_32 rfl ?_
      refine w_iconst C dX5_part_33 ?_
      obtain ⟨sc8, vc⟩ := vc
      refine w_icmp_ne C 52 dX5_part_34 (by decide) sc8 ⟨by omega, by omega⟩ (fun h9 => ?_) (fun h9 => ?_)
      · have vc := vc.1 h9
        refine w_bipush C dX5_part_52 (by decide) ?_
        exact w_ireturn C dX5_part_54 vc
      · have vc := vc.2 h9
        refine w_aload_n C 1 dX5_part_37 rfl ?_
        refine w_iload_n C 0 dX5_part_38 rfl ?_
        obtain ⟨sc10, vc⟩ := vc
        refine w_callVI C [pI v5] [] rfl dX5_part_39 (c_X5_leftOf C.gi (xL X) v5 s1 sc10) oc_37 mw_X5_leftOf ml_X5_110 im_X5_leftOf se_X5_leftOf (by decide) (Nat.le_of_ble_eq_true rfl) (fun z σ' hz => ?_)
        obtain ⟨rfl, hz2⟩ := hz
        have hz2 := hz2.symm
        subst hz2
        refine w_aload_n C 1 dX5_part_42 rfl ?_
        refine w_getR C dX5_part_43 gf_X5_25 ob_37 rfl ?_
        refine w_iload_n C 0 dX5_part_46 rfl ?_
        obtain ⟨⟨sc11, sc12⟩, vc⟩ := vc
        refine w_iald C dX5_part_47 ia_43 sc11 sc12 ?_
        refine w_isub C dX5_part_48 ?_
        refine w_goto C 54 dX5_part_49 (by decide) ?_
        exact w_ireturn C dX5_part_54 vc
    · have vc := vc.2 h7
      refine w_aload_n C 1 dX5_part_24 rfl ?_
      refine w_iload_n C 0 dX5_part_25 rfl ?_
      obtain ⟨sc13, vc⟩ := vc
      refine w_callVI C [pI v5] [] rfl dX5_part_26 (c_X5_headOf C.gi (xL X) v5 s1 sc13) oc_37 mw_X5_headOf ml_X5_141 im_X5_headOf se_X5_headOf (by decide) (Nat.le_of_ble_eq_true rfl) (fun z σ' hz => ?_)
      obtain ⟨rfl, hz2⟩ := hz
      have hz2 := hz2.symm
      subst hz2
      refine w_goto C 54 dX5_part_29 (by decide) ?_
      exact w_ireturn C dX5_part_54 vc
  · have vc := vc.2 h3
    refine w_if_ne C 15 dX5_part_10 (by decide) ⟨by omega, by omega⟩ (fun q => absurd q (by decide)) (fun _ => ?_)
    refine w_iconst C dX5_part_13 ?_
    exact w_ireturn C dX5_part_14 vc
set_option maxHeartbeats 1000000 in
theorem ok_X5_part_0 {M : Nat} {x1 : Int} {x2 : Int} {σ : Mem} (h : pre_X5_part M x1 x2 σ) : VC_X5_part_0 M (post_X5_part M x1 x2 σ) x1 x2 σ := by
  obtain ⟨⟨hW, hR⟩, r1, r2⟩ := h
  intro s1 e1
  have f1 : RFr σ s1 := by rw [e1]; exact thr_fr σ 0
  have hR1 := RM_fr f1 hR
  have hn := RM_NB hW hR1
  have eV := VS_r hW hR1 x1
  refine ⟨⟨hn, r1⟩, fun g => ?_, fun g => ⟨f1, Or.inl ⟨fun q => g (eV.mp q), rfl⟩⟩⟩
  have g' : VS (gh σ) x1 := eV.mpr g
  have hp := pl_in hW.1.1 g'
  obtain ⟨d1, d2, d3, d4, -⟩ := hd_r hW hR1 g'
  refine ⟨⟨g.1, r1⟩, fun v e => ?_⟩
  have e' : v = pl x1 := e
  subst e'
  refine ⟨r2, fun q => ⟨r2, fun q2 => ⟨f1, Or.inr (Or.inl ⟨g', fun w => ?_, rfl⟩)⟩, fun q2 => ⟨d4, ⟨hp.1, hp.2.1⟩, f1, Or.inr (Or.inr (Or.inr ⟨g', q2, d2⟩))⟩⟩, fun q => ⟨d3, f1, Or.inr (Or.inr (Or.inl ⟨g', q, d1⟩))⟩⟩
  have := w.1
  have := w.2
  omega
theorem c_X5_part {G : GG} (hG : GI G) (l : Launch) (x1 : Int) (x2 : Int) (σ : Mem) (h : pre_X5_part (gM G) x1 x2 σ) : CtI G l yX5_part cX5_part 4 (some .int) 3 [pR 37, pI x1, pI x2] σ (post_X5_part (gM G) x1 x2 σ) := by
  refine CtI.of hG (by decide) (Nat.le_of_ble_eq_true rfl) (fun X hl C => ?_)
  show RW G X 4 (QI G X _) 0 [(0, pR 37), (1, pI x1), (2, pI x2)] [] σ
  exact seg_X5_part_0 C x1 x2 σ (ok_X5_part_0 h)
