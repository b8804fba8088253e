/-! the shop that the reference stands for now: the one that is meant, or with one pair exchanged -/
def fam (a b : Mem) : Prop := b = a ∨ ∃ m p : Int, P_X3_hasNeighbours m p a ∧ b = m_X3_exchange m p a
noncomputable def cur (M : Nat) (σ : Mem) : Mem := @dite Mem (∃ b, fam (gh σ) b ∧ RM M b σ) (Classical.propDecidable _) (fun h => Classical.choose h) (fun _ => gh σ)
def RPc (M : Nat) (σ : Mem) : Prop := WF M (gh σ) ∧ ∃ b, fam (gh σ) b ∧ RM M b σ
theorem fam_WF {M : Nat} {a b : Mem} (h : WF M a) (f : fam a b) : WF M b := by
  rcases f with rfl | ⟨m, p, h1, rfl⟩
  · exact h
  · exact WF_exchange h h1
theorem cur_ok {M : Nat} {σ : Mem} (h : RPc M σ) : fam (gh σ) (cur M σ) ∧ RM M (cur M σ) σ ∧ WF M (cur M σ) := by
  have e : cur M σ = Classical.choose h.2 := by unfold cur; rw [dif_pos h.2]
  have := Classical.choose_spec h.2
  rw [← e] at this
  exact ⟨this.1, this.2, fam_WF h.1 this.1⟩
theorem fam_ne {M : Nat} {a b : Mem} (h : WF M a) (f : fam a b) : (∀ c : Int, c < 57 → b c = a c) ∧ ∀ m i : Int, 0 ≤ m → ¬ (inO M a m i) → b (57 + m) i = a (57 + m) i := by
  rcases f with rfl | ⟨m, p, h1, rfl⟩
  · exact ⟨fun _ _ => rfl, fun _ _ _ _ => rfl⟩
  · obtain ⟨ac, ar⟩ := ex_acc m p a
    obtain ⟨⟨m0, m1⟩, p0, p1⟩ := h1
    rw [h.1.1.1] at m1
    refine ⟨fun c hc => ac c (by omega), fun m' i q0 q => ?_⟩
    by_cases e : m' = m
    · subst e
      rw [ar, if_neg (fun e => q ⟨m0, m1, by omega, by omega⟩), if_neg (fun e => q ⟨m0, m1, by omega, by omega⟩)]
    · rw [ac _ (by omega)]
theorem fam_uniq {M : Nat} {a b b' σ : Mem} (h : WF M a) (f : fam a b) (f' : fam a b') (r : RM M b σ) (r' : RM M b' σ) : b = b' := by
  have w := fam_WF h f
  have w' := fam_WF h f'
  obtain ⟨c1, c2⟩ := fam_ne h f
  obtain ⟨d1, d2⟩ := fam_ne h f'
  funext c i
  by_cases q : c < 57
  · rw [c1 c q, d1 c q]
  · have e : c = 57 + (c - 57) := by omega
    rw [e]
    by_cases o : inO M a (c - 57) i
    · have o1 : inO M b (c - 57) i := by unfold inO; rw [c1 10 (by omega)]; exact o
      have o2 : inO M b' (c - 57) i := by unfold inO; rw [d1 10 (by omega)]; exact o
      have e1 := r.2.2.2.2.2.2 _ _ o1
      have e2 := r'.2.2.2.2.2.2 _ _ o2
      have v1 := (inO_VS w.1 w.2.1 o1).1
      have v2 := (inO_VS w'.1 w'.2.1 o2).1
      have v2' : VS b (b' (57 + (c - 57)) i) := by
        unfold VS at v2 ⊢
        rw [c1 1 (by omega), c1 5 (by omega)]
        rw [d1 1 (by omega), d1 5 (by omega)] at v2
        exact v2
      exact pl_inj w.1.1 v1 v2' (e1.symm.trans e2)
    · rw [c2 _ _ (by omega) o, d2 _ _ (by omega) o]
theorem cur_eq {M : Nat} {σ b : Mem} (h : WF M (gh σ)) (f : fam (gh σ) b) (r : RM M b σ) : cur M σ = b := by
  have q := cur_ok ⟨h, b, f, r⟩
  exact fam_uniq h q.1 f q.2.1 r
theorem RP_RPc {M : Nat} {σ : Mem} (h : RP M σ) : RPc M σ ∧ cur M σ = gh σ := ⟨⟨h.1, _, Or.inl rfl, h.2⟩, cur_eq h.1 (Or.inl rfl) h.2⟩
def Hd (p : Prop) : Prop := p
theorem hide {p : Prop} (h : p) : Hd p := h
/-- steps in front of p of job j -/
def sn (j p s : Int) : Prop := s / 10 < j ∨ (s / 10 = j ∧ s % 10 < p)
theorem sumI_tail {f : Int → Int} {n k : Int} (h0 : 0 ≤ n) (h1 : n ≤ k) (h : ∀ i, n ≤ i → i < k → f i = 0) : sumI f 0 n = sumI f 0 k := by
  have key : ∀ q : Nat, n + q ≤ k → sumI f 0 (n + q) = sumI f 0 n := by
    intro q
    induction q with
    | zero => intro _; congr 1; omega
    | succ q ih =>
      intro hq
      rw [show n + ((q + 1 : Nat) : Int) = n + q + 1 by omega, sumI_s _ (by omega), ih (by omega), h _ (by omega) (by omega)]
      omega
  have := key (k - n).toNat (by omega)
  rw [show n + ((k - n).toNat : Int) = k by omega] at this
  exact this.symm
theorem VS_of {M : Nat} {a : Mem} (h : WN M a) {s : Int} (s0 : 0 ≤ s) (s1 : s < 80) (q : s % 10 < a 5 (s / 10)) : VS a s := by
  refine ⟨s0, ?_, q⟩
  apply Int.not_le.mp
  intro e
  have := h.2.2.1 (s / 10) e (by omega)
  omega
theorem all_put {M : Nat} {a : Mem} (h : WF M a) (g : ∀ s, VS a s → a 8 s = 1) : a 1 2 ≤ a 1 3 := by
  rw [h.2.2.2.2.1, h.2.2.2.2.2.1, ← count80 h.1.1.2.2.2.2.1]
  refine sumI_le (fun s s0 s1 => ?_)
  by_cases q : s % 10 < a 5 (s / 10)
  · rw [if_pos q, g s (VS_of h.1 s0 s1 q)]; omega
  · rw [if_neg q]
    rcases h.2.2.1 s s0 s1 with e | e <;> omega
theorem some_open {M : Nat} {a : Mem} (h : WF M a) {s : Int} (hs : VS a s) (g : a 8 s = 0) : a 1 3 < a 1 2 := by
  apply Int.not_le.mp
  intro e
  obtain ⟨m, i, hi, q, -⟩ := VS_inO h.1 (WF_AO h e) hs
  have := (h.2.1.1 m i hi.1 hi.2.1 hi.2.2.1 hi.2.2.2).2.2
  rw [q] at this
  omega
theorem PIr_all {M : Nat} {a : Mem} {rk : Int → Int} {n : Int} {τ : Mem} (h : WF M a) (x : PIr M a rk n τ) (g : All a (dnR τ)) : n = a 1 2 := by
  rw [x.2.1, h.2.2.2.2.1, ← count80 h.1.1.2.2.2.2.1]
  refine sumI_congr (fun s s0 s1 => ?_)
  unfold stC
  by_cases q : s % 10 < a 5 (s / 10)
  · have v := VS_of h.1 s0 s1 q
    rw [if_pos q, if_pos ⟨v.2.1, q⟩]
    exact g s v
  · rw [if_neg q, if_neg (fun w => q w.2)]
theorem PIr_0 {M : Nat} {a : Mem} {τ : Mem} (h : WF M a) (g : ∀ s, VS a s → τ 50 (pl s) = 0) (e : τ 37 16 = 0) : PIr M a (fun _ => 0) 0 τ := by
  refine ⟨fun s v => Or.inl (g s v), ?_, fun m i hi hd => ?_, fun q q0 q1 => by omega, ?_⟩
  · have z0 : sumI (fun _ => (0 : Int)) 0 80 = 0 := by decide
    rw [← z0]
    refine sumI_congr (fun s s0 s1 => ?_)
    unfold stC
    by_cases q : s / 10 < a 1 1 ∧ s % 10 < a 5 (s / 10)
    · rw [if_pos q, g s ⟨s0, q.1, q.2⟩]
    · rw [if_neg q]
  · have := g _ (inO_VS h.1 h.2.1 hi).1
    unfold dnR at hd
    omega
  · rw [e]
    refine ⟨Int.le_refl _, fun s v d => ?_, Or.inl rfl⟩
    have := g _ v
    unfold dnR at d
    omega
/-- what stands in front of a step -/
theorem before_r {M : Nat} {a σ σ' : Mem} (h : WF M a) (r : RM M a σ) {s z : Int} (hs : VS a s) (x : post_X5_before M (pl s) σ z σ') : σ' = σ ∧ ∃ m i, inO M a m i ∧ a (57 + m) i = s ∧ ((i = 0 ∧ z = -1) ∨ (0 < i ∧ z = pl (a (57 + m) (i - 1)) ∧ VS a (a (57 + m) (i - 1)))) := by
  obtain ⟨x1, x2⟩ := x
  obtain ⟨hm, hz⟩ := sz_in h hs
  have hat := at_pl h r hs
  rw [hat.1, r.2.2.2.2.2.1 _ hm.1 hm.2] at x2
  refine ⟨x1, a 6 s, ?_⟩
  rcases x2 with ⟨e, q1, q2⟩ | ⟨i, i0, i1, i2, e⟩
  · have hi : inO M a (a 6 s) 0 := ⟨hm.1, hm.2, Int.le_refl _, q1⟩
    have r7 := r.2.2.2.2.2.2 _ 0 hi
    rw [Int.add_zero, q2] at r7
    exact ⟨0, hi, (pl_inj h.1.1 hs (inO_VS h.1 h.2.1 hi).1 r7).symm, Or.inl ⟨rfl, e⟩⟩
  · have hi : inO M a (a 6 s) i := ⟨hm.1, hm.2, by omega, i1⟩
    have hi' : inO M a (a 6 s) (i - 1) := ⟨hm.1, hm.2, by omega, by omega⟩
    have r7 := r.2.2.2.2.2.2 _ i hi
    have r7' := r.2.2.2.2.2.2 _ (i - 1) hi'
    rw [i2] at r7
    exact ⟨i, hi, (pl_inj h.1.1 hs (inO_VS h.1 h.2.1 hi).1 r7).symm, Or.inr ⟨i0, by rw [e, r7'], (inO_VS h.1 h.2.1 hi').1⟩⟩
theorem RF0.nd {σ τ : Mem} {M : Nat} {a : Mem} (h : RF0 σ τ) (r : RM M a σ) : RM M a τ := RM_fr h.1 r
/-- the plan as it stands after plan() -/
def PLs (M : Nat) (a τ : Mem) : Prop := PLN M a (fun s => τ 51 (pl s)) ∧ SPN a Tr (fun s => τ 51 (pl s)) (τ 37 16) ∧ RS M a (fun s => τ 52 (pl s)) ∧ (0 ≤ τ 37 16 ∧ τ 37 16 ≤ 6000) ∧ ∀ s, VS a s → (0 ≤ τ 51 (pl s) ∧ τ 51 (pl s) ≤ 6000) ∧ (0 ≤ τ 52 (pl s) ∧ τ 52 (pl s) ≤ 6000)
/-- how it stands with a shop -/
def STs (M : Nat) (a τ : Mem) : Prop := (τ 37 15 = 1 ∧ a 1 3 < a 1 2) ∨ (τ 37 15 = 2 ∧ a 1 2 ≤ a 1 3 ∧ NP M a) ∨ (τ 37 15 = 0 ∧ PLs M a τ)
def pini (a τ : Mem) (w1 w2 w3 : Int) : Prop := 0 ≤ w2 ∧ w2 ≤ a 1 1 ∧ 0 ≤ w3 ∧ w3 ≤ 6 ∧ w1 = sumI (a 5) 0 w2 + w3 ∧ τ 37 16 = 0 ∧ (∀ s, VS a s → sn w2 w3 s → τ 50 (pl s) = 0) ∧ ((τ 37 15 = 0 ∧ ∀ s, VS a s → sn w2 w3 s → a 8 s = 1) ∨ (τ 37 15 = 1 ∧ ∃ s, VS a s ∧ a 8 s = 0))
def pcor (M : Nat) (a τ : Mem) (w1 w2 w3 w4 w5 : Int) : Prop := w1 = a 1 2 ∧ τ 37 15 = 0 ∧ a 1 2 ≤ a 1 3 ∧ (∃ rk, PIr M a rk w2 τ) ∧ (w3 = 0 ∨ w3 = 1) ∧ 0 ≤ w4 ∧ w4 ≤ a 1 1 ∧ 0 ≤ w5 ∧ w5 ≤ 6 ∧ (w3 = 0 → ∀ s, VS a s → sn w4 w5 s → ¬ dnR τ s → blk5 M a τ s)

/-! X5_plan -/
def pre_X5_plan (M : Nat) (σ : Mem) : Prop := RPc M σ
def post_X5_plan (M : Nat) (σ σ' : Mem) : Prop := RF0 σ σ' ∧ STs M (cur M σ) σ'
def inv_X5_plan_14 (M : Nat) (σ : Mem) (w1 w2 : Int) (τ : Mem) : Prop := RF0 σ τ ∧ pini (cur M σ) τ w1 w2 0
def mu_X5_plan_14 (w1 w2 : Int) (τ : Mem) : Nat := (1000000 + (8 - w2) * 10 + 9).toNat
def inv_X5_plan_24 (M : Nat) (σ : Mem) (w1 w2 w3 : Int) (τ : Mem) : Prop := RF0 σ τ ∧ w2 < cur M σ 1 1 ∧ w3 ≤ cur M σ 5 w2 ∧ pini (cur M σ) τ w1 w2 w3
def mu_X5_plan_24 (w1 w2 w3 : Int) (τ : Mem) : Nat := (1000000 + (8 - w2) * 10 + 8 - w3).toNat
def inv_X5_plan_102 (M : Nat) (σ : Mem) (w1 w2 w3 : Int) (τ : Mem) : Prop := RF0 σ τ ∧ w1 = cur M σ 1 2 ∧ ((τ 37 15 = 1 ∧ w3 = 0 ∧ cur M σ 1 3 < cur M σ 1 2) ∨ (τ 37 15 = 0 ∧ cur M σ 1 2 ≤ cur M σ 1 3 ∧ (∃ rk, PIr M (cur M σ) rk w2 τ) ∧ (w3 = 1 ∨ (w3 = 0 ∧ MX M (cur M σ) (dnR τ)))))
def mu_X5_plan_102 (w1 w2 w3 : Int) (τ : Mem) : Nat := (100 + (48 - w2) * 4000 + 1500 * w3).toNat
def inv_X5_plan_111 (M : Nat) (σ : Mem) (w1 w2 w3 w4 : Int) (τ : Mem) : Prop := RF0 σ τ ∧ pcor M (cur M σ) τ w1 w2 w3 w4 0
def mu_X5_plan_111 (w1 w2 w3 w4 : Int) (τ : Mem) : Nat := (100 + (48 - w2) * 4000 + 2000 * w3 + (8 - w4) * 100 + 50).toNat
def inv_X5_plan_123 (M : Nat) (σ : Mem) (w1 w2 w3 w4 w5 : Int) (τ : Mem) : Prop := RF0 σ τ ∧ w4 < cur M σ 1 1 ∧ w5 ≤ cur M σ 5 w4 ∧ pcor M (cur M σ) τ w1 w2 w3 w4 w5
def mu_X5_plan_123 (w1 w2 w3 w4 w5 : Int) (τ : Mem) : Nat := (100 + (48 - w2) * 4000 + 2000 * w3 + (8 - w4) * 100 + 40 - 2 * w5).toNat
def inv_X5_plan_201 (M : Nat) (σ : Mem) (w1 w2 w3 w4 w5 w6 w7 : Int) (τ : Mem) : Prop := RF0 σ τ ∧ VS (cur M σ) (10 * w4 + w5) ∧ pcor M (cur M σ) τ w1 w2 w3 w4 w5 ∧ w5 < 6 ∧ w6 = pl (10 * w4 + w5) ∧ τ 50 w6 = 0 ∧ (w5 ≠ 0 → dnR τ (10 * w4 + w5 - 1)) ∧ ∃ m i, inO M (cur M σ) m i ∧ cur M σ (57 + m) i = 10 * w4 + w5 ∧ ((i = 0 ∧ w7 = -1) ∨ (0 < i ∧ w7 = pl (cur M σ (57 + m) (i - 1)) ∧ VS (cur M σ) (cur M σ (57 + m) (i - 1)) ∧ dnR τ (cur M σ (57 + m) (i - 1))))
def mu_X5_plan_201 (w1 w2 w3 w4 w5 w6 w7 : Int) (τ : Mem) : Nat := (100 + (48 - w2) * 4000 + 2000 * w3 + (8 - w4) * 100 + 39 - 2 * w5).toNat
def inv_X5_plan_397 (M : Nat) (σ : Mem) (w1 w2 w3 w4 : Int) (τ : Mem) : Prop := RF0 σ τ ∧ τ 37 15 = 0 ∧ cur M σ 1 2 ≤ cur M σ 1 3 ∧ -1 ≤ w4 ∧ w4 < cur M σ 1 2 ∧ All (cur M σ) (dnR τ) ∧ ∃ rk, PIr M (cur M σ) rk (cur M σ 1 2) τ ∧ ∀ m i : Int, inO M (cur M σ) m i → w4 < rk (cur M σ (57 + m) i) → τ 52 (pl (cur M σ (57 + m) i)) = rV (cur M σ) (fun s => τ 52 (pl s)) m i ∧ 0 ≤ τ 52 (pl (cur M σ (57 + m) i)) ∧ τ 52 (pl (cur M σ (57 + m) i)) ≤ 100 * (48 - rk (cur M σ (57 + m) i))
def mu_X5_plan_397 (w1 w2 w3 w4 : Int) (τ : Mem) : Nat := (w4 + 1).toNat
theorem plan_mu {w1 w2 w3 w4 w5 w6 w7 : Int} {τ τ' : Mem} (h : 0 ≤ w2) (h2 : w2 < 48) (h3 : w3 = 0 ∨ w3 = 1) (h4 : w4 ≤ 8) (h5 : w5 < 6) : mu_X5_plan_123 w1 (w2 + 1) 1 w4 (w5 + 1) τ' < mu_X5_plan_201 w1 w2 w3 w4 w5 w6 w7 τ := by
  unfold mu_X5_plan_123 mu_X5_plan_201
  omega
def VC_X5_plan_0 (M : Nat) (K14 : Int → Int → Mem → Prop) (post : Mem → Prop)  (σ : Mem) : Prop :=
  ∀ s1 : Mem, s1 = up σ 37 15 0 → ∀ s2 : Mem, s2 = up s1 37 16 0 → K14 0 0 s2
set_option maxRecDepth 20000 in
set_option maxHeartbeats 4000000 in
theorem seg_X5_plan_0 {G : GG} {X : XX} {post : Mem → Prop} (C : CX G X cX5_plan RX5 11 none 2)    (σ : Mem) (vc : VC_X5_plan_0 (gM G) (fun w1 w2 σ => RW G X 11 (QV G X post) 14 [(0, pR 37), (1, pI w1), (2, pI w2)] [] σ) post   σ) : RW G X 11 (QV G X post) 0 [(0, pR 37)] [] σ := by
  unfold VC_X5_plan_0 at vc
  refine w_iconst C dX5_plan_0 ?_
  refine w_istore_n C [(1, pI 0), (0, pR 37)] dX5_plan_1 (by decide) rfl ?_
  refine w_aload_n C 1 dX5_plan_2 rfl ?_
  refine w_iconst C dX5_plan_3 ?_
  refine w_putI C 15 dX5_plan_4 pf_X5_113 ob_37 rfl rfl ?_
  refine w_mem (fun s1 hs1 => ?_)
  have vc := vc s1 hs1
  refine w_aload_n C 1 dX5_plan_7 rfl ?_
  refine w_iconst C dX5_plan_8 ?_
  refine w_putI C 16 dX5_plan_9 pf_X5_116 ob_37 rfl rfl ?_
  refine w_mem (fun s2 hs2 => ?_)
  have vc := vc s2 hs2
  refine w_iconst C dX5_plan_12 ?_
  refine w_istore_n C [(2, pI 0), (1, pI 0), (0, pR 37)] dX5_plan_13 (by decide) rfl ?_
  exact w_sub _ [2, 1, 0] rfl vc
def VC_X5_plan_14 (M : Nat) (K24 : Int → Int → Int → Mem → Prop) (K102 : Int → Int → Int → Mem → Prop) (post : Mem → Prop) (w1 : Int) (w2 : Int) (σ : Mem) : Prop :=
 (inR w2 ∧ inR (σ 37 2)) ∧ (((σ 37 2) ≤ w2 → (inR (σ 37 15)) ∧ ((¬ (σ 37 15) = 0 → True) ∧ ((σ 37 15) = 0 → True) ∧ ∀ j7 : Int, (¬ (σ 37 15) = 0 → j7 = 0) → ((σ 37 15) = 0 → j7 = 1) → K102 w1 0 j7 σ)) ∧ (w2 < (σ 37 2) → K24 w1 w2 0 σ))
set_option maxRecDepth 20000 in
set_option maxHeartbeats 4000000 in
theorem seg_X5_plan_14 {G : GG} {X : XX} {post : Mem → Prop} (C : CX G X cX5_plan RX5 11 none 2)   (w1 : Int) (w2 : Int) (σ : Mem) (vc : VC_X5_plan_14 (gM G) (fun w1 w2 w3 σ => RW G X 11 (QV G X post) 24 [(0, pR 37), (1, pI w1), (2, pI w2), (3, pI w3)] [] σ) (fun w1 w2 w3 σ => RW G X 11 (QV G X post) 102 [(0, pR 37), (1, pI w1), (2, pI w2), (3, pI w3)] [] σ) post  w1 w2 σ) : RW G X 11 (QV G X post) 14 [(0, pR 37), (1, pI w1), (2, pI w2)] [] σ := by
  unfold VC_X5_plan_14 at vc
  refine w_iload_n C 2 dX5_plan_14 rfl ?_
  refine w_aload_n C 0 dX5_plan_15 rfl ?_
  refine w_getI C 2 dX5_plan_16 gf_X5_72 ob_37 rfl rfl ?_
  obtain ⟨⟨sc1, sc2⟩, vc⟩ := vc
  refine w_icmp_ge C 87 dX5_plan_19 (by decide) sc1 sc2 (fun h3 => ?_) (fun h3 => ?_)
  · have vc := vc.1 h3
    refine w_iconst C dX5_plan_87 ?_
    refine w_istore_n C [(2, pI 0), (0, pR 37), (1, pI w1)] dX5_plan_88 (by decide) rfl ?_
    refine w_aload_n C 1 dX5_plan_89 rfl ?_
    refine w_getI C 15 dX5_plan_90 gf_X5_113 ob_37 rfl rfl ?_
    obtain ⟨sc4, vc⟩ := vc
    have key6 : ∀ j7 : Int, (¬ (σ 37 15) = 0 → j7 = 0) → ((σ 37 15) = 0 → j7 = 1) → RW G X 11 (QV G X post) 101 [(2, pI 0), (0, pR 37), (1, pI w1)] [pI j7] σ := by
      intro j7 hj8 hj9
      have vc := vc.2.2 j7 hj8 hj9
      refine w_istore_n C [(3, pI j7), (2, pI 0), (0, pR 37), (1, pI w1)] dX5_plan_101 (by decide) rfl ?_
      exact w_sub _ [2, 3, 1, 0] rfl vc
    refine w_if_ne C 100 dX5_plan_93 (by decide) sc4 (fun h5 => ?_) (fun h5 => ?_)
    · have vc := vc.1 h5
      refine w_iconst C dX5_plan_100 ?_
      exact key6 _ (by intros; first | rfl | omega | (exfalso; omega) | contradiction) (by intros; first | rfl | omega | (exfalso; omega) | contradiction)
    · have vc := vc.2.1 h5
      refine w_iconst C dX5_plan_96 ?_
      refine w_goto C 101 dX5_plan_97 (by decide) ?_
      exact key6 _ (by intros; first | rfl | omega | (exfalso; omega) | contradiction) (by intros; first | rfl | omega | (exfalso; omega) | contradiction)
  · have vc := vc.2 h3
    refine w_iconst C dX5_plan_22 ?_
    refine w_istore_n C [(3, pI 0), (0, pR 37), (1, pI w1), (2, pI w2)] dX5_plan_23 (by decide) rfl ?_
    exact w_sub _ [1, 2, 3, 0] rfl vc
def VC_X5_plan_24 (M : Nat) (K14 : Int → Int → Mem → Prop) (K24 : Int → Int → Int → Mem → Prop) (post : Mem → Prop) (w1 : Int) (w2 : Int) (w3 : Int) (σ : Mem) : Prop :=
 (0 ≤ w2 ∧ w2 < 8) ∧ (inR w3 ∧ inR (σ 41 w2)) ∧ (((σ 41 w2) ≤ w3 → K14 w1 (w2 + 1) σ) ∧ (w3 < (σ 41 w2) → ∀ v6 : Int, v6 = (6 * w2) + w3 → (0 ≤ v6 ∧ v6 < 48) ∧ ∀ s9 : Mem, s9 = up σ 50 v6 0 → (0 ≤ v6 ∧ v6 < 48) ∧ (inR (s9 44 v6)) ∧ (((s9 44 v6) = 0 → True) ∧ (¬ (s9 44 v6) = 0 → True) ∧ ∀ j15 : Int, ((s9 44 v6) = 0 → j15 = 1) → (¬ (s9 44 v6) = 0 → j15 = s9 37 15) → ∀ s18 : Mem, s18 = up s9 37 15 j15 → K24 (w1 + 1) w2 (w3 + 1) s18)))
set_option maxRecDepth 20000 in
set_option maxHeartbeats 4000000 in
theorem seg_X5_plan_24 {G : GG} {X : XX} {post : Mem → Prop} (C : CX G X cX5_plan RX5 11 none 2)   (w1 : Int) (w2 : Int) (w3 : Int) (σ : Mem) (vc : VC_X5_plan_24 (gM G) (fun w1 w2 σ => RW G X 11 (QV G X post) 14 [(0, pR 37), (1, pI w1), (2, pI w2)] [] σ) (fun w1 w2 w3 σ => RW G X 11 (QV G X post) 24 [(0, pR 37), (1, pI w1), (2, pI w2), (3, pI w3)] [] σ) post  w1 w2 w3 σ) : RW G X 11 (QV G X post) 24 [(0, pR 37), (1, pI w1), (2, pI w2), (3, pI w3)] [] σ := by
  unfold VC_X5_plan_24 at vc
  refine w_iload_n C 3 dX5_plan_24 rfl ?_
  refine w_aload_n C 0 dX5_plan_25 rfl ?_
  refine w_getR C dX5_plan_26 gf_X5_19 ob_37 rfl ?_
  refine w_iload_n C 2 dX5_plan_29 rfl ?_
  obtain ⟨⟨sc1, sc2⟩, vc⟩ := vc
  refine w_iald C dX5_plan_30 ia_41 sc1 sc2 ?_
  obtain ⟨⟨sc3, sc4⟩, vc⟩ := vc
  refine w_icmp_ge C 81 dX5_plan_31 (by decide) sc3 sc4 (fun h5 => ?_) (fun h5 => ?_)
  · have vc := vc.1 h5
    refine w_iinc C 2 [(2, pI (w2 + 1)), (0, pR 37), (1, pI w1), (3, pI w3)] dX5_plan_81 rfl (by decide) rfl ?_
    refine w_goto C 14 dX5_plan_84 (by decide) ?_
    exact w_sub _ [1, 2, 0] rfl vc
  · have vc := vc.2 h5
    refine w_bipush C dX5_plan_34 (by decide) ?_
    refine w_iload_n C 2 dX5_plan_36 rfl ?_
    refine w_imul C dX5_plan_37 ?_
    refine w_iload_n C 3 dX5_plan_38 rfl ?_
    refine w_iadd C dX5_plan_39 ?_
    refine w_top (fun v6 hv6 => ?_)
    have vc := vc v6 hv6
    refine w_istore C [(4, pI v6), (0, pR 37), (1, pI w1), (2, pI w2), (3, pI w3)] dX5_plan_40 (by decide) rfl ?_
    refine w_aload_n C 1 dX5_plan_42 rfl ?_
    refine w_getR C dX5_plan_43 gf_X5_47 ob_37 rfl ?_
    refine w_iload C 0 dX5_plan_46 rfl ?_
    refine w_iconst C dX5_plan_48 ?_
    obtain ⟨⟨sc7, sc8⟩, vc⟩ := vc
    refine w_bast C dX5_plan_49 ba_50 sc7 sc8 (Or.inl rfl) ?_
    refine w_mem (fun s9 hs9 => ?_)
    have vc := vc s9 hs9
    refine w_aload_n C 1 dX5_plan_50 rfl ?_
    refine w_aload_n C 1 dX5_plan_51 rfl ?_
    refine w_getR C dX5_plan_52 gf_X5_28 ob_37 rfl ?_
    refine w_iload C 0 dX5_plan_55 rfl ?_
    obtain ⟨⟨sc10, sc11⟩, vc⟩ := vc
    refine w_bald C dX5_plan_57 ba_44 sc10 sc11 ?_
    obtain ⟨sc12, vc⟩ := vc
    have key14 : ∀ j15 : Int, ((s9 44 v6) = 0 → j15 = 1) → (¬ (s9 44 v6) = 0 → j15 = s9 37 15) → RW G X 11 (QV G X post) 69 [(4, pI v6), (0, pR 37), (1, pI w1), (2, pI w2), (3, pI w3)] [pI j15, pR 37] s9 := by
      intro j15 hj16 hj17
      have vc := vc.2.2 j15 hj16 hj17
      refine w_putI C 15 dX5_plan_69 pf_X5_113 ob_37 rfl rfl ?_
      refine w_mem (fun s18 hs18 => ?_)
      have vc := vc s18 hs18
      refine w_iinc C 2 [(1, pI (w1 + 1)), (4, pI v6), (0, pR 37), (2, pI w2), (3, pI w3)] dX5_plan_72 rfl (by decide) rfl ?_
      refine w_iinc C 4 [(3, pI (w3 + 1)), (1, pI (w1 + 1)), (4, pI v6), (0, pR 37), (2, pI w2)] dX5_plan_75 rfl (by decide) rfl ?_
      refine w_goto C 24 dX5_plan_78 (by decide) ?_
      exact w_sub _ [3, 1, 4, 0] rfl vc
    refine w_if_eq C 68 dX5_plan_58 (by decide) sc12 (fun h13 => ?_) (fun h13 => ?_)
    · have vc := vc.1 h13
      refine w_iconst C dX5_plan_68 ?_
      exact key14 _ (by intros; first | rfl | omega | (exfalso; omega) | contradiction) (by intros; first | rfl | omega | (exfalso; omega) | contradiction)
    · have vc := vc.2.1 h13
      refine w_aload_n C 1 dX5_plan_61 rfl ?_
      refine w_getI C 15 dX5_plan_62 gf_X5_113 ob_37 rfl rfl ?_
      refine w_goto C 69 dX5_plan_65 (by decide) ?_
      exact key14 _ (by intros; first | rfl | omega | (exfalso; omega) | contradiction) (by intros; first | rfl | omega | (exfalso; omega) | contradiction)
def VC_X5_plan_102 (M : Nat) (K111 : Int → Int → Int → Int → Mem → Prop) (K397 : Int → Int → Int → Int → Mem → Prop) (post : Mem → Prop) (w1 : Int) (w2 : Int) (w3 : Int) (σ : Mem) : Prop :=
 (inR w3) ∧ ((w3 = 0 → (inR (σ 37 15)) ∧ ((¬ (σ 37 15) = 0 → (inR (σ 37 15)) ∧ ((¬ (σ 37 15) = 0 → post σ) ∧ ((σ 37 15) = 0 → ∀ v7 : Int, v7 = w1 - 1 → K397 w1 w2 w3 v7 σ))) ∧ ((σ 37 15) = 0 → (inR w2 ∧ inR w1) ∧ ((w1 ≤ w2 → (inR (σ 37 15)) ∧ ((¬ (σ 37 15) = 0 → post σ) ∧ ((σ 37 15) = 0 → ∀ v13 : Int, v13 = w1 - 1 → K397 w1 w2 w3 v13 σ))) ∧ (w2 < w1 → ∀ s14 : Mem, s14 = up σ 37 15 2 → (inR (s14 37 15)) ∧ ((¬ (s14 37 15) = 0 → post s14) ∧ ((s14 37 15) = 0 → ∀ v17 : Int, v17 = w1 - 1 → K397 w1 w2 w3 v17 s14))))))) ∧ (¬ w3 = 0 → K111 w1 w2 0 0 σ))
set_option maxRecDepth 20000 in
set_option maxHeartbeats 4000000 in
theorem seg_X5_plan_102 {G : GG} {X : XX} {post : Mem → Prop} (C : CX G X cX5_plan RX5 11 none 2)   (w1 : Int) (w2 : Int) (w3 : Int) (σ : Mem) (vc : VC_X5_plan_102 (gM G) (fun w1 w2 w3 w4 σ => RW G X 11 (QV G X post) 111 [(0, pR 37), (1, pI w1), (2, pI w2), (3, pI w3), (4, pI w4)] [] σ) (fun w1 w2 w3 w4 σ => RW G X 11 (QV G X post) 397 [(0, pR 37), (1, pI w1), (2, pI w2), (3, pI w3), (4, pI w4)] [] σ) post  w1 w2 w3 σ) : RW G X 11 (QV G X post) 102 [(0, pR 37), (1, pI w1), (2, pI w2), (3, pI w3)] [] σ := by
  unfold VC_X5_plan_102 at vc
  refine w_iload_n C 3 dX5_plan_102 rfl ?_
  obtain ⟨sc1, vc⟩ := vc
  refine w_if_eq C 368 dX5_plan_103 (by decide) sc1 (fun h2 => ?_) (fun h2 => ?_)
  · have vc := vc.1 h2
    refine w_aload_n C 0 dX5_plan_368 rfl ?_
    refine w_getI C 15 dX5_plan_369 gf_X5_113 ob_37 rfl rfl ?_
    obtain ⟨sc3, vc⟩ := vc
    refine w_if_ne C 385 dX5_plan_372 (by decide) sc3 (fun h4 => ?_) (fun h4 => ?_)
    · have vc := vc.1 h4
      refine w_aload_n C 0 dX5_plan_385 rfl ?_
      refine w_getI C 15 dX5_plan_386 gf_X5_113 ob_37 rfl rfl ?_
      obtain ⟨sc5, vc⟩ := vc
      refine w_if_ne C 419 dX5_plan_389 (by decide) sc5 (fun h6 => ?_) (fun h6 => ?_)
      · have vc := vc.1 h6
        exact w_vreturn C dX5_plan_419 vc
      · have vc := vc.2 h6
        refine w_iload_n C 1 dX5_plan_392 rfl ?_
        refine w_iconst C dX5_plan_393 ?_
        refine w_isub C dX5_plan_394 ?_
        refine w_top (fun v7 hv7 => ?_)
        have vc := vc v7 hv7
        refine w_istore C [(4, pI v7), (0, pR 37), (1, pI w1), (2, pI w2), (3, pI w3)] dX5_plan_395 (by decide) rfl ?_
        exact w_sub _ [1, 2, 3, 4, 0] rfl vc
    · have vc := vc.2 h4
      refine w_iload_n C 2 dX5_plan_375 rfl ?_
      refine w_iload_n C 1 dX5_plan_376 rfl ?_
      obtain ⟨⟨sc8, sc9⟩, vc⟩ := vc
      refine w_icmp_ge C 385 dX5_plan_377 (by decide) sc8 sc9 (fun h10 => ?_) (fun h10 => ?_)
      · have vc := vc.1 h10
        refine w_aload_n C 0 dX5_plan_385 rfl ?_
        refine w_getI C 15 dX5_plan_386 gf_X5_113 ob_37 rfl rfl ?_
        obtain ⟨sc11, vc⟩ := vc
        refine w_if_ne C 419 dX5_plan_389 (by decide) sc11 (fun h12 => ?_) (fun h12 => ?_)
        · have vc := vc.1 h12
          exact w_vreturn C dX5_plan_419 vc
        · have vc := vc.2 h12
          refine w_iload_n C 1 dX5_plan_392 rfl ?_
          refine w_iconst C dX5_plan_393 ?_
          refine w_isub C dX5_plan_394 ?_
          refine w_top (fun v13 hv13 => ?_)
          have vc := vc v13 hv13
          refine w_istore C [(4, pI v13), (0, pR 37), (1, pI w1), (2, pI w2), (3, pI w3)] dX5_plan_395 (by decide) rfl ?_
          exact w_sub _ [1, 2, 3, 4, 0] rfl vc
      · have vc := vc.2 h10
        refine w_aload_n C 0 dX5_plan_380 rfl ?_
        refine w_iconst C dX5_plan_381 ?_
        refine w_putI C 15 dX5_plan_382 pf_X5_113 ob_37 rfl rfl ?_
        refine w_mem (fun s14 hs14 => ?_)
        have vc := vc s14 hs14
        refine w_aload_n C 0 dX5_plan_385 rfl ?_
        refine w_getI C 15 dX5_plan_386 gf_X5_113 ob_37 rfl rfl ?_
        obtain ⟨sc15, vc⟩ := vc
        refine w_if_ne C 419 dX5_plan_389 (by decide) sc15 (fun h16 => ?_) (fun h16 => ?_)
        · have vc := vc.1 h16
          exact w_vreturn C dX5_plan_419 vc
        · have vc := vc.2 h16
          refine w_iload_n C 1 dX5_plan_392 rfl ?_
          refine w_iconst C dX5_plan_393 ?_
          refine w_isub C dX5_plan_394 ?_
          refine w_top (fun v17 hv17 => ?_)
          have vc := vc v17 hv17
          refine w_istore C [(4, pI v17), (0, pR 37), (1, pI w1), (2, pI w2), (3, pI w3)] dX5_plan_395 (by decide) rfl ?_
          exact w_sub _ [1, 2, 3, 4, 0] rfl vc
  · have vc := vc.2 h2
    refine w_iconst C dX5_plan_106 ?_
    refine w_istore_n C [(3, pI 0), (0, pR 37), (1, pI w1), (2, pI w2)] dX5_plan_107 (by decide) rfl ?_
    refine w_iconst C dX5_plan_108 ?_
    refine w_istore C [(4, pI 0), (3, pI 0), (0, pR 37), (1, pI w1), (2, pI w2)] dX5_plan_109 (by decide) rfl ?_
    exact w_sub _ [2, 3, 4, 1, 0] rfl vc
def VC_X5_plan_111 (M : Nat) (K102 : Int → Int → Int → Mem → Prop) (K123 : Int → Int → Int → Int → Int → Mem → Prop) (post : Mem → Prop) (w1 : Int) (w2 : Int) (w3 : Int) (w4 : Int) (σ : Mem) : Prop :=
 (inR w4 ∧ inR (σ 37 2)) ∧ (((σ 37 2) ≤ w4 → K102 w1 w2 w3 σ) ∧ (w4 < (σ 37 2) → K123 w1 w2 w3 w4 0 σ))
set_option maxRecDepth 20000 in
set_option maxHeartbeats 4000000 in
theorem seg_X5_plan_111 {G : GG} {X : XX} {post : Mem → Prop} (C : CX G X cX5_plan RX5 11 none 2)   (w1 : Int) (w2 : Int) (w3 : Int) (w4 : Int) (σ : Mem) (vc : VC_X5_plan_111 (gM G) (fun w1 w2 w3 σ => RW G X 11 (QV G X post) 102 [(0, pR 37), (1, pI w1), (2, pI w2), (3, pI w3)] [] σ) (fun w1 w2 w3 w4 w5 σ => RW G X 11 (QV G X post) 123 [(0, pR 37), (1, pI w1), (2, pI w2), (3, pI w3), (4, pI w4), (5, pI w5)] [] σ) post  w1 w2 w3 w4 σ) : RW G X 11 (QV G X post) 111 [(0, pR 37), (1, pI w1), (2, pI w2), (3, pI w3), (4, pI w4)] [] σ := by
  unfold VC_X5_plan_111 at vc
  refine w_iload C 4 dX5_plan_111 rfl ?_
  refine w_aload_n C 0 dX5_plan_113 rfl ?_
  refine w_getI C 2 dX5_plan_114 gf_X5_72 ob_37 rfl rfl ?_
  obtain ⟨⟨sc1, sc2⟩, vc⟩ := vc
  refine w_icmp_ge C 365 dX5_plan_117 (by decide) sc1 sc2 (fun h3 => ?_) (fun h3 => ?_)
  · have vc := vc.1 h3
    refine w_goto C 102 dX5_plan_365 (by decide) ?_
    exact w_sub _ [0, 1, 2, 3] rfl vc
  · have vc := vc.2 h3
    refine w_iconst C dX5_plan_120 ?_
    refine w_istore C [(5, pI 0), (0, pR 37), (1, pI w1), (2, pI w2), (3, pI w3), (4, pI w4)] dX5_plan_121 (by decide) rfl ?_
    exact w_sub _ [1, 2, 3, 4, 5, 0] rfl vc
def VC_X5_plan_123 (M : Nat) (K111 : Int → Int → Int → Int → Mem → Prop) (K123 : Int → Int → Int → Int → Int → Mem → Prop) (K201 : Int → Int → Int → Int → Int → Int → Int → Mem → Prop) (post : Mem → Prop) (w1 : Int) (w2 : Int) (w3 : Int) (w4 : Int) (w5 : Int) (σ : Mem) : Prop :=
 (0 ≤ w4 ∧ w4 < 8) ∧ (inR w5 ∧ inR (σ 41 w4)) ∧ (((σ 41 w4) ≤ w5 → K111 w1 w2 w3 (w4 + 1) σ) ∧ (w5 < (σ 41 w4) → ∀ v6 : Int, v6 = (6 * w4) + w5 → (0 ≤ v6 ∧ v6 < 48) ∧ (inR (σ 50 v6)) ∧ ((¬ (σ 50 v6) = 0 → K123 w1 w2 w3 w4 (w5 + 1) σ) ∧ ((σ 50 v6) = 0 → (inR w5) ∧ ((w5 ≤ 0 → (pre_X5_before M v6 σ) ∧ ∀ (z15 : Int) (s14 : Mem), post_X5_before M v6 σ z15 s14 → (inR z15) ∧ ((z15 < 0 → K201 w1 w2 w3 w4 w5 v6 z15 s14) ∧ (0 ≤ z15 → (0 ≤ z15 ∧ z15 < 48) ∧ (inR (s14 50 z15)) ∧ ((¬ (s14 50 z15) = 0 → K201 w1 w2 w3 w4 w5 v6 z15 s14) ∧ ((s14 50 z15) = 0 → K123 w1 w2 w3 w4 (w5 + 1) s14))))) ∧ (0 < w5 → (0 ≤ (v6 - 1) ∧ (v6 - 1) < 48) ∧ (inR (σ 50 (v6 - 1))) ∧ ((¬ (σ 50 (v6 - 1)) = 0 → (pre_X5_before M v6 σ) ∧ ∀ (z28 : Int) (s27 : Mem), post_X5_before M v6 σ z28 s27 → (inR z28) ∧ ((z28 < 0 → K201 w1 w2 w3 w4 w5 v6 z28 s27) ∧ (0 ≤ z28 → (0 ≤ z28 ∧ z28 < 48) ∧ (inR (s27 50 z28)) ∧ ((¬ (s27 50 z28) = 0 → K201 w1 w2 w3 w4 w5 v6 z28 s27) ∧ ((s27 50 z28) = 0 → K123 w1 w2 w3 w4 (w5 + 1) s27))))) ∧ ((σ 50 (v6 - 1)) = 0 → K123 w1 w2 w3 w4 (w5 + 1) σ))))))))
set_option maxRecDepth 20000 in
set_option maxHeartbeats 4000000 in
theorem seg_X5_plan_123 {G : GG} {X : XX} {post : Mem → Prop} (C : CX G X cX5_plan RX5 11 none 2)   (w1 : Int) (w2 : Int) (w3 : Int) (w4 : Int) (w5 : Int) (σ : Mem) (vc : VC_X5_plan_123 (gM G) (fun w1 w2 w3 w4 σ => RW G X 11 (QV G X post) 111 [(0, pR 37), (1, pI w1), (2, pI w2), (3, pI w3), (4, pI w4)] [] σ) (fun w1 w2 w3 w4 w5 σ => RW G X 11 (QV G X post) 123 [(0, pR 37), (1, pI w1), (2, pI w2), (3, pI w3), (4, pI w4), (5, pI w5)] [] σ) (fun w1 w2 w3 w4 w5 w6 w7 σ => RW G X 11 (QV G X post) 201 [(0, pR 37), (1, pI w1), (2, pI w2), (3, pI w3), (4, pI w4), (5, pI w5), (6, pI w6), (7, pI w7)] [] σ) post  w1 w2 w3 w4 w5 σ) : RW G X 11 (QV G X post) 123 [(0, pR 37), (1, pI w1), (2, pI w2), (3, pI w3), (4, pI w4), (5, pI w5)] [] σ := by
  unfold VC_X5_plan_123 at vc
  refine w_iload C 5 dX5_plan_123 rfl ?_
  refine w_aload_n C 0 dX5_plan_125 rfl ?_
  refine w_getR C dX5_plan_126 gf_X5_19 ob_37 rfl ?_
  refine w_iload C 4 dX5_plan_129 rfl ?_
  obtain ⟨⟨sc1, sc2⟩, vc⟩ := vc
  refine w_iald C dX5_plan_131 ia_41 sc1 sc2 ?_
  obtain ⟨⟨sc3, sc4⟩, vc⟩ := vc
  refine w_icmp_ge C 359 dX5_plan_132 (by decide) sc3 sc4 (fun h5 => ?_) (fun h5 => ?_)
  · have vc := vc.1 h5
    refine w_iinc C 4 [(4, pI (w4 + 1)), (0, pR 37), (1, pI w1), (2, pI w2), (3, pI w3), (5, pI w5)] dX5_plan_359 rfl (by decide) rfl ?_
    refine w_goto C 111 dX5_plan_362 (by decide) ?_
    exact w_sub _ [1, 2, 3, 4, 0] rfl vc
  · have vc := vc.2 h5
    refine w_bipush C dX5_plan_135 (by decide) ?_
    refine w_iload C 4 dX5_plan_137 rfl ?_
    refine w_imul C dX5_plan_139 ?_
    refine w_iload C 5 dX5_plan_140 rfl ?_
    refine w_iadd C dX5_plan_142 ?_
    refine w_top (fun v6 hv6 => ?_)
    have vc := vc v6 hv6
    refine w_istore C [(6, pI v6), (0, pR 37), (1, pI w1), (2, pI w2), (3, pI w3), (4, pI w4), (5, pI w5)] dX5_plan_143 (by decide) rfl ?_
    refine w_aload_n C 1 dX5_plan_145 rfl ?_
    refine w_getR C dX5_plan_146 gf_X5_47 ob_37 rfl ?_
    refine w_iload C 0 dX5_plan_149 rfl ?_
    obtain ⟨⟨sc7, sc8⟩, vc⟩ := vc
    refine w_bald C dX5_plan_151 ba_50 sc7 sc8 ?_
    obtain ⟨sc9, vc⟩ := vc
    refine w_if_ne C 353 dX5_plan_152 (by decide) sc9 (fun h10 => ?_) (fun h10 => ?_)
    · have vc := vc.1 h10
      refine w_iinc C 6 [(5, pI (w5 + 1)), (6, pI v6), (0, pR 37), (1, pI w1), (2, pI w2), (3, pI w3), (4, pI w4)] dX5_plan_353 rfl (by decide) rfl ?_
      refine w_goto C 123 dX5_plan_356 (by decide) ?_
      exact w_sub _ [2, 3, 4, 5, 6, 0] rfl vc
    · have vc := vc.2 h10
      refine w_iload C 6 dX5_plan_155 rfl ?_
      obtain ⟨sc11, vc⟩ := vc
      refine w_if_le C 175 dX5_plan_157 (by decide) sc11 (fun h12 => ?_) (fun h12 => ?_)
      · have vc := vc.1 h12
        refine w_aload_n C 1 dX5_plan_175 rfl ?_
        refine w_iload C 0 dX5_plan_176 rfl ?_
        obtain ⟨sc13, vc⟩ := vc
        refine w_callVI C [pI v6] [] rfl dX5_plan_178 (c_X5_before C.gi (xL X) v6 σ sc13) oc_37 mw_X5_before ml_X5_119 im_X5_before se_X5_before (by decide) (Nat.le_of_ble_eq_true rfl) (fun z15 s14 hs14 => ?_)
        have vc := vc z15 s14 hs14
        refine w_istore C [(7, pI z15), (6, pI v6), (0, pR 37), (1, pI w1), (2, pI w2), (3, pI w3), (4, pI w4), (5, pI w5)] dX5_plan_181 (by decide) rfl ?_
        refine w_iload C 0 dX5_plan_183 rfl ?_
        obtain ⟨sc16, vc⟩ := vc
        refine w_if_lt C 201 dX5_plan_185 (by decide) sc16 (fun h17 => ?_) (fun h17 => ?_)
        · have vc := vc.1 h17
          exact w_sub _ [2, 3, 4, 5, 6, 7, 1, 0] rfl vc
        · have vc := vc.2 h17
          refine w_aload_n C 2 dX5_plan_188 rfl ?_
          refine w_getR C dX5_plan_189 gf_X5_47 ob_37 rfl ?_
          refine w_iload C 0 dX5_plan_192 rfl ?_
          obtain ⟨⟨sc18, sc19⟩, vc⟩ := vc
          refine w_bald C dX5_plan_194 ba_50 sc18 sc19 ?_
          obtain ⟨sc20, vc⟩ := vc
          refine w_if_ne C 201 dX5_plan_195 (by decide) sc20 (fun h21 => ?_) (fun h21 => ?_)
          · have vc := vc.1 h21
            exact w_sub _ [2, 3, 4, 5, 6, 7, 1, 0] rfl vc
          · have vc := vc.2 h21
            refine w_goto C 353 dX5_plan_198 (by decide) ?_
            refine w_iinc C 7 [(5, pI (w5 + 1)), (7, pI z15), (6, pI v6), (0, pR 37), (1, pI w1), (2, pI w2), (3, pI w3), (4, pI w4)] dX5_plan_353 rfl (by decide) rfl ?_
            refine w_goto C 123 dX5_plan_356 (by decide) ?_
            exact w_sub _ [3, 4, 5, 6, 7, 0] rfl vc
      · have vc := vc.2 h12
        refine w_aload_n C 1 dX5_plan_160 rfl ?_
        refine w_getR C dX5_plan_161 gf_X5_47 ob_37 rfl ?_
        refine w_iload C 0 dX5_plan_164 rfl ?_
        refine w_iconst C dX5_plan_166 ?_
        refine w_isub C dX5_plan_167 ?_
        obtain ⟨⟨sc22, sc23⟩, vc⟩ := vc
        refine w_bald C dX5_plan_168 ba_50 sc22 sc23 ?_
        obtain ⟨sc24, vc⟩ := vc
        refine w_if_ne C 175 dX5_plan_169 (by decide) sc24 (fun h25 => ?_) (fun h25 => ?_)
        · have vc := vc.1 h25
          refine w_aload_n C 1 dX5_plan_175 rfl ?_
          refine w_iload C 0 dX5_plan_176 rfl ?_
          obtain ⟨sc26, vc⟩ := vc
          refine w_callVI C [pI v6] [] rfl dX5_plan_178 (c_X5_before C.gi (xL X) v6 σ sc26) oc_37 mw_X5_before ml_X5_119 im_X5_before se_X5_before (by decide) (Nat.le_of_ble_eq_true rfl) (fun z28 s27 hs27 => ?_)
          have vc := vc z28 s27 hs27
          refine w_istore C [(7, pI z28), (6, pI v6), (0, pR 37), (1, pI w1), (2, pI w2), (3, pI w3), (4, pI w4), (5, pI w5)] dX5_plan_181 (by decide) rfl ?_
          refine w_iload C 0 dX5_plan_183 rfl ?_
          obtain ⟨sc29, vc⟩ := vc
          refine w_if_lt C 201 dX5_plan_185 (by decide) sc29 (fun h30 => ?_) (fun h30 => ?_)
          · have vc := vc.1 h30
            exact w_sub _ [2, 3, 4, 5, 6, 7, 1, 0] rfl vc
          · have vc := vc.2 h30
            refine w_aload_n C 2 dX5_plan_188 rfl ?_
            refine w_getR C dX5_plan_189 gf_X5_47 ob_37 rfl ?_
            refine w_iload C 0 dX5_plan_192 rfl ?_
            obtain ⟨⟨sc31, sc32⟩, vc⟩ := vc
            refine w_bald C dX5_plan_194 ba_50 sc31 sc32 ?_
            obtain ⟨sc33, vc⟩ := vc
            refine w_if_ne C 201 dX5_plan_195 (by decide) sc33 (fun h34 => ?_) (fun h34 => ?_)
            · have vc := vc.1 h34
              exact w_sub _ [2, 3, 4, 5, 6, 7, 1, 0] rfl vc
            · have vc := vc.2 h34
              refine w_goto C 353 dX5_plan_198 (by decide) ?_
              refine w_iinc C 7 [(5, pI (w5 + 1)), (7, pI z28), (6, pI v6), (0, pR 37), (1, pI w1), (2, pI w2), (3, pI w3), (4, pI w4)] dX5_plan_353 rfl (by decide) rfl ?_
              refine w_goto C 123 dX5_plan_356 (by decide) ?_
              exact w_sub _ [3, 4, 5, 6, 7, 0] rfl vc
        · have vc := vc.2 h25
          refine w_goto C 353 dX5_plan_172 (by decide) ?_
          refine w_iinc C 6 [(5, pI (w5 + 1)), (6, pI v6), (0, pR 37), (1, pI w1), (2, pI w2), (3, pI w3), (4, pI w4)] dX5_plan_353 rfl (by decide) rfl ?_
          refine w_goto C 123 dX5_plan_356 (by decide) ?_
          exact w_sub _ [2, 3, 4, 5, 6, 0] rfl vc
def VC_X5_plan_201 (M : Nat) (K123 : Int → Int → Int → Int → Int → Mem → Prop) (post : Mem → Prop) (w1 : Int) (w2 : Int) (w3 : Int) (w4 : Int) (w5 : Int) (w6 : Int) (w7 : Int) (σ : Mem) : Prop :=
 (inR w5) ∧ ((¬ w5 = 0 → (0 ≤ (w6 - 1) ∧ (w6 - 1) < 48) ∧ (0 ≤ (w6 - 1) ∧ (w6 - 1) < 48) ∧ True) ∧ (w5 = 0 → (0 ≤ w4 ∧ w4 < 8) ∧ True) ∧ ∀ j10 : Int, (¬ w5 = 0 → j10 = (σ 51 (w6 - 1)) + (σ 43 (w6 - 1))) → (w5 = 0 → j10 = σ 38 w4) → (inR w7) ∧ ((0 ≤ w7 → (0 ≤ w7 ∧ w7 < 48) ∧ (0 ≤ w7 ∧ w7 < 48) ∧ (pre_X5_changeOf M w7 w6 σ) ∧ True) ∧ (w7 < 0 → True) ∧ ∀ j21 : Int, (0 ≤ w7 → j21 = ((σ 51 w7) + (σ 43 w7)) + (f_X5_changeOf w7 w6 σ)) → (w7 < 0 → j21 = 0) → (inR j21 ∧ inR j10) ∧ ((j21 ≤ j10 → True) ∧ (j10 < j21 → True) ∧ ∀ j28 : Int, (j21 ≤ j10 → j28 = j10) → (j10 < j21 → j28 = j21) → (0 ≤ w6 ∧ w6 < 48) ∧ ∀ s33 : Mem, s33 = up σ 51 w6 j28 → (0 ≤ w6 ∧ w6 < 48) ∧ ∀ s36 : Mem, s36 = up s33 50 w6 1 → (0 ≤ w2 ∧ w2 < 48) ∧ ∀ s39 : Mem, s39 = up s36 53 w2 w6 → (0 ≤ w6 ∧ w6 < 48) ∧ (0 ≤ w6 ∧ w6 < 48) ∧ ∀ v44 : Int, v44 = (s39 51 w6) + (s39 43 w6) → (inR v44 ∧ inR (s39 37 16)) ∧ ((v44 ≤ (s39 37 16) → True) ∧ ((s39 37 16) < v44 → True) ∧ ∀ j49 : Int, (v44 ≤ (s39 37 16) → j49 = s39 37 16) → ((s39 37 16) < v44 → j49 = v44) → ∀ s52 : Mem, s52 = up s39 37 16 j49 → K123 w1 (w2 + 1) 1 w4 (w5 + 1) s52))))
set_option maxRecDepth 20000 in
set_option maxHeartbeats 4000000 in
theorem seg_X5_plan_201 {G : GG} {X : XX} {post : Mem → Prop} (C : CX G X cX5_plan RX5 11 none 2)   (w1 : Int) (w2 : Int) (w3 : Int) (w4 : Int) (w5 : Int) (w6 : Int) (w7 : Int) (σ : Mem) (vc : VC_X5_plan_201 (gM G) (fun w1 w2 w3 w4 w5 σ => RW G X 11 (QV G X post) 123 [(0, pR 37), (1, pI w1), (2, pI w2), (3, pI w3), (4, pI w4), (5, pI w5)] [] σ) post  w1 w2 w3 w4 w5 w6 w7 σ) : RW G X 11 (QV G X post) 201 [(0, pR 37), (1, pI w1), (2, pI w2), (3, pI w3), (4, pI w4), (5, pI w5), (6, pI w6), (7, pI w7)] [] σ := by
  unfold VC_X5_plan_201 at vc
  refine w_iload C 5 dX5_plan_201 rfl ?_
  obtain ⟨sc1, vc⟩ := vc
  have key3 : ∀ j10 : Int, (¬ w5 = 0 → j10 = (σ 51 (w6 - 1)) + (σ 43 (w6 - 1))) → (w5 = 0 → j10 = σ 38 w4) → RW G X 11 (QV G X post) 235 [(0, pR 37), (1, pI w1), (2, pI w2), (3, pI w3), (4, pI w4), (5, pI w5), (6, pI w6), (7, pI w7)] [pI j10] σ := by
    intro j10 hj11 hj12
    have vc := vc.2.2 j10 hj11 hj12
    refine w_istore C [(8, pI j10), (0, pR 37), (1, pI w1), (2, pI w2), (3, pI w3), (4, pI w4), (5, pI w5), (6, pI w6), (7, pI w7)] dX5_plan_235 (by decide) rfl ?_
    refine w_iload C 8 dX5_plan_237 rfl ?_
    obtain ⟨sc13, vc⟩ := vc
    have key15 : ∀ j21 : Int, (0 ≤ w7 → j21 = ((σ 51 w7) + (σ 43 w7)) + (f_X5_changeOf w7 w6 σ)) → (w7 < 0 → j21 = 0) → RW G X 11 (QV G X post) 270 [(8, pI j10), (0, pR 37), (1, pI w1), (2, pI w2), (3, pI w3), (4, pI w4), (5, pI w5), (6, pI w6), (7, pI w7)] [pI j21] σ := by
      intro j21 hj22 hj23
      have vc := vc.2.2 j21 hj22 hj23
      refine w_istore C [(9, pI j21), (8, pI j10), (0, pR 37), (1, pI w1), (2, pI w2), (3, pI w3), (4, pI w4), (5, pI w5), (6, pI w6), (7, pI w7)] dX5_plan_270 (by decide) rfl ?_
      refine w_aload_n C 2 dX5_plan_272 rfl ?_
      refine w_getR C dX5_plan_273 gf_X5_50 ob_37 rfl ?_
      refine w_iload C 8 dX5_plan_276 rfl ?_
      refine w_iload C 0 dX5_plan_278 rfl ?_
      refine w_iload C 1 dX5_plan_280 rfl ?_
      obtain ⟨⟨sc24, sc25⟩, vc⟩ := vc
      have key27 : ∀ j28 : Int, (j21 ≤ j10 → j28 = j10) → (j10 < j21 → j28 = j21) → RW G X 11 (QV G X post) 292 [(9, pI j21), (8, pI j10), (0, pR 37), (1, pI w1), (2, pI w2), (3, pI w3), (4, pI w4), (5, pI w5), (6, pI w6), (7, pI w7)] [pI j28, pI w6, pR 51] σ := by
        intro j28 hj29 hj30
        have vc := vc.2.2 j28 hj29 hj30
        obtain ⟨⟨sc31, sc32⟩, vc⟩ := vc
        refine w_iast C dX5_plan_292 ia_51 sc31 sc32 ?_
        refine w_mem (fun s33 hs33 => ?_)
        have vc := vc s33 hs33
        refine w_aload_n C 2 dX5_plan_293 rfl ?_
        refine w_getR C dX5_plan_294 gf_X5_47 ob_37 rfl ?_
        refine w_iload C 8 dX5_plan_297 rfl ?_
        refine w_iconst C dX5_plan_299 ?_
        obtain ⟨⟨sc34, sc35⟩, vc⟩ := vc
        refine w_bast C dX5_plan_300 ba_50 sc34 sc35 (Or.inr rfl) ?_
        refine w_mem (fun s36 hs36 => ?_)
        have vc := vc s36 hs36
        refine w_aload_n C 2 dX5_plan_301 rfl ?_
        refine w_getR C dX5_plan_302 gf_X5_56 ob_37 rfl ?_
        refine w_iload_n C 4 dX5_plan_305 rfl ?_
        refine w_iload C 8 dX5_plan_306 rfl ?_
        obtain ⟨⟨sc37, sc38⟩, vc⟩ := vc
        refine w_iast C dX5_plan_308 ia_53 sc37 sc38 ?_
        refine w_mem (fun s39 hs39 => ?_)
        have vc := vc s39 hs39
        refine w_iinc C 4 [(2, pI (w2 + 1)), (9, pI j21), (8, pI j10), (0, pR 37), (1, pI w1), (3, pI w3), (4, pI w4), (5, pI w5), (6, pI w6), (7, pI w7)] dX5_plan_309 rfl (by decide) rfl ?_
        refine w_iconst C dX5_plan_312 ?_
        refine w_istore_n C [(3, pI 1), (2, pI (w2 + 1)), (9, pI j21), (8, pI j10), (0, pR 37), (1, pI w1), (4, pI w4), (5, pI w5), (6, pI w6), (7, pI w7)] dX5_plan_313 (by decide) rfl ?_
        refine w_aload_n C 4 dX5_plan_314 rfl ?_
        refine w_getR C dX5_plan_315 gf_X5_50 ob_37 rfl ?_
        refine w_iload C 8 dX5_plan_318 rfl ?_
        obtain ⟨⟨sc40, sc41⟩, vc⟩ := vc
        refine w_iald C dX5_plan_320 ia_51 sc40 sc41 ?_
        refine w_aload_n C 4 dX5_plan_321 rfl ?_
        refine w_getR C dX5_plan_322 gf_X5_25 ob_37 rfl ?_
        refine w_iload C 8 dX5_plan_325 rfl ?_
        obtain ⟨⟨sc42, sc43⟩, vc⟩ := vc
        refine w_iald C dX5_plan_327 ia_43 sc42 sc43 ?_
        refine w_iadd C dX5_plan_328 ?_
        refine w_top (fun v44 hv44 => ?_)
        have vc := vc v44 hv44
        refine w_istore C [(10, pI v44), (3, pI 1), (2, pI (w2 + 1)), (9, pI j21), (8, pI j10), (0, pR 37), (1, pI w1), (4, pI w4), (5, pI w5), (6, pI w6), (7, pI w7)] dX5_plan_329 (by decide) rfl ?_
        refine w_aload_n C 5 dX5_plan_331 rfl ?_
        refine w_iload C 0 dX5_plan_332 rfl ?_
        refine w_aload_n C 5 dX5_plan_334 rfl ?_
        refine w_getI C 16 dX5_plan_335 gf_X5_116 ob_37 rfl rfl ?_
        obtain ⟨⟨sc45, sc46⟩, vc⟩ := vc
        have key48 : ∀ j49 : Int, (v44 ≤ (s39 37 16) → j49 = s39 37 16) → ((s39 37 16) < v44 → j49 = v44) → RW G X 11 (QV G X post) 350 [(10, pI v44), (3, pI 1), (2, pI (w2 + 1)), (9, pI j21), (8, pI j10), (0, pR 37), (1, pI w1), (4, pI w4), (5, pI w5), (6, pI w6), (7, pI w7)] [pI j49, pR 37] s39 := by
          intro j49 hj50 hj51
          have vc := vc.2.2 j49 hj50 hj51
          refine w_putI C 16 dX5_plan_350 pf_X5_116 ob_37 rfl rfl ?_
          refine w_mem (fun s52 hs52 => ?_)
          have vc := vc s52 hs52
          refine w_iinc C 8 [(5, pI (w5 + 1)), (10, pI v44), (3, pI 1), (2, pI (w2 + 1)), (9, pI j21), (8, pI j10), (0, pR 37), (1, pI w1), (4, pI w4), (6, pI w6), (7, pI w7)] dX5_plan_353 rfl (by decide) rfl ?_
          refine w_goto C 123 dX5_plan_356 (by decide) ?_
          exact w_sub _ [6, 7, 3, 2, 8, 0] rfl vc
        refine w_icmp_le C 346 dX5_plan_338 (by decide) sc45 sc46 (fun h47 => ?_) (fun h47 => ?_)
        · have vc := vc.1 h47
          refine w_aload_n C 5 dX5_plan_346 rfl ?_
          refine w_getI C 16 dX5_plan_347 gf_X5_116 ob_37 rfl rfl ?_
          exact key48 _ (by intros; first | rfl | omega | (exfalso; omega) | contradiction) (by intros; first | rfl | omega | (exfalso; omega) | contradiction)
        · have vc := vc.2.1 h47
          refine w_iload C 0 dX5_plan_341 rfl ?_
          refine w_goto C 350 dX5_plan_343 (by decide) ?_
          exact key48 _ (by intros; first | rfl | omega | (exfalso; omega) | contradiction) (by intros; first | rfl | omega | (exfalso; omega) | contradiction)
      refine w_icmp_le C 290 dX5_plan_282 (by decide) sc24 sc25 (fun h26 => ?_) (fun h26 => ?_)
      · have vc := vc.1 h26
        refine w_iload C 1 dX5_plan_290 rfl ?_
        exact key27 _ (by intros; first | rfl | omega | (exfalso; omega) | contradiction) (by intros; first | rfl | omega | (exfalso; omega) | contradiction)
      · have vc := vc.2.1 h26
        refine w_iload C 0 dX5_plan_285 rfl ?_
        refine w_goto C 292 dX5_plan_287 (by decide) ?_
        exact key27 _ (by intros; first | rfl | omega | (exfalso; omega) | contradiction) (by intros; first | rfl | omega | (exfalso; omega) | contradiction)
    refine w_if_ge C 246 dX5_plan_239 (by decide) sc13 (fun h14 => ?_) (fun h14 => ?_)
    · have vc := vc.1 h14
      refine w_aload_n C 1 dX5_plan_246 rfl ?_
      refine w_getR C dX5_plan_247 gf_X5_50 ob_37 rfl ?_
      refine w_iload C 8 dX5_plan_250 rfl ?_
      obtain ⟨⟨sc16, sc17⟩, vc⟩ := vc
      refine w_iald C dX5_plan_252 ia_51 sc16 sc17 ?_
      refine w_aload_n C 1 dX5_plan_253 rfl ?_
      refine w_getR C dX5_plan_254 gf_X5_25 ob_37 rfl ?_
      refine w_iload C 8 dX5_plan_257 rfl ?_
      obtain ⟨⟨sc18, sc19⟩, vc⟩ := vc
      refine w_iald C dX5_plan_259 ia_43 sc18 sc19 ?_
      refine w_iadd C dX5_plan_260 ?_
      refine w_aload_n C 1 dX5_plan_261 rfl ?_
      refine w_iload C 8 dX5_plan_262 rfl ?_
      refine w_iload C 7 dX5_plan_264 rfl ?_
      obtain ⟨sc20, vc⟩ := vc
      refine w_callVI C [pI w7, pI w6] [pI ((σ 51 w7) + (σ 43 w7))] rfl dX5_plan_266 (c_X5_changeOf C.gi (xL X) w7 w6 σ sc20) oc_37 mw_X5_changeOf ml_X5_122 im_X5_changeOf se_X5_changeOf (by decide) (Nat.le_of_ble_eq_true rfl) (fun z σ' hz => ?_)
      obtain ⟨rfl, hz2⟩ := hz
      have hz2 := hz2.symm
      subst hz2
      refine w_iadd C dX5_plan_269 ?_
      exact key15 _ (by intros; first | rfl | omega | (exfalso; omega) | contradiction) (by intros; first | rfl | omega | (exfalso; omega) | contradiction)
    · have vc := vc.2.1 h14
      refine w_iconst C dX5_plan_242 ?_
      refine w_goto C 270 dX5_plan_243 (by decide) ?_
      exact key15 _ (by intros; first | rfl | omega | (exfalso; omega) | contradiction) (by intros; first | rfl | omega | (exfalso; omega) | contradiction)
  refine w_if_ne C 216 dX5_plan_203 (by decide) sc1 (fun h2 => ?_) (fun h2 => ?_)
  · have vc := vc.1 h2
    refine w_aload_n C 0 dX5_plan_216 rfl ?_
    refine w_getR C dX5_plan_217 gf_X5_50 ob_37 rfl ?_
    refine w_iload C 6 dX5_plan_220 rfl ?_
    refine w_iconst C dX5_plan_222 ?_
    refine w_isub C dX5_plan_223 ?_
    obtain ⟨⟨sc4, sc5⟩, vc⟩ := vc
    refine w_iald C dX5_plan_224 ia_51 sc4 sc5 ?_
    refine w_aload_n C 0 dX5_plan_225 rfl ?_
    refine w_getR C dX5_plan_226 gf_X5_25 ob_37 rfl ?_
    refine w_iload C 6 dX5_plan_229 rfl ?_
    refine w_iconst C dX5_plan_231 ?_
    refine w_isub C dX5_plan_232 ?_
    obtain ⟨⟨sc6, sc7⟩, vc⟩ := vc
    refine w_iald C dX5_plan_233 ia_43 sc6 sc7 ?_
    refine w_iadd C dX5_plan_234 ?_
    exact key3 _ (by intros; first | rfl | omega | (exfalso; omega) | contradiction) (by intros; first | rfl | omega | (exfalso; omega) | contradiction)
  · have vc := vc.2.1 h2
    refine w_aload_n C 0 dX5_plan_206 rfl ?_
    refine w_getR C dX5_plan_207 gf_X5_7 ob_37 rfl ?_
    refine w_iload C 4 dX5_plan_210 rfl ?_
    obtain ⟨⟨sc8, sc9⟩, vc⟩ := vc
    refine w_iald C dX5_plan_212 ia_38 sc8 sc9 ?_
    refine w_goto C 235 dX5_plan_213 (by decide) ?_
    exact key3 _ (by intros; first | rfl | omega | (exfalso; omega) | contradiction) (by intros; first | rfl | omega | (exfalso; omega) | contradiction)
def VC_X5_plan_397 (M : Nat) (K397 : Int → Int → Int → Int → Mem → Prop) (post : Mem → Prop) (w1 : Int) (w2 : Int) (w3 : Int) (w4 : Int) (σ : Mem) : Prop :=
 (inR w4) ∧ ((w4 < 0 → post σ) ∧ (0 ≤ w4 → (0 ≤ w4 ∧ w4 < 48) ∧ (pre_X5_ahead M (σ 53 w4) σ) ∧ ∀ s6 : Mem, post_X5_ahead M (σ 53 w4) σ s6 → K397 w1 w2 w3 (w4 + (-1)) s6))
set_option maxRecDepth 20000 in
set_option maxHeartbeats 4000000 in
theorem seg_X5_plan_397 {G : GG} {X : XX} {post : Mem → Prop} (C : CX G X cX5_plan RX5 11 none 2)   (w1 : Int) (w2 : Int) (w3 : Int) (w4 : Int) (σ : Mem) (vc : VC_X5_plan_397 (gM G) (fun w1 w2 w3 w4 σ => RW G X 11 (QV G X post) 397 [(0, pR 37), (1, pI w1), (2, pI w2), (3, pI w3), (4, pI w4)] [] σ) post  w1 w2 w3 w4 σ) : RW G X 11 (QV G X post) 397 [(0, pR 37), (1, pI w1), (2, pI w2), (3, pI w3), (4, pI w4)] [] σ := by
  unfold VC_X5_plan_397 at vc
  refine w_iload C 4 dX5_plan_397 rfl ?_
  obtain ⟨sc1, vc⟩ := vc
  refine w_if_lt C 419 dX5_plan_399 (by decide) sc1 (fun h2 => ?_) (fun h2 => ?_)
  · have vc := vc.1 h2
    exact w_vreturn C dX5_plan_419 vc
  · have vc := vc.2 h2
    refine w_aload_n C 0 dX5_plan_402 rfl ?_
    refine w_aload_n C 0 dX5_plan_403 rfl ?_
    refine w_getR C dX5_plan_404 gf_X5_56 ob_37 rfl ?_
    refine w_iload C 4 dX5_plan_407 rfl ?_
    obtain ⟨⟨sc3, sc4⟩, vc⟩ := vc
    refine w_iald C dX5_plan_409 ia_53 sc3 sc4 ?_
    obtain ⟨sc5, vc⟩ := vc
    refine w_callVV C [pI (σ 53 w4)] [] rfl dX5_plan_410 (c_X5_ahead C.gi (xL X) (σ 53 w4) σ sc5) oc_37 mw_X5_ahead ml_X5_126 im_X5_ahead se_X5_ahead (by decide) (Nat.le_of_ble_eq_true rfl) (fun s6 hs6 => ?_)
    have vc := vc s6 hs6
    refine w_iinc C 4 [(4, pI (w4 + (-1))), (0, pR 37), (1, pI w1), (2, pI w2), (3, pI w3)] dX5_plan_413 rfl (by decide) rfl ?_
    refine w_goto C 397 dX5_plan_416 (by decide) ?_
    exact w_sub _ [1, 2, 3, 4, 0] rfl vc
set_option maxHeartbeats 1000000 in
theorem ok_X5_plan_0 {M : Nat} {σ : Mem} {K14 : Int → Int → Mem → Prop} (h : pre_X5_plan M σ) (hK14 : ∀ (y1 y2 : Int) (τ' : Mem), inv_X5_plan_14 M σ y1 y2 τ' → K14 y1 y2 τ') : VC_X5_plan_0 M K14 (post_X5_plan M σ) σ := by
  obtain ⟨hf, hR, hW⟩ := cur_ok h
  have hj := hW.1.1.2.2.2.1
  intro s1 e1 s2 e2
  refine hK14 _ _ _ ⟨?_, by omega, by omega, by omega, by omega, ?_, ?_, fun s v q => ?_, Or.inl ⟨?_, fun s v q => ?_⟩⟩
  · rw [e2, e1]
    exact (RF0_up σ 0 (by omega)).trans (RF0_up _ 0 (by omega))
  · rw [sumI_0 _ (by omega)]; rfl
  · rw [e2, up_self]
  · have := (VS_in hW.1.1 v).2.2
    unfold sn at q; omega
  · rw [e2, e1, up_ne _ _ (by omega), up_self]
  · have := (VS_in hW.1.1 v).2.2
    unfold sn at q; omega
set_option maxHeartbeats 1000000 in
theorem ok_X5_plan_14 {M : Nat} {σ : Mem} {w1 w2 : Int} {τ : Mem} {K24 : Int → Int → Int → Mem → Prop} {K102 : Int → Int → Int → Mem → Prop} (h : pre_X5_plan M σ) (hinv : inv_X5_plan_14 M σ w1 w2 τ) (hK24 : ∀ (y1 y2 y3 : Int) (τ' : Mem), inv_X5_plan_24 M σ y1 y2 y3 τ' → mu_X5_plan_24 y1 y2 y3 τ' < mu_X5_plan_14 w1 w2 τ → K24 y1 y2 y3 τ') (hK102 : ∀ (y1 y2 y3 : Int) (τ' : Mem), inv_X5_plan_102 M σ y1 y2 y3 τ' → mu_X5_plan_102 y1 y2 y3 τ' < mu_X5_plan_14 w1 w2 τ → K102 y1 y2 y3 τ') : VC_X5_plan_14 M K24 K102 (post_X5_plan M σ) w1 w2 τ := by
  obtain ⟨hf, hR, hW⟩ := cur_ok h
  obtain ⟨hF, i1, i2, i3, i4, i5, i6, i7, i8⟩ := hinv
  have hRτ := hF.nd hR
  unfold inv_X5_plan_102 at hK102
  unfold inv_X5_plan_24 at hK24
  generalize hC : cur M σ = a at *
  have hj := hW.1.1.2.2.2.1
  have e2 := hRτ.2.1
  have hst : inR (τ 37 15) := by rcases i8 with q | q <;> exact ⟨by omega, by omega⟩
  refine ⟨⟨⟨by omega, by omega⟩, ⟨by omega, by omega⟩⟩, fun g => ⟨hst, fun _ => trivial, fun _ => trivial, fun j q1 q2 => ?_⟩, fun g => ?_⟩
  · have ew : w2 = a 1 1 := by omega
    subst ew
    have all : ∀ s, VS a s → sn (a 1 1) 0 s := fun s v => Or.inl v.2.1
    have e1 : w1 = a 1 2 := by
      rw [i5, sumI_tail (k := 8) (by omega) (by omega) (fun i q0 q1 => hW.1.2.2.1 i q0 q1), show a 1 2 = sumI (a 5) 0 8 from hW.2.2.2.2.1]
      omega
    refine hK102 _ _ _ _ ⟨hF, e1, ?_⟩ ?_
    · rcases i8 with ⟨q, r⟩ | ⟨q, s, v, r⟩
      · exact Or.inr ⟨q, all_put hW (fun s v => r s v (all s v)), ⟨_, PIr_0 hW (fun s v => i7 s v (all s v)) i6⟩, Or.inl (q2 q)⟩
      · exact Or.inl ⟨q, q1 (by omega), some_open hW v r⟩
    · have : j = 0 ∨ j = 1 := by
        rcases i8 with ⟨q, r⟩ | ⟨q, r⟩
        · exact Or.inr (q2 q)
        · exact Or.inl (q1 (by omega))
      unfold mu_X5_plan_102 mu_X5_plan_14
      omega
  · have h5 := hW.1.1.2.2.2.2.1 w2 i1 (by omega)
    refine hK24 _ _ _ _ ⟨hF, by omega, h5.1, ⟨i1, i2, i3, i4, i5, i6, i7, i8⟩⟩ ?_
    unfold mu_X5_plan_24 mu_X5_plan_14
    omega
set_option maxHeartbeats 1000000 in
theorem ok_X5_plan_24 {M : Nat} {σ : Mem} {w1 w2 w3 : Int} {τ : Mem} {K14 : Int → Int → Mem → Prop} {K24 : Int → Int → Int → Mem → Prop} (h : pre_X5_plan M σ) (hinv : inv_X5_plan_24 M σ w1 w2 w3 τ) (hK14 : ∀ (y1 y2 : Int) (τ' : Mem), inv_X5_plan_14 M σ y1 y2 τ' → mu_X5_plan_14 y1 y2 τ' < mu_X5_plan_24 w1 w2 w3 τ → K14 y1 y2 τ') (hK24 : ∀ (y1 y2 y3 : Int) (τ' : Mem), inv_X5_plan_24 M σ y1 y2 y3 τ' → mu_X5_plan_24 y1 y2 y3 τ' < mu_X5_plan_24 w1 w2 w3 τ → K24 y1 y2 y3 τ') : VC_X5_plan_24 M K14 K24 (post_X5_plan M σ) w1 w2 w3 τ := by
  obtain ⟨hf, hR, hW⟩ := cur_ok h
  obtain ⟨hF, j1, j2, i1, i2, i3, i4, i5, i6, i7, i8⟩ := hinv
  have hRτ := hF.nd hR
  unfold inv_X5_plan_14 at hK14
  unfold inv_X5_plan_24 at hK24
  generalize hC : cur M σ = a at *
  have hj := hW.1.1.2.2.2.1
  have h5 := hW.1.1.2.2.2.2.1 w2 i1 (by omega)
  have e41 := (hRτ.2.2.1 w2 i1 (by omega)).2.2.2
  refine ⟨⟨i1, by omega⟩, ⟨⟨by omega, by omega⟩, ⟨by omega, by omega⟩⟩, fun g => ?_, fun g v6 e6 => ?_⟩
  · have e3 : w3 = a 5 w2 := by omega
    have hsn : ∀ s, VS a s → sn (w2 + 1) 0 s → sn w2 w3 s := fun s v q => by
      have := v.2.2
      have := (VS_in hW.1.1 v).2.2
      unfold sn at q ⊢
      by_cases e : s / 10 = w2
      · rw [e] at this; right; exact ⟨e, by rw [e3, ← e]; omega⟩
      · left; omega
    refine hK14 _ _ _ ⟨hF, ⟨by omega, by omega, by omega, by omega, ?_, i6, fun s v q => i7 s v (hsn s v q), ?_⟩⟩ ?_
    · rw [sumI_s _ i1]; omega
    · rcases i8 with ⟨q, r⟩ | q
      · exact Or.inl ⟨q, fun s v w => r s v (hsn s v w)⟩
      · exact Or.inr q
    · unfold mu_X5_plan_14 mu_X5_plan_24
      omega
  · have v : VS a (10 * w2 + w3) := by
      have e : (10 * w2 + w3) / 10 = w2 := by omega
      exact ⟨by omega, by rw [e]; exact j1, by rw [e]; omega⟩
    have ep : v6 = pl (10 * w2 + w3) := by rw [e6]; unfold pl; omega
    have hp := pl_in hW.1.1 v
    have hat := at_pl hW hRτ v
    have h8 : a 8 (10 * w2 + w3) = 0 ∨ a 8 (10 * w2 + w3) = 1 := by
      rcases hW.2.2.1 _ (VS_in hW.1.1 v).1 (VS_in hW.1.1 v).2.1 with e | e
      · exact Or.inl e
      · exact Or.inr e.1
    refine ⟨⟨by omega, by omega⟩, fun s9 e9 => ⟨⟨by omega, by omega⟩, ?_⟩⟩
    have e44 : s9 44 v6 = a 8 (10 * w2 + w3) := by rw [e9, up_other _ _ _ (by omega), ep]; exact hat.2.2
    rw [e44]
    refine ⟨⟨by omega, by omega⟩, fun _ => trivial, fun _ => trivial, fun j q1 q2 s18 e18 => ?_⟩
    have e15 : s9 37 15 = τ 37 15 := by rw [e9, up_other _ _ _ (by omega)]
    have hsn : ∀ s, VS a s → sn w2 (w3 + 1) s → s = 10 * w2 + w3 ∨ (s ≠ 10 * w2 + w3 ∧ sn w2 w3 s) := fun s v q => by
      have := (VS_in hW.1.1 v).2.2
      unfold sn at q ⊢
      omega
    refine hK24 _ _ _ _ ⟨?_, j1, by omega, ⟨by omega, by omega, by omega, by omega, by omega, ?_, fun s v' q => ?_, ?_⟩⟩ ?_
    · rw [e18, e9]
      exact hF.trans ((RF0_up τ 0 (by omega)).trans (RF0_up _ _ (by omega)))
    · rw [e18, e9, up_ne _ _ (by omega), up_other _ _ _ (by omega)]; exact i6
    · rw [e18, e9, up_other _ _ _ (by omega)]
      rcases hsn s v' q with e | ⟨e, r⟩
      · rw [e, ep, up_self]
      · rw [up_ne _ _ (Or.inr (fun z => e (pl_inj hW.1.1 v' v (by rw [z, ep])))) ]
        exact i7 s v' r
    · have e' : s18 37 15 = j := by rw [e18, up_self]
      rw [e']
      rcases h8 with e8 | e8
      · exact Or.inr ⟨q1 e8, _, v, e8⟩
      · have ej := q2 (by omega)
        rw [e15] at ej
        rw [ej]
        rcases i8 with ⟨q, r⟩ | q
        · refine Or.inl ⟨q, fun s v' w => ?_⟩
          rcases hsn s v' w with e | ⟨e, z⟩
          · rw [e]; exact e8
          · exact r s v' z
        · exact Or.inr q
    · unfold mu_X5_plan_24
      omega
set_option maxHeartbeats 1000000 in
theorem ok_X5_plan_102 {M : Nat} {σ : Mem} {w1 w2 w3 : Int} {τ : Mem} {K111 : Int → Int → Int → Int → Mem → Prop} {K397 : Int → Int → Int → Int → Mem → Prop} (h : pre_X5_plan M σ) (hinv : inv_X5_plan_102 M σ w1 w2 w3 τ) (hK111 : ∀ (y1 y2 y3 y4 : Int) (τ' : Mem), inv_X5_plan_111 M σ y1 y2 y3 y4 τ' → mu_X5_plan_111 y1 y2 y3 y4 τ' < mu_X5_plan_102 w1 w2 w3 τ → K111 y1 y2 y3 y4 τ') (hK397 : ∀ (y1 y2 y3 y4 : Int) (τ' : Mem), inv_X5_plan_397 M σ y1 y2 y3 y4 τ' → mu_X5_plan_397 y1 y2 y3 y4 τ' < mu_X5_plan_102 w1 w2 w3 τ → K397 y1 y2 y3 y4 τ') : VC_X5_plan_102 M K111 K397 (post_X5_plan M σ) w1 w2 w3 τ := by
  obtain ⟨hf, hR, hW⟩ := cur_ok h
  obtain ⟨hF, j1, j2⟩ := hinv
  have hRτ := hF.nd hR
  unfold post_X5_plan
  unfold inv_X5_plan_111 at hK111
  unfold inv_X5_plan_397 at hK397
  generalize hC : cur M σ = a at *
  have hj := hW.1.1.2.2.2.1
  have hs := steps_in hW
  rcases j2 with ⟨q1, q2, q3⟩ | ⟨q1, q2, ⟨rk, q3⟩, q4⟩
  · refine ⟨⟨by omega, by omega⟩, fun g => ⟨⟨by omega, by omega⟩, fun g2 => ⟨⟨by omega, by omega⟩, fun g3 => ⟨hF, Or.inl ⟨q1, q3⟩⟩, fun g3 => by omega⟩, fun g2 => by omega⟩, fun g => by omega⟩
  · have hn := PIr_n hW q3
    refine ⟨⟨by omega, by omega⟩, fun g => ⟨⟨by omega, by omega⟩, fun g2 => absurd q1 g2, fun g2 => ⟨⟨⟨by omega, by omega⟩, ⟨by omega, by omega⟩⟩, fun g3 => ⟨⟨by omega, by omega⟩, fun g4 => absurd q1 g4, fun g4 v e => ?_⟩, fun g3 s14 e14 => ?_⟩⟩, fun g => ?_⟩
    · have all := hn.2.2.2 (by omega)
      have en := PIr_all hW q3 all
      subst en
      refine hK397 _ _ _ _ _ ⟨hF, q1, q2, by omega, by omega, all, rk, q3, fun m i hi hlt => ?_⟩ ?_
      · have := (q3.2.2.1 m i hi (all _ (inO_VS hW.1 hW.2.1 hi).1)).1.2
        omega
      · unfold mu_X5_plan_397 mu_X5_plan_102
        omega
    · have e15 : s14 37 15 = 2 := by rw [e14, up_self]
      rw [e15]
      have hmx : MX M a (dnR τ) := by
        rcases q4 with q4 | q4
        · omega
        · exact q4.2
      refine ⟨⟨by omega, by omega⟩, fun _ => ⟨?_, Or.inr (Or.inl ⟨e15, q2, NP_of hW hmx (fun all => ?_)⟩)⟩, fun z => by omega⟩
      · rw [e14]; exact hF.trans (RF0_up τ _ (by omega))
      · have := PIr_all hW q3 all
        omega
    · refine hK111 _ _ _ _ _ ⟨hF, ⟨j1, q1, q2, ⟨rk, q3⟩, Or.inl rfl, by omega, by omega, by omega, by omega, fun _ s v q => ?_⟩⟩ ?_
      · have := (VS_in hW.1.1 v).2.2
        unfold sn at q; omega
      · have : w3 = 1 := by omega
        unfold mu_X5_plan_111 mu_X5_plan_102
        omega
set_option maxHeartbeats 1000000 in
theorem ok_X5_plan_111 {M : Nat} {σ : Mem} {w1 w2 w3 w4 : Int} {τ : Mem} {K102 : Int → Int → Int → Mem → Prop} {K123 : Int → Int → Int → Int → Int → Mem → Prop} (h : pre_X5_plan M σ) (hinv : inv_X5_plan_111 M σ w1 w2 w3 w4 τ) (hK102 : ∀ (y1 y2 y3 : Int) (τ' : Mem), inv_X5_plan_102 M σ y1 y2 y3 τ' → mu_X5_plan_102 y1 y2 y3 τ' < mu_X5_plan_111 w1 w2 w3 w4 τ → K102 y1 y2 y3 τ') (hK123 : ∀ (y1 y2 y3 y4 y5 : Int) (τ' : Mem), inv_X5_plan_123 M σ y1 y2 y3 y4 y5 τ' → mu_X5_plan_123 y1 y2 y3 y4 y5 τ' < mu_X5_plan_111 w1 w2 w3 w4 τ → K123 y1 y2 y3 y4 y5 τ') : VC_X5_plan_111 M K102 K123 (post_X5_plan M σ) w1 w2 w3 w4 τ := by
  obtain ⟨hf, hR, hW⟩ := cur_ok h
  obtain ⟨hF, i1, i2, i3, ⟨rk, i4⟩, i5, i6, i7, i8, i9, i10⟩ := hinv
  have hRτ := hF.nd hR
  unfold inv_X5_plan_102 at hK102
  unfold inv_X5_plan_123 at hK123
  generalize hC : cur M σ = a at *
  have hj := hW.1.1.2.2.2.1
  have hn := PIr_n hW i4
  have e2 := hRτ.2.1
  refine ⟨⟨⟨by omega, by omega⟩, ⟨by omega, by omega⟩⟩, fun g => ?_, fun g => ?_⟩
  · refine hK102 _ _ _ _ ⟨hF, i1, Or.inr (⟨i2, i3, ⟨rk, i4⟩, ?_⟩)⟩ ?_
    · rcases i5 with e | e
      · exact Or.inr ⟨e, blk5_MX hW (fun s v q => i10 e s v (Or.inl (by have := v.2.1; omega)) q)⟩
      · exact Or.inl e
    · unfold mu_X5_plan_102 mu_X5_plan_111
      omega
  · have h5 := hW.1.1.2.2.2.2.1 w4 i6 (by omega)
    refine hK123 _ _ _ _ _ _ ⟨hF, by omega, h5.1, ⟨i1, i2, i3, ⟨rk, i4⟩, i5, i6, i7, i8, i9, i10⟩⟩ ?_
    unfold mu_X5_plan_123 mu_X5_plan_111
    omega
set_option maxHeartbeats 1000000 in
theorem ok_X5_plan_123 {M : Nat} {σ : Mem} {w1 w2 w3 w4 w5 : Int} {τ : Mem} {K111 : Int → Int → Int → Int → Mem → Prop} {K123 : Int → Int → Int → Int → Int → Mem → Prop} {K201 : Int → Int → Int → Int → Int → Int → Int → Mem → Prop} (h : pre_X5_plan M σ) (hinv : inv_X5_plan_123 M σ w1 w2 w3 w4 w5 τ) (hK111 : ∀ (y1 y2 y3 y4 : Int) (τ' : Mem), inv_X5_plan_111 M σ y1 y2 y3 y4 τ' → mu_X5_plan_111 y1 y2 y3 y4 τ' < mu_X5_plan_123 w1 w2 w3 w4 w5 τ → K111 y1 y2 y3 y4 τ') (hK123 : ∀ (y1 y2 y3 y4 y5 : Int) (τ' : Mem), inv_X5_plan_123 M σ y1 y2 y3 y4 y5 τ' → mu_X5_plan_123 y1 y2 y3 y4 y5 τ' < mu_X5_plan_123 w1 w2 w3 w4 w5 τ → K123 y1 y2 y3 y4 y5 τ') (hK201 : ∀ (y1 y2 y3 y4 y5 y6 y7 : Int) (τ' : Mem), inv_X5_plan_201 M σ y1 y2 y3 y4 y5 y6 y7 τ' → mu_X5_plan_201 y1 y2 y3 y4 y5 y6 y7 τ' < mu_X5_plan_123 w1 w2 w3 w4 w5 τ → K201 y1 y2 y3 y4 y5 y6 y7 τ') : VC_X5_plan_123 M K111 K123 K201 (post_X5_plan M σ) w1 w2 w3 w4 w5 τ := by
  obtain ⟨hf, hR, hW⟩ := cur_ok h
  obtain ⟨hF, j1, j2, i1, i2, i3, ⟨rk, i4⟩, i5, i6, i7, i8, i9, i10⟩ := hinv
  have hRτ := hF.nd hR
  unfold inv_X5_plan_111 at hK111
  unfold inv_X5_plan_123 at hK123
  unfold inv_X5_plan_201 at hK201
  generalize hC : cur M σ = a at *
  have hj := hW.1.1.2.2.2.1
  have hn := PIr_n hW i4
  have h5 := hW.1.1.2.2.2.2.1 w4 i6 (by omega)
  have e41 := (hRτ.2.2.1 w4 i6 (by omega)).2.2.2
  have hA := WF_AO hW i3
  refine ⟨⟨i6, by omega⟩, ⟨⟨by omega, by omega⟩, ⟨by omega, by omega⟩⟩, fun g => ?_, fun g v6 e6 => ?_⟩
  · have hsn : ∀ s, VS a s → sn (w4 + 1) 0 s → sn w4 w5 s := fun s v q => by
      have t5 := v.2.2
      have := (VS_in hW.1.1 v).2.2
      unfold sn at q ⊢
      by_cases e : s / 10 = w4
      · rw [e] at t5; right; exact ⟨e, by omega⟩
      · left; omega
    refine hK111 _ _ _ _ _ ⟨hF, ⟨i1, i2, i3, ⟨rk, i4⟩, i5, by omega, by omega, by omega, by omega, fun e s v q => i10 e s v (hsn s v q)⟩⟩ ?_
    unfold mu_X5_plan_111 mu_X5_plan_123
    omega
  · have v : VS a (10 * w4 + w5) := by
      have e : (10 * w4 + w5) / 10 = w4 := by omega
      exact ⟨by omega, by rw [e]; exact j1, by rw [e]; omega⟩
    have ep : v6 = pl (10 * w4 + w5) := by rw [e6]; unfold pl; omega
    have hp := pl_in hW.1.1 v
    have hd := i4.1 _ v
    rw [← ep] at hd
    obtain ⟨m, i, hi, ei, -⟩ := VS_inO hW.1 hA v
    have h8 : a 8 (10 * w4 + w5) = 1 := by have := (hW.2.1.1 m i hi.1 hi.2.1 hi.2.2.1 hi.2.2.2).2.2; rw [ei] at this; exact this
    have hsn : ∀ s, VS a s → sn w4 (w5 + 1) s → s = 10 * w4 + w5 ∨ (s ≠ 10 * w4 + w5 ∧ sn w4 w5 s) := fun s v q => by
      have := (VS_in hW.1.1 v).2.2
      unfold sn at q ⊢
      omega
    -- the next step, where nothing is done
    have skip : (¬ dnR τ (10 * w4 + w5) → blk5 M a τ (10 * w4 + w5)) → K123 w1 w2 w3 w4 (w5 + 1) τ := fun hb => by
      refine hK123 _ _ _ _ _ _ ⟨hF, j1, by omega, ⟨i1, i2, i3, ⟨rk, i4⟩, i5, by omega, by omega, by omega, by omega, fun e s v q => ?_⟩⟩ ?_
      · rcases hsn s v q with z | ⟨z, y⟩
        · rw [z]; exact hb
        · exact i10 e s v y
      · unfold mu_X5_plan_123
        omega
    have pb : pre_X5_before M v6 τ := by rw [ep]; exact put_where hW hRτ v h8
    -- behind before
    have aft : ∀ (z : Int) (s : Mem), post_X5_before M v6 τ z s → (w5 ≠ 0 → dnR τ (10 * w4 + w5 - 1)) → τ 50 v6 = 0 → (inR z) ∧ ((z < 0 → K201 w1 w2 w3 w4 w5 v6 z s) ∧ (0 ≤ z → (0 ≤ z ∧ z < 48) ∧ (inR (s 50 z)) ∧ ((¬ (s 50 z) = 0 → K201 w1 w2 w3 w4 w5 v6 z s) ∧ ((s 50 z) = 0 → K123 w1 w2 w3 w4 (w5 + 1) s)))) := by
      intro z s hz hpr hnd
      rw [ep] at hz
      obtain ⟨es, m', i', hi', ei', hcase⟩ := before_r hW hRτ v hz
      subst es
      have go : ((i' = 0 ∧ z = -1) ∨ (0 < i' ∧ z = pl (a (57 + m') (i' - 1)) ∧ VS a (a (57 + m') (i' - 1)) ∧ dnR s (a (57 + m') (i' - 1)))) → K201 w1 w2 w3 w4 w5 v6 z s := fun hc => by
        refine hK201 _ _ _ _ _ _ _ _ ⟨hF, v, ⟨i1, i2, i3, ⟨rk, i4⟩, i5, by omega, by omega, by omega, by omega, i10⟩, by omega, ep, hnd, hpr, m', i', hi', ei', hc⟩ ?_
        unfold mu_X5_plan_201 mu_X5_plan_123
        omega
      rcases hcase with ⟨q1, q2⟩ | ⟨q1, q2, q3⟩
      · exact ⟨⟨by omega, by omega⟩, fun _ => go (Or.inl ⟨q1, q2⟩), fun g => by omega⟩
      · have hpp := pl_in hW.1.1 q3
        have hdd := i4.1 _ q3
        rw [← q2] at hdd
        refine ⟨⟨by omega, by omega⟩, fun g => by omega, fun g => ⟨⟨by omega, by omega⟩, ⟨by omega, by omega⟩, fun g2 => go (Or.inr ⟨q1, q2, q3, ?_⟩), fun g2 => skip (fun _ => ⟨m', i', hi', ei', Or.inl ⟨q1, ?_⟩⟩)⟩⟩
        · unfold dnR; rw [← q2]; omega
        · unfold dnR; rw [← q2]; omega
    refine ⟨⟨by omega, by omega⟩, ⟨by omega, by omega⟩, fun g2 => skip (fun q => absurd (by unfold dnR; rw [← ep]; omega) q), fun g2 => ⟨⟨by omega, by omega⟩, fun g3 => ⟨pb, fun z s hz => aft z s hz (fun q => by omega) g2⟩, fun g3 => ?_⟩⟩
    have vp : VS a (10 * w4 + w5 - 1) := VS_pred hW.1 v (by omega)
    have epp : v6 - 1 = pl (10 * w4 + w5 - 1) := by rw [e6]; unfold pl; omega
    have hdp := i4.1 _ vp
    rw [← epp] at hdp
    refine ⟨⟨by omega, by omega⟩, ⟨by omega, by omega⟩, fun g4 => ⟨pb, fun z s hz => aft z s hz (fun q => ?_) g2⟩, fun g4 => skip (fun _ => ⟨m, i, hi, ei, Or.inr ⟨by omega, ?_⟩⟩)⟩
    · unfold dnR; rw [← epp]; omega
    · unfold dnR; rw [← epp]; omega
set_option maxHeartbeats 1000000 in
theorem ok_X5_plan_201 {M : Nat} {σ : Mem} {w1 w2 w3 w4 w5 w6 w7 : Int} {τ : Mem} {K123 : Int → Int → Int → Int → Int → Mem → Prop} (h : pre_X5_plan M σ) (hinv : inv_X5_plan_201 M σ w1 w2 w3 w4 w5 w6 w7 τ) (hK123 : ∀ (y1 y2 y3 y4 y5 : Int) (τ' : Mem), inv_X5_plan_123 M σ y1 y2 y3 y4 y5 τ' → mu_X5_plan_123 y1 y2 y3 y4 y5 τ' < mu_X5_plan_201 w1 w2 w3 w4 w5 w6 w7 τ → K123 y1 y2 y3 y4 y5 τ') : VC_X5_plan_201 M K123 (post_X5_plan M σ) w1 w2 w3 w4 w5 w6 w7 τ := by
  obtain ⟨hf, hR, hW⟩ := cur_ok h
  obtain ⟨hF, v, ⟨i1, i2, i3, ⟨rk, i4⟩, i5, i6, i7, i8, i9, i10⟩, j6, ew6, hnd, hpr, m, i, hi, ei, hc⟩ := hinv
  have hRτ := hF.nd hR
  replace hc := hide hc
  unfold inv_X5_plan_123 at hK123
  generalize hC : cur M σ = a at *
  have hj := hW.1.1.2.2.2.1
  have hn := PIr_n hW i4
  have hA := WF_AO hW i3
  have hp := pl_in hW.1.1 v
  have hat := at_pl hW hRτ v
  have hsp := PIr_span hW hA i4
  have e10 : (10 * w4 + w5) / 10 = w4 := by omega
  have e10' : (10 * w4 + w5) % 10 = w5 := by omega
  have hw4 : w4 < 8 := by have := v.2.1; omega
  have hr38 := (hRτ.2.2.1 w4 i6 hw4).1
  have h2 := (hW.1.2.1 w4 i6 hw4).1
  have h7 := (hW.1.2.2.2.1 _ (VS_in hW.1.1 v).1 (VS_in hW.1.1 v).2.1).2
  -- bounds of a done step
  have bnd : ∀ s, VS a s → dnR τ s → 0 ≤ bgR τ s ∧ bgR τ s ≤ 6000 ∧ (0 ≤ a 7 s ∧ a 7 s ≤ 50) := fun s v d => by
    obtain ⟨m2, i2, p1, p2, -⟩ := VS_inO hW.1 hA v
    have dd := i4.2.2.1 m2 i2 p1 (by rw [p2]; exact d)
    unfold PIs at dd
    rw [p2] at dd
    have := (hW.1.2.2.2.1 _ (VS_in hW.1.1 v).1 (VS_in hW.1.1 v).2.1).2
    have := dd.1
    have := dd.2.2.2.2.2
    omega
  have epp : w5 ≠ 0 → w6 - 1 = pl (10 * w4 + w5 - 1) := fun q => by rw [ew6]; unfold pl; omega
  have ep0 : 0 ≤ w6 - 1 ∨ w5 = 0 := by rw [ew6]; unfold pl; omega
  refine ⟨⟨by omega, by omega⟩, fun g => ⟨⟨by omega, by omega⟩, ⟨by omega, by omega⟩, trivial⟩, fun g => ⟨⟨i6, hw4⟩, trivial⟩, fun j10 q1 q2 => ?_⟩
  have ej10 : j10 = jIn a (bgR τ) (10 * w4 + w5) := by
    unfold jIn
    rw [e10, e10']
    by_cases q : w5 = 0
    · rw [if_pos q, q2 q, hr38]
    · rw [if_neg q, q1 q]
      have vp := VS_pred hW.1 v (by omega)
      have := at_pl hW hRτ vp
      rw [epp q, this.2.1]
      rfl
  have bj10 : 0 ≤ j10 ∧ j10 ≤ 7000 := by
    rw [ej10]
    unfold jIn
    rw [e10, e10']
    by_cases q : w5 = 0
    · rw [if_pos q]; omega
    · rw [if_neg q]
      have := bnd _ (VS_pred hW.1 v (by omega)) (hpr q)
      omega
  have hw7 : inR w7 := by
    rcases hc with ⟨_, e⟩ | ⟨_, e, vv, _⟩
    · exact ⟨by omega, by omega⟩
    · have := pl_in hW.1.1 vv
      exact ⟨by omega, by omega⟩
  have hm6 : a 6 (10 * w4 + w5) = m := by rw [← ei]; exact (inO_VS hW.1 hW.2.1 hi).2
  refine ⟨hw7, fun g => ?_, fun _ => trivial, fun j21 q3 q4 => ?_⟩
  · rcases hc with ⟨_, e⟩ | ⟨_, e, vv, _⟩
    · omega
    · have hpp := pl_in hW.1.1 vv
      refine ⟨⟨by omega, by omega⟩, ⟨by omega, by omega⟩, ?_, trivial⟩
      rw [e, ew6]
      exact (chg_r hW hRτ vv v).2.1
  · have ej28 : (0 ≤ j21 ∧ j21 ≤ 7000) ∧ max j10 j21 = bV a (bgR τ) m i := by
      unfold bV
      rw [ei]
      rcases hc with ⟨e1, e⟩ | ⟨e1, e, vv, dd⟩
      · rw [if_neg (by omega), ← ej10, q4 (by omega)]
        exact ⟨by omega, by omega⟩
      · have hpp := pl_in hW.1.1 vv
        have hb := bnd _ vv dd
        have hch := chg_r hW hRτ vv v
        have hat' := at_pl hW hRτ vv
        have hi' : inO M a m (i - 1) := ⟨hi.1, hi.2.1, by omega, by have := hi.2.2.2; omega⟩
        have em : a 6 (a (57 + m) (i - 1)) = m := (inO_VS hW.1 hW.2.1 hi').2
        rw [if_pos e1, ← ej10]
        have ej : j21 = oIn a (bgR τ) m (a (57 + m) (i - 1)) (10 * w4 + w5) := by
          rw [q3 (by omega), e, ew6, hch.1, hat'.2.1, em]
          rfl
        rw [ej]
        refine ⟨?_, rfl⟩
        unfold oIn
        have := hch.2.2
        rw [em] at this
        omega
    obtain ⟨bj21, ej28⟩ := ej28
    refine ⟨⟨⟨by omega, by omega⟩, ⟨by omega, by omega⟩⟩, fun _ => trivial, fun _ => trivial, fun j28 q5 q6 => ?_⟩
    have e28 : j28 = bV a (bgR τ) m i := by
      rw [← ej28]
      by_cases q : j21 ≤ j10
      · rw [q5 q]; omega
      · rw [q6 (by omega)]; omega
    have b28 : 0 ≤ j28 ∧ j28 ≤ 7000 := by rw [e28, ← ej28]; omega
    refine ⟨⟨by omega, by omega⟩, fun s33 e33 => ⟨⟨by omega, by omega⟩, fun s36 e36 => ?_⟩⟩
    have w48 : w2 < 48 := by
      have := (PIr_draw (τ' := fun c k => if c = 51 then (if k = pl (10 * w4 + w5) then bV a (bgR τ) m i else τ 51 k) else if c = 50 then (if k = pl (10 * w4 + w5) then 1 else τ 50 k) else if c = 53 then (if k = w2 then pl (10 * w4 + w5) else τ 53 k) else max (τ 37 16) (bV a (bgR τ) m i + a 7 (10 * w4 + w5))) hW hA i4 hi (by rw [ei, ← ew6]; exact hnd) (fun q => ?_) (fun q => ?_) (fun k => by simp [ei]) (fun k => by simp [ei]) (fun k => by simp [ei]) (by simp [ei])).2
      · exact this
      · rcases hc with ⟨e1, e⟩ | ⟨e1, e, vv, dd⟩
        · omega
        · exact dd
      · rw [ei] at q ⊢
        exact hpr (by omega)
    refine ⟨⟨by omega, by omega⟩, fun s39 e39 => ⟨⟨by omega, by omega⟩, ⟨by omega, by omega⟩, fun v44 e44 => ?_⟩⟩
    have f51 : s39 51 w6 = j28 := by rw [e39, e36, e33, up_other _ _ _ (by omega), up_other _ _ _ (by omega), up_self]
    have f43 : s39 43 w6 = a 7 (10 * w4 + w5) := by rw [e39, e36, e33, up_other _ _ _ (by omega), up_other _ _ _ (by omega), up_other _ _ _ (by omega), ew6]; exact hat.2.1
    have f37 : s39 37 = τ 37 := by rw [e39, e36, e33, up_other _ _ _ (by omega), up_other _ _ _ (by omega), up_other _ _ _ (by omega)]
    rw [f51, f43] at e44
    rw [f37]
    refine ⟨⟨⟨by omega, by omega⟩, ⟨by omega, by omega⟩⟩, fun _ => trivial, fun _ => trivial, fun j49 q7 q8 s52 e52 => ?_⟩
    have e49 : j49 = max (τ 37 16) (bV a (bgR τ) m i + a 7 (10 * w4 + w5)) := by
      rw [← e28, ← e44]
      by_cases q : v44 ≤ τ 37 16
      · rw [q7 q]; omega
      · rw [q8 (by omega)]; omega
    have hX := (PIr_draw (τ' := s52) hW hA i4 hi (by rw [ei, ← ew6]; exact hnd) (fun q => ?_) (fun q => ?_) (fun k => ?_) (fun k => ?_) (fun k => ?_) ?_).1
    · refine hK123 _ _ _ _ _ _ ⟨?_, by have := v.2.1; omega, by have := v.2.2; rw [e10, e10'] at this; omega, ⟨i1, ?_, i3, ⟨_, hX⟩, Or.inr rfl, i6, i7, by omega, by omega, fun z => by omega⟩⟩ ?_
      · rw [e52, e39, e36, e33]
        exact hF.trans ((RF0_up τ _ (by omega)).trans ((RF0_up _ _ (by omega)).trans ((RF0_up _ _ (by omega)).trans (RF0_up _ _ (by omega)))))
      · rw [e52, up_ne _ _ (by omega), f37]; exact i2
      · exact plan_mu hn.1 w48 i5 (Int.le_of_lt hw4) j6
    · rcases hc with ⟨e1, e⟩ | ⟨e1, e, vv, dd⟩
      · omega
      · exact dd
    · rw [ei] at q ⊢
      exact hpr (by omega)
    · rw [e52, e39, e36, e33, ei, ← ew6, ← e28]
      simp only [up]; grind
    · rw [e52, e39, e36, e33, ei, ← ew6]
      simp only [up]; grind
    · rw [e52, e39, e36, e33, ei, ← ew6]
      simp only [up]; grind
    · rw [e52, up_self, ei, e49]
set_option maxHeartbeats 1000000 in
theorem ok_X5_plan_397 {M : Nat} {σ : Mem} {w1 w2 w3 w4 : Int} {τ : Mem} {K397 : Int → Int → Int → Int → Mem → Prop} (h : pre_X5_plan M σ) (hinv : inv_X5_plan_397 M σ w1 w2 w3 w4 τ) (hK397 : ∀ (y1 y2 y3 y4 : Int) (τ' : Mem), inv_X5_plan_397 M σ y1 y2 y3 y4 τ' → mu_X5_plan_397 y1 y2 y3 y4 τ' < mu_X5_plan_397 w1 w2 w3 w4 τ → K397 y1 y2 y3 y4 τ') : VC_X5_plan_397 M K397 (post_X5_plan M σ) w1 w2 w3 w4 τ := by
  obtain ⟨hf, hR, hW⟩ := cur_ok h
  obtain ⟨hF, j1, j2, j3, j4, hall, rk, hX, hT⟩ := hinv
  have hRτ := hF.nd hR
  unfold post_X5_plan
  unfold inv_X5_plan_397 at hK397
  generalize hC : cur M σ = a at *
  have hs := steps_in hW
  have hA := WF_AO hW j2
  have hD : ∀ m i, inO M a m i → PIs a rk (a 1 2) τ m i := fun m i hi => hX.2.2.1 m i hi (hall _ (inO_VS hW.1 hW.2.1 hi).1)
  have hsp := PIr_span hW hA hX
  refine ⟨⟨by omega, by omega⟩, fun g => ⟨hF, Or.inr (Or.inr ⟨j1, ⟨j2, rk, ?_⟩, ?_, fun m i hi => ?_, hsp, fun s v => ?_⟩)⟩, fun g => ⟨⟨by omega, by omega⟩, ?_⟩⟩
  · intro m i hi _
    have pp := PIr_PP hW hX m i hi (hall _ (inO_VS hW.1 hW.2.1 hi).1)
    exact ⟨pp.1, fun q => ⟨trivial, (pp.2.1 q).2⟩, fun q => ⟨trivial, (pp.2.2.1 q).2⟩, pp.2.2.2⟩
  · obtain ⟨y1, y2, y3⟩ := hX.2.2.2.2
    refine ⟨y1, fun s v _ => y2 s v (hall s v), ?_⟩
    rcases y3 with y3 | ⟨s, p1, p2, p3⟩
    · exact Or.inl y3
    · exact Or.inr ⟨s, p1, trivial, p3⟩
  · have := (hD m i hi).1.1
    exact (hT m i hi (by omega)).1
  · obtain ⟨m, i, hi, e, -⟩ := VS_inO hW.1 hA v
    have d := hD m i hi
    have t := hT m i hi (by have := d.1.1; omega)
    unfold PIs at d
    rw [e] at d t
    have := d.1
    have := d.2.2.2.2.2
    unfold bgR at this
    omega
  · obtain ⟨s, v, hd, e53, ek⟩ := hX.2.2.2.1 w4 g j4
    obtain ⟨m, i, hi, ei, em⟩ := VS_inO hW.1 hA v
    have hp := pl_in hW.1.1 v
    have hb := VS_in hW.1.1 v
    have h8 : a 8 s = 1 := by have := (hW.2.1.1 m i hi.1 hi.2.1 hi.2.2.1 hi.2.2.2).2.2; rw [ei] at this; exact this
    have hat := at_pl hW hRτ v
    have h7 := (hW.1.2.2.2.1 s hb.1 hb.2.1).2
    have pw := put_where hW hRτ v h8
    rw [e53]
    -- the next of a job
    have nj : ∀ s', VS a s' → s' % 10 + 1 ≠ a 5 (s' / 10) → VS a (s' + 1) ∧ pl (s' + 1) = pl s' + 1 ∧ rk s' < rk (s' + 1) := fun s' v' q => by
      have hb' := VS_in hW.1.1 v'
      have hv' : VS a (s' + 1) := by
        obtain ⟨h1, h2, h3⟩ := v'
        have e2 : (s' + 1) / 10 = s' / 10 := by omega
        exact ⟨by omega, by rw [e2]; exact h2, by rw [e2]; omega⟩
      have hb2 := VS_in hW.1.1 hv'
      obtain ⟨m2, i2, p1, p2, -⟩ := VS_inO hW.1 hA hv'
      have dd := (hD m2 i2 p1).2.2.2.1 (by rw [p2]; omega)
      rw [p2, show s' + 1 - 1 = s' by omega] at dd
      exact ⟨hv', by unfold pl; omega, dd.2⟩
    -- the next of an order
    have no : ∀ m' i', inO M a m' i' → i' + 1 < a 10 m' → inO M a m' (i' + 1) ∧ rk (a (57 + m') i') < rk (a (57 + m') (i' + 1)) := fun m' i' hi' q => by
      have hi2 : inO M a m' (i' + 1) := ⟨hi'.1, hi'.2.1, by have := hi'.2.2.1; omega, q⟩
      have dd := (hD m' (i' + 1) hi2).2.2.1 (by have := hi'.2.2.1; omega)
      rw [show i' + 1 - 1 = i' by omega] at dd
      exact ⟨hi2, dd.2⟩
    have hT' : ∀ s', VS a s' → w4 < rk s' → 0 ≤ τ 52 (pl s') ∧ τ 52 (pl s') ≤ 100 * (48 - rk s') := fun s' v' q => by
      obtain ⟨m2, i2, p1, p2, -⟩ := VS_inO hW.1 hA v'
      have := (hT m2 i2 p1 (by rw [p2]; exact q)).2
      rw [p2] at this
      exact this
    have e41 := (hRτ.2.2.1 (s / 10) hb.2.2.1 hb.2.2.2.1).2.2.2
    have v5 := v.2.2
    have ejb : jbR (pl s) τ = if s % 10 + 1 = a 5 (s / 10) then 0 else τ 52 (pl (s + 1)) := by
      unfold jbR
      rw [hp.2.2.2.1, hp.2.2.2.2, e41]
      by_cases q : s % 10 + 1 = a 5 (s / 10)
      · rw [if_pos q, if_neg (by omega)]
      · rw [if_neg q, if_pos (by omega), (nj s v q).2.1]
    have bjb : 0 ≤ jbR (pl s) τ ∧ jbR (pl s) τ ≤ 100 * (47 - w4) := by
      rw [ejb]
      by_cases q : s % 10 + 1 = a 5 (s / 10)
      · rw [if_pos q]; omega
      · rw [if_neg q]
        obtain ⟨q1, q2, q3⟩ := nj s v q
        have := hT' _ q1 (by omega)
        omega
    have whr : ∀ z, 0 ≤ z → z < τ 46 (τ 42 (pl s)) → τ 47 (48 * τ 42 (pl s) + z) = pl s → z = i := fun z z0 z1 z2 => by
      have w := where_r hW hRτ v (z := z) (σ' := τ) ⟨rfl, z0, z1, z2⟩
      have hm := sz_in hW v
      rw [← em] at w hm
      exact hW.2.1.2 m z i hi.1 hi.2.1 w.2.1 w.2.2.1 hi.2.2.1 hi.2.2.2 (by rw [w.2.2.2, ei])
    have eor : orR (pl s) i τ = if i + 1 < a 10 m then a 11 ((m * 8 + s / 10) * 8 + a (57 + m) (i + 1) / 10) + τ 52 (pl (a (57 + m) (i + 1))) else 0 := by
      unfold orR
      rw [hat.1, ← em, hRτ.2.2.2.2.2.1 m hi.1 hi.2.1]
      by_cases q : i + 1 < a 10 m
      · rw [if_pos q, if_pos q, hRτ.2.2.2.2.2.2 m (i + 1) (no m i hi q).1, (chg_r hW hRτ v (inO_VS hW.1 hW.2.1 (no m i hi q).1).1).1, ← em]
      · rw [if_neg q, if_neg q]
    have bor : 0 ≤ orR (pl s) i τ ∧ orR (pl s) i τ ≤ 100 * (47 - w4) + 50 := by
      rw [eor]
      by_cases q : i + 1 < a 10 m
      · rw [if_pos q]
        obtain ⟨q1, q2⟩ := no m i hi q
        rw [ei, ek] at q2
        have v1 := (inO_VS hW.1 hW.2.1 q1).1
        have := hT' _ v1 (by omega)
        have := (chg_r hW hRτ v v1).2.2
        rw [← em] at this
        omega
      · rw [if_neg q]; omega
    have eV : a 7 s + max (jbR (pl s) τ) (orR (pl s) i τ) = rV a (fun s => τ 52 (pl s)) m i := by
      unfold rV
      rw [ei, ejb, eor]
    refine ⟨⟨pw, ⟨by omega, by omega⟩, fun q => ?_, fun z z0 z1 z2 => by rw [whr z z0 z1 z2]; omega⟩, fun s6 h6 => ?_⟩
    · rw [hp.2.2.2.1, hp.2.2.2.2, e41] at q
      have := nj s v (by omega)
      have := pl_in hW.1.1 this.1
      omega
    · obtain ⟨z, z0, z1, z2, e6⟩ := h6
      have ez := whr z z0 z1 z2
      subst ez
      rw [hat.2.1, eV] at e6
      have a52 : ∀ k, s6 52 k = if k = pl s then rV a (fun s => τ 52 (pl s)) m z else τ 52 k := fun k => by
        rw [e6]
        simp only [up]
        by_cases q : k = pl s
        · simp [q]
        · simp [q]
      have ao : ∀ c, c ≠ 52 → s6 c = τ c := fun c hc => by rw [e6, up_other _ _ _ hc]
      have hX' : PIr M a rk (a 1 2) s6 := by
        have d50 : dnR s6 = dnR τ := by unfold dnR; rw [ao 50 (by omega)]
        have d51 : bgR s6 = bgR τ := by unfold bgR; rw [ao 51 (by omega)]
        have dst : stC a s6 = stC a τ := by unfold stC; rw [ao 50 (by omega)]
        unfold PIr PIs
        rw [d50, d51, dst, ao 50 (by omega), ao 53 (by omega), ao 37 (by omega)]
        exact hX
      refine hK397 _ _ _ _ _ ⟨?_, by rw [ao 37 (by omega)]; exact j1, j2, by omega, by omega, ?_, rk, hX', fun m' i' hi' hlt' => ?_⟩ ?_
      · rw [e6]; exact hF.trans (RF0_up τ _ (by omega))
      · unfold dnR
        rw [ao 50 (by omega)]
        exact hall
      · have v' := (inO_VS hW.1 hW.2.1 hi').1
        have same : rV a (fun s => s6 52 (pl s)) m' i' = rV a (fun s => τ 52 (pl s)) m' i' := by
          unfold rV
          have x1 : (if a (57 + m') i' % 10 + 1 = a 5 (a (57 + m') i' / 10) then 0 else s6 52 (pl (a (57 + m') i' + 1))) = if a (57 + m') i' % 10 + 1 = a 5 (a (57 + m') i' / 10) then 0 else τ 52 (pl (a (57 + m') i' + 1)) := by
            by_cases q : a (57 + m') i' % 10 + 1 = a 5 (a (57 + m') i' / 10)
            · rw [if_pos q, if_pos q]
            · obtain ⟨n1, n2, n3⟩ := nj _ v' q
              rw [if_neg q, if_neg q, a52, if_neg (fun z => by have := pl_inj hW.1.1 n1 v z; rw [this, ek] at n3; omega)]
          have x2 : (if i' + 1 < a 10 m' then a 11 ((m' * 8 + a (57 + m') i' / 10) * 8 + a (57 + m') (i' + 1) / 10) + s6 52 (pl (a (57 + m') (i' + 1))) else 0) = if i' + 1 < a 10 m' then a 11 ((m' * 8 + a (57 + m') i' / 10) * 8 + a (57 + m') (i' + 1) / 10) + τ 52 (pl (a (57 + m') (i' + 1))) else 0 := by
            by_cases q : i' + 1 < a 10 m'
            · obtain ⟨n1, n2⟩ := no m' i' hi' q
              rw [if_pos q, if_pos q, a52, if_neg (fun z => by have := pl_inj hW.1.1 (inO_VS hW.1 hW.2.1 n1).1 v z; rw [this, ek] at n2; omega)]
            · rw [if_neg q, if_neg q]
          simp only [x1, x2]
        rw [same, a52]
        by_cases q : a (57 + m') i' = s
        · have em' : m' = m := by rw [← (inO_VS hW.1 hW.2.1 hi').2, q, em]
          subst em'
          have ei' : i' = z := hW.2.1.2 m' i' z hi'.1 hi'.2.1 hi'.2.2.1 hi'.2.2.2 hi.2.2.1 hi.2.2.2 (by rw [q, ei])
          subst ei'
          rw [q, if_pos rfl, ek, ← eV]
          refine ⟨rfl, ?_⟩
          clear hT hT' hD no nj whr
          omega
        · have nq : pl (a (57 + m') i') ≠ pl s := fun z => q (pl_inj hW.1.1 v' v z)
          rw [if_neg nq]
          refine hT m' i' hi' ?_
          by_cases q5 : rk (a (57 + m') i') = w4
          · exfalso
            have z1 := (hD m' i' hi').2.1
            rw [q5, e53] at z1
            exact nq z1.symm
          · omega
      · unfold mu_X5_plan_397; omega
theorem c_X5_plan {G : GG} (hG : GI G) (l : Launch) (σ : Mem) (h : pre_X5_plan (gM G) σ) : CtV G l yX5_plan cX5_plan 11 none 2 [pR 37] σ (post_X5_plan (gM G) σ) := by
  refine CtV.of hG (by decide) (Nat.le_of_ble_eq_true rfl) (fun X hl C => ?_)
  show RW G X 11 (QV G X _) 0 [(0, pR 37)] [] σ
  have key : ∀ n : Nat, (∀ (w1 w2 : Int) (τ : Mem), inv_X5_plan_14 (gM G) σ w1 w2 τ → mu_X5_plan_14 w1 w2 τ < n → RW G X 11 (QV G X (post_X5_plan (gM G) σ)) 14 [(0, pR 37), (1, pI w1), (2, pI w2)] [] τ) ∧ (∀ (w1 w2 w3 : Int) (τ : Mem), inv_X5_plan_24 (gM G) σ w1 w2 w3 τ → mu_X5_plan_24 w1 w2 w3 τ < n → RW G X 11 (QV G X (post_X5_plan (gM G) σ)) 24 [(0, pR 37), (1, pI w1), (2, pI w2), (3, pI w3)] [] τ) ∧ (∀ (w1 w2 w3 : Int) (τ : Mem), inv_X5_plan_102 (gM G) σ w1 w2 w3 τ → mu_X5_plan_102 w1 w2 w3 τ < n → RW G X 11 (QV G X (post_X5_plan (gM G) σ)) 102 [(0, pR 37), (1, pI w1), (2, pI w2), (3, pI w3)] [] τ) ∧ (∀ (w1 w2 w3 w4 : Int) (τ : Mem), inv_X5_plan_111 (gM G) σ w1 w2 w3 w4 τ → mu_X5_plan_111 w1 w2 w3 w4 τ < n → RW G X 11 (QV G X (post_X5_plan (gM G) σ)) 111 [(0, pR 37), (1, pI w1), (2, pI w2), (3, pI w3), (4, pI w4)] [] τ) ∧ (∀ (w1 w2 w3 w4 w5 : Int) (τ : Mem), inv_X5_plan_123 (gM G) σ w1 w2 w3 w4 w5 τ → mu_X5_plan_123 w1 w2 w3 w4 w5 τ < n → RW G X 11 (QV G X (post_X5_plan (gM G) σ)) 123 [(0, pR 37), (1, pI w1), (2, pI w2), (3, pI w3), (4, pI w4), (5, pI w5)] [] τ) ∧ (∀ (w1 w2 w3 w4 w5 w6 w7 : Int) (τ : Mem), inv_X5_plan_201 (gM G) σ w1 w2 w3 w4 w5 w6 w7 τ → mu_X5_plan_201 w1 w2 w3 w4 w5 w6 w7 τ < n → RW G X 11 (QV G X (post_X5_plan (gM G) σ)) 201 [(0, pR 37), (1, pI w1), (2, pI w2), (3, pI w3), (4, pI w4), (5, pI w5), (6, pI w6), (7, pI w7)] [] τ) ∧ (∀ (w1 w2 w3 w4 : Int) (τ : Mem), inv_X5_plan_397 (gM G) σ w1 w2 w3 w4 τ → mu_X5_plan_397 w1 w2 w3 w4 τ < n → RW G X 11 (QV G X (post_X5_plan (gM G) σ)) 397 [(0, pR 37), (1, pI w1), (2, pI w2), (3, pI w3), (4, pI w4)] [] τ) := by
    intro n
    induction n with
    | zero => exact ⟨fun w1 w2 τ _ h0 => absurd h0 (Nat.not_lt_zero _), fun w1 w2 w3 τ _ h0 => absurd h0 (Nat.not_lt_zero _), fun w1 w2 w3 τ _ h0 => absurd h0 (Nat.not_lt_zero _), fun w1 w2 w3 w4 τ _ h0 => absurd h0 (Nat.not_lt_zero _), fun w1 w2 w3 w4 w5 τ _ h0 => absurd h0 (Nat.not_lt_zero _), fun w1 w2 w3 w4 w5 w6 w7 τ _ h0 => absurd h0 (Nat.not_lt_zero _), fun w1 w2 w3 w4 τ _ h0 => absurd h0 (Nat.not_lt_zero _)⟩
    | succ n ih =>
      exact ⟨(fun w1 w2 τ hinv h0 => seg_X5_plan_14 C w1 w2 τ (ok_X5_plan_14 h hinv (fun y1 y2 y3 τ' hi hm => ih.2.1 y1 y2 y3 τ' hi (Nat.lt_of_lt_of_le hm (Nat.le_of_lt_succ h0))) (fun y1 y2 y3 τ' hi hm => ih.2.2.1 y1 y2 y3 τ' hi (Nat.lt_of_lt_of_le hm (Nat.le_of_lt_succ h0))))), (fun w1 w2 w3 τ hinv h0 => seg_X5_plan_24 C w1 w2 w3 τ (ok_X5_plan_24 h hinv (fun y1 y2 τ' hi hm => ih.1 y1 y2 τ' hi (Nat.lt_of_lt_of_le hm (Nat.le_of_lt_succ h0))) (fun y1 y2 y3 τ' hi hm => ih.2.1 y1 y2 y3 τ' hi (Nat.lt_of_lt_of_le hm (Nat.le_of_lt_succ h0))))), (fun w1 w2 w3 τ hinv h0 => seg_X5_plan_102 C w1 w2 w3 τ (ok_X5_plan_102 h hinv (fun y1 y2 y3 y4 τ' hi hm => ih.2.2.2.1 y1 y2 y3 y4 τ' hi (Nat.lt_of_lt_of_le hm (Nat.le_of_lt_succ h0))) (fun y1 y2 y3 y4 τ' hi hm => ih.2.2.2.2.2.2 y1 y2 y3 y4 τ' hi (Nat.lt_of_lt_of_le hm (Nat.le_of_lt_succ h0))))), (fun w1 w2 w3 w4 τ hinv h0 => seg_X5_plan_111 C w1 w2 w3 w4 τ (ok_X5_plan_111 h hinv (fun y1 y2 y3 τ' hi hm => ih.2.2.1 y1 y2 y3 τ' hi (Nat.lt_of_lt_of_le hm (Nat.le_of_lt_succ h0))) (fun y1 y2 y3 y4 y5 τ' hi hm => ih.2.2.2.2.1 y1 y2 y3 y4 y5 τ' hi (Nat.lt_of_lt_of_le hm (Nat.le_of_lt_succ h0))))), (fun w1 w2 w3 w4 w5 τ hinv h0 => seg_X5_plan_123 C w1 w2 w3 w4 w5 τ (ok_X5_plan_123 h hinv (fun y1 y2 y3 y4 τ' hi hm => ih.2.2.2.1 y1 y2 y3 y4 τ' hi (Nat.lt_of_lt_of_le hm (Nat.le_of_lt_succ h0))) (fun y1 y2 y3 y4 y5 τ' hi hm => ih.2.2.2.2.1 y1 y2 y3 y4 y5 τ' hi (Nat.lt_of_lt_of_le hm (Nat.le_of_lt_succ h0))) (fun y1 y2 y3 y4 y5 y6 y7 τ' hi hm => ih.2.2.2.2.2.1 y1 y2 y3 y4 y5 y6 y7 τ' hi (Nat.lt_of_lt_of_le hm (Nat.le_of_lt_succ h0))))), (fun w1 w2 w3 w4 w5 w6 w7 τ hinv h0 => seg_X5_plan_201 C w1 w2 w3 w4 w5 w6 w7 τ (ok_X5_plan_201 h hinv (fun y1 y2 y3 y4 y5 τ' hi hm => ih.2.2.2.2.1 y1 y2 y3 y4 y5 τ' hi (Nat.lt_of_lt_of_le hm (Nat.le_of_lt_succ h0))))), (fun w1 w2 w3 w4 τ hinv h0 => seg_X5_plan_397 C w1 w2 w3 w4 τ (ok_X5_plan_397 h hinv (fun y1 y2 y3 y4 τ' hi hm => ih.2.2.2.2.2.2 y1 y2 y3 y4 τ' hi (Nat.lt_of_lt_of_le hm (Nat.le_of_lt_succ h0)))))⟩
  exact seg_X5_plan_0 C σ (ok_X5_plan_0 h (fun y1 y2 τ' hi => (key _).1 y1 y2 τ' hi (Nat.lt_succ_self _)))
