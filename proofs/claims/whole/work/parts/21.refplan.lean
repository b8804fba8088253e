/-! the reference's plan -/
theorem sumN_upR {f g : Int → Int} {lo k d : Int} : ∀ {n : Nat}, lo ≤ k → k < lo + n → g k = f k + d → (∀ i : Int, lo ≤ i → i < lo + n → i ≠ k → g i = f i) → sumN g lo n = sumN f lo n + d
  | 0, h1, h2, _, _ => by omega
  | n + 1, h1, h2, h3, h4 => by
    show sumN g lo n + g (lo + n) = sumN f lo n + f (lo + n) + d
    by_cases q : k = lo + n
    · subst q
      rw [h3, sumN_congr (f := g) (g := f) (fun i a b => h4 i a (by omega) (by omega))]
      omega
    · rw [sumN_upR h1 (by omega) h3 (fun i a b c => h4 i a (by omega) c), h4 (lo + n) (by omega) (by omega) (fun e => q e.symm)]
      omega
theorem sumI_upR {f g : Int → Int} {lo hi k d : Int} (h1 : lo ≤ k) (h2 : k < hi) (h3 : g k = f k + d) (h4 : ∀ i : Int, lo ≤ i → i < hi → i ≠ k → g i = f i) : sumI g lo hi = sumI f lo hi + d := sumN_upR h1 (by omega) h3 (fun i a b c => h4 i a (by omega) c)
def dnR (τ : Mem) (s : Int) : Prop := τ 50 (pl s) = 1
def bgR (τ : Mem) (s : Int) : Int := τ 51 (pl s)
def stC (a τ : Mem) (s : Int) : Int := if s / 10 < a 1 1 ∧ s % 10 < a 5 (s / 10) then τ 50 (pl s) else 0
def PIs (a : Mem) (rk : Int → Int) (n : Int) (τ : Mem) (m i : Int) : Prop :=
  (0 ≤ rk (a (57 + m) i) ∧ rk (a (57 + m) i) < n) ∧ τ 53 (rk (a (57 + m) i)) = pl (a (57 + m) i) ∧ (0 < i → dnR τ (a (57 + m) (i - 1)) ∧ rk (a (57 + m) (i - 1)) < rk (a (57 + m) i)) ∧ (a (57 + m) i % 10 ≠ 0 → dnR τ (a (57 + m) i - 1) ∧ rk (a (57 + m) i - 1) < rk (a (57 + m) i)) ∧ bgR τ (a (57 + m) i) = bV a (bgR τ) m i ∧ (0 ≤ bgR τ (a (57 + m) i) ∧ bgR τ (a (57 + m) i) ≤ 1000 + 100 * rk (a (57 + m) i))
def PIr (M : Nat) (a : Mem) (rk : Int → Int) (n : Int) (τ : Mem) : Prop :=
  (∀ s, VS a s → τ 50 (pl s) = 0 ∨ τ 50 (pl s) = 1)
  ∧ n = sumI (stC a τ) 0 80
  ∧ (∀ m i : Int, inO M a m i → dnR τ (a (57 + m) i) → PIs a rk n τ m i)
  ∧ (∀ q : Int, 0 ≤ q → q < n → ∃ s, VS a s ∧ dnR τ s ∧ τ 53 q = pl s ∧ rk s = q)
  ∧ SPN a (dnR τ) (bgR τ) (τ 37 16)
theorem stC_le {M : Nat} {a τ : Mem} (h : WF M a) (hp : ∀ s, VS a s → τ 50 (pl s) = 0 ∨ τ 50 (pl s) = 1) : ∀ s : Int, 0 ≤ s → s < 80 → 0 ≤ stC a τ s ∧ stC a τ s ≤ if s % 10 < a 5 (s / 10) then 1 else 0 := by
  intro s s0 s1
  unfold stC
  by_cases e : s / 10 < a 1 1 ∧ s % 10 < a 5 (s / 10)
  · rw [if_pos e, if_pos e.2]
    have := hp s ⟨s0, e.1, e.2⟩
    omega
  · rw [if_neg e]
    split <;> omega
theorem PIr_n {M : Nat} {a : Mem} {rk : Int → Int} {n : Int} {τ : Mem} (h : WF M a) (x : PIr M a rk n τ) : 0 ≤ n ∧ n ≤ a 1 2 ∧ a 1 2 ≤ 48 ∧ (a 1 2 ≤ n → All a (dnR τ)) := by
  obtain ⟨x1, x2, -⟩ := x
  have hs := steps_in h
  have hc := count80 h.1.1.2.2.2.2.1
  have e12 : a 1 2 = sumI (a 5) 0 8 := h.2.2.2.2.1
  have hle := stC_le h x1
  have b := sumI_le (lo := 0) (hi := 80) (fun s s0 s1 => (hle s s0 s1).2)
  have b0 := sumI_le (f := fun _ => (0 : Int)) (g := stC a τ) (lo := 0) (hi := 80) (fun s s0 s1 => (hle s s0 s1).1)
  have z0 : sumI (fun _ => (0 : Int)) 0 80 = 0 := by decide
  rw [hc] at b
  refine ⟨by omega, by omega, hs.2.1, fun q s hv => ?_⟩
  have hb := VS_in h.1.1 hv
  have key := sumI_eq (f := stC a τ) (g := fun s => if s % 10 < a 5 (s / 10) then 1 else 0) (lo := 0) (hi := 80) (fun s s0 s1 => (hle s s0 s1).2) (by rw [hc]; omega) s hb.1 hb.2.1
  rw [if_pos hv.2.2] at key
  unfold stC at key
  rw [if_pos ⟨hv.2.1, hv.2.2⟩] at key
  exact key
theorem PIr_span {M : Nat} {a : Mem} {rk : Int → Int} {n : Int} {τ : Mem} (h : WF M a) (hA : AO a) (x : PIr M a rk n τ) : 0 ≤ τ 37 16 ∧ τ 37 16 ≤ 6000 := by
  have hn := PIr_n h x
  obtain ⟨-, -, x3, -, x5, x6, x7⟩ := x
  refine ⟨x5, ?_⟩
  rcases x7 with e | ⟨s, p1, p2, p3⟩
  · omega
  · obtain ⟨m, i, hi, e, -⟩ := VS_inO h.1 hA p1
    have q := x3 m i hi (by rw [e]; exact p2)
    unfold PIs at q
    rw [e] at q
    have hb := VS_in h.1.1 p1
    have := (h.1.2.2.2.1 s hb.1 hb.2.1).2
    have := q.1
    have := q.2.2.2.2.2
    omega
theorem PIr_PP {M : Nat} {a : Mem} {rk : Int → Int} {n : Int} {τ : Mem} (h : WF M a) (x : PIr M a rk n τ) : PP M a (dnR τ) (bgR τ) rk := by
  have hn := PIr_n h x
  intro m i hi hd
  obtain ⟨q1, q2, q3, q4, q5, q6⟩ := x.2.2.1 m i hi hd
  exact ⟨⟨q1.1, by omega⟩, q3, q4, q5⟩
/-- one step more -/
theorem PIr_draw {M : Nat} {a : Mem} {rk : Int → Int} {n : Int} {τ τ' : Mem} (h : WF M a) (hA : AO a) (x : PIr M a rk n τ) {m i : Int} (hi : inO M a m i) (hnd : τ 50 (pl (a (57 + m) i)) = 0) (hp1 : 0 < i → dnR τ (a (57 + m) (i - 1))) (hp2 : a (57 + m) i % 10 ≠ 0 → dnR τ (a (57 + m) i - 1))
    (a51 : ∀ k, τ' 51 k = if k = pl (a (57 + m) i) then bV a (bgR τ) m i else τ 51 k) (a50 : ∀ k, τ' 50 k = if k = pl (a (57 + m) i) then 1 else τ 50 k) (a53 : ∀ k, τ' 53 k = if k = n then pl (a (57 + m) i) else τ 53 k) (a37 : τ' 37 16 = max (τ 37 16) (bV a (bgR τ) m i + a 7 (a (57 + m) i))) :
    PIr M a (fun s => if s = a (57 + m) i then n else rk s) (n + 1) τ' ∧ n < 48 := by
  obtain ⟨s, hs⟩ : ∃ s, s = a (57 + m) i := ⟨_, rfl⟩
  obtain ⟨b, hb⟩ : ∃ b, b = bV a (bgR τ) m i := ⟨_, rfl⟩
  rw [← hs] at hnd hp2 a51 a50 a53 a37 ⊢
  rw [← hb] at a51 a37
  have hn := PIr_n h x
  obtain ⟨x1, x2, x3, x4, x5, x6, x7⟩ := id x
  have hv : VS a s := by rw [hs]; exact (inO_VS h.1 h.2.1 hi).1
  have hvb := VS_in h.1.1 hv
  have inj : ∀ s', VS a s' → s' ≠ s → pl s' ≠ pl s := fun s' v ne e => ne (pl_inj h.1.1 v hv e)
  have hD : ∀ s', VS a s' → (dnR τ' s' ↔ (s' = s ∨ dnR τ s')) := fun s' v => by
    unfold dnR
    rw [a50]
    by_cases e : s' = s
    · subst e; simp
    · rw [if_neg (inj s' v e)]; simp [e]
  have hBn : ∀ s', VS a s' → s' ≠ s → bgR τ' s' = bgR τ s' := fun s' v ne => by unfold bgR; rw [a51, if_neg (inj s' v ne)]
  have hBs : bgR τ' s = b := by unfold bgR; rw [a51, if_pos rfl]
  have nd : ¬ dnR τ s := by unfold dnR; omega
  have ned : ∀ s', dnR τ s' → s' ≠ s := fun s' d e => nd (by rw [← e]; exact d)
  have hprev : 0 < i → inO M a m (i - 1) := fun q => ⟨hi.1, hi.2.1, by omega, by have := hi.2.2.2; omega⟩
  have eB : ∀ m' i', inO M a m' i' → (0 < i' → dnR τ (a (57 + m') (i' - 1))) → (a (57 + m') i' % 10 ≠ 0 → dnR τ (a (57 + m') i' - 1)) → bV a (bgR τ') m' i' = bV a (bgR τ) m' i' := by
    intro m' i' q1 q2 q3
    refine bV_congr (SE.refl a) q1.1 (fun q4 => ?_) (fun q4 => ?_)
    · exact hBn _ (VS_pred h.1 (inO_VS h.1 h.2.1 q1).1 q4) (ned _ (q3 q4))
    · exact hBn _ (inO_VS h.1 h.2.1 (m := m') (i := i' - 1) ⟨q1.1, q1.2.1, by omega, by have := q1.2.2.2; omega⟩).1 (ned _ (q2 q4))
  have hbb : 0 ≤ b ∧ b ≤ 1000 + 100 * n := by
    have h2 := (h.1.2.1 _ hvb.2.2.1 hvb.2.2.2.1).1
    have hj : 0 ≤ jIn a (bgR τ) s ∧ jIn a (bgR τ) s ≤ 1000 + 100 * n := by
      unfold jIn
      by_cases q : s % 10 = 0
      · rw [if_pos q]; omega
      · rw [if_neg q]
        obtain ⟨m2, i2, p1, p2, -⟩ := VS_inO h.1 hA (VS_pred h.1 hv q)
        have dd := x3 m2 i2 p1 (by rw [p2]; exact hp2 q)
        unfold PIs at dd
        rw [p2] at dd
        have := (h.1.2.2.2.1 (s - 1) (by omega) (by omega)).2
        have := dd.1
        have := dd.2.2.2.2.2
        omega
    rw [hb]
    unfold bV
    rw [← hs]
    by_cases q : 0 < i
    · rw [if_pos q]
      have dd := x3 m (i - 1) (hprev q) (hp1 q)
      unfold PIs at dd
      have pb := VS_in h.1.1 (inO_VS h.1 h.2.1 (hprev q)).1
      have := (h.1.2.2.2.1 _ pb.1 pb.2.1).2
      have h11 := h.1.2.2.2.2.1 ((m * 8 + a (57 + m) (i - 1) / 10) * 8 + s / 10) (by have := hi.1; omega) (by have := hi.2.1; have := hi.1; omega)
      have := dd.1
      have := dd.2.2.2.2.2
      unfold oIn
      omega
    · rw [if_neg q]; exact hj
  have hsum : n + 1 = sumI (stC a τ') 0 80 := by
    rw [x2]
    refine (sumI_upR (k := s) hvb.1 hvb.2.1 ?_ (fun s' e0 e9 q => ?_)).symm
    · unfold stC
      rw [if_pos ⟨hv.2.1, hv.2.2⟩, if_pos ⟨hv.2.1, hv.2.2⟩, a50, if_pos rfl, hnd]
      rfl
    · unfold stC
      by_cases e : s' / 10 < a 1 1 ∧ s' % 10 < a 5 (s' / 10)
      · rw [if_pos e, if_pos e, a50, if_neg (inj s' ⟨e0, e.1, e.2⟩ q)]
      · rw [if_neg e, if_neg e]
  have hX : PIr M a (fun s' => if s' = s then n else rk s') (n + 1) τ' := by
    refine ⟨fun s' v => ?_, hsum, fun m' i' q1 q2 => ?_, fun q q0 q1 => ?_, ?_, fun s' v d => ?_, ?_⟩
    · rw [a50]
      split
      · exact Or.inr rfl
      · exact x1 s' v
    · have v' := (inO_VS h.1 h.2.1 q1).1
      unfold PIs
      by_cases e : a (57 + m') i' = s
      · have em : m' = m := by rw [← (inO_VS h.1 h.2.1 q1).2, e, hs, (inO_VS h.1 h.2.1 hi).2]
        subst em
        have ei : i' = i := h.2.1.2 m' i' i q1.1 q1.2.1 q1.2.2.1 q1.2.2.2 hi.2.2.1 hi.2.2.2 (by rw [e, hs])
        subst ei
        rw [e]
        simp only [if_true]
        refine ⟨⟨by omega, by omega⟩, by rw [a53, if_pos rfl], fun q3 => ?_, fun q3 => ?_, ?_, by rw [hBs]; exact hbb⟩
        · have d := hp1 q3
          have vp := (inO_VS h.1 h.2.1 (hprev q3)).1
          refine ⟨(hD _ vp).mpr (Or.inr d), ?_⟩
          rw [if_neg (ned _ d)]
          exact (x3 m' (i' - 1) (hprev q3) d).1.2
        · have d := hp2 q3
          have vp := VS_pred h.1 hv q3
          refine ⟨(hD _ vp).mpr (Or.inr d), ?_⟩
          rw [if_neg (ned _ d)]
          obtain ⟨m2, i2, p1, p2, -⟩ := VS_inO h.1 hA vp
          have := (x3 m2 i2 p1 (by rw [p2]; exact d)).1.2
          rw [p2] at this
          exact this
        · rw [hBs, eB m' i' q1 hp1 (by rw [e]; exact hp2), hb]
      · have d : dnR τ (a (57 + m') i') := by
          rcases (hD _ v').mp q2 with z | z
          · exact absurd z e
          · exact z
        obtain ⟨y1, y2, y3, y4, y5, y6⟩ := x3 m' i' q1 d
        simp only [if_neg e]
        refine ⟨⟨y1.1, by omega⟩, by rw [a53, if_neg (by omega)]; exact y2, fun q3 => ?_, fun q3 => ?_, ?_, by rw [hBn _ v' e]; exact y6⟩
        · have dd := y3 q3
          have vp := (inO_VS h.1 h.2.1 (m := m') (i := i' - 1) ⟨q1.1, q1.2.1, by omega, by have := q1.2.2.2; omega⟩).1
          refine ⟨(hD _ vp).mpr (Or.inr dd.1), ?_⟩
          rw [if_neg (ned _ dd.1)]
          exact dd.2
        · have dd := y4 q3
          refine ⟨(hD _ (VS_pred h.1 v' q3)).mpr (Or.inr dd.1), ?_⟩
          rw [if_neg (ned _ dd.1)]
          exact dd.2
        · rw [hBn _ v' e, eB m' i' q1 (fun q3 => (y3 q3).1) (fun q3 => (y4 q3).1), y5]
    · by_cases e : q = n
      · exact ⟨s, hv, (hD s hv).mpr (Or.inl rfl), by rw [a53, if_pos e], by simp [e]⟩
      · obtain ⟨s', p1, p2, p3, p4⟩ := x4 q q0 (by omega)
        refine ⟨s', p1, (hD s' p1).mpr (Or.inr p2), by rw [a53, if_neg e]; exact p3, ?_⟩
        show (if s' = s then n else rk s') = q
        rw [if_neg (ned s' p2)]; exact p4
    · clear x7
      rw [a37]; omega
    · clear x7
      rw [a37]
      by_cases e : s' = s
      · subst e; rw [hBs]; omega
      · rw [hBn s' v e]
        have dd : dnR τ s' := by
          rcases (hD s' v).mp d with z | z
          · exact absurd z e
          · exact z
        have := x6 s' v dd
        omega
    · rw [a37]
      by_cases e : τ 37 16 ≤ b + a 7 s
      · right
        refine ⟨s, hv, (hD s hv).mpr (Or.inl rfl), ?_⟩
        clear x7
        rw [hBs]; omega
      · rcases x7 with x7 | ⟨s', p1, p2, p3⟩
        · have := (h.1.2.2.2.1 s hvb.1 hvb.2.1).2; omega
        · right
          refine ⟨s', p1, (hD s' p1).mpr (Or.inr p2), ?_⟩
          rw [hBn s' p1 (ned s' p2)]; omega
  have hn' := PIr_n h hX
  exact ⟨hX, by omega⟩
/-- a step that can't be done yet -/
def blk5 (M : Nat) (a τ : Mem) (s : Int) : Prop := ∃ m i : Int, inO M a m i ∧ a (57 + m) i = s ∧ ((0 < i ∧ ¬ dnR τ (a (57 + m) (i - 1))) ∨ (s % 10 ≠ 0 ∧ ¬ dnR τ (s - 1)))
theorem blk5_MX {M : Nat} {a τ : Mem} (h : WF M a) (g : ∀ s, VS a s → ¬ dnR τ s → blk5 M a τ s) : MX M a (dnR τ) := by
  intro m i hi hn
  obtain ⟨m', i', q1, q2, q3⟩ := g _ (inO_VS h.1 h.2.1 hi).1 hn
  have em : m' = m := by rw [← (inO_VS h.1 h.2.1 q1).2, q2, (inO_VS h.1 h.2.1 hi).2]
  subst em
  have ei : i' = i := h.2.1.2 m' i' i q1.1 q1.2.1 q1.2.2.1 q1.2.2.2 hi.2.2.1 hi.2.2.2 q2
  subst ei
  exact q3
def RF0 (σ τ : Mem) : Prop := RFr σ τ ∧ τ 37 0 = σ 37 0
theorem RF0.trans {a b c : Mem} (h : RF0 a b) (g : RF0 b c) : RF0 a c := ⟨h.1.trans g.1, g.2.trans h.2⟩
theorem RF0.refl (σ : Mem) : RF0 σ σ := ⟨RFr.refl σ, rfl⟩
theorem RF0_up (σ : Mem) {c i : Int} (v : Int) (h : (48 ≤ c ∧ c < 56) ∨ (c = 37 ∧ (i = 15 ∨ i = 16 ∨ i = 21))) : RF0 σ (up σ c i v) := by
  refine ⟨⟨fun d hd => ?_, fun k k0 k1 k2 k3 => ?_⟩, ?_⟩
  · rw [up_other _ _ _ (by omega)]
  · by_cases e : c = 37
    · rw [up_ne _ _ (Or.inr (by omega))]
    · rw [up_ne _ _ (Or.inl (by omega))]
  · by_cases e : c = 37
    · rw [up_ne _ _ (Or.inr (by omega))]
    · rw [up_ne _ _ (Or.inl (by omega))]

/-! X5_before -/
def pre_X5_before (M : Nat) (x1 : Int) (σ : Mem) : Prop := pre_X5_whereIs M x1 σ
def post_X5_before (M : Nat) (x1 : Int) (σ : Mem) (z : Int) (σ' : Mem) : Prop := σ' = σ ∧ ((z = -1 ∧ 0 < σ 46 (σ 42 x1) ∧ σ 47 (48 * σ 42 x1) = x1) ∨ ∃ i, 0 < i ∧ i < σ 46 (σ 42 x1) ∧ σ 47 (48 * σ 42 x1 + i) = x1 ∧ z = σ 47 (48 * σ 42 x1 + (i - 1)))
def VC_X5_before_0 (M : Nat) (post : Int → Mem → Prop) (x1 : Int) (σ : Mem) : Prop :=
 (pre_X5_whereIs M x1 σ) ∧ ∀ (z3 : Int) (s2 : Mem), post_X5_whereIs M x1 σ z3 s2 → (inR z3) ∧ ((¬ z3 = 0 → (0 ≤ x1 ∧ x1 < 48) ∧ (0 ≤ (((48 * (s2 42 x1)) + z3) - 1) ∧ (((48 * (s2 42 x1)) + z3) - 1) < 240) ∧ post (s2 47 (((48 * (s2 42 x1)) + z3) - 1)) s2) ∧ (z3 = 0 → post (-1) s2))
set_option maxRecDepth 20000 in
set_option maxHeartbeats 4000000 in
theorem seg_X5_before_0 {G : GG} {X : XX} {post : Int → Mem → Prop} (C : CX G X cX5_before RX5 3 (some .int) 1)   (x1 : Int) (σ : Mem) (vc : VC_X5_before_0 (gM G)  post  x1 σ) : RW G X 3 (QI G X post) 0 [(0, pR 37), (1, pI x1)] [] σ := by
  unfold VC_X5_before_0 at vc
  refine w_aload_n C 0 dX5_before_0 rfl ?_
  refine w_iload_n C 1 dX5_before_1 rfl ?_
  obtain ⟨sc1, vc⟩ := vc
  refine w_callVI C [pI x1] [] rfl dX5_before_2 (c_X5_whereIs C.gi (xL X) x1 σ sc1) oc_37 mw_X5_whereIs ml_X5_93 im_X5_whereIs se_X5_whereIs (by decide) (Nat.le_of_ble_eq_true rfl) (fun z3 s2 hs2 => ?_)
  have vc := vc z3 s2 hs2
  refine w_istore_n C [(2, pI z3), (0, pR 37), (1, pI x1)] dX5_before_5 (by decide) rfl ?_
  refine w_iload_n C 0 dX5_before_6 rfl ?_
  obtain ⟨sc4, vc⟩ := vc
  refine w_if_ne C 14 dX5_before_7 (by decide) sc4 (fun h5 => ?_) (fun h5 => ?_)
  · have vc := vc.1 h5
    refine w_aload_n C 1 dX5_before_14 rfl ?_
    refine w_getR C dX5_before_15 gf_X5_38 ob_37 rfl ?_
    refine w_bipush C dX5_before_18 (by decide) ?_
    refine w_aload_n C 1 dX5_before_20 rfl ?_
    refine w_getR C dX5_before_21 gf_X5_22 ob_37 rfl ?_
    refine w_iload_n C 2 dX5_before_24 rfl ?_
    obtain ⟨⟨sc6, sc7⟩, vc⟩ := vc
    refine w_iald C dX5_before_25 ia_42 sc6 sc7 ?_
    refine w_imul C dX5_before_26 ?_
    refine w_iload_n C 0 dX5_before_27 rfl ?_
    refine w_iadd C dX5_before_28 ?_
    refine w_iconst C dX5_before_29 ?_
    refine w_isub C dX5_before_30 ?_
    obtain ⟨⟨sc8, sc9⟩, vc⟩ := vc
    refine w_iald C dX5_before_31 ia_47 sc8 sc9 ?_
    exact w_ireturn C dX5_before_32 vc
  · have vc := vc.2 h5
    refine w_iconst C dX5_before_10 ?_
    refine w_goto C 32 dX5_before_11 (by decide) ?_
    exact w_ireturn C dX5_before_32 vc
set_option maxHeartbeats 1000000 in
theorem ok_X5_before_0 {M : Nat} {x1 : Int} {σ : Mem} (h : pre_X5_before M x1 σ) : VC_X5_before_0 M (post_X5_before M x1 σ) x1 σ := by
  refine ⟨h, fun z s hp => ?_⟩
  obtain ⟨e, z0, z1, z2⟩ := hp
  obtain ⟨hn, x0, x48, -⟩ := h
  have hk := (hn.2.2.2.2.1 x1 x0 x48).1
  have hz := hn.2.2.2.1 _ hk.1 hk.2
  have hM := hn.1
  subst e
  refine ⟨⟨by omega, by omega⟩, fun g => ⟨⟨x0, x48⟩, ⟨by omega, by omega⟩, rfl, Or.inr ⟨z, by omega, z1, z2, ?_⟩⟩, fun g => ⟨rfl, Or.inl ⟨rfl, by omega, ?_⟩⟩⟩
  · congr 1
    omega
  · subst g
    rw [Int.add_zero] at z2
    exact z2
theorem c_X5_before {G : GG} (hG : GI G) (l : Launch) (x1 : Int) (σ : Mem) (h : pre_X5_before (gM G) x1 σ) : CtI G l yX5_before cX5_before 3 (some .int) 1 [pR 37, pI x1] σ (post_X5_before (gM G) x1 σ) := by
  refine CtI.of hG (by decide) (Nat.le_of_ble_eq_true rfl) (fun X hl C => ?_)
  show RW G X 3 (QI G X _) 0 [(0, pR 37), (1, pI x1)] [] σ
  exact seg_X5_before_0 C x1 σ (ok_X5_before_0 h)

/-! X5_changeOf -/
def f_X5_changeOf (x1 x2 : Int) (σ : Mem) : Int := σ 45 (64 * σ 42 x1 + 8 * (x1 / 6) + x2 / 6)
def pre_X5_changeOf (M : Nat) (x1 x2 : Int) (σ : Mem) : Prop := NB M σ ∧ 0 ≤ x1 ∧ x1 < 48 ∧ 0 ≤ x2 ∧ x2 < 48
theorem chg_r {M : Nat} {a σ : Mem} (h : WF M a) (r : RM M a σ) {s s' : Int} (hs : VS a s) (hs' : VS a s') : f_X5_changeOf (pl s) (pl s') σ = a 11 ((a 6 s * 8 + s / 10) * 8 + s' / 10) ∧ pre_X5_changeOf M (pl s) (pl s') σ ∧ (0 ≤ a 11 ((a 6 s * 8 + s / 10) * 8 + s' / 10) ∧ a 11 ((a 6 s * 8 + s / 10) * 8 + s' / 10) ≤ 50) := by
  have hp := pl_in h.1.1 hs
  have hp' := pl_in h.1.1 hs'
  have hb := VS_in h.1.1 hs
  have hb' := VS_in h.1.1 hs'
  have hat := at_pl h r hs
  obtain ⟨hm, -⟩ := sz_in h hs
  refine ⟨?_, ⟨RM_NB h r, hp.1, hp.2.1, hp'.1, hp'.2.1⟩, h.1.2.2.2.2.1 _ (by omega) (by omega)⟩
  unfold f_X5_changeOf
  rw [hat.1, hp.2.2.2.1, hp'.2.2.2.1, show 64 * a 6 s + 8 * (s / 10) + s' / 10 = (a 6 s * 8 + s / 10) * 8 + s' / 10 by omega]
  exact r.2.2.2.2.1 _ (by omega) (by omega)
def VC_X5_changeOf_0 (M : Nat) (post : Int → Mem → Prop) (x1 : Int) (x2 : Int) (σ : Mem) : Prop :=
 (0 ≤ x1 ∧ x1 < 48) ∧ (0 ≤ x1 ∧ inR x1) ∧ (0 ≤ x2 ∧ inR x2) ∧ (0 ≤ (((64 * (σ 42 x1)) + (8 * (x1 / 6))) + (x2 / 6)) ∧ (((64 * (σ 42 x1)) + (8 * (x1 / 6))) + (x2 / 6)) < 320) ∧ post (σ 45 (((64 * (σ 42 x1)) + (8 * (x1 / 6))) + (x2 / 6))) σ
set_option maxRecDepth 20000 in
set_option maxHeartbeats 4000000 in
theorem seg_X5_changeOf_0 {G : GG} {X : XX} {post : Int → Mem → Prop} (C : CX G X cX5_changeOf RX5 3 (some .int) 0)   (x1 : Int) (x2 : Int) (σ : Mem) (vc : VC_X5_changeOf_0 (gM G)  post  x1 x2 σ) : RW G X 3 (QI G X post) 0 [(0, pR 37), (1, pI x1), (2, pI x2)] [] σ := by
  unfold VC_X5_changeOf_0 at vc
  refine w_aload_n C 0 dX5_changeOf_0 rfl ?_
  refine w_getR C dX5_changeOf_1 gf_X5_32 ob_37 rfl ?_
  refine w_bipush C dX5_changeOf_4 (by decide) ?_
  refine w_aload_n C 0 dX5_changeOf_6 rfl ?_
  refine w_getR C dX5_changeOf_7 gf_X5_22 ob_37 rfl ?_
  refine w_iload_n C 1 dX5_changeOf_10 rfl ?_
  obtain ⟨⟨sc1, sc2⟩, vc⟩ := vc
  refine w_iald C dX5_changeOf_11 ia_42 sc1 sc2 ?_
  refine w_imul C dX5_changeOf_12 ?_
  refine w_bipush C dX5_changeOf_13 (by decide) ?_
  refine w_iload_n C 1 dX5_changeOf_15 rfl ?_
  refine w_bipush C dX5_changeOf_16 (by decide) ?_
  obtain ⟨⟨sc3, sc4⟩, vc⟩ := vc
  refine w_idivN C dX5_changeOf_18 sc3 sc4 ⟨by omega, by omega⟩ (by omega) ?_
  refine w_imul C dX5_changeOf_19 ?_
  refine w_iadd C dX5_changeOf_20 ?_
  refine w_iload_n C 2 dX5_changeOf_21 rfl ?_
  refine w_bipush C dX5_changeOf_22 (by decide) ?_
  obtain ⟨⟨sc5, sc6⟩, vc⟩ := vc
  refine w_idivN C dX5_changeOf_24 sc5 sc6 ⟨by omega, by omega⟩ (by omega) ?_
  refine w_iadd C dX5_changeOf_25 ?_
  obtain ⟨⟨sc7, sc8⟩, vc⟩ := vc
  refine w_iald C dX5_changeOf_26 ia_45 sc7 sc8 ?_
  exact w_ireturn C dX5_changeOf_27 vc
set_option maxHeartbeats 1000000 in
theorem ok_X5_changeOf_0 {M : Nat} {x1 : Int} {x2 : Int} {σ : Mem} (h : pre_X5_changeOf M x1 x2 σ) : VC_X5_changeOf_0 M (fun z σ' => z = f_X5_changeOf x1 x2 σ ∧ σ' = σ) x1 x2 σ := by
  obtain ⟨hn, a1, a2, a3, a4⟩ := h
  have hk := (hn.2.2.2.2.1 x1 a1 a2).1
  have hM := hn.1
  exact ⟨⟨a1, a2⟩, ⟨a1, by omega, by omega⟩, ⟨a3, by omega, by omega⟩, ⟨by omega, by omega⟩, rfl, rfl⟩
theorem c_X5_changeOf {G : GG} (hG : GI G) (l : Launch) (x1 : Int) (x2 : Int) (σ : Mem) (h : pre_X5_changeOf (gM G) x1 x2 σ) : CtI G l yX5_changeOf cX5_changeOf 3 (some .int) 0 [pR 37, pI x1, pI x2] σ (fun z σ' => z = f_X5_changeOf x1 x2 σ ∧ σ' = σ) := by
  refine CtI.of hG (by decide) (Nat.le_of_ble_eq_true rfl) (fun X hl C => ?_)
  show RW G X 3 (QI G X _) 0 [(0, pR 37), (1, pI x1), (2, pI x2)] [] σ
  exact seg_X5_changeOf_0 C x1 x2 σ (ok_X5_changeOf_0 h)

/-! X5_ahead -/
def jbR (x1 : Int) (σ : Mem) : Int := if x1 % 6 + 1 < σ 41 (x1 / 6) then σ 52 (x1 + 1) else 0
def orR (x1 z : Int) (σ : Mem) : Int := if z + 1 < σ 46 (σ 42 x1) then f_X5_changeOf x1 (σ 47 (48 * σ 42 x1 + (z + 1))) σ + σ 52 (σ 47 (48 * σ 42 x1 + (z + 1))) else 0
def pre_X5_ahead (M : Nat) (x1 : Int) (σ : Mem) : Prop := pre_X5_whereIs M x1 σ ∧ (0 ≤ jbR x1 σ ∧ jbR x1 σ ≤ 10000) ∧ (x1 % 6 + 1 < σ 41 (x1 / 6) → x1 + 1 < 48) ∧ (∀ z, 0 ≤ z → z < σ 46 (σ 42 x1) → σ 47 (48 * σ 42 x1 + z) = x1 → 0 ≤ orR x1 z σ ∧ orR x1 z σ ≤ 10000)
def post_X5_ahead (M : Nat) (x1 : Int) (σ σ' : Mem) : Prop := ∃ z, 0 ≤ z ∧ z < σ 46 (σ 42 x1) ∧ σ 47 (48 * σ 42 x1 + z) = x1 ∧ σ' = up σ 52 x1 (σ 43 x1 + max (jbR x1 σ) (orR x1 z σ))
def VC_X5_ahead_0 (M : Nat) (post : Mem → Prop) (x1 : Int) (σ : Mem) : Prop :=
 (0 ≤ x1 ∧ inR x1) ∧ ∀ v3 : Int, v3 = x1 / 6 → (0 ≤ x1 ∧ x1 < 48) ∧ ∀ v6 : Int, v6 = σ 42 x1 → (0 ≤ x1 ∧ inR x1) ∧ (0 ≤ v3 ∧ v3 < 8) ∧ (inR ((x1 % 6) + 1) ∧ inR (σ 41 v3)) ∧ (((σ 41 v3) ≤ ((x1 % 6) + 1) → True) ∧ (((x1 % 6) + 1) < (σ 41 v3) → (0 ≤ (x1 + 1) ∧ (x1 + 1) < 48) ∧ True) ∧ ∀ j17 : Int, ((σ 41 v3) ≤ ((x1 % 6) + 1) → j17 = 0) → (((x1 % 6) + 1) < (σ 41 v3) → j17 = σ 52 (x1 + 1)) → (pre_X5_whereIs M x1 σ) ∧ ∀ (z22 : Int) (s21 : Mem), post_X5_whereIs M x1 σ z22 s21 → (0 ≤ v6 ∧ v6 < 5) ∧ (inR (z22 + 1) ∧ inR (s21 46 v6)) ∧ (((s21 46 v6) ≤ (z22 + 1) → (0 ≤ x1 ∧ x1 < 48) ∧ (0 ≤ x1 ∧ x1 < 48) ∧ ∀ s32 : Mem, s32 = up s21 52 x1 ((s21 43 x1) + j17) → post s32) ∧ ((z22 + 1) < (s21 46 v6) → (0 ≤ (((48 * v6) + z22) + 1) ∧ (((48 * v6) + z22) + 1) < 240) ∧ ∀ v35 : Int, v35 = s21 47 (((48 * v6) + z22) + 1) → (pre_X5_changeOf M x1 v35 s21) ∧ (0 ≤ v35 ∧ v35 < 48) ∧ ∀ v39 : Int, v39 = (f_X5_changeOf x1 v35 s21) + (s21 52 v35) → (inR v39 ∧ inR j17) ∧ ((v39 ≤ j17 → True) ∧ (j17 < v39 → True) ∧ ∀ j44 : Int, (v39 ≤ j17 → j44 = j17) → (j17 < v39 → j44 = v39) → (0 ≤ x1 ∧ x1 < 48) ∧ (0 ≤ x1 ∧ x1 < 48) ∧ ∀ s51 : Mem, s51 = up s21 52 x1 ((s21 43 x1) + j44) → post s51))))
set_option maxRecDepth 20000 in
set_option maxHeartbeats 4000000 in
theorem seg_X5_ahead_0 {G : GG} {X : XX} {post : Mem → Prop} (C : CX G X cX5_ahead RX5 8 none 1)   (x1 : Int) (σ : Mem) (vc : VC_X5_ahead_0 (gM G)  post  x1 σ) : RW G X 8 (QV G X post) 0 [(0, pR 37), (1, pI x1)] [] σ := by
  unfold VC_X5_ahead_0 at vc
  refine w_iload_n C 1 dX5_ahead_0 rfl ?_
  refine w_bipush C dX5_ahead_1 (by decide) ?_
  obtain ⟨⟨sc1, sc2⟩, vc⟩ := vc
  refine w_idivN C dX5_ahead_3 sc1 sc2 ⟨by omega, by omega⟩ (by omega) ?_
  refine w_top (fun v3 hv3 => ?_)
  have vc := vc v3 hv3
  refine w_istore_n C [(2, pI v3), (0, pR 37), (1, pI x1)] dX5_ahead_4 (by decide) rfl ?_
  refine w_aload_n C 1 dX5_ahead_5 rfl ?_
  refine w_getR C dX5_ahead_6 gf_X5_22 ob_37 rfl ?_
  refine w_iload_n C 2 dX5_ahead_9 rfl ?_
  obtain ⟨⟨sc4, sc5⟩, vc⟩ := vc
  refine w_iald C dX5_ahead_10 ia_42 sc4 sc5 ?_
  refine w_top (fun v6 hv6 => ?_)
  have vc := vc v6 hv6
  refine w_istore_n C [(3, pI v6), (2, pI v3), (0, pR 37), (1, pI x1)] dX5_ahead_11 (by decide) rfl ?_
  refine w_iload_n C 3 dX5_ahead_12 rfl ?_
  refine w_bipush C dX5_ahead_13 (by decide) ?_
  obtain ⟨⟨sc7, sc8⟩, vc⟩ := vc
  refine w_iremN C dX5_ahead_15 sc7 sc8 ⟨by omega, by omega⟩ (by omega) ?_
  refine w_iconst C dX5_ahead_16 ?_
  refine w_iadd C dX5_ahead_17 ?_
  refine w_aload_n C 2 dX5_ahead_18 rfl ?_
  refine w_getR C dX5_ahead_19 gf_X5_19 ob_37 rfl ?_
  refine w_iload_n C 1 dX5_ahead_22 rfl ?_
  obtain ⟨⟨sc9, sc10⟩, vc⟩ := vc
  refine w_iald C dX5_ahead_23 ia_41 sc9 sc10 ?_
  obtain ⟨⟨sc11, sc12⟩, vc⟩ := vc
  have key14 : ∀ j17 : Int, ((σ 41 v3) ≤ ((x1 % 6) + 1) → j17 = 0) → (((x1 % 6) + 1) < (σ 41 v3) → j17 = σ 52 (x1 + 1)) → RW G X 8 (QV G X post) 39 [(3, pI v6), (2, pI v3), (0, pR 37), (1, pI x1)] [pI j17] σ := by
    intro j17 hj18 hj19
    have vc := vc.2.2 j17 hj18 hj19
    refine w_istore C [(4, pI j17), (3, pI v6), (2, pI v3), (0, pR 37), (1, pI x1)] dX5_ahead_39 (by decide) rfl ?_
    refine w_aload_n C 3 dX5_ahead_41 rfl ?_
    refine w_iload_n C 4 dX5_ahead_42 rfl ?_
    obtain ⟨sc20, vc⟩ := vc
    refine w_callVI C [pI x1] [] rfl dX5_ahead_43 (c_X5_whereIs C.gi (xL X) x1 σ sc20) oc_37 mw_X5_whereIs ml_X5_93 im_X5_whereIs se_X5_whereIs (by decide) (Nat.le_of_ble_eq_true rfl) (fun z22 s21 hs21 => ?_)
    have vc := vc z22 s21 hs21
    refine w_istore C [(5, pI z22), (4, pI j17), (3, pI v6), (2, pI v3), (0, pR 37), (1, pI x1)] dX5_ahead_46 (by decide) rfl ?_
    refine w_iload C 0 dX5_ahead_48 rfl ?_
    refine w_iconst C dX5_ahead_50 ?_
    refine w_iadd C dX5_ahead_51 ?_
    refine w_aload_n C 4 dX5_ahead_52 rfl ?_
    refine w_getR C dX5_ahead_53 gf_X5_35 ob_37 rfl ?_
    refine w_iload_n C 2 dX5_ahead_56 rfl ?_
    obtain ⟨⟨sc23, sc24⟩, vc⟩ := vc
    refine w_iald C dX5_ahead_57 ia_46 sc23 sc24 ?_
    obtain ⟨⟨sc25, sc26⟩, vc⟩ := vc
    refine w_icmp_ge C 110 dX5_ahead_58 (by decide) sc25 sc26 (fun h27 => ?_) (fun h27 => ?_)
    · have vc := vc.1 h27
      refine w_aload_n C 4 dX5_ahead_110 rfl ?_
      refine w_getR C dX5_ahead_111 gf_X5_53 ob_37 rfl ?_
      refine w_iload_n C 5 dX5_ahead_114 rfl ?_
      refine w_aload_n C 4 dX5_ahead_115 rfl ?_
      refine w_getR C dX5_ahead_116 gf_X5_25 ob_37 rfl ?_
      refine w_iload_n C 5 dX5_ahead_119 rfl ?_
      obtain ⟨⟨sc28, sc29⟩, vc⟩ := vc
      refine w_iald C dX5_ahead_120 ia_43 sc28 sc29 ?_
      refine w_iload C 1 dX5_ahead_121 rfl ?_
      refine w_iadd C dX5_ahead_123 ?_
      obtain ⟨⟨sc30, sc31⟩, vc⟩ := vc
      refine w_iast C dX5_ahead_124 ia_52 sc30 sc31 ?_
      refine w_mem (fun s32 hs32 => ?_)
      have vc := vc s32 hs32
      exact w_vreturn C dX5_ahead_125 vc
    · have vc := vc.2 h27
      refine w_aload_n C 4 dX5_ahead_61 rfl ?_
      refine w_getR C dX5_ahead_62 gf_X5_38 ob_37 rfl ?_
      refine w_bipush C dX5_ahead_65 (by decide) ?_
      refine w_iload_n C 2 dX5_ahead_67 rfl ?_
      refine w_imul C dX5_ahead_68 ?_
      refine w_iload C 0 dX5_ahead_69 rfl ?_
      refine w_iadd C dX5_ahead_71 ?_
      refine w_iconst C dX5_ahead_72 ?_
      refine w_iadd C dX5_ahead_73 ?_
      obtain ⟨⟨sc33, sc34⟩, vc⟩ := vc
      refine w_iald C dX5_ahead_74 ia_47 sc33 sc34 ?_
      refine w_top (fun v35 hv35 => ?_)
      have vc := vc v35 hv35
      refine w_istore C [(6, pI v35), (5, pI z22), (4, pI j17), (3, pI v6), (2, pI v3), (0, pR 37), (1, pI x1)] dX5_ahead_75 (by decide) rfl ?_
      refine w_aload_n C 5 dX5_ahead_77 rfl ?_
      refine w_iload_n C 6 dX5_ahead_78 rfl ?_
      refine w_iload C 0 dX5_ahead_79 rfl ?_
      obtain ⟨sc36, vc⟩ := vc
      refine w_callVI C [pI x1, pI v35] [] rfl dX5_ahead_81 (c_X5_changeOf C.gi (xL X) x1 v35 s21 sc36) oc_37 mw_X5_changeOf ml_X5_122 im_X5_changeOf se_X5_changeOf (by decide) (Nat.le_of_ble_eq_true rfl) (fun z σ' hz => ?_)
      obtain ⟨rfl, hz2⟩ := hz
      have hz2 := hz2.symm
      subst hz2
      refine w_aload_n C 5 dX5_ahead_84 rfl ?_
      refine w_getR C dX5_ahead_85 gf_X5_53 ob_37 rfl ?_
      refine w_iload C 0 dX5_ahead_88 rfl ?_
      obtain ⟨⟨sc37, sc38⟩, vc⟩ := vc
      refine w_iald C dX5_ahead_90 ia_52 sc37 sc38 ?_
      refine w_iadd C dX5_ahead_91 ?_
      refine w_top (fun v39 hv39 => ?_)
      have vc := vc v39 hv39
      refine w_istore C [(7, pI v39), (6, pI v35), (5, pI z22), (4, pI j17), (3, pI v6), (2, pI v3), (0, pR 37), (1, pI x1)] dX5_ahead_92 (by decide) rfl ?_
      refine w_iload C 0 dX5_ahead_94 rfl ?_
      refine w_iload C 3 dX5_ahead_96 rfl ?_
      obtain ⟨⟨sc40, sc41⟩, vc⟩ := vc
      have key43 : ∀ j44 : Int, (v39 ≤ j17 → j44 = j17) → (j17 < v39 → j44 = v39) → RW G X 8 (QV G X post) 108 [(7, pI v39), (6, pI v35), (5, pI z22), (4, pI j17), (3, pI v6), (2, pI v3), (0, pR 37), (1, pI x1)] [pI j44] s21 := by
        intro j44 hj45 hj46
        have vc := vc.2.2 j44 hj45 hj46
        refine w_istore C [(4, pI j44), (7, pI v39), (6, pI v35), (5, pI z22), (3, pI v6), (2, pI v3), (0, pR 37), (1, pI x1)] dX5_ahead_108 (by decide) rfl ?_
        refine w_aload_n C 6 dX5_ahead_110 rfl ?_
        refine w_getR C dX5_ahead_111 gf_X5_53 ob_37 rfl ?_
        refine w_iload_n C 7 dX5_ahead_114 rfl ?_
        refine w_aload_n C 6 dX5_ahead_115 rfl ?_
        refine w_getR C dX5_ahead_116 gf_X5_25 ob_37 rfl ?_
        refine w_iload_n C 7 dX5_ahead_119 rfl ?_
        obtain ⟨⟨sc47, sc48⟩, vc⟩ := vc
        refine w_iald C dX5_ahead_120 ia_43 sc47 sc48 ?_
        refine w_iload C 0 dX5_ahead_121 rfl ?_
        refine w_iadd C dX5_ahead_123 ?_
        obtain ⟨⟨sc49, sc50⟩, vc⟩ := vc
        refine w_iast C dX5_ahead_124 ia_52 sc49 sc50 ?_
        refine w_mem (fun s51 hs51 => ?_)
        have vc := vc s51 hs51
        exact w_vreturn C dX5_ahead_125 vc
      refine w_icmp_le C 106 dX5_ahead_98 (by decide) sc40 sc41 (fun h42 => ?_) (fun h42 => ?_)
      · have vc := vc.1 h42
        refine w_iload C 3 dX5_ahead_106 rfl ?_
        exact key43 _ (by intros; first | rfl | omega | (exfalso; omega) | contradiction) (by intros; first | rfl | omega | (exfalso; omega) | contradiction)
      · have vc := vc.2.1 h42
        refine w_iload C 0 dX5_ahead_101 rfl ?_
        refine w_goto C 108 dX5_ahead_103 (by decide) ?_
        exact key43 _ (by intros; first | rfl | omega | (exfalso; omega) | contradiction) (by intros; first | rfl | omega | (exfalso; omega) | contradiction)
  refine w_icmp_ge C 38 dX5_ahead_24 (by decide) sc11 sc12 (fun h13 => ?_) (fun h13 => ?_)
  · have vc := vc.1 h13
    refine w_iconst C dX5_ahead_38 ?_
    exact key14 _ (by intros; first | rfl | omega | (exfalso; omega) | contradiction) (by intros; first | rfl | omega | (exfalso; omega) | contradiction)
  · have vc := vc.2.1 h13
    refine w_aload_n C 2 dX5_ahead_27 rfl ?_
    refine w_getR C dX5_ahead_28 gf_X5_53 ob_37 rfl ?_
    refine w_iload_n C 3 dX5_ahead_31 rfl ?_
    refine w_iconst C dX5_ahead_32 ?_
    refine w_iadd C dX5_ahead_33 ?_
    obtain ⟨⟨sc15, sc16⟩, vc⟩ := vc
    refine w_iald C dX5_ahead_34 ia_52 sc15 sc16 ?_
    refine w_goto C 39 dX5_ahead_35 (by decide) ?_
    exact key14 _ (by intros; first | rfl | omega | (exfalso; omega) | contradiction) (by intros; first | rfl | omega | (exfalso; omega) | contradiction)
set_option maxHeartbeats 1000000 in
theorem ok_X5_ahead_0 {M : Nat} {x1 : Int} {σ : Mem} (h : pre_X5_ahead M x1 σ) : VC_X5_ahead_0 M (post_X5_ahead M x1 σ) x1 σ := by
  obtain ⟨hw, hj, hj2, ho⟩ := h
  obtain ⟨hn, x0, x48, -⟩ := id hw
  have hk := (hn.2.2.2.2.1 x1 x0 x48).1
  have hz := hn.2.2.2.1 _ hk.1 hk.2
  have hM := hn.1
  have h41 := hn.2.2.1 (x1 / 6) (by omega) (by omega)
  refine ⟨⟨x0, by omega, by omega⟩, fun v3 e3 => ⟨⟨x0, x48⟩, fun v6 e6 => ?_⟩⟩
  subst e3
  subst e6
  refine ⟨⟨x0, by omega, by omega⟩, ⟨by omega, by omega⟩, ⟨⟨by omega, by omega⟩, ⟨by omega, by omega⟩⟩, fun _ => trivial, fun q => ⟨⟨by omega, hj2 q⟩, trivial⟩, fun j17 e1 e2 => ⟨hw, fun z s21 h21 => ?_⟩⟩
  have ej : j17 = jbR x1 σ := by
    unfold jbR
    by_cases q : x1 % 6 + 1 < σ 41 (x1 / 6)
    · rw [if_pos q, e2 q]
    · rw [if_neg q, e1 (by omega)]
  obtain ⟨e21, z0, z1, z2⟩ := h21
  have hoz := ho z z0 z1 z2
  subst e21
  refine ⟨⟨hk.1, by omega⟩, ⟨⟨by omega, by omega⟩, ⟨by omega, by omega⟩⟩, fun g => ⟨⟨x0, x48⟩, ⟨x0, x48⟩, fun s32 e32 => ⟨z, z0, z1, z2, ?_⟩⟩, fun g => ⟨⟨by omega, by omega⟩, fun v35 e35 => ?_⟩⟩
  · have eo : orR x1 z s21 = 0 := by unfold orR; rw [if_neg (by omega)]
    rw [e32, ej, eo, show max (jbR x1 s21) 0 = jbR x1 s21 by omega]
  · rw [show 48 * s21 42 x1 + z + 1 = 48 * s21 42 x1 + (z + 1) by omega] at e35
    have hnx := hn.2.2.2.2.2 _ (z + 1) hk.1 hk.2 (by omega) g
    have eo : orR x1 z s21 = f_X5_changeOf x1 v35 s21 + s21 52 v35 := by unfold orR; rw [if_pos g, e35]
    refine ⟨⟨hn, x0, x48, by omega, by omega⟩, ⟨by omega, by omega⟩, fun v39 e39 => ⟨⟨⟨by omega, by omega⟩, ⟨by omega, by omega⟩⟩, fun _ => trivial, fun _ => trivial, fun j44 e1 e2 => ⟨⟨x0, x48⟩, ⟨x0, x48⟩, fun s51 e51 => ⟨z, z0, z1, z2, ?_⟩⟩⟩⟩
    have : j44 = max (jbR x1 s21) (orR x1 z s21) := by
      by_cases q : v39 ≤ j17
      · rw [e1 q]; omega
      · rw [e2 (by omega)]; omega
    rw [e51, this]
theorem c_X5_ahead {G : GG} (hG : GI G) (l : Launch) (x1 : Int) (σ : Mem) (h : pre_X5_ahead (gM G) x1 σ) : CtV G l yX5_ahead cX5_ahead 8 none 1 [pR 37, pI x1] σ (post_X5_ahead (gM G) x1 σ) := by
  refine CtV.of hG (by decide) (Nat.le_of_ble_eq_true rfl) (fun X hl C => ?_)
  show RW G X 8 (QV G X _) 0 [(0, pR 37), (1, pI x1)] [] σ
  exact seg_X5_ahead_0 C x1 σ (ok_X5_ahead_0 h)

/-! X5_slack -/
def f_X5_slack (x1 : Int) (σ : Mem) : Int := σ 37 16 - σ 51 x1 - σ 52 x1
def pre_X5_slack (M : Nat) (x1 : Int) (σ : Mem) : Prop := 0 ≤ x1 ∧ x1 < 48
def VC_X5_slack_0 (M : Nat) (post : Int → Mem → Prop) (x1 : Int) (σ : Mem) : Prop :=
 (0 ≤ x1 ∧ x1 < 48) ∧ (0 ≤ x1 ∧ x1 < 48) ∧ post (((σ 37 16) - (σ 51 x1)) - (σ 52 x1)) σ
set_option maxRecDepth 20000 in
set_option maxHeartbeats 4000000 in
theorem seg_X5_slack_0 {G : GG} {X : XX} {post : Int → Mem → Prop} (C : CX G X cX5_slack RX5 2 (some .int) 0)   (x1 : Int) (σ : Mem) (vc : VC_X5_slack_0 (gM G)  post  x1 σ) : RW G X 2 (QI G X post) 0 [(0, pR 37), (1, pI x1)] [] σ := by
  unfold VC_X5_slack_0 at vc
  refine w_aload_n C 0 dX5_slack_0 rfl ?_
  refine w_getI C 16 dX5_slack_1 gf_X5_116 ob_37 rfl rfl ?_
  refine w_aload_n C 0 dX5_slack_4 rfl ?_
  refine w_getR C dX5_slack_5 gf_X5_50 ob_37 rfl ?_
  refine w_iload_n C 1 dX5_slack_8 rfl ?_
  obtain ⟨⟨sc1, sc2⟩, vc⟩ := vc
  refine w_iald C dX5_slack_9 ia_51 sc1 sc2 ?_
  refine w_isub C dX5_slack_10 ?_
  refine w_aload_n C 0 dX5_slack_11 rfl ?_
  refine w_getR C dX5_slack_12 gf_X5_53 ob_37 rfl ?_
  refine w_iload_n C 1 dX5_slack_15 rfl ?_
  obtain ⟨⟨sc3, sc4⟩, vc⟩ := vc
  refine w_iald C dX5_slack_16 ia_52 sc3 sc4 ?_
  refine w_isub C dX5_slack_17 ?_
  exact w_ireturn C dX5_slack_18 vc
set_option maxHeartbeats 1000000 in
theorem ok_X5_slack_0 {M : Nat} {x1 : Int} {σ : Mem} (h : pre_X5_slack M x1 σ) : VC_X5_slack_0 M (fun z σ' => z = f_X5_slack x1 σ ∧ σ' = σ) x1 σ := by
  exact ⟨h, h, rfl, rfl⟩
theorem c_X5_slack {G : GG} (hG : GI G) (l : Launch) (x1 : Int) (σ : Mem) (h : pre_X5_slack (gM G) x1 σ) : CtI G l yX5_slack cX5_slack 2 (some .int) 0 [pR 37, pI x1] σ (fun z σ' => z = f_X5_slack x1 σ ∧ σ' = σ) := by
  refine CtI.of hG (by decide) (Nat.le_of_ble_eq_true rfl) (fun X hl C => ?_)
  show RW G X 2 (QI G X _) 0 [(0, pR 37), (1, pI x1)] [] σ
  exact seg_X5_slack_0 C x1 σ (ok_X5_slack_0 h)
