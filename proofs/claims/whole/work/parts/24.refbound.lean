/-! the reference's bounds: its table of earliest ends -/
def TF (n : Int) (h t q : Int → Int) (L T v : Int) : Prop := (v = -1 ∧ ∀ l, sqW n l → sqOk h t q L l → sqS l ≠ T) ∨ ((0 ≤ v ∧ v ≤ 10000) ∧ (∃ l, sqW n l ∧ sqOk h t q L l ∧ sqS l = T ∧ sqE h t l = v) ∧ ∀ l, sqW n l → sqOk h t q L l → sqS l = T → v ≤ sqE h t l)
def TG (n : Int) (h t q : Int → Int) (L T k v : Int) : Prop := (v = -1 ∧ ∀ i ks, sqW n (i :: ks) → sqOk h t q L (i :: ks) → sqS (i :: ks) = T → ¬ i < k) ∨ ((0 ≤ v ∧ v ≤ 10000) ∧ (∃ l, sqW n l ∧ sqOk h t q L l ∧ sqS l = T ∧ sqE h t l = v) ∧ ∀ i ks, sqW n (i :: ks) → sqOk h t q L (i :: ks) → sqS (i :: ks) = T → i < k → v ≤ sqE h t (i :: ks))
theorem sqS_pos {n : Int} (n0 : 0 ≤ n) (n1 : n ≤ 8) {i : Int} {ks : List Int} (w : sqW n (i :: ks)) : 1 ≤ sqS (i :: ks) := by
  have := sqS_in n0 n1 ks w.1
  have := pw_pos w.2.1 (by have := w.2.2.1; omega)
  show 1 ≤ sqS ks + pw i
  omega
theorem TF_in {n : Int} {h t q : Int → Int} {L T v : Int} (x : TF n h t q L T v) : -1 ≤ v ∧ v ≤ 10000 := by
  rcases x with ⟨e, -⟩ | ⟨e, -⟩ <;> omega
theorem TG_in {n : Int} {h t q : Int → Int} {L T k v : Int} (x : TG n h t q L T k v) : -1 ≤ v ∧ v ≤ 10000 := by
  rcases x with ⟨e, -⟩ | ⟨e, -⟩ <;> omega
theorem TF_0 {n : Int} {h t q : Int → Int} {L : Int} (n0 : 0 ≤ n) (n1 : n ≤ 8) : TF n h t q L 0 0 := by
  refine Or.inr ⟨by omega, ⟨[], trivial, trivial, rfl, rfl⟩, fun l w o e => ?_⟩
  cases l with
  | nil => exact Int.le_refl _
  | cons i ks => have := sqS_pos n0 n1 w; omega
theorem TG_0 {n : Int} {h t q : Int → Int} {L T : Int} : TG n h t q L T 0 (-1) := Or.inl ⟨rfl, fun i ks w _ _ z => by have := w.2.1; omega⟩
theorem TG_F {n : Int} {h t q : Int → Int} {L T v : Int} (hT : T ≠ 0) (x : TG n h t q L T n v) : TF n h t q L T v := by
  rcases x with ⟨e, x⟩ | ⟨e, x, y⟩
  · refine Or.inl ⟨e, fun l w o z => ?_⟩
    cases l with
    | nil => exact hT z.symm
    | cons i ks => exact x i ks w o z w.2.2.1
  · refine Or.inr ⟨e, x, fun l w o z => ?_⟩
    cases l with
    | nil => exact absurd z.symm hT
    | cons i ks => exact y i ks w o z w.2.2.1
/-- nothing new at k -/
theorem TG_skip {n : Int} {h t q : Int → Int} {L T k v : Int} (x : TG n h t q L T k v) (hn : ∀ ks, sqW n (k :: ks) → sqOk h t q L (k :: ks) → sqS (k :: ks) = T → 0 ≤ v ∧ v ≤ sqE h t (k :: ks)) : TG n h t q L T (k + 1) v := by
  rcases x with ⟨e, x⟩ | ⟨e, x, y⟩
  · refine Or.inl ⟨e, fun i ks w o z hi => ?_⟩
    by_cases q : i = k
    · subst q; have := (hn ks w o z).1; omega
    · exact x i ks w o z (by omega)
  · refine Or.inr ⟨e, x, fun i ks w o z hi => ?_⟩
    by_cases q : i = k
    · subst q; exact (hn ks w o z).2
    · exact y i ks w o z (by omega)
theorem TG_no {n : Int} {h t q : Int → Int} {L T k v : Int} (n0 : 0 ≤ n) (n1 : n ≤ 8) (x : TG n h t q L T k v) (hb : ¬ bt T k) : TG n h t q L T (k + 1) v := by
  refine TG_skip x (fun ks w o z => absurd ?_ hb)
  have hs := sqS_in n0 n1 ks w.1
  rw [← z]
  exact bt_add hs.1 w.2.1 (by have := w.2.2.1; omega) w.2.2.2
theorem sq_sub {k T : Int} {ks : List Int} (z : sqS (k :: ks) = T) : sqS ks = T - pw k := by
  have z' : sqS ks + pw k = T := z
  omega
theorem TG_none {n : Int} {h t q : Int → Int} {L T k v u : Int} (x : TG n h t q L T k v) (y : TF n h t q L (T - pw k) u) (hu : u < 0) : TG n h t q L T (k + 1) v := by
  refine TG_skip x (fun ks w o z => ?_)
  rcases y with ⟨e, y⟩ | ⟨e, -⟩
  · exact absurd (sq_sub z) (y ks w.1 o.1)
  · omega
theorem TG_low {n : Int} {h t q : Int → Int} {L T k u : Int} (y : TF n h t q L (T - pw k) u) (hu : 0 ≤ u) {ks : List Int} (w : sqW n (k :: ks)) (o : sqOk h t q L (k :: ks)) (z : sqS (k :: ks) = T) : max u (h k) + t k ≤ sqE h t (k :: ks) := by
  rcases y with ⟨e, y⟩ | ⟨e, -, y⟩
  · omega
  · have := y ks w.1 o.1 (sq_sub z)
    show _ ≤ max (sqE h t ks) (h k) + t k
    omega
theorem TG_late {n : Int} {h t q : Int → Int} {L T k v u : Int} (x : TG n h t q L T k v) (y : TF n h t q L (T - pw k) u) (hu : 0 ≤ u) (hl : L < max u (h k) + t k + q k) : TG n h t q L T (k + 1) v := by
  refine TG_skip x (fun ks w o z => ?_)
  have := TG_low y hu w o z
  have := o.2
  omega
theorem TG_keep {n : Int} {h t q : Int → Int} {L T k v u : Int} (x : TG n h t q L T k v) (y : TF n h t q L (T - pw k) u) (hu : 0 ≤ u) (hv : 0 ≤ v) (hl : v ≤ max u (h k) + t k) : TG n h t q L T (k + 1) v := by
  refine TG_skip x (fun ks w o z => ?_)
  have := TG_low y hu w o z
  omega
theorem TG_take {n : Int} {h t q : Int → Int} {L T k v u e : Int} (k0 : 0 ≤ k) (k1 : k < n) (n1 : n ≤ 8) (T0 : 0 ≤ T) (hb : bt T k) (x : TG n h t q L T k v) (y : TF n h t q L (T - pw k) u) (hu : 0 ≤ u) (he : e = max u (h k) + t k) (hl : e + q k ≤ L) (he2 : 0 ≤ e ∧ e ≤ 10000) (hv : v < 0 ∨ e < v) : TG n h t q L T (k + 1) e := by
  have hl2 : ∀ i ks, sqW n (i :: ks) → sqOk h t q L (i :: ks) → sqS (i :: ks) = T → i < k + 1 → e ≤ sqE h t (i :: ks) := fun i ks w o z hi => by
    by_cases c : i = k
    · subst c
      rw [he]
      exact TG_low y hu w o z
    · rcases x with ⟨x1, x2⟩ | ⟨x1, -, x2⟩
      · exact absurd (by omega) (x2 i ks w o z)
      · have := x2 i ks w o z (by omega)
        omega
  rcases y with ⟨e1, -⟩ | ⟨-, ⟨l, l1, l2, l3, l4⟩, -⟩
  · omega
  · have hs := bt_sub T0 k0 (by omega) hb
    have en : sqE h t (k :: l) = e := by
      show max (sqE h t l) (h k) + t k = e
      rw [l4, he]
    refine Or.inr ⟨he2, ⟨k :: l, ⟨l1, k0, k1, by rw [l3]; exact hs.2⟩, ⟨l2, by rw [en]; exact hl⟩, ?_, en⟩, hl2⟩
    show sqS l + pw k = T
    rw [l3]; omega
theorem TF_Fit {n : Int} {h t q : Int → Int} {L v : Int} (x : TF n h t q L (pw n - 1) v) : (0 ≤ v → Fit n h t q L) ∧ (v < 0 → ¬ Fit n h t q L) := by
  rcases x with ⟨e, x⟩ | ⟨e, ⟨l, l1, l2, l3, -⟩, -⟩
  · exact ⟨fun z => by omega, fun _ ⟨l, l1, l2, l3⟩ => x l l1 l2 l3⟩
  · exact ⟨fun _ => ⟨l, l1, l2, l3⟩, fun z => by omega⟩
theorem Fit_4000 {n : Int} {h t q : Int → Int} (hB : BD n h t q) : Fit n h t q 4000 := by
  obtain ⟨n0, n8, hb⟩ := hB
  have key : ∀ k : Nat, (k : Int) ≤ n → 0 ≤ sqE h t (preL k) ∧ sqE h t (preL k) ≤ 1300 + 50 * k ∧ sqOk h t q 4000 (preL k) := by
    intro k
    induction k with
    | zero => intro _; exact ⟨Int.le_refl _, by show (0 : Int) ≤ _; omega, trivial⟩
    | succ k ih =>
      intro hk
      obtain ⟨i1, i2, i3⟩ := ih (by omega)
      obtain ⟨b1, b2, b3⟩ := hb k (by omega) (by omega)
      have en : sqE h t (preL (k + 1)) = max (sqE h t (preL k)) (h k) + t k := rfl
      refine ⟨by omega, by omega, i3, ?_⟩
      show max (sqE h t (preL k)) (h k) + t k + q k ≤ 4000
      omega
  have pl := preL_ok n8 n.toNat (by omega)
  rw [show ((n.toNat : Nat) : Int) = n by omega] at pl
  exact ⟨preL n.toNat, pl.1, (key n.toNat (by omega)).2.2, pl.2⟩
/-! what the reference has collected -/
def hdR (σ : Mem) (k : Int) : Int := f_X5_headOf (σ 54 k) σ
def tmR (σ : Mem) (k : Int) : Int := σ 43 (σ 54 k)
def qR (σ : Mem) (k : Int) : Int := f_X5_leftOf (σ 54 k) σ - σ 43 (σ 54 k)
def C55 (σ τ : Mem) : Prop := ∀ c : Int, c ≠ 55 → τ c = σ c
theorem C55_r {σ τ : Mem} (h : C55 σ τ) : hdR τ = hdR σ ∧ tmR τ = tmR σ ∧ qR τ = qR σ := by
  refine ⟨?_, ?_, ?_⟩
  · funext k; unfold hdR f_X5_headOf; rw [h 54 (by omega), h 38 (by omega), h 43 (by omega)]
  · funext k; unfold tmR; rw [h 54 (by omega), h 43 (by omega)]
  · funext k; unfold qR f_X5_leftOf; rw [h 54 (by omega), h 41 (by omega), h 43 (by omega)]

/-! X5_fits -/
def pre_X5_fits (M : Nat) (x1 : Int) (σ : Mem) : Prop := BD (σ 37 21) (hdR σ) (tmR σ) (qR σ) ∧ (∀ k, 0 ≤ k → k < σ 37 21 → pre_X5_headOf M (σ 54 k) σ ∧ pre_X5_leftOf M (σ 54 k) σ) ∧ 0 ≤ x1 ∧ x1 ≤ 9000
def post_X5_fits (M : Nat) (x1 : Int) (σ : Mem) (z : Int) (σ' : Mem) : Prop := C55 σ σ' ∧ ((z = 1 ∧ Fit (σ 37 21) (hdR σ) (tmR σ) (qR σ) x1) ∨ (z = 0 ∧ ¬ Fit (σ 37 21) (hdR σ) (tmR σ) (qR σ) x1))
def tbR (x1 : Int) (σ τ : Mem) (S : Int) : Prop := ∀ T, 0 ≤ T → T < S → TF (σ 37 21) (hdR σ) (tmR σ) (qR σ) x1 T (τ 55 T)
def inv_X5_fits_9 (M : Nat) (x1 : Int) (σ : Mem) (w2 : Int) (τ : Mem) : Prop := C55 σ τ ∧ 1 ≤ w2 ∧ w2 ≤ pw (σ 37 21) ∧ tbR x1 σ τ w2
def mu_X5_fits_9 (x1 : Int) (w2 : Int) (τ : Mem) : Nat := ((256 - w2) * 10 + 9).toNat
def inv_X5_fits_28 (M : Nat) (x1 : Int) (σ : Mem) (w2 w3 : Int) (τ : Mem) : Prop := C55 σ τ ∧ 1 ≤ w2 ∧ w2 < pw (σ 37 21) ∧ 0 ≤ w3 ∧ w3 ≤ σ 37 21 ∧ tbR x1 σ τ w2 ∧ TG (σ 37 21) (hdR σ) (tmR σ) (qR σ) x1 w2 w3 (τ 55 w2)
def mu_X5_fits_28 (x1 : Int) (w2 w3 : Int) (τ : Mem) : Nat := ((256 - w2) * 10 + 8 - w3).toNat
def VC_X5_fits_0 (M : Nat) (K9 : Int → Mem → Prop) (post : Int → Mem → Prop) (x1 : Int) (σ : Mem) : Prop :=
  ∀ s1 : Mem, s1 = up σ 55 0 0 → K9 1 s1
set_option maxRecDepth 20000 in
set_option maxHeartbeats 4000000 in
theorem seg_X5_fits_0 {G : GG} {X : XX} {post : Int → Mem → Prop} (C : CX G X cX5_fits RX5 8 (some .boolean) 1)   (x1 : Int) (σ : Mem) (vc : VC_X5_fits_0 (gM G) (fun w2 σ => RW G X 8 (QI G X post) 9 [(0, pR 37), (1, pI x1), (2, pI w2)] [] σ) post  x1 σ) : RW G X 8 (QI G X post) 0 [(0, pR 37), (1, pI x1)] [] σ := by
  unfold VC_X5_fits_0 at vc
  refine w_aload_n C 0 dX5_fits_0 rfl ?_
  refine w_getR C dX5_fits_1 gf_X5_62 ob_37 rfl ?_
  refine w_iconst C dX5_fits_4 ?_
  refine w_iconst C dX5_fits_5 ?_
  refine w_iast C dX5_fits_6 ia_55 (by omega) (by omega) ?_
  refine w_mem (fun s1 hs1 => ?_)
  have vc := vc s1 hs1
  refine w_iconst C dX5_fits_7 ?_
  refine w_istore_n C [(2, pI 1), (0, pR 37), (1, pI x1)] dX5_fits_8 (by decide) rfl ?_
  exact w_sub _ [1, 2, 0] rfl vc
def VC_X5_fits_9 (M : Nat) (K28 : Int → Int → Mem → Prop) (post : Int → Mem → Prop) (x1 : Int) (w2 : Int) (σ : Mem) : Prop :=
 (inR w2 ∧ inR (bShl 1 (σ 37 21))) ∧ (((bShl 1 (σ 37 21)) ≤ w2 → (0 ≤ ((bShl 1 (σ 37 21)) - 1) ∧ ((bShl 1 (σ 37 21)) - 1) < 256) ∧ (inR (σ 55 ((bShl 1 (σ 37 21)) - 1))) ∧ (((σ 55 ((bShl 1 (σ 37 21)) - 1)) < 0 → post 0 σ) ∧ (0 ≤ (σ 55 ((bShl 1 (σ 37 21)) - 1)) → post 1 σ))) ∧ (w2 < (bShl 1 (σ 37 21)) → (0 ≤ w2 ∧ w2 < 256) ∧ ∀ s10 : Mem, s10 = up σ 55 w2 (-1) → K28 w2 0 s10))
set_option maxRecDepth 20000 in
set_option maxHeartbeats 4000000 in
theorem seg_X5_fits_9 {G : GG} {X : XX} {post : Int → Mem → Prop} (C : CX G X cX5_fits RX5 8 (some .boolean) 1)   (x1 : Int) (w2 : Int) (σ : Mem) (vc : VC_X5_fits_9 (gM G) (fun w2 w3 σ => RW G X 8 (QI G X post) 28 [(0, pR 37), (1, pI x1), (2, pI w2), (3, pI w3)] [] σ) post  x1 w2 σ) : RW G X 8 (QI G X post) 9 [(0, pR 37), (1, pI x1), (2, pI w2)] [] σ := by
  unfold VC_X5_fits_9 at vc
  refine w_iload_n C 2 dX5_fits_9 rfl ?_
  refine w_iconst C dX5_fits_10 ?_
  refine w_aload_n C 0 dX5_fits_11 rfl ?_
  refine w_getI C 21 dX5_fits_12 gf_X5_144 ob_37 rfl rfl ?_
  refine w_ishl C dX5_fits_15 ?_
  obtain ⟨⟨sc1, sc2⟩, vc⟩ := vc
  refine w_icmp_ge C 172 dX5_fits_16 (by decide) sc1 sc2 (fun h3 => ?_) (fun h3 => ?_)
  · have vc := vc.1 h3
    refine w_aload_n C 0 dX5_fits_172 rfl ?_
    refine w_getR C dX5_fits_173 gf_X5_62 ob_37 rfl ?_
    refine w_iconst C dX5_fits_176 ?_
    refine w_aload_n C 0 dX5_fits_177 rfl ?_
    refine w_getI C 21 dX5_fits_178 gf_X5_144 ob_37 rfl rfl ?_
    refine w_ishl C dX5_fits_181 ?_
    refine w_iconst C dX5_fits_182 ?_
    refine w_isub C dX5_fits_183 ?_
    obtain ⟨⟨sc4, sc5⟩, vc⟩ := vc
    refine w_iald C dX5_fits_184 ia_55 sc4 sc5 ?_
    obtain ⟨sc6, vc⟩ := vc
    refine w_if_lt C 192 dX5_fits_185 (by decide) sc6 (fun h7 => ?_) (fun h7 => ?_)
    · have vc := vc.1 h7
      refine w_iconst C dX5_fits_192 ?_
      exact w_zreturn C dX5_fits_193 (Or.inl rfl) vc
    · have vc := vc.2 h7
      refine w_iconst C dX5_fits_188 ?_
      refine w_goto C 193 dX5_fits_189 (by decide) ?_
      exact w_zreturn C dX5_fits_193 (Or.inr rfl) vc
  · have vc := vc.2 h3
    refine w_aload_n C 0 dX5_fits_19 rfl ?_
    refine w_getR C dX5_fits_20 gf_X5_62 ob_37 rfl ?_
    refine w_iload_n C 2 dX5_fits_23 rfl ?_
    refine w_iconst C dX5_fits_24 ?_
    obtain ⟨⟨sc8, sc9⟩, vc⟩ := vc
    refine w_iast C dX5_fits_25 ia_55 sc8 sc9 ?_
    refine w_mem (fun s10 hs10 => ?_)
    have vc := vc s10 hs10
    refine w_iconst C dX5_fits_26 ?_
    refine w_istore_n C [(3, pI 0), (0, pR 37), (1, pI x1), (2, pI w2)] dX5_fits_27 (by decide) rfl ?_
    exact w_sub _ [1, 2, 3, 0] rfl vc
def VC_X5_fits_28 (M : Nat) (K9 : Int → Mem → Prop) (K28 : Int → Int → Mem → Prop) (post : Int → Mem → Prop) (x1 : Int) (w2 : Int) (w3 : Int) (σ : Mem) : Prop :=
 (inR w3 ∧ inR (σ 37 21)) ∧ (((σ 37 21) ≤ w3 → K9 (w2 + 1) σ) ∧ (w3 < (σ 37 21) → (inR (bAnd (bShr w2 w3) 1)) ∧ ((¬ (bAnd (bShr w2 w3) 1) = 1 → True) ∧ ((bAnd (bShr w2 w3) 1) = 1 → (0 ≤ (bAnd w2 (bXor (bShl 1 w3) (-1))) ∧ (bAnd w2 (bXor (bShl 1 w3) (-1))) < 256) ∧ True) ∧ ∀ j9 : Int, (¬ (bAnd (bShr w2 w3) 1) = 1 → j9 = (-1)) → ((bAnd (bShr w2 w3) 1) = 1 → j9 = σ 55 (bAnd w2 (bXor (bShl 1 w3) (-1)))) → (inR j9) ∧ ((0 ≤ j9 → (0 ≤ w3 ∧ w3 < 48) ∧ ∀ v16 : Int, v16 = σ 54 w3 → (pre_X5_headOf M v16 σ) ∧ ∀ v18 : Int, v18 = f_X5_headOf v16 σ → (inR v18 ∧ inR j9) ∧ ((v18 ≤ j9 → True) ∧ (j9 < v18 → True) ∧ ∀ j23 : Int, (v18 ≤ j9 → j23 = j9) → (j9 < v18 → j23 = v18) → (0 ≤ v16 ∧ v16 < 48) ∧ ∀ v28 : Int, v28 = j23 + (σ 43 v16) → (pre_X5_leftOf M v16 σ) ∧ (0 ≤ v16 ∧ v16 < 48) ∧ (inR v28 ∧ inR ((x1 - (f_X5_leftOf v16 σ)) + (σ 43 v16))) ∧ ((((x1 - (f_X5_leftOf v16 σ)) + (σ 43 v16)) < v28 → K28 w2 (w3 + 1) σ) ∧ (v28 ≤ ((x1 - (f_X5_leftOf v16 σ)) + (σ 43 v16)) → (0 ≤ w2 ∧ w2 < 256) ∧ (inR (σ 55 w2)) ∧ (((σ 55 w2) < 0 → (0 ≤ w2 ∧ w2 < 256) ∧ ∀ s41 : Mem, s41 = up σ 55 w2 v28 → K28 w2 (w3 + 1) s41) ∧ (0 ≤ (σ 55 w2) → (0 ≤ w2 ∧ w2 < 256) ∧ (inR v28 ∧ inR (σ 55 w2)) ∧ (((σ 55 w2) ≤ v28 → K28 w2 (w3 + 1) σ) ∧ (v28 < (σ 55 w2) → (0 ≤ w2 ∧ w2 < 256) ∧ ∀ s49 : Mem, s49 = up σ 55 w2 v28 → K28 w2 (w3 + 1) s49)))))))) ∧ (j9 < 0 → K28 w2 (w3 + 1) σ)))))
set_option maxRecDepth 20000 in
set_option maxHeartbeats 4000000 in
theorem seg_X5_fits_28 {G : GG} {X : XX} {post : Int → Mem → Prop} (C : CX G X cX5_fits RX5 8 (some .boolean) 1)   (x1 : Int) (w2 : Int) (w3 : Int) (σ : Mem) (vc : VC_X5_fits_28 (gM G) (fun w2 σ => RW G X 8 (QI G X post) 9 [(0, pR 37), (1, pI x1), (2, pI w2)] [] σ) (fun w2 w3 σ => RW G X 8 (QI G X post) 28 [(0, pR 37), (1, pI x1), (2, pI w2), (3, pI w3)] [] σ) post  x1 w2 w3 σ) : RW G X 8 (QI G X post) 28 [(0, pR 37), (1, pI x1), (2, pI w2), (3, pI w3)] [] σ := by
  unfold VC_X5_fits_28 at vc
  refine w_iload_n C 3 dX5_fits_28 rfl ?_
  refine w_aload_n C 0 dX5_fits_29 rfl ?_
  refine w_getI C 21 dX5_fits_30 gf_X5_144 ob_37 rfl rfl ?_
  obtain ⟨⟨sc1, sc2⟩, vc⟩ := vc
  refine w_icmp_ge C 166 dX5_fits_33 (by decide) sc1 sc2 (fun h3 => ?_) (fun h3 => ?_)
  · have vc := vc.1 h3
    refine w_iinc C 2 [(2, pI (w2 + 1)), (0, pR 37), (1, pI x1), (3, pI w3)] dX5_fits_166 rfl (by decide) rfl ?_
    refine w_goto C 9 dX5_fits_169 (by decide) ?_
    exact w_sub _ [1, 2, 0] rfl vc
  · have vc := vc.2 h3
    refine w_iload_n C 2 dX5_fits_36 rfl ?_
    refine w_iload_n C 3 dX5_fits_37 rfl ?_
    refine w_ishr C dX5_fits_38 ?_
    refine w_iconst C dX5_fits_39 ?_
    refine w_iand C dX5_fits_40 ?_
    refine w_iconst C dX5_fits_41 ?_
    obtain ⟨sc4, vc⟩ := vc
    have key6 : ∀ j9 : Int, (¬ (bAnd (bShr w2 w3) 1) = 1 → j9 = (-1)) → ((bAnd (bShr w2 w3) 1) = 1 → j9 = σ 55 (bAnd w2 (bXor (bShl 1 w3) (-1)))) → RW G X 8 (QI G X post) 61 [(0, pR 37), (1, pI x1), (2, pI w2), (3, pI w3)] [pI j9] σ := by
      intro j9 hj10 hj11
      have vc := vc.2.2 j9 hj10 hj11
      refine w_istore C [(4, pI j9), (0, pR 37), (1, pI x1), (2, pI w2), (3, pI w3)] dX5_fits_61 (by decide) rfl ?_
      refine w_iload C 0 dX5_fits_63 rfl ?_
      obtain ⟨sc12, vc⟩ := vc
      refine w_if_ge C 71 dX5_fits_65 (by decide) sc12 (fun h13 => ?_) (fun h13 => ?_)
      · have vc := vc.1 h13
        refine w_aload_n C 1 dX5_fits_71 rfl ?_
        refine w_getR C dX5_fits_72 gf_X5_59 ob_37 rfl ?_
        refine w_iload_n C 4 dX5_fits_75 rfl ?_
        obtain ⟨⟨sc14, sc15⟩, vc⟩ := vc
        refine w_iald C dX5_fits_76 ia_54 sc14 sc15 ?_
        refine w_top (fun v16 hv16 => ?_)
        have vc := vc v16 hv16
        refine w_istore C [(5, pI v16), (4, pI j9), (0, pR 37), (1, pI x1), (2, pI w2), (3, pI w3)] dX5_fits_77 (by decide) rfl ?_
        refine w_aload_n C 2 dX5_fits_79 rfl ?_
        refine w_iload C 0 dX5_fits_80 rfl ?_
        obtain ⟨sc17, vc⟩ := vc
        refine w_callVI C [pI v16] [] rfl dX5_fits_82 (c_X5_headOf C.gi (xL X) v16 σ sc17) oc_37 mw_X5_headOf ml_X5_141 im_X5_headOf se_X5_headOf (by decide) (Nat.le_of_ble_eq_true rfl) (fun z σ' hz => ?_)
        obtain ⟨rfl, hz2⟩ := hz
        have hz2 := hz2.symm
        subst hz2
        refine w_top (fun v18 hv18 => ?_)
        have vc := vc v18 hv18
        refine w_istore C [(6, pI v18), (5, pI v16), (4, pI j9), (0, pR 37), (1, pI x1), (2, pI w2), (3, pI w3)] dX5_fits_85 (by decide) rfl ?_
        refine w_iload C 0 dX5_fits_87 rfl ?_
        refine w_iload C 2 dX5_fits_89 rfl ?_
        obtain ⟨⟨sc19, sc20⟩, vc⟩ := vc
        have key22 : ∀ j23 : Int, (v18 ≤ j9 → j23 = j9) → (j9 < v18 → j23 = v18) → RW G X 8 (QI G X post) 101 [(6, pI v18), (5, pI v16), (4, pI j9), (0, pR 37), (1, pI x1), (2, pI w2), (3, pI w3)] [pI j23] σ := by
          intro j23 hj24 hj25
          have vc := vc.2.2 j23 hj24 hj25
          refine w_aload_n C 3 dX5_fits_101 rfl ?_
          refine w_getR C dX5_fits_102 gf_X5_25 ob_37 rfl ?_
          refine w_iload C 1 dX5_fits_105 rfl ?_
          obtain ⟨⟨sc26, sc27⟩, vc⟩ := vc
          refine w_iald C dX5_fits_107 ia_43 sc26 sc27 ?_
          refine w_iadd C dX5_fits_108 ?_
          refine w_top (fun v28 hv28 => ?_)
          have vc := vc v28 hv28
          refine w_istore C [(7, pI v28), (6, pI v18), (5, pI v16), (4, pI j9), (0, pR 37), (1, pI x1), (2, pI w2), (3, pI w3)] dX5_fits_109 (by decide) rfl ?_
          refine w_iload C 0 dX5_fits_111 rfl ?_
          refine w_iload_n C 5 dX5_fits_113 rfl ?_
          refine w_aload_n C 4 dX5_fits_114 rfl ?_
          refine w_iload C 2 dX5_fits_115 rfl ?_
          obtain ⟨sc29, vc⟩ := vc
          refine w_callVI C [pI v16] [pI x1, pI v28] rfl dX5_fits_117 (c_X5_leftOf C.gi (xL X) v16 σ sc29) oc_37 mw_X5_leftOf ml_X5_110 im_X5_leftOf se_X5_leftOf (by decide) (Nat.le_of_ble_eq_true rfl) (fun z σ' hz => ?_)
          obtain ⟨rfl, hz2⟩ := hz
          have hz2 := hz2.symm
          subst hz2
          refine w_isub C dX5_fits_120 ?_
          refine w_aload_n C 4 dX5_fits_121 rfl ?_
          refine w_getR C dX5_fits_122 gf_X5_25 ob_37 rfl ?_
          refine w_iload C 2 dX5_fits_125 rfl ?_
          obtain ⟨⟨sc30, sc31⟩, vc⟩ := vc
          refine w_iald C dX5_fits_127 ia_43 sc30 sc31 ?_
          refine w_iadd C dX5_fits_128 ?_
          obtain ⟨⟨sc32, sc33⟩, vc⟩ := vc
          refine w_icmp_gt C 160 dX5_fits_129 (by decide) sc32 sc33 (fun h34 => ?_) (fun h34 => ?_)
          · have vc := vc.1 h34
            refine w_iinc C 7 [(3, pI (w3 + 1)), (7, pI v28), (6, pI v18), (5, pI v16), (4, pI j9), (0, pR 37), (1, pI x1), (2, pI w2)] dX5_fits_160 rfl (by decide) rfl ?_
            refine w_goto C 28 dX5_fits_163 (by decide) ?_
            exact w_sub _ [5, 6, 7, 0] rfl vc
          · have vc := vc.2 h34
            refine w_aload_n C 4 dX5_fits_132 rfl ?_
            refine w_getR C dX5_fits_133 gf_X5_62 ob_37 rfl ?_
            refine w_iload_n C 6 dX5_fits_136 rfl ?_
            obtain ⟨⟨sc35, sc36⟩, vc⟩ := vc
            refine w_iald C dX5_fits_137 ia_55 sc35 sc36 ?_
            obtain ⟨sc37, vc⟩ := vc
            refine w_if_lt C 152 dX5_fits_138 (by decide) sc37 (fun h38 => ?_) (fun h38 => ?_)
            · have vc := vc.1 h38
              refine w_aload_n C 4 dX5_fits_152 rfl ?_
              refine w_getR C dX5_fits_153 gf_X5_62 ob_37 rfl ?_
              refine w_iload_n C 6 dX5_fits_156 rfl ?_
              refine w_iload C 0 dX5_fits_157 rfl ?_
              obtain ⟨⟨sc39, sc40⟩, vc⟩ := vc
              refine w_iast C dX5_fits_159 ia_55 sc39 sc40 ?_
              refine w_mem (fun s41 hs41 => ?_)
              have vc := vc s41 hs41
              refine w_iinc C 7 [(3, pI (w3 + 1)), (7, pI v28), (6, pI v18), (5, pI v16), (4, pI j9), (0, pR 37), (1, pI x1), (2, pI w2)] dX5_fits_160 rfl (by decide) rfl ?_
              refine w_goto C 28 dX5_fits_163 (by decide) ?_
              exact w_sub _ [5, 6, 7, 0] rfl vc
            · have vc := vc.2 h38
              refine w_iload C 0 dX5_fits_141 rfl ?_
              refine w_aload_n C 4 dX5_fits_143 rfl ?_
              refine w_getR C dX5_fits_144 gf_X5_62 ob_37 rfl ?_
              refine w_iload_n C 6 dX5_fits_147 rfl ?_
              obtain ⟨⟨sc42, sc43⟩, vc⟩ := vc
              refine w_iald C dX5_fits_148 ia_55 sc42 sc43 ?_
              obtain ⟨⟨sc44, sc45⟩, vc⟩ := vc
              refine w_icmp_ge C 160 dX5_fits_149 (by decide) sc44 sc45 (fun h46 => ?_) (fun h46 => ?_)
              · have vc := vc.1 h46
                refine w_iinc C 7 [(3, pI (w3 + 1)), (7, pI v28), (6, pI v18), (5, pI v16), (4, pI j9), (0, pR 37), (1, pI x1), (2, pI w2)] dX5_fits_160 rfl (by decide) rfl ?_
                refine w_goto C 28 dX5_fits_163 (by decide) ?_
                exact w_sub _ [5, 6, 7, 0] rfl vc
              · have vc := vc.2 h46
                refine w_aload_n C 4 dX5_fits_152 rfl ?_
                refine w_getR C dX5_fits_153 gf_X5_62 ob_37 rfl ?_
                refine w_iload_n C 6 dX5_fits_156 rfl ?_
                refine w_iload C 0 dX5_fits_157 rfl ?_
                obtain ⟨⟨sc47, sc48⟩, vc⟩ := vc
                refine w_iast C dX5_fits_159 ia_55 sc47 sc48 ?_
                refine w_mem (fun s49 hs49 => ?_)
                have vc := vc s49 hs49
                refine w_iinc C 7 [(3, pI (w3 + 1)), (7, pI v28), (6, pI v18), (5, pI v16), (4, pI j9), (0, pR 37), (1, pI x1), (2, pI w2)] dX5_fits_160 rfl (by decide) rfl ?_
                refine w_goto C 28 dX5_fits_163 (by decide) ?_
                exact w_sub _ [5, 6, 7, 0] rfl vc
        refine w_icmp_le C 99 dX5_fits_91 (by decide) sc19 sc20 (fun h21 => ?_) (fun h21 => ?_)
        · have vc := vc.1 h21
          refine w_iload C 2 dX5_fits_99 rfl ?_
          exact key22 _ (by intros; first | rfl | omega | (exfalso; omega) | contradiction) (by intros; first | rfl | omega | (exfalso; omega) | contradiction)
        · have vc := vc.2.1 h21
          refine w_iload C 0 dX5_fits_94 rfl ?_
          refine w_goto C 101 dX5_fits_96 (by decide) ?_
          exact key22 _ (by intros; first | rfl | omega | (exfalso; omega) | contradiction) (by intros; first | rfl | omega | (exfalso; omega) | contradiction)
      · have vc := vc.2 h13
        refine w_goto C 160 dX5_fits_68 (by decide) ?_
        refine w_iinc C 4 [(3, pI (w3 + 1)), (4, pI j9), (0, pR 37), (1, pI x1), (2, pI w2)] dX5_fits_160 rfl (by decide) rfl ?_
        refine w_goto C 28 dX5_fits_163 (by decide) ?_
        exact w_sub _ [2, 3, 4, 0] rfl vc
    refine w_icmp_ne C 60 dX5_fits_42 (by decide) sc4 ⟨by omega, by omega⟩ (fun h5 => ?_) (fun h5 => ?_)
    · have vc := vc.1 h5
      refine w_iconst C dX5_fits_60 ?_
      exact key6 _ (by intros; first | rfl | omega | (exfalso; omega) | contradiction) (by intros; first | rfl | omega | (exfalso; omega) | contradiction)
    · have vc := vc.2.1 h5
      refine w_aload_n C 0 dX5_fits_45 rfl ?_
      refine w_getR C dX5_fits_46 gf_X5_62 ob_37 rfl ?_
      refine w_iload_n C 2 dX5_fits_49 rfl ?_
      refine w_iconst C dX5_fits_50 ?_
      refine w_iload_n C 3 dX5_fits_51 rfl ?_
      refine w_ishl C dX5_fits_52 ?_
      refine w_iconst C dX5_fits_53 ?_
      refine w_ixor C dX5_fits_54 ?_
      refine w_iand C dX5_fits_55 ?_
      obtain ⟨⟨sc7, sc8⟩, vc⟩ := vc
      refine w_iald C dX5_fits_56 ia_55 sc7 sc8 ?_
      refine w_goto C 61 dX5_fits_57 (by decide) ?_
      exact key6 _ (by intros; first | rfl | omega | (exfalso; omega) | contradiction) (by intros; first | rfl | omega | (exfalso; omega) | contradiction)
set_option maxHeartbeats 1000000 in
theorem ok_X5_fits_0 {M : Nat} {x1 : Int} {σ : Mem} {K9 : Int → Mem → Prop} (h : pre_X5_fits M x1 σ) (hK9 : ∀ (y2 : Int) (τ' : Mem), inv_X5_fits_9 M x1 σ y2 τ' → K9 y2 τ') : VC_X5_fits_0 M K9 (post_X5_fits M x1 σ) x1 σ := by
  obtain ⟨hB, hP, x0, x9⟩ := h
  have hp := pw_pos hB.1 (by have := hB.2.1; omega)
  intro s1 e1
  refine hK9 _ _ ⟨fun c hc => by rw [e1, up_other _ _ _ hc], by omega, by omega, fun T t0 t1 => ?_⟩
  have : T = 0 := by omega
  subst this
  rw [e1, up_self]
  exact TF_0 hB.1 hB.2.1
set_option maxHeartbeats 1000000 in
theorem ok_X5_fits_9 {M : Nat} {x1 : Int} {σ : Mem} {w2 : Int} {τ : Mem} {K28 : Int → Int → Mem → Prop} (h : pre_X5_fits M x1 σ) (hinv : inv_X5_fits_9 M x1 σ w2 τ) (hK28 : ∀ (y2 y3 : Int) (τ' : Mem), inv_X5_fits_28 M x1 σ y2 y3 τ' → mu_X5_fits_28 x1 y2 y3 τ' < mu_X5_fits_9 x1 w2 τ → K28 y2 y3 τ') : VC_X5_fits_9 M K28 (post_X5_fits M x1 σ) x1 w2 τ := by
  obtain ⟨hB, hP, x0, x9⟩ := h
  have hp := pw_pos hB.1 (by have := hB.2.1; omega)
  obtain ⟨hC, i1, i2, hT⟩ := hinv
  have f37 : τ 37 = σ 37 := hC 37 (by omega)
  unfold VC_X5_fits_9
  rw [f37, bits_shl hB.1 (by have := hB.2.1; omega)]
  refine ⟨⟨⟨by omega, by omega⟩, ⟨by omega, by omega⟩⟩, fun g => ?_, fun g => ⟨⟨by omega, by omega⟩, fun s10 e10 => hK28 _ _ _ ⟨fun c hc => by rw [e10, up_other _ _ _ hc]; exact hC c hc, i1, g, by omega, hB.1, fun T t0 t1 => ?_, ?_⟩ ?_⟩⟩
  · have t := hT (pw (σ 37 21) - 1) (by omega) (by omega)
    have ti := TF_in t
    have tf := TF_Fit t
    exact ⟨⟨by omega, by omega⟩, ⟨by omega, by omega⟩, fun q => ⟨hC, Or.inr ⟨rfl, tf.2 q⟩⟩, fun q => ⟨hC, Or.inl ⟨rfl, tf.1 q⟩⟩⟩
  · rw [e10, up_ne _ _ (Or.inr (by omega))]
    exact hT T t0 t1
  · rw [e10, up_self]; exact TG_0
  · unfold mu_X5_fits_28 mu_X5_fits_9; omega
set_option maxHeartbeats 1000000 in
theorem ok_X5_fits_28 {M : Nat} {x1 : Int} {σ : Mem} {w2 w3 : Int} {τ : Mem} {K9 : Int → Mem → Prop} {K28 : Int → Int → Mem → Prop} (h : pre_X5_fits M x1 σ) (hinv : inv_X5_fits_28 M x1 σ w2 w3 τ) (hK9 : ∀ (y2 : Int) (τ' : Mem), inv_X5_fits_9 M x1 σ y2 τ' → mu_X5_fits_9 x1 y2 τ' < mu_X5_fits_28 x1 w2 w3 τ → K9 y2 τ') (hK28 : ∀ (y2 y3 : Int) (τ' : Mem), inv_X5_fits_28 M x1 σ y2 y3 τ' → mu_X5_fits_28 x1 y2 y3 τ' < mu_X5_fits_28 x1 w2 w3 τ → K28 y2 y3 τ') : VC_X5_fits_28 M K9 K28 (post_X5_fits M x1 σ) x1 w2 w3 τ := by
  obtain ⟨hB, hP, x0, x9⟩ := h
  have hp := pw_pos hB.1 (by have := hB.2.1; omega)
  have hn8 := hB.2.1
  obtain ⟨hC, i1, i2, i3, i4, hT, hG⟩ := hinv
  have f37 : τ 37 = σ 37 := hC 37 (by omega)
  have f54 : τ 54 = σ 54 := hC 54 (by omega)
  have f43 : τ 43 = σ 43 := hC 43 (by omega)
  have f38 : τ 38 = σ 38 := hC 38 (by omega)
  have f41 : τ 41 = σ 41 := hC 41 (by omega)
  have gi := TG_in hG
  unfold VC_X5_fits_28
  rw [f37, f54, f43]
  have skip : TG (σ 37 21) (hdR σ) (tmR σ) (qR σ) x1 w2 (w3 + 1) (τ 55 w2) → w3 < σ 37 21 → K28 w2 (w3 + 1) τ := fun q q2 => hK28 _ _ _ ⟨hC, i1, i2, by omega, by omega, hT, q⟩ (by unfold mu_X5_fits_28; omega)
  refine ⟨⟨⟨by omega, by omega⟩, ⟨by omega, by omega⟩⟩, fun g => hK9 _ _ ⟨hC, by omega, by omega, fun T t0 t1 => ?_⟩ ?_, fun g => ?_⟩
  · by_cases e : T = w2
    · subst e
      have : w3 = σ 37 21 := by omega
      subst this
      exact TG_F (by omega) hG
    · exact hT T t0 (by omega)
  · unfold mu_X5_fits_28 mu_X5_fits_9; omega
  · rw [bits_and (by omega) (by omega) i3 (by omega)]
    refine ⟨⟨by omega, by omega⟩, fun _ => trivial, fun q => ⟨?_, trivial⟩, fun j9 q1 q2 => ?_⟩
    · rw [bits_not (by omega) (by omega) i3 (by omega) q]
      have := bt_sub (by omega) i3 (by omega) q
      have := pw_pos i3 (by omega)
      omega
    · by_cases hb : bt w2 w3
      · have ej := q2 hb
        rw [bits_not (by omega) (by omega) i3 (by omega) hb] at ej
        have hsub := (bt_sub (by omega) i3 (by omega) hb).1
        have hpk := pw_pos i3 (by omega : w3 < 9)
        have tf := hT (w2 - pw w3) (by omega) (by omega)
        rw [← ej] at tf
        have ti := TF_in tf
        obtain ⟨bh, bt', bq⟩ := hB.2.2 w3 i3 g
        obtain ⟨ph, plf⟩ := hP w3 i3 g
        have ph' := ph
        refine ⟨⟨by omega, by omega⟩, fun g2 => ⟨⟨i3, by omega⟩, fun v16 e16 => ?_⟩, fun g2 => skip (TG_none hG tf g2) g⟩
        subst e16
        have eh : f_X5_headOf (σ 54 w3) τ = hdR σ w3 := by unfold hdR f_X5_headOf; rw [f38, f43]
        have el : f_X5_leftOf (σ 54 w3) τ = qR σ w3 + tmR σ w3 := by unfold qR tmR f_X5_leftOf; rw [f41, f43]; omega
        have et : σ 43 (σ 54 w3) = tmR σ w3 := rfl
        rw [eh, el, et]
        refine ⟨ph, fun v18 e18 => ⟨⟨by rw [e18]; exact ⟨by omega, by omega⟩, ⟨by omega, by omega⟩⟩, fun _ => trivial, fun _ => trivial, fun j23 k1 k2 => ⟨ph, fun v28 e28 => ?_⟩⟩⟩
        have ev : v28 = max j9 (hdR σ w3) + tmR σ w3 := by
          rw [e28]
          by_cases c : v18 ≤ j9
          · rw [k1 c]; omega
          · rw [k2 (by omega)]; omega
        refine ⟨by unfold pre_X5_leftOf at plf ⊢; rw [f41]; exact plf, ph, ⟨⟨by omega, by omega⟩, ⟨by omega, by omega⟩⟩, fun g3 => skip (TG_late hG tf g2 (by omega)) g, fun g3 => ?_⟩
        have hl : v28 + qR σ w3 ≤ x1 := by omega
        have put : ∀ s : Mem, s = up τ 55 w2 v28 → (τ 55 w2 < 0 ∨ v28 < τ 55 w2) → K28 w2 (w3 + 1) s := fun s es hv => by
          refine hK28 _ _ _ ⟨fun c hc => by rw [es, up_other _ _ _ hc]; exact hC c hc, i1, i2, by omega, by omega, fun T t0 t1 => ?_, ?_⟩ (by unfold mu_X5_fits_28; omega)
          · rw [es, up_ne _ _ (Or.inr (by omega))]; exact hT T t0 t1
          · rw [es, up_self]
            exact TG_take i3 g hn8 (by omega) hb hG tf g2 ev hl (by omega) hv
        refine ⟨⟨by omega, by omega⟩, ⟨by omega, by omega⟩, fun g4 => ⟨⟨by omega, by omega⟩, fun s es => put s es (Or.inl g4)⟩, fun g4 => ⟨⟨by omega, by omega⟩, ⟨⟨by omega, by omega⟩, ⟨by omega, by omega⟩⟩, fun g5 => skip (TG_keep hG tf g2 g4 (by omega)) g, fun g5 => ⟨⟨by omega, by omega⟩, fun s es => put s es (Or.inr g5)⟩⟩⟩
      · have ej := q1 hb
        exact ⟨⟨by omega, by omega⟩, fun g2 => by omega, fun g2 => skip (TG_no hB.1 hn8 hG hb) g⟩
theorem c_X5_fits {G : GG} (hG : GI G) (l : Launch) (x1 : Int) (σ : Mem) (h : pre_X5_fits (gM G) x1 σ) : CtI G l yX5_fits cX5_fits 8 (some .boolean) 1 [pR 37, pI x1] σ (post_X5_fits (gM G) x1 σ) := by
  refine CtI.of hG (by decide) (Nat.le_of_ble_eq_true rfl) (fun X hl C => ?_)
  show RW G X 8 (QI G X _) 0 [(0, pR 37), (1, pI x1)] [] σ
  have key : ∀ n : Nat, (∀ (w2 : Int) (τ : Mem), inv_X5_fits_9 (gM G) x1 σ w2 τ → mu_X5_fits_9 x1 w2 τ < n → RW G X 8 (QI G X (post_X5_fits (gM G) x1 σ)) 9 [(0, pR 37), (1, pI x1), (2, pI w2)] [] τ) ∧ (∀ (w2 w3 : Int) (τ : Mem), inv_X5_fits_28 (gM G) x1 σ w2 w3 τ → mu_X5_fits_28 x1 w2 w3 τ < n → RW G X 8 (QI G X (post_X5_fits (gM G) x1 σ)) 28 [(0, pR 37), (1, pI x1), (2, pI w2), (3, pI w3)] [] τ) := by
    intro n
    induction n with
    | zero => exact ⟨fun w2 τ _ h0 => absurd h0 (Nat.not_lt_zero _), fun w2 w3 τ _ h0 => absurd h0 (Nat.not_lt_zero _)⟩
    | succ n ih =>
      exact ⟨(fun w2 τ hinv h0 => seg_X5_fits_9 C x1 w2 τ (ok_X5_fits_9 h hinv (fun y2 y3 τ' hi hm => ih.2 y2 y3 τ' hi (Nat.lt_of_lt_of_le hm (Nat.le_of_lt_succ h0))))), (fun w2 w3 τ hinv h0 => seg_X5_fits_28 C x1 w2 w3 τ (ok_X5_fits_28 h hinv (fun y2 τ' hi hm => ih.1 y2 τ' hi (Nat.lt_of_lt_of_le hm (Nat.le_of_lt_succ h0))) (fun y2 y3 τ' hi hm => ih.2 y2 y3 τ' hi (Nat.lt_of_lt_of_le hm (Nat.le_of_lt_succ h0)))))⟩
  exact seg_X5_fits_0 C x1 σ (ok_X5_fits_0 h (fun y2 τ' hi => (key _).1 y2 τ' hi (Nat.lt_succ_self _)))

/-! X5_boundOf -/
/-- only what the bounds use changes -/
def RB (σ τ : Mem) : Prop := (∀ c : Int, c ≠ 37 → c ≠ 54 → c ≠ 55 → τ c = σ c) ∧ ∀ i : Int, i ≠ 21 → τ 37 i = σ 37 i
theorem RB.RFr {σ τ : Mem} (h : RB σ τ) : RFr σ τ := ⟨fun c hc => h.1 c (by omega) (by omega) (by omega), fun i _ _ _ h3 => h.2 i h3⟩
theorem RB.trans {a b c : Mem} (h : RB a b) (g : RB b c) : RB a c := ⟨fun d h1 h2 h3 => (g.1 d h1 h2 h3).trans (h.1 d h1 h2 h3), fun i hi => (g.2 i hi).trans (h.2 i hi)⟩
theorem RB.refl (a : Mem) : RB a a := ⟨fun _ _ _ _ => rfl, fun _ _ => rfl⟩
def pre_X5_boundOf (M : Nat) (x1 : Int) (σ : Mem) : Prop := RP M σ ∧ inR x1
def post_X5_boundOf (M : Nat) (x1 : Int) (σ : Mem) (z : Int) (σ' : Mem) : Prop := RB σ σ' ∧ ((8 < cU (gh σ) x1 80 ∧ z = -3) ∨ (cU (gh σ) x1 80 ≤ 8 ∧ BND (gh σ) x1 z ∧ 0 ≤ z ∧ z ≤ 4000))
def cIr (x1 : Int) (a : Mem) (u : Int) (τ : Mem) : Prop := τ 37 21 = cU a x1 u ∧ ∀ s : Int, s < u → ow a x1 s → τ 54 (cU a x1 s) = pl s
def inv_X5_boundOf_7 (M : Nat) (x1 : Int) (σ : Mem) (w2 : Int) (τ : Mem) : Prop := RB σ τ ∧ 0 ≤ w2 ∧ w2 ≤ gh σ 1 1 ∧ cIr x1 (gh σ) (10 * w2) τ
def mu_X5_boundOf_7 (x1 : Int) (w2 : Int) (τ : Mem) : Nat := (10000 + (8 - w2) * 10 + 9).toNat
def inv_X5_boundOf_17 (M : Nat) (x1 : Int) (σ : Mem) (w2 w3 : Int) (τ : Mem) : Prop := RB σ τ ∧ 0 ≤ w2 ∧ w2 < gh σ 1 1 ∧ 0 ≤ w3 ∧ w3 ≤ gh σ 5 w2 ∧ cIr x1 (gh σ) (10 * w2 + w3) τ
def mu_X5_boundOf_17 (x1 : Int) (w2 w3 : Int) (τ : Mem) : Nat := (10000 + (8 - w2) * 10 + 8 - w3).toNat
def inv_X5_boundOf_108 (M : Nat) (x1 : Int) (σ : Mem) (w2 w3 : Int) (τ : Mem) : Prop := RB σ τ ∧ cIr x1 (gh σ) 80 τ ∧ cU (gh σ) x1 80 ≤ 8 ∧ 0 ≤ w2 ∧ w2 ≤ w3 ∧ w3 ≤ 4000 ∧ Fit (cU (gh σ) x1 80) (hdR τ) (tmR τ) (qR τ) w3 ∧ ∀ L : Int, 0 ≤ L → L < w2 → ¬ Fit (cU (gh σ) x1 80) (hdR τ) (tmR τ) (qR τ) L
def mu_X5_boundOf_108 (x1 : Int) (w2 w3 : Int) (τ : Mem) : Nat := (w3 - w2).toNat
theorem cIr_skip {x1 u v : Int} {a τ : Mem} (h : cIr x1 a u τ) (e : cU a x1 u = cU a x1 v) (hn : ∀ s, u ≤ s → s < v → ¬ ow a x1 s) : cIr x1 a v τ :=
  ⟨by rw [← e]; exact h.1, fun s hs ho => h.2 s (Int.not_le.mp (fun z => hn s z hs ho)) ho⟩
theorem cU_48 {M : Nat} {a : Mem} (h : WF M a) (m : Int) : cU a m 80 ≤ 48 := by
  have hc := count80 h.1.1.2.2.2.2.1
  have e12 : a 1 2 = sumI (a 5) 0 8 := h.2.2.2.2.1
  have hs := steps_in h
  have := sumI_le (f := oc a m) (g := fun s => if s % 10 < a 5 (s / 10) then 1 else 0) (lo := 0) (hi := 80) (fun s s0 s1 => by
    unfold oc
    by_cases q : s % 10 < a 5 (s / 10)
    · rw [if_pos q]; split <;> omega
    · rw [if_neg q, if_neg (fun w => q w.2.1)]; omega)
  rw [hc] at this
  unfold cU
  omega
theorem col_r {M : Nat} {a τ : Mem} (h : WF M a) (r : RM M a τ) {x1 : Int} (c : cIr x1 a 80 τ) (hc : cU a x1 80 ≤ 8) : colR a x1 (hdR τ) (tmR τ) (qR τ) ∧ BD (cU a x1 80) (hdR τ) (tmR τ) (qR τ) ∧ ∀ k, 0 ≤ k → k < cU a x1 80 → pre_X5_headOf M (τ 54 k) τ ∧ pre_X5_leftOf M (τ 54 k) τ := by
  have hcol : colR a x1 (hdR τ) (tmR τ) (qR τ) := fun s hs => by
    have e := c.2 s (VS_in h.1.1 hs.1).2.1 hs
    have d := hd_r h r hs.1
    have t := at_pl h r hs.1
    unfold hdR tmR qR
    rw [e]
    exact ⟨d.1, t.2.1, d.2.1⟩
  refine ⟨hcol, ⟨cU_ge (by omega), hc, fun k k0 k1 => ?_⟩, fun k k0 k1 => ?_⟩
  · obtain ⟨s, s0, s1, s2, s3⟩ := cU_sur (a := a) (m := x1) 80 k k0 k1
    have q := hcol s s2
    rw [s3] at q
    rw [q.1, q.2.1, q.2.2]
    have := hd_in h.1 s2.1
    exact ⟨this.1, this.2.2, this.2.1⟩
  · obtain ⟨s, s0, s1, s2, s3⟩ := cU_sur (a := a) (m := x1) 80 k k0 k1
    have e := c.2 s (VS_in h.1.1 s2.1).2.1 s2
    have d := hd_r h r s2.1
    rw [← s3, e]
    exact ⟨d.2.2.1, d.2.2.2.1⟩
def VC_X5_boundOf_0 (M : Nat) (K7 : Int → Mem → Prop) (post : Int → Mem → Prop) (x1 : Int) (σ : Mem) : Prop :=
  ∀ s1 : Mem, s1 = up σ 37 21 0 → K7 0 s1
set_option maxRecDepth 20000 in
set_option maxHeartbeats 4000000 in
theorem seg_X5_boundOf_0 {G : GG} {X : XX} {post : Int → Mem → Prop} (C : CX G X cX5_boundOf RX5 5 (some .int) 2)   (x1 : Int) (σ : Mem) (vc : VC_X5_boundOf_0 (gM G) (fun w2 σ => RW G X 5 (QI G X post) 7 [(0, pR 37), (1, pI x1), (2, pI w2)] [] σ) post  x1 σ) : RW G X 5 (QI G X post) 0 [(0, pR 37), (1, pI x1)] [] σ := by
  unfold VC_X5_boundOf_0 at vc
  refine w_aload_n C 0 dX5_boundOf_0 rfl ?_
  refine w_iconst C dX5_boundOf_1 ?_
  refine w_putI C 21 dX5_boundOf_2 pf_X5_144 ob_37 rfl rfl ?_
  refine w_mem (fun s1 hs1 => ?_)
  have vc := vc s1 hs1
  refine w_iconst C dX5_boundOf_5 ?_
  refine w_istore_n C [(2, pI 0), (0, pR 37), (1, pI x1)] dX5_boundOf_6 (by decide) rfl ?_
  exact w_sub _ [1, 2, 0] rfl vc
def VC_X5_boundOf_7 (M : Nat) (K17 : Int → Int → Mem → Prop) (K108 : Int → Int → Mem → Prop) (post : Int → Mem → Prop) (x1 : Int) (w2 : Int) (σ : Mem) : Prop :=
 (inR w2 ∧ inR (σ 37 2)) ∧ (((σ 37 2) ≤ w2 → (inR (σ 37 21)) ∧ (((σ 37 21) ≤ 8 → (inR (σ 37 21)) ∧ ((¬ (σ 37 21) = 0 → True) ∧ ((σ 37 21) = 0 → True) ∧ ∀ j9 : Int, (¬ (σ 37 21) = 0 → j9 = 4000) → ((σ 37 21) = 0 → j9 = 0) → K108 0 j9 σ)) ∧ (8 < (σ 37 21) → post (-3) σ))) ∧ (w2 < (σ 37 2) → K17 w2 0 σ))
set_option maxRecDepth 20000 in
set_option maxHeartbeats 4000000 in
theorem seg_X5_boundOf_7 {G : GG} {X : XX} {post : Int → Mem → Prop} (C : CX G X cX5_boundOf RX5 5 (some .int) 2)   (x1 : Int) (w2 : Int) (σ : Mem) (vc : VC_X5_boundOf_7 (gM G) (fun w2 w3 σ => RW G X 5 (QI G X post) 17 [(0, pR 37), (1, pI x1), (2, pI w2), (3, pI w3)] [] σ) (fun w2 w3 σ => RW G X 5 (QI G X post) 108 [(0, pR 37), (1, pI x1), (2, pI w2), (3, pI w3)] [] σ) post  x1 w2 σ) : RW G X 5 (QI G X post) 7 [(0, pR 37), (1, pI x1), (2, pI w2)] [] σ := by
  unfold VC_X5_boundOf_7 at vc
  refine w_iload_n C 2 dX5_boundOf_7 rfl ?_
  refine w_aload_n C 0 dX5_boundOf_8 rfl ?_
  refine w_getI C 2 dX5_boundOf_9 gf_X5_72 ob_37 rfl rfl ?_
  obtain ⟨⟨sc1, sc2⟩, vc⟩ := vc
  refine w_icmp_ge C 79 dX5_boundOf_12 (by decide) sc1 sc2 (fun h3 => ?_) (fun h3 => ?_)
  · have vc := vc.1 h3
    refine w_aload_n C 0 dX5_boundOf_79 rfl ?_
    refine w_getI C 21 dX5_boundOf_80 gf_X5_144 ob_37 rfl rfl ?_
    refine w_bipush C dX5_boundOf_83 (by decide) ?_
    obtain ⟨sc4, vc⟩ := vc
    refine w_icmp_le C 91 dX5_boundOf_85 (by decide) sc4 ⟨by omega, by omega⟩ (fun h5 => ?_) (fun h5 => ?_)
    · have vc := vc.1 h5
      refine w_iconst C dX5_boundOf_91 ?_
      refine w_istore_n C [(2, pI 0), (0, pR 37), (1, pI x1)] dX5_boundOf_92 (by decide) rfl ?_
      refine w_aload_n C 1 dX5_boundOf_93 rfl ?_
      refine w_getI C 21 dX5_boundOf_94 gf_X5_144 ob_37 rfl rfl ?_
      obtain ⟨sc6, vc⟩ := vc
      have key8 : ∀ j9 : Int, (¬ (σ 37 21) = 0 → j9 = 4000) → ((σ 37 21) = 0 → j9 = 0) → RW G X 5 (QI G X post) 107 [(2, pI 0), (0, pR 37), (1, pI x1)] [pI j9] σ := by
        intro j9 hj10 hj11
        have vc := vc.2.2 j9 hj10 hj11
        refine w_istore_n C [(3, pI j9), (2, pI 0), (0, pR 37), (1, pI x1)] dX5_boundOf_107 (by decide) rfl ?_
        exact w_sub _ [2, 3, 1, 0] rfl vc
      refine w_if_ne C 104 dX5_boundOf_97 (by decide) sc6 (fun h7 => ?_) (fun h7 => ?_)
      · have vc := vc.1 h7
        refine w_sipush C dX5_boundOf_104 (by decide) ?_
        exact key8 _ (by intros; first | rfl | omega | (exfalso; omega) | contradiction) (by intros; first | rfl | omega | (exfalso; omega) | contradiction)
      · have vc := vc.2.1 h7
        refine w_iconst C dX5_boundOf_100 ?_
        refine w_goto C 107 dX5_boundOf_101 (by decide) ?_
        exact key8 _ (by intros; first | rfl | omega | (exfalso; omega) | contradiction) (by intros; first | rfl | omega | (exfalso; omega) | contradiction)
    · have vc := vc.2 h5
      refine w_bipush C dX5_boundOf_88 (by decide) ?_
      exact w_ireturn C dX5_boundOf_90 vc
  · have vc := vc.2 h3
    refine w_iconst C dX5_boundOf_15 ?_
    refine w_istore_n C [(3, pI 0), (0, pR 37), (1, pI x1), (2, pI w2)] dX5_boundOf_16 (by decide) rfl ?_
    exact w_sub _ [1, 2, 3, 0] rfl vc
def VC_X5_boundOf_17 (M : Nat) (K7 : Int → Mem → Prop) (K17 : Int → Int → Mem → Prop) (post : Int → Mem → Prop) (x1 : Int) (w2 : Int) (w3 : Int) (σ : Mem) : Prop :=
 (0 ≤ w2 ∧ w2 < 8) ∧ (inR w3 ∧ inR (σ 41 w2)) ∧ (((σ 41 w2) ≤ w3 → K7 (w2 + 1) σ) ∧ (w3 < (σ 41 w2) → (0 ≤ ((6 * w2) + w3) ∧ ((6 * w2) + w3) < 48) ∧ (inR (σ 42 ((6 * w2) + w3)) ∧ inR x1) ∧ ((¬ (σ 42 ((6 * w2) + w3)) = x1 → K17 w2 (w3 + 1) σ) ∧ ((σ 42 ((6 * w2) + w3)) = x1 → (0 ≤ (σ 37 21) ∧ (σ 37 21) < 48) ∧ ∀ s13 : Mem, s13 = up σ 54 (σ 37 21) ((6 * w2) + w3) → ∀ s14 : Mem, s14 = up s13 37 21 ((s13 37 21) + 1) → K17 w2 (w3 + 1) s14))))
set_option maxRecDepth 20000 in
set_option maxHeartbeats 4000000 in
theorem seg_X5_boundOf_17 {G : GG} {X : XX} {post : Int → Mem → Prop} (C : CX G X cX5_boundOf RX5 5 (some .int) 2)   (x1 : Int) (w2 : Int) (w3 : Int) (σ : Mem) (vc : VC_X5_boundOf_17 (gM G) (fun w2 σ => RW G X 5 (QI G X post) 7 [(0, pR 37), (1, pI x1), (2, pI w2)] [] σ) (fun w2 w3 σ => RW G X 5 (QI G X post) 17 [(0, pR 37), (1, pI x1), (2, pI w2), (3, pI w3)] [] σ) post  x1 w2 w3 σ) : RW G X 5 (QI G X post) 17 [(0, pR 37), (1, pI x1), (2, pI w2), (3, pI w3)] [] σ := by
  unfold VC_X5_boundOf_17 at vc
  refine w_iload_n C 3 dX5_boundOf_17 rfl ?_
  refine w_aload_n C 0 dX5_boundOf_18 rfl ?_
  refine w_getR C dX5_boundOf_19 gf_X5_19 ob_37 rfl ?_
  refine w_iload_n C 2 dX5_boundOf_22 rfl ?_
  obtain ⟨⟨sc1, sc2⟩, vc⟩ := vc
  refine w_iald C dX5_boundOf_23 ia_41 sc1 sc2 ?_
  obtain ⟨⟨sc3, sc4⟩, vc⟩ := vc
  refine w_icmp_ge C 73 dX5_boundOf_24 (by decide) sc3 sc4 (fun h5 => ?_) (fun h5 => ?_)
  · have vc := vc.1 h5
    refine w_iinc C 2 [(2, pI (w2 + 1)), (0, pR 37), (1, pI x1), (3, pI w3)] dX5_boundOf_73 rfl (by decide) rfl ?_
    refine w_goto C 7 dX5_boundOf_76 (by decide) ?_
    exact w_sub _ [1, 2, 0] rfl vc
  · have vc := vc.2 h5
    refine w_aload_n C 0 dX5_boundOf_27 rfl ?_
    refine w_getR C dX5_boundOf_28 gf_X5_22 ob_37 rfl ?_
    refine w_bipush C dX5_boundOf_31 (by decide) ?_
    refine w_iload_n C 2 dX5_boundOf_33 rfl ?_
    refine w_imul C dX5_boundOf_34 ?_
    refine w_iload_n C 3 dX5_boundOf_35 rfl ?_
    refine w_iadd C dX5_boundOf_36 ?_
    obtain ⟨⟨sc6, sc7⟩, vc⟩ := vc
    refine w_iald C dX5_boundOf_37 ia_42 sc6 sc7 ?_
    refine w_iload_n C 1 dX5_boundOf_38 rfl ?_
    obtain ⟨⟨sc8, sc9⟩, vc⟩ := vc
    refine w_icmp_ne C 67 dX5_boundOf_39 (by decide) sc8 sc9 (fun h10 => ?_) (fun h10 => ?_)
    · have vc := vc.1 h10
      refine w_iinc C 3 [(3, pI (w3 + 1)), (0, pR 37), (1, pI x1), (2, pI w2)] dX5_boundOf_67 rfl (by decide) rfl ?_
      refine w_goto C 17 dX5_boundOf_70 (by decide) ?_
      exact w_sub _ [1, 2, 3, 0] rfl vc
    · have vc := vc.2 h10
      refine w_aload_n C 0 dX5_boundOf_42 rfl ?_
      refine w_getR C dX5_boundOf_43 gf_X5_59 ob_37 rfl ?_
      refine w_aload_n C 0 dX5_boundOf_46 rfl ?_
      refine w_getI C 21 dX5_boundOf_47 gf_X5_144 ob_37 rfl rfl ?_
      refine w_bipush C dX5_boundOf_50 (by decide) ?_
      refine w_iload_n C 2 dX5_boundOf_52 rfl ?_
      refine w_imul C dX5_boundOf_53 ?_
      refine w_iload_n C 3 dX5_boundOf_54 rfl ?_
      refine w_iadd C dX5_boundOf_55 ?_
      obtain ⟨⟨sc11, sc12⟩, vc⟩ := vc
      refine w_iast C dX5_boundOf_56 ia_54 sc11 sc12 ?_
      refine w_mem (fun s13 hs13 => ?_)
      have vc := vc s13 hs13
      refine w_aload_n C 0 dX5_boundOf_57 rfl ?_
      refine w_dup C dX5_boundOf_58 rfl ?_
      refine w_getI C 21 dX5_boundOf_59 gf_X5_144 ob_37 rfl rfl ?_
      refine w_iconst C dX5_boundOf_62 ?_
      refine w_iadd C dX5_boundOf_63 ?_
      refine w_putI C 21 dX5_boundOf_64 pf_X5_144 ob_37 rfl rfl ?_
      refine w_mem (fun s14 hs14 => ?_)
      have vc := vc s14 hs14
      refine w_iinc C 3 [(3, pI (w3 + 1)), (0, pR 37), (1, pI x1), (2, pI w2)] dX5_boundOf_67 rfl (by decide) rfl ?_
      refine w_goto C 17 dX5_boundOf_70 (by decide) ?_
      exact w_sub _ [1, 2, 3, 0] rfl vc
def VC_X5_boundOf_108 (M : Nat) (K108 : Int → Int → Mem → Prop) (post : Int → Mem → Prop) (x1 : Int) (w2 : Int) (w3 : Int) (σ : Mem) : Prop :=
 (inR w2 ∧ inR w3) ∧ ((w3 ≤ w2 → post w2 σ) ∧ (w2 < w3 → (0 ≤ (w2 + w3) ∧ inR (w2 + w3)) ∧ ∀ v6 : Int, v6 = (w2 + w3) / 2 → (pre_X5_fits M v6 σ) ∧ ∀ (z9 : Int) (s8 : Mem), post_X5_fits M v6 σ z9 s8 → (inR z9) ∧ ((z9 = 0 → ∀ v12 : Int, v12 = v6 + 1 → K108 v12 w3 s8) ∧ (¬ z9 = 0 → K108 w2 v6 s8))))
set_option maxRecDepth 20000 in
set_option maxHeartbeats 4000000 in
theorem seg_X5_boundOf_108 {G : GG} {X : XX} {post : Int → Mem → Prop} (C : CX G X cX5_boundOf RX5 5 (some .int) 2)   (x1 : Int) (w2 : Int) (w3 : Int) (σ : Mem) (vc : VC_X5_boundOf_108 (gM G) (fun w2 w3 σ => RW G X 5 (QI G X post) 108 [(0, pR 37), (1, pI x1), (2, pI w2), (3, pI w3)] [] σ) post  x1 w2 w3 σ) : RW G X 5 (QI G X post) 108 [(0, pR 37), (1, pI x1), (2, pI w2), (3, pI w3)] [] σ := by
  unfold VC_X5_boundOf_108 at vc
  refine w_iload_n C 2 dX5_boundOf_108 rfl ?_
  refine w_iload_n C 3 dX5_boundOf_109 rfl ?_
  obtain ⟨⟨sc1, sc2⟩, vc⟩ := vc
  refine w_icmp_ge C 143 dX5_boundOf_110 (by decide) sc1 sc2 (fun h3 => ?_) (fun h3 => ?_)
  · have vc := vc.1 h3
    refine w_iload_n C 2 dX5_boundOf_143 rfl ?_
    exact w_ireturn C dX5_boundOf_144 vc
  · have vc := vc.2 h3
    refine w_iload_n C 2 dX5_boundOf_113 rfl ?_
    refine w_iload_n C 3 dX5_boundOf_114 rfl ?_
    refine w_iadd C dX5_boundOf_115 ?_
    refine w_iconst C dX5_boundOf_116 ?_
    obtain ⟨⟨sc4, sc5⟩, vc⟩ := vc
    refine w_idivN C dX5_boundOf_117 sc4 sc5 ⟨by omega, by omega⟩ (by omega) ?_
    refine w_top (fun v6 hv6 => ?_)
    have vc := vc v6 hv6
    refine w_istore C [(4, pI v6), (0, pR 37), (1, pI x1), (2, pI w2), (3, pI w3)] dX5_boundOf_118 (by decide) rfl ?_
    refine w_aload_n C 1 dX5_boundOf_120 rfl ?_
    refine w_iload C 0 dX5_boundOf_121 rfl ?_
    obtain ⟨sc7, vc⟩ := vc
    refine w_callVI C [pI v6] [] rfl dX5_boundOf_123 (c_X5_fits C.gi (xL X) v6 σ sc7) oc_37 mw_X5_fits ml_X5_147 im_X5_fits se_X5_fits (by decide) (Nat.le_of_ble_eq_true rfl) (fun z9 s8 hs8 => ?_)
    have vc := vc z9 s8 hs8
    obtain ⟨sc10, vc⟩ := vc
    refine w_if_eq C 135 dX5_boundOf_126 (by decide) sc10 (fun h11 => ?_) (fun h11 => ?_)
    · have vc := vc.1 h11
      refine w_iload C 0 dX5_boundOf_135 rfl ?_
      refine w_iconst C dX5_boundOf_137 ?_
      refine w_iadd C dX5_boundOf_138 ?_
      refine w_top (fun v12 hv12 => ?_)
      have vc := vc v12 hv12
      refine w_istore_n C [(2, pI v12), (4, pI v6), (0, pR 37), (1, pI x1), (3, pI w3)] dX5_boundOf_139 (by decide) rfl ?_
      refine w_goto C 108 dX5_boundOf_140 (by decide) ?_
      exact w_sub _ [2, 3, 0, 4] rfl vc
    · have vc := vc.2 h11
      refine w_iload C 0 dX5_boundOf_129 rfl ?_
      refine w_istore_n C [(3, pI v6), (4, pI v6), (0, pR 37), (1, pI x1), (2, pI w2)] dX5_boundOf_131 (by decide) rfl ?_
      refine w_goto C 140 dX5_boundOf_132 (by decide) ?_
      refine w_goto C 108 dX5_boundOf_140 (by decide) ?_
      exact w_sub _ [2, 3, 4, 0] rfl vc
set_option maxHeartbeats 1000000 in
theorem ok_X5_boundOf_0 {M : Nat} {x1 : Int} {σ : Mem} {K7 : Int → Mem → Prop} (h : pre_X5_boundOf M x1 σ) (hK7 : ∀ (y2 : Int) (τ' : Mem), inv_X5_boundOf_7 M x1 σ y2 τ' → K7 y2 τ') : VC_X5_boundOf_0 M K7 (post_X5_boundOf M x1 σ) x1 σ := by
  obtain ⟨⟨hW, hR⟩, r1⟩ := h
  have hj := hW.1.1.2.2.2.1
  intro s1 e1
  refine hK7 _ _ ⟨⟨fun c h1 h2 h3 => by rw [e1, up_other _ _ _ h1], fun i hi => by rw [e1, up_ne _ _ (Or.inr hi)]⟩, by omega, by omega, by rw [e1, up_self]; exact (cU_0 _ x1).symm, fun s hs ho => ?_⟩
  have := ho.1.1
  omega
set_option maxHeartbeats 1000000 in
theorem ok_X5_boundOf_7 {M : Nat} {x1 : Int} {σ : Mem} {w2 : Int} {τ : Mem} {K17 : Int → Int → Mem → Prop} {K108 : Int → Int → Mem → Prop} (h : pre_X5_boundOf M x1 σ) (hinv : inv_X5_boundOf_7 M x1 σ w2 τ) (hK17 : ∀ (y2 y3 : Int) (τ' : Mem), inv_X5_boundOf_17 M x1 σ y2 y3 τ' → mu_X5_boundOf_17 x1 y2 y3 τ' < mu_X5_boundOf_7 x1 w2 τ → K17 y2 y3 τ') (hK108 : ∀ (y2 y3 : Int) (τ' : Mem), inv_X5_boundOf_108 M x1 σ y2 y3 τ' → mu_X5_boundOf_108 x1 y2 y3 τ' < mu_X5_boundOf_7 x1 w2 τ → K108 y2 y3 τ') : VC_X5_boundOf_7 M K17 K108 (post_X5_boundOf M x1 σ) x1 w2 τ := by
  obtain ⟨⟨hW, hR⟩, r1⟩ := h
  obtain ⟨hF, i1, i2, hI⟩ := hinv
  have hRτ := RM_fr hF.RFr hR
  have hj := hW.1.1.2.2.2.1
  have e2 := hRτ.2.1
  have h5 := fun q => hW.1.1.2.2.2.2.1 w2 i1 q
  refine ⟨⟨⟨by omega, by omega⟩, ⟨by omega, by omega⟩⟩, fun g => ?_, fun g => hK17 _ _ _ ⟨hF, i1, by omega, by omega, (h5 (by omega)).1, by simpa using hI⟩ ?_⟩
  · have e : w2 = gh σ 1 1 := by omega
    rw [e] at hI
    have hI := cIr_skip hI (cU_end hW.1) (fun s s0 s1 z => by have := z.1.2.1; omega)
    have h48 := cU_48 hW x1
    have h0 := cU_ge (a := gh σ) (m := x1) (show (0 : Int) ≤ 80 by omega)
    have e21 := hI.1
    refine ⟨⟨by omega, by omega⟩, fun g2 => ⟨⟨by omega, by omega⟩, fun _ => trivial, fun _ => trivial, fun j9 q1 q2 => ?_⟩, fun g2 => ⟨hF, Or.inl ⟨by omega, rfl⟩⟩⟩
    obtain ⟨c1, c2, c3⟩ := col_r hW hRτ hI (by omega)
    have hj9 : j9 = 4000 ∨ (j9 = 0 ∧ cU (gh σ) x1 80 = 0) := by
      by_cases q : τ 37 21 = 0
      · exact Or.inr ⟨q2 q, by omega⟩
      · exact Or.inl (q1 q)
    refine hK108 _ _ _ ⟨hF, hI, by omega, by omega, by omega, by omega, ?_, fun L l0 l1 => by omega⟩ ?_
    · rcases hj9 with e | ⟨e, z⟩
      · rw [e]; exact Fit_4000 c2
      · rw [z]
        exact ⟨[], trivial, trivial, by decide⟩
    · unfold mu_X5_boundOf_108 mu_X5_boundOf_7; omega
  · unfold mu_X5_boundOf_17 mu_X5_boundOf_7; omega
set_option maxHeartbeats 1000000 in
theorem ok_X5_boundOf_17 {M : Nat} {x1 : Int} {σ : Mem} {w2 w3 : Int} {τ : Mem} {K7 : Int → Mem → Prop} {K17 : Int → Int → Mem → Prop} (h : pre_X5_boundOf M x1 σ) (hinv : inv_X5_boundOf_17 M x1 σ w2 w3 τ) (hK7 : ∀ (y2 : Int) (τ' : Mem), inv_X5_boundOf_7 M x1 σ y2 τ' → mu_X5_boundOf_7 x1 y2 τ' < mu_X5_boundOf_17 x1 w2 w3 τ → K7 y2 τ') (hK17 : ∀ (y2 y3 : Int) (τ' : Mem), inv_X5_boundOf_17 M x1 σ y2 y3 τ' → mu_X5_boundOf_17 x1 y2 y3 τ' < mu_X5_boundOf_17 x1 w2 w3 τ → K17 y2 y3 τ') : VC_X5_boundOf_17 M K7 K17 (post_X5_boundOf M x1 σ) x1 w2 w3 τ := by
  obtain ⟨⟨hW, hR⟩, r1⟩ := h
  obtain ⟨hF, i1, i2, i3, i4, hI⟩ := hinv
  have hRτ := RM_fr hF.RFr hR
  have hj := hW.1.1.2.2.2.1
  have hM : M ≤ 5 := hW.1.1.2.2.1
  have h5 := hW.1.1.2.2.2.2.1 w2 i1 (by omega)
  have e41 := (hRτ.2.2.1 w2 i1 (by omega)).2.2.2
  refine ⟨⟨i1, by omega⟩, ⟨⟨by omega, by omega⟩, ⟨by omega, by omega⟩⟩, fun g => hK7 _ _ ⟨hF, by omega, by omega, ?_⟩ ?_, fun g => ?_⟩
  · have e : w3 = gh σ 5 w2 := by omega
    rw [e] at hI
    refine cIr_skip hI (cU_job hW.1 i1 (by omega)) (fun s s0 s1 z => ?_)
    have e2 : s / 10 = w2 := by omega
    have := z.1.2.2
    rw [e2] at this
    omega
  · unfold mu_X5_boundOf_17 mu_X5_boundOf_7; omega
  · have ed : (10 * w2 + w3) / 10 = w2 := by omega
    have em : (10 * w2 + w3) % 10 = w3 := by omega
    have hv : VS (gh σ) (10 * w2 + w3) := ⟨by omega, by rw [ed]; exact i2, by rw [ed, em]; omega⟩
    have ep : 6 * w2 + w3 = pl (10 * w2 + w3) := by unfold pl; omega
    have h6 := (hW.1.2.2.2.1 (10 * w2 + w3) (by omega) (by omega)).1
    have hp := pl_in hW.1.1 hv
    have hat := at_pl hW hRτ hv
    unfold VC_X5_boundOf_17 at *
    rw [ep, hat.1]
    refine ⟨⟨hp.1, hp.2.1⟩, ⟨⟨by omega, by omega⟩, r1⟩, fun g2 => hK17 _ _ _ ⟨hF, i1, i2, by omega, by omega, ?_⟩ ?_, fun g2 => ?_⟩
    · have hno : ¬ ow (gh σ) x1 (10 * w2 + w3) := fun z => g2 z.2
      refine cIr_skip hI ?_ (fun s s0 s1 => ?_)
      · rw [show 10 * w2 + (w3 + 1) = 10 * w2 + w3 + 1 by omega, cU_s _ _ (by omega), oc_no (by omega) hno, Int.add_zero]
      · rw [show s = 10 * w2 + w3 by omega]; exact hno
    · unfold mu_X5_boundOf_17; omega
    · have ho : ow (gh σ) x1 (10 * w2 + w3) := ⟨hv, g2⟩
      have hci := cU_in hW.1.1 ho
      have h48 := cU_48 hW x1
      have e21 := hI.1
      refine ⟨⟨by omega, by omega⟩, fun s13 e13 s14 e14 => hK17 _ _ _ ⟨?_, i1, i2, by omega, by omega, ?_, fun s hs hos => ?_⟩ ?_⟩
      · refine hF.trans ⟨fun c q1 q2 q3 => ?_, fun i hi => ?_⟩
        · rw [e14, e13, up_other _ _ _ q1, up_other _ _ _ q2]
        · rw [e14, e13, up_ne _ _ (Or.inr hi), up_other _ _ _ (by omega)]
      · rw [e14, e13, up_self, up_other _ _ _ (by omega), e21, show 10 * w2 + (w3 + 1) = 10 * w2 + w3 + 1 by omega, cU_s _ _ (by omega), oc_ow ho]
      · rw [e14, e13, up_other _ _ _ (by omega)]
        by_cases e : s = 10 * w2 + w3
        · rw [e, e21, up_self]
        · have hlt : s < 10 * w2 + w3 := by omega
          have := cU_mono (a := gh σ) (m := x1) (u := s + 1) (v := 10 * w2 + w3) (by have := hos.1.1; omega) (by omega)
          rw [cU_s _ _ hos.1.1, oc_ow hos] at this
          rw [up_ne _ _ (Or.inr (by omega))]
          exact hI.2 s hlt hos
      · unfold mu_X5_boundOf_17; omega
set_option maxHeartbeats 1000000 in
theorem ok_X5_boundOf_108 {M : Nat} {x1 : Int} {σ : Mem} {w2 w3 : Int} {τ : Mem} {K108 : Int → Int → Mem → Prop} (h : pre_X5_boundOf M x1 σ) (hinv : inv_X5_boundOf_108 M x1 σ w2 w3 τ) (hK108 : ∀ (y2 y3 : Int) (τ' : Mem), inv_X5_boundOf_108 M x1 σ y2 y3 τ' → mu_X5_boundOf_108 x1 y2 y3 τ' < mu_X5_boundOf_108 x1 w2 w3 τ → K108 y2 y3 τ') : VC_X5_boundOf_108 M K108 (post_X5_boundOf M x1 σ) x1 w2 w3 τ := by
  obtain ⟨⟨hW, hR⟩, r1⟩ := h
  obtain ⟨hF, hI, hc, i1, i2, i3, i4, i5⟩ := hinv
  have hRτ := RM_fr hF.RFr hR
  obtain ⟨c1, c2, c3⟩ := col_r hW hRτ hI hc
  have e21 := hI.1
  refine ⟨⟨⟨by omega, by omega⟩, ⟨by omega, by omega⟩⟩, fun g => ?_, fun g => ⟨⟨by omega, by omega, by omega⟩, fun v6 e6 => ?_⟩⟩
  · have : w3 = w2 := by omega
    subst this
    exact ⟨hF, Or.inr ⟨hc, ⟨_, _, _, c1, i1, i4, i5⟩, i1, i3⟩⟩
  · refine ⟨⟨by rw [e21]; exact c2, by rw [e21]; exact c3, by omega, by omega⟩, fun z s8 h8 => ?_⟩
    obtain ⟨hC, hz⟩ := h8
    obtain ⟨y1, y2, y3⟩ := C55_r hC
    rw [e21] at hz
    have hF8 : RB σ s8 := hF.trans ⟨fun c q1 q2 q3 => hC c q3, fun i hi => by rw [hC 37 (by omega)]⟩
    have hI8 : cIr x1 (gh σ) 80 s8 := ⟨by rw [hC 37 (by omega)]; exact hI.1, fun s q1 q2 => by rw [hC 54 (by omega)]; exact hI.2 s q1 q2⟩
    rcases hz with ⟨rfl, hf⟩ | ⟨rfl, hf⟩
    · refine ⟨⟨by omega, by omega⟩, fun q => by omega, fun _ => hK108 _ _ _ ⟨hF8, hI8, hc, i1, by omega, by omega, by rw [y1, y2, y3]; exact hf, by rw [y1, y2, y3]; exact i5⟩ ?_⟩
      unfold mu_X5_boundOf_108; omega
    · refine ⟨⟨by omega, by omega⟩, fun _ v e => hK108 _ _ _ ⟨hF8, hI8, hc, by omega, by omega, i3, by rw [y1, y2, y3]; exact i4, fun L l0 l1 z => ?_⟩ ?_, fun q => absurd rfl q⟩
      · rw [y1, y2, y3] at z
        exact hf (Fit_mono (by omega) z)
      · unfold mu_X5_boundOf_108; omega
theorem c_X5_boundOf {G : GG} (hG : GI G) (l : Launch) (x1 : Int) (σ : Mem) (h : pre_X5_boundOf (gM G) x1 σ) : CtI G l yX5_boundOf cX5_boundOf 5 (some .int) 2 [pR 37, pI x1] σ (post_X5_boundOf (gM G) x1 σ) := by
  refine CtI.of hG (by decide) (Nat.le_of_ble_eq_true rfl) (fun X hl C => ?_)
  show RW G X 5 (QI G X _) 0 [(0, pR 37), (1, pI x1)] [] σ
  have key : ∀ n : Nat, (∀ (w2 : Int) (τ : Mem), inv_X5_boundOf_7 (gM G) x1 σ w2 τ → mu_X5_boundOf_7 x1 w2 τ < n → RW G X 5 (QI G X (post_X5_boundOf (gM G) x1 σ)) 7 [(0, pR 37), (1, pI x1), (2, pI w2)] [] τ) ∧ (∀ (w2 w3 : Int) (τ : Mem), inv_X5_boundOf_17 (gM G) x1 σ w2 w3 τ → mu_X5_boundOf_17 x1 w2 w3 τ < n → RW G X 5 (QI G X (post_X5_boundOf (gM G) x1 σ)) 17 [(0, pR 37), (1, pI x1), (2, pI w2), (3, pI w3)] [] τ) ∧ (∀ (w2 w3 : Int) (τ : Mem), inv_X5_boundOf_108 (gM G) x1 σ w2 w3 τ → mu_X5_boundOf_108 x1 w2 w3 τ < n → RW G X 5 (QI G X (post_X5_boundOf (gM G) x1 σ)) 108 [(0, pR 37), (1, pI x1), (2, pI w2), (3, pI w3)] [] τ) := by
    intro n
    induction n with
    | zero => exact ⟨fun w2 τ _ h0 => absurd h0 (Nat.not_lt_zero _), fun w2 w3 τ _ h0 => absurd h0 (Nat.not_lt_zero _), fun w2 w3 τ _ h0 => absurd h0 (Nat.not_lt_zero _)⟩
    | succ n ih =>
      exact ⟨(fun w2 τ hinv h0 => seg_X5_boundOf_7 C x1 w2 τ (ok_X5_boundOf_7 h hinv (fun y2 y3 τ' hi hm => ih.2.1 y2 y3 τ' hi (Nat.lt_of_lt_of_le hm (Nat.le_of_lt_succ h0))) (fun y2 y3 τ' hi hm => ih.2.2 y2 y3 τ' hi (Nat.lt_of_lt_of_le hm (Nat.le_of_lt_succ h0))))), (fun w2 w3 τ hinv h0 => seg_X5_boundOf_17 C x1 w2 w3 τ (ok_X5_boundOf_17 h hinv (fun y2 τ' hi hm => ih.1 y2 τ' hi (Nat.lt_of_lt_of_le hm (Nat.le_of_lt_succ h0))) (fun y2 y3 τ' hi hm => ih.2.1 y2 y3 τ' hi (Nat.lt_of_lt_of_le hm (Nat.le_of_lt_succ h0))))), (fun w2 w3 τ hinv h0 => seg_X5_boundOf_108 C x1 w2 w3 τ (ok_X5_boundOf_108 h hinv (fun y2 y3 τ' hi hm => ih.2.2 y2 y3 τ' hi (Nat.lt_of_lt_of_le hm (Nat.le_of_lt_succ h0)))))⟩
  exact seg_X5_boundOf_0 C x1 σ (ok_X5_boundOf_0 h (fun y2 τ' hi => (key _).1 y2 τ' hi (Nat.lt_succ_self _)))

/-! X5_bound -/
def pre_X5_bound (M : Nat) (x1 : Int) (σ : Mem) : Prop := RP M σ ∧ inR x1
def post_X5_bound (M : Nat) (x1 : Int) (σ : Mem) (z : Int) (σ' : Mem) : Prop := RFr σ σ' ∧ R_bound (gh σ) x1 z
def VC_X5_bound_0 (M : Nat) (post : Int → Mem → Prop) (x1 : Int) (σ : Mem) : Prop :=
  ∀ s1 : Mem, s1 = up σ 37 0 0 → (pre_X5_isMachine M x1 s1) ∧ ((P_X5_isMachine x1 s1 → (pre_X5_boundOf M x1 s1) ∧ ∀ (z6 : Int) (s5 : Mem), post_X5_boundOf M x1 s1 z6 s5 → post z6 s5) ∧ (¬ P_X5_isMachine x1 s1 → post (-1) s1))
set_option maxRecDepth 20000 in
set_option maxHeartbeats 4000000 in
theorem seg_X5_bound_0 {G : GG} {X : XX} {post : Int → Mem → Prop} (C : CX G X cX5_bound RX5 2 (some .int) 3)   (x1 : Int) (σ : Mem) (vc : VC_X5_bound_0 (gM G)  post  x1 σ) : RW G X 2 (QI G X post) 0 [(0, pR 37), (1, pI x1)] [] σ := by
  unfold VC_X5_bound_0 at vc
  refine w_aload_n C 0 dX5_bound_0 rfl ?_
  refine w_iconst C dX5_bound_1 ?_
  refine w_putI C 0 dX5_bound_2 pf_X5_69 ob_37 rfl rfl ?_
  refine w_mem (fun s1 hs1 => ?_)
  have vc := vc s1 hs1
  refine w_aload_n C 0 dX5_bound_5 rfl ?_
  refine w_iload_n C 1 dX5_bound_6 rfl ?_
  obtain ⟨sc2, vc⟩ := vc
  refine w_callVI C [pI x1] [] rfl dX5_bound_7 (c_X5_isMachine C.gi (xL X) x1 s1 sc2) oc_37 mw_X5_isMachine ml_X5_83 im_X5_isMachine se_X5_isMachine (by decide) (Nat.le_of_ble_eq_true rfl) (fun z σ' hz => ?_)
  obtain ⟨hz2, hz⟩ := hz
  have hz2 := hz2.symm
  subst hz2
  rcases hz with ⟨h3, rfl⟩ | ⟨h3, rfl⟩
  · have vc := vc.1 h3
    refine w_if_eq C 21 dX5_bound_10 (by decide) ⟨by omega, by omega⟩ (fun q => absurd q (by decide)) (fun _ => ?_)
    refine w_aload_n C 0 dX5_bound_13 rfl ?_
    refine w_iload_n C 1 dX5_bound_14 rfl ?_
    obtain ⟨sc4, vc⟩ := vc
    refine w_callVI C [pI x1] [] rfl dX5_bound_15 (c_X5_boundOf C.gi (xL X) x1 s1 sc4) oc_37 mw_X5_boundOf ml_X5_150 im_X5_boundOf se_X5_boundOf (by decide) (Nat.le_of_ble_eq_true rfl) (fun z6 s5 hs5 => ?_)
    have vc := vc z6 s5 hs5
    refine w_goto C 22 dX5_bound_18 (by decide) ?_
    exact w_ireturn C dX5_bound_22 vc
  · have vc := vc.2 h3
    refine w_if_eq C 21 dX5_bound_10 (by decide) ⟨by omega, by omega⟩ (fun _ => ?_) (fun q => absurd q (by decide))
    refine w_iconst C dX5_bound_21 ?_
    exact w_ireturn C dX5_bound_22 vc
set_option maxHeartbeats 1000000 in
theorem ok_X5_bound_0 {M : Nat} {x1 : Int} {σ : Mem} (h : pre_X5_bound M x1 σ) : VC_X5_bound_0 M (post_X5_bound M x1 σ) x1 σ := by
  obtain ⟨h, r1⟩ := h
  obtain ⟨hW, hR⟩ := id h
  intro s1 e1
  have f1 : RFr σ s1 := by rw [e1]; exact thr_fr σ 0
  have hR1 := RM_fr f1 hR
  have eg := gh_eq f1.FM
  have em := isMachine_r hW hR1 x1
  refine ⟨⟨RM_NB hW hR1, r1⟩, fun g => ⟨⟨RP_fr f1 h, r1⟩, fun z s5 h5 => ?_⟩, fun g => ⟨f1, Or.inl ⟨fun q => g (em.mpr q), rfl⟩⟩⟩
  obtain ⟨f5, q5⟩ := h5
  rw [eg] at q5
  refine ⟨f1.trans f5.RFr, Or.inr ?_⟩
  rcases q5 with ⟨q1, q2⟩ | ⟨q1, q2, -⟩
  · exact Or.inl ⟨em.mp g, q1, q2⟩
  · exact Or.inr ⟨em.mp g, q1, q2⟩
theorem c_X5_bound {G : GG} (hG : GI G) (l : Launch) (x1 : Int) (σ : Mem) (h : pre_X5_bound (gM G) x1 σ) : CtI G l yX5_bound cX5_bound 2 (some .int) 3 [pR 37, pI x1] σ (post_X5_bound (gM G) x1 σ) := by
  refine CtI.of hG (by decide) (Nat.le_of_ble_eq_true rfl) (fun X hl C => ?_)
  show RW G X 2 (QI G X _) 0 [(0, pR 37), (1, pI x1)] [] σ
  exact seg_X5_bound_0 C x1 σ (ok_X5_bound_0 h)

/-! X5_lowOf -/
def pre_X5_lowOf (M : Nat) (σ : Mem) : Prop := RP M σ
def post_X5_lowOf (M : Nat) (σ : Mem) (z : Int) (σ' : Mem) : Prop := RB σ σ' ∧ LOW M (gh σ) z
def inv_X5_lowOf_4 (M : Nat) (σ : Mem) (w1 w2 : Int) (τ : Mem) : Prop := RB σ τ ∧ 0 ≤ w2 ∧ w2 ≤ M ∧ LWp (gh σ) w2 0 w1
def mu_X5_lowOf_4 (w1 w2 : Int) (τ : Mem) : Nat := (100 + (5 - w2)).toNat
def inv_X5_lowOf_37 (M : Nat) (σ : Mem) (w1 w2 : Int) (τ : Mem) : Prop := RB σ τ ∧ 0 ≤ w2 ∧ w2 ≤ gh σ 1 1 ∧ LWp (gh σ) M w2 w1
def mu_X5_lowOf_37 (w1 w2 : Int) (τ : Mem) : Nat := (8 - w2).toNat
def VC_X5_lowOf_0 (M : Nat) (K4 : Int → Int → Mem → Prop) (post : Int → Mem → Prop)  (σ : Mem) : Prop :=
  K4 0 0 σ
set_option maxRecDepth 20000 in
set_option maxHeartbeats 4000000 in
theorem seg_X5_lowOf_0 {G : GG} {X : XX} {post : Int → Mem → Prop} (C : CX G X cX5_lowOf RX5 4 (some .int) 3)    (σ : Mem) (vc : VC_X5_lowOf_0 (gM G) (fun w1 w2 σ => RW G X 4 (QI G X post) 4 [(0, pR 37), (1, pI w1), (2, pI w2)] [] σ) post   σ) : RW G X 4 (QI G X post) 0 [(0, pR 37)] [] σ := by
  unfold VC_X5_lowOf_0 at vc
  refine w_iconst C dX5_lowOf_0 ?_
  refine w_istore_n C [(1, pI 0), (0, pR 37)] dX5_lowOf_1 (by decide) rfl ?_
  refine w_iconst C dX5_lowOf_2 ?_
  refine w_istore_n C [(2, pI 0), (1, pI 0), (0, pR 37)] dX5_lowOf_3 (by decide) rfl ?_
  exact w_sub _ [2, 1, 0] rfl vc
def VC_X5_lowOf_4 (M : Nat) (K4 : Int → Int → Mem → Prop) (K37 : Int → Int → Mem → Prop) (post : Int → Mem → Prop) (w1 : Int) (w2 : Int) (σ : Mem) : Prop :=
 (inR w2 ∧ inR (σ 37 1)) ∧ (((σ 37 1) ≤ w2 → K37 w1 0 σ) ∧ (w2 < (σ 37 1) → (pre_X5_boundOf M w2 σ) ∧ ∀ (z6 : Int) (s5 : Mem), post_X5_boundOf M w2 σ z6 s5 → (inR z6 ∧ inR w1) ∧ ((z6 ≤ w1 → True) ∧ (w1 < z6 → True) ∧ ∀ j11 : Int, (z6 ≤ w1 → j11 = w1) → (w1 < z6 → j11 = z6) → K4 j11 (w2 + 1) s5)))
set_option maxRecDepth 20000 in
set_option maxHeartbeats 4000000 in
theorem seg_X5_lowOf_4 {G : GG} {X : XX} {post : Int → Mem → Prop} (C : CX G X cX5_lowOf RX5 4 (some .int) 3)   (w1 : Int) (w2 : Int) (σ : Mem) (vc : VC_X5_lowOf_4 (gM G) (fun w1 w2 σ => RW G X 4 (QI G X post) 4 [(0, pR 37), (1, pI w1), (2, pI w2)] [] σ) (fun w1 w2 σ => RW G X 4 (QI G X post) 37 [(0, pR 37), (1, pI w1), (2, pI w2)] [] σ) post  w1 w2 σ) : RW G X 4 (QI G X post) 4 [(0, pR 37), (1, pI w1), (2, pI w2)] [] σ := by
  unfold VC_X5_lowOf_4 at vc
  refine w_iload_n C 2 dX5_lowOf_4 rfl ?_
  refine w_aload_n C 0 dX5_lowOf_5 rfl ?_
  refine w_getI C 1 dX5_lowOf_6 gf_X5_65 ob_37 rfl rfl ?_
  obtain ⟨⟨sc1, sc2⟩, vc⟩ := vc
  refine w_icmp_ge C 35 dX5_lowOf_9 (by decide) sc1 sc2 (fun h3 => ?_) (fun h3 => ?_)
  · have vc := vc.1 h3
    refine w_iconst C dX5_lowOf_35 ?_
    refine w_istore_n C [(2, pI 0), (0, pR 37), (1, pI w1)] dX5_lowOf_36 (by decide) rfl ?_
    exact w_sub _ [1, 2, 0] rfl vc
  · have vc := vc.2 h3
    refine w_aload_n C 0 dX5_lowOf_12 rfl ?_
    refine w_iload_n C 2 dX5_lowOf_13 rfl ?_
    obtain ⟨sc4, vc⟩ := vc
    refine w_callVI C [pI w2] [] rfl dX5_lowOf_14 (c_X5_boundOf C.gi (xL X) w2 σ sc4) oc_37 mw_X5_boundOf ml_X5_150 im_X5_boundOf se_X5_boundOf (by decide) (Nat.le_of_ble_eq_true rfl) (fun z6 s5 hs5 => ?_)
    have vc := vc z6 s5 hs5
    refine w_istore_n C [(3, pI z6), (0, pR 37), (1, pI w1), (2, pI w2)] dX5_lowOf_17 (by decide) rfl ?_
    refine w_iload_n C 0 dX5_lowOf_18 rfl ?_
    refine w_iload_n C 2 dX5_lowOf_19 rfl ?_
    obtain ⟨⟨sc7, sc8⟩, vc⟩ := vc
    have key10 : ∀ j11 : Int, (z6 ≤ w1 → j11 = w1) → (w1 < z6 → j11 = z6) → RW G X 4 (QI G X post) 28 [(3, pI z6), (0, pR 37), (1, pI w1), (2, pI w2)] [pI j11] s5 := by
      intro j11 hj12 hj13
      have vc := vc.2.2 j11 hj12 hj13
      refine w_istore_n C [(1, pI j11), (3, pI z6), (0, pR 37), (2, pI w2)] dX5_lowOf_28 (by decide) rfl ?_
      refine w_iinc C 3 [(2, pI (w2 + 1)), (1, pI j11), (3, pI z6), (0, pR 37)] dX5_lowOf_29 rfl (by decide) rfl ?_
      refine w_goto C 4 dX5_lowOf_32 (by decide) ?_
      exact w_sub _ [3, 1, 0] rfl vc
    refine w_icmp_le C 27 dX5_lowOf_20 (by decide) sc7 sc8 (fun h9 => ?_) (fun h9 => ?_)
    · have vc := vc.1 h9
      refine w_iload_n C 2 dX5_lowOf_27 rfl ?_
      exact key10 _ (by intros; first | rfl | omega | (exfalso; omega) | contradiction) (by intros; first | rfl | omega | (exfalso; omega) | contradiction)
    · have vc := vc.2.1 h9
      refine w_iload_n C 0 dX5_lowOf_23 rfl ?_
      refine w_goto C 28 dX5_lowOf_24 (by decide) ?_
      exact key10 _ (by intros; first | rfl | omega | (exfalso; omega) | contradiction) (by intros; first | rfl | omega | (exfalso; omega) | contradiction)
def VC_X5_lowOf_37 (M : Nat) (K37 : Int → Int → Mem → Prop) (post : Int → Mem → Prop) (w1 : Int) (w2 : Int) (σ : Mem) : Prop :=
 (inR w2 ∧ inR (σ 37 2)) ∧ (((σ 37 2) ≤ w2 → post w1 σ) ∧ (w2 < (σ 37 2) → (0 ≤ w2 ∧ w2 < 8) ∧ (inR (σ 41 w2)) ∧ ((¬ (σ 41 w2) = 0 → (0 ≤ w2 ∧ w2 < 8) ∧ (pre_X5_leftOf M (6 * w2) σ) ∧ True) ∧ ((σ 41 w2) = 0 → True) ∧ ∀ j12 : Int, (¬ (σ 41 w2) = 0 → j12 = (σ 38 w2) + (f_X5_leftOf (6 * w2) σ)) → ((σ 41 w2) = 0 → j12 = 0) → (inR j12 ∧ inR w1) ∧ ((j12 ≤ w1 → True) ∧ (w1 < j12 → True) ∧ ∀ j19 : Int, (j12 ≤ w1 → j19 = w1) → (w1 < j12 → j19 = j12) → K37 j19 (w2 + 1) σ))))
set_option maxRecDepth 20000 in
set_option maxHeartbeats 4000000 in
theorem seg_X5_lowOf_37 {G : GG} {X : XX} {post : Int → Mem → Prop} (C : CX G X cX5_lowOf RX5 4 (some .int) 3)   (w1 : Int) (w2 : Int) (σ : Mem) (vc : VC_X5_lowOf_37 (gM G) (fun w1 w2 σ => RW G X 4 (QI G X post) 37 [(0, pR 37), (1, pI w1), (2, pI w2)] [] σ) post  w1 w2 σ) : RW G X 4 (QI G X post) 37 [(0, pR 37), (1, pI w1), (2, pI w2)] [] σ := by
  unfold VC_X5_lowOf_37 at vc
  refine w_iload_n C 2 dX5_lowOf_37 rfl ?_
  refine w_aload_n C 0 dX5_lowOf_38 rfl ?_
  refine w_getI C 2 dX5_lowOf_39 gf_X5_72 ob_37 rfl rfl ?_
  obtain ⟨⟨sc1, sc2⟩, vc⟩ := vc
  refine w_icmp_ge C 91 dX5_lowOf_42 (by decide) sc1 sc2 (fun h3 => ?_) (fun h3 => ?_)
  · have vc := vc.1 h3
    refine w_iload_n C 1 dX5_lowOf_91 rfl ?_
    exact w_ireturn C dX5_lowOf_92 vc
  · have vc := vc.2 h3
    refine w_aload_n C 0 dX5_lowOf_45 rfl ?_
    refine w_getR C dX5_lowOf_46 gf_X5_19 ob_37 rfl ?_
    refine w_iload_n C 2 dX5_lowOf_49 rfl ?_
    obtain ⟨⟨sc4, sc5⟩, vc⟩ := vc
    refine w_iald C dX5_lowOf_50 ia_41 sc4 sc5 ?_
    obtain ⟨sc6, vc⟩ := vc
    have key8 : ∀ j12 : Int, (¬ (σ 41 w2) = 0 → j12 = (σ 38 w2) + (f_X5_leftOf (6 * w2) σ)) → ((σ 41 w2) = 0 → j12 = 0) → RW G X 4 (QI G X post) 73 [(0, pR 37), (1, pI w1), (2, pI w2)] [pI j12] σ := by
      intro j12 hj13 hj14
      have vc := vc.2.2 j12 hj13 hj14
      refine w_istore_n C [(3, pI j12), (0, pR 37), (1, pI w1), (2, pI w2)] dX5_lowOf_73 (by decide) rfl ?_
      refine w_iload_n C 0 dX5_lowOf_74 rfl ?_
      refine w_iload_n C 2 dX5_lowOf_75 rfl ?_
      obtain ⟨⟨sc15, sc16⟩, vc⟩ := vc
      have key18 : ∀ j19 : Int, (j12 ≤ w1 → j19 = w1) → (w1 < j12 → j19 = j12) → RW G X 4 (QI G X post) 84 [(3, pI j12), (0, pR 37), (1, pI w1), (2, pI w2)] [pI j19] σ := by
        intro j19 hj20 hj21
        have vc := vc.2.2 j19 hj20 hj21
        refine w_istore_n C [(1, pI j19), (3, pI j12), (0, pR 37), (2, pI w2)] dX5_lowOf_84 (by decide) rfl ?_
        refine w_iinc C 3 [(2, pI (w2 + 1)), (1, pI j19), (3, pI j12), (0, pR 37)] dX5_lowOf_85 rfl (by decide) rfl ?_
        refine w_goto C 37 dX5_lowOf_88 (by decide) ?_
        exact w_sub _ [3, 1, 0] rfl vc
      refine w_icmp_le C 83 dX5_lowOf_76 (by decide) sc15 sc16 (fun h17 => ?_) (fun h17 => ?_)
      · have vc := vc.1 h17
        refine w_iload_n C 2 dX5_lowOf_83 rfl ?_
        exact key18 _ (by intros; first | rfl | omega | (exfalso; omega) | contradiction) (by intros; first | rfl | omega | (exfalso; omega) | contradiction)
      · have vc := vc.2.1 h17
        refine w_iload_n C 0 dX5_lowOf_79 rfl ?_
        refine w_goto C 84 dX5_lowOf_80 (by decide) ?_
        exact key18 _ (by intros; first | rfl | omega | (exfalso; omega) | contradiction) (by intros; first | rfl | omega | (exfalso; omega) | contradiction)
    refine w_if_ne C 58 dX5_lowOf_51 (by decide) sc6 (fun h7 => ?_) (fun h7 => ?_)
    · have vc := vc.1 h7
      refine w_aload_n C 0 dX5_lowOf_58 rfl ?_
      refine w_getR C dX5_lowOf_59 gf_X5_7 ob_37 rfl ?_
      refine w_iload_n C 2 dX5_lowOf_62 rfl ?_
      obtain ⟨⟨sc9, sc10⟩, vc⟩ := vc
      refine w_iald C dX5_lowOf_63 ia_38 sc9 sc10 ?_
      refine w_aload_n C 0 dX5_lowOf_64 rfl ?_
      refine w_bipush C dX5_lowOf_65 (by decide) ?_
      refine w_iload_n C 2 dX5_lowOf_67 rfl ?_
      refine w_imul C dX5_lowOf_68 ?_
      obtain ⟨sc11, vc⟩ := vc
      refine w_callVI C [pI (6 * w2)] [pI (σ 38 w2)] rfl dX5_lowOf_69 (c_X5_leftOf C.gi (xL X) (6 * w2) σ sc11) oc_37 mw_X5_leftOf ml_X5_110 im_X5_leftOf se_X5_leftOf (by decide) (Nat.le_of_ble_eq_true rfl) (fun z σ' hz => ?_)
      obtain ⟨rfl, hz2⟩ := hz
      have hz2 := hz2.symm
      subst hz2
      refine w_iadd C dX5_lowOf_72 ?_
      exact key8 _ (by intros; first | rfl | omega | (exfalso; omega) | contradiction) (by intros; first | rfl | omega | (exfalso; omega) | contradiction)
    · have vc := vc.2.1 h7
      refine w_iconst C dX5_lowOf_54 ?_
      refine w_goto C 73 dX5_lowOf_55 (by decide) ?_
      exact key8 _ (by intros; first | rfl | omega | (exfalso; omega) | contradiction) (by intros; first | rfl | omega | (exfalso; omega) | contradiction)
set_option maxHeartbeats 1000000 in
theorem ok_X5_lowOf_0 {M : Nat} {σ : Mem} {K4 : Int → Int → Mem → Prop} (h : pre_X5_lowOf M σ) (hK4 : ∀ (y1 y2 : Int) (τ' : Mem), inv_X5_lowOf_4 M σ y1 y2 τ' → K4 y1 y2 τ') : VC_X5_lowOf_0 M K4 (post_X5_lowOf M σ) σ := by
  exact hK4 _ _ _ ⟨RB.refl σ, by omega, by omega, by omega, by omega, fun m b m0 m1 => by omega, fun j j0 j1 => by omega, Or.inl rfl⟩
set_option maxHeartbeats 1000000 in
theorem ok_X5_lowOf_4 {M : Nat} {σ : Mem} {w1 w2 : Int} {τ : Mem} {K4 : Int → Int → Mem → Prop} {K37 : Int → Int → Mem → Prop} (h : pre_X5_lowOf M σ) (hinv : inv_X5_lowOf_4 M σ w1 w2 τ) (hK4 : ∀ (y1 y2 : Int) (τ' : Mem), inv_X5_lowOf_4 M σ y1 y2 τ' → mu_X5_lowOf_4 y1 y2 τ' < mu_X5_lowOf_4 w1 w2 τ → K4 y1 y2 τ') (hK37 : ∀ (y1 y2 : Int) (τ' : Mem), inv_X5_lowOf_37 M σ y1 y2 τ' → mu_X5_lowOf_37 y1 y2 τ' < mu_X5_lowOf_4 w1 w2 τ → K37 y1 y2 τ') : VC_X5_lowOf_4 M K4 K37 (post_X5_lowOf M σ) w1 w2 τ := by
  obtain ⟨hW, hR⟩ := id h
  obtain ⟨hF, i1, i2, l0, l1, l2, l3, l4⟩ := hinv
  have hRτ := RM_fr hF.RFr hR
  have hM : M ≤ 5 := hW.1.1.2.2.1
  have e1 := hRτ.1
  have hj := hW.1.1.2.2.2.1
  have eg := gh_eq hF.RFr.FM
  refine ⟨⟨⟨by omega, by omega⟩, ⟨by omega, by omega⟩⟩, fun g => ?_, fun g => ⟨⟨RP_fr hF.RFr h, ⟨by omega, by omega⟩⟩, fun z s5 h5 => ?_⟩⟩
  · have e : w2 = M := by omega
    subst e
    exact hK37 _ _ _ ⟨hF, by omega, hj.1, l0, l1, l2, l3, l4⟩ (by unfold mu_X5_lowOf_37 mu_X5_lowOf_4; omega)
  · obtain ⟨f5, q5⟩ := h5
    rw [eg] at q5
    have zi : -3 ≤ z ∧ z ≤ 4000 := by
      rcases q5 with ⟨-, q⟩ | ⟨-, -, q⟩ <;> omega
    refine ⟨⟨⟨by omega, by omega⟩, ⟨by omega, by omega⟩⟩, fun _ => trivial, fun _ => trivial, fun j11 k1 k2 => ?_⟩
    have ej : j11 = max w1 z := by
      clear l4 q5
      by_cases c : z ≤ w1
      · rw [k1 c]; omega
      · rw [k2 (by omega)]; omega
    refine hK4 _ _ _ ⟨hF.trans f5, by omega, by omega, by clear l4 q5; omega, by clear l4 q5; omega, fun m b m0 m1 m2 m3 => ?_, fun j j0 j1 => by omega, ?_⟩ (by unfold mu_X5_lowOf_4; omega)
    · by_cases e : m = w2
      · subst e
        rcases q5 with ⟨q, -⟩ | ⟨-, q, -⟩
        · omega
        · have := BND_uniq m3 q
          clear l4
          omega
      · have := l2 m b m0 (by omega) m2 m3
        clear l4 q5
        omega
    · by_cases c : z ≤ w1
      · rw [k1 c]
        rcases l4 with q | ⟨m, m0, m1, m2, m3⟩ | ⟨j, j0, j1, -⟩
        · exact Or.inl q
        · exact Or.inr (Or.inl ⟨m, m0, by omega, m2, m3⟩)
        · omega
      · rw [k2 (by omega)]
        rcases q5 with ⟨-, q⟩ | ⟨q, q', -⟩
        · clear l4
          omega
        · exact Or.inr (Or.inl ⟨w2, i1, by omega, q, q'⟩)
set_option maxHeartbeats 1000000 in
theorem ok_X5_lowOf_37 {M : Nat} {σ : Mem} {w1 w2 : Int} {τ : Mem} {K37 : Int → Int → Mem → Prop} (h : pre_X5_lowOf M σ) (hinv : inv_X5_lowOf_37 M σ w1 w2 τ) (hK37 : ∀ (y1 y2 : Int) (τ' : Mem), inv_X5_lowOf_37 M σ y1 y2 τ' → mu_X5_lowOf_37 y1 y2 τ' < mu_X5_lowOf_37 w1 w2 τ → K37 y1 y2 τ') : VC_X5_lowOf_37 M K37 (post_X5_lowOf M σ) w1 w2 τ := by
  obtain ⟨hW, hR⟩ := id h
  obtain ⟨hF, i1, i2, l0, l1, l2, l3, l4⟩ := hinv
  have hRτ := RM_fr hF.RFr hR
  have hj := hW.1.1.2.2.2.1
  have e2 := hRτ.2.1
  refine ⟨⟨⟨by omega, by omega⟩, ⟨by omega, by omega⟩⟩, fun g => ?_, fun g => ?_⟩
  · have e : w2 = gh σ 1 1 := by omega
    subst e
    exact ⟨hF, l0, l1, l2, l3, l4⟩
  · have h5 := hW.1.1.2.2.2.2.1 w2 i1 (by omega)
    have h2 := (hW.1.2.1 w2 i1 (by omega)).1
    have r3 := hRτ.2.2.1 w2 i1 (by omega)
    have ej : τ 38 w2 + f_X5_leftOf (6 * w2) τ = jbA (gh σ) w2 := by
      unfold f_X5_leftOf jbA
      rw [r3.1, show 6 * w2 / 6 = w2 by omega, r3.2.2.2]
      have := sum_r hW hRτ (u := 0) (v := gh σ 5 w2) i1 (by omega) (Int.le_refl _) h5.2
      rw [Int.add_zero] at this
      rw [this]
    have sb := sumI_bd (f := fun p => gh σ 7 (10 * w2 + p)) (lo := 0) (hi := gh σ 5 w2) (B := 50) (by omega) (fun p p1 p2 => (hW.1.2.2.2.1 (10 * w2 + p) (by omega) (by omega)).2) 6 (by omega)
    have jb : 0 ≤ jbA (gh σ) w2 ∧ jbA (gh σ) w2 ≤ 1300 := by unfold jbA; omega
    unfold VC_X5_lowOf_37 at *
    rw [ej, r3.2.2.2]
    refine ⟨⟨i1, by omega⟩, ⟨by omega, by omega⟩, fun q => ⟨⟨i1, by omega⟩, ⟨by omega, by omega, by rw [show 6 * w2 / 6 = w2 by omega, r3.2.2.2]; exact h5.1, by rw [show 6 * w2 / 6 = w2 by omega, r3.2.2.2]; exact h5.2⟩, trivial⟩, fun _ => trivial, fun j12 k1 k2 => ?_⟩
    have jb2 : 0 ≤ j12 ∧ j12 ≤ 1300 ∧ (0 < gh σ 5 w2 → j12 = jbA (gh σ) w2) ∧ (¬ 0 < gh σ 5 w2 → j12 = 0) := by
      by_cases q : gh σ 5 w2 = 0
      · rw [k2 q]; exact ⟨by omega, by omega, fun z => by omega, fun _ => rfl⟩
      · rw [k1 q]; exact ⟨jb.1, jb.2, fun _ => rfl, fun z => by omega⟩
    refine ⟨⟨⟨by omega, by omega⟩, ⟨by omega, by omega⟩⟩, fun _ => trivial, fun _ => trivial, fun j19 k3 k4 => ?_⟩
    have ej19 : j19 = max w1 j12 := by
      clear l4
      by_cases c : j12 ≤ w1
      · rw [k3 c]; omega
      · rw [k4 (by omega)]; omega
    refine hK37 _ _ _ ⟨hF, by omega, by omega, by clear l4; omega, by clear l4; omega, fun m b m0 m1 m2 m3 => ?_, fun j j0 j1 j2 => ?_, ?_⟩ (by unfold mu_X5_lowOf_37; omega)
    · have := l2 m b m0 m1 m2 m3
      clear l4
      omega
    · by_cases e : j = w2
      · subst e
        have := jb2.2.2.1 j2
        clear l4; omega
      · have := l3 j j0 (by omega) j2
        clear l4
        omega
    · by_cases c : j12 ≤ w1
      · rw [k3 c]
        rcases l4 with q | q | ⟨j, j0, j1, j2, j3⟩
        · exact Or.inl q
        · exact Or.inr (Or.inl q)
        · exact Or.inr (Or.inr ⟨j, j0, by omega, j2, j3⟩)
      · rw [k4 (by omega)]
        have hp : 0 < gh σ 5 w2 := by
          apply Classical.byContradiction
          intro z
          have := jb2.2.2.2 z
          omega
        exact Or.inr (Or.inr ⟨w2, i1, by omega, hp, (jb2.2.2.1 hp).symm⟩)
theorem c_X5_lowOf {G : GG} (hG : GI G) (l : Launch) (σ : Mem) (h : pre_X5_lowOf (gM G) σ) : CtI G l yX5_lowOf cX5_lowOf 4 (some .int) 3 [pR 37] σ (post_X5_lowOf (gM G) σ) := by
  refine CtI.of hG (by decide) (Nat.le_of_ble_eq_true rfl) (fun X hl C => ?_)
  show RW G X 4 (QI G X _) 0 [(0, pR 37)] [] σ
  have key : ∀ n : Nat, (∀ (w1 w2 : Int) (τ : Mem), inv_X5_lowOf_4 (gM G) σ w1 w2 τ → mu_X5_lowOf_4 w1 w2 τ < n → RW G X 4 (QI G X (post_X5_lowOf (gM G) σ)) 4 [(0, pR 37), (1, pI w1), (2, pI w2)] [] τ) ∧ (∀ (w1 w2 : Int) (τ : Mem), inv_X5_lowOf_37 (gM G) σ w1 w2 τ → mu_X5_lowOf_37 w1 w2 τ < n → RW G X 4 (QI G X (post_X5_lowOf (gM G) σ)) 37 [(0, pR 37), (1, pI w1), (2, pI w2)] [] τ) := by
    intro n
    induction n with
    | zero => exact ⟨fun w1 w2 τ _ h0 => absurd h0 (Nat.not_lt_zero _), fun w1 w2 τ _ h0 => absurd h0 (Nat.not_lt_zero _)⟩
    | succ n ih =>
      exact ⟨(fun w1 w2 τ hinv h0 => seg_X5_lowOf_4 C w1 w2 τ (ok_X5_lowOf_4 h hinv (fun y1 y2 τ' hi hm => ih.1 y1 y2 τ' hi (Nat.lt_of_lt_of_le hm (Nat.le_of_lt_succ h0))) (fun y1 y2 τ' hi hm => ih.2 y1 y2 τ' hi (Nat.lt_of_lt_of_le hm (Nat.le_of_lt_succ h0))))), (fun w1 w2 τ hinv h0 => seg_X5_lowOf_37 C w1 w2 τ (ok_X5_lowOf_37 h hinv (fun y1 y2 τ' hi hm => ih.2 y1 y2 τ' hi (Nat.lt_of_lt_of_le hm (Nat.le_of_lt_succ h0)))))⟩
  exact seg_X5_lowOf_0 C σ (ok_X5_lowOf_0 h (fun y1 y2 τ' hi => (key _).1 y1 y2 τ' hi (Nat.lt_succ_self _)))

/-! X5_low -/
def pre_X5_low (M : Nat) (σ : Mem) : Prop := RP M σ
def post_X5_low (M : Nat) (σ : Mem) (z : Int) (σ' : Mem) : Prop := RFr σ σ' ∧ LOW M (gh σ) z
def VC_X5_low_0 (M : Nat) (post : Int → Mem → Prop)  (σ : Mem) : Prop :=
  ∀ s1 : Mem, s1 = up σ 37 0 0 → (pre_X5_lowOf M s1) ∧ ∀ (z4 : Int) (s3 : Mem), post_X5_lowOf M s1 z4 s3 → post z4 s3
set_option maxRecDepth 20000 in
set_option maxHeartbeats 4000000 in
theorem seg_X5_low_0 {G : GG} {X : XX} {post : Int → Mem → Prop} (C : CX G X cX5_low RX5 1 (some .int) 4)    (σ : Mem) (vc : VC_X5_low_0 (gM G)  post   σ) : RW G X 1 (QI G X post) 0 [(0, pR 37)] [] σ := by
  unfold VC_X5_low_0 at vc
  refine w_aload_n C 0 dX5_low_0 rfl ?_
  refine w_iconst C dX5_low_1 ?_
  refine w_putI C 0 dX5_low_2 pf_X5_69 ob_37 rfl rfl ?_
  refine w_mem (fun s1 hs1 => ?_)
  have vc := vc s1 hs1
  refine w_aload_n C 0 dX5_low_5 rfl ?_
  obtain ⟨sc2, vc⟩ := vc
  refine w_callVI C [] [] rfl dX5_low_6 (c_X5_lowOf C.gi (xL X)  s1 sc2) oc_37 mw_X5_lowOf ml_X5_153 im_X5_lowOf se_X5_lowOf (by decide) (Nat.le_of_ble_eq_true rfl) (fun z4 s3 hs3 => ?_)
  have vc := vc z4 s3 hs3
  exact w_ireturn C dX5_low_9 vc
set_option maxHeartbeats 1000000 in
theorem ok_X5_low_0 {M : Nat} {σ : Mem} (h : pre_X5_low M σ) : VC_X5_low_0 M (post_X5_low M σ) σ := by
  intro s1 e1
  have f1 : RFr σ s1 := by rw [e1]; exact thr_fr σ 0
  have eg := gh_eq f1.FM
  refine ⟨RP_fr f1 h, fun z s3 h3 => ?_⟩
  obtain ⟨f3, q3⟩ := h3
  rw [eg] at q3
  exact ⟨f1.trans f3.RFr, q3⟩
theorem c_X5_low {G : GG} (hG : GI G) (l : Launch) (σ : Mem) (h : pre_X5_low (gM G) σ) : CtI G l yX5_low cX5_low 1 (some .int) 4 [pR 37] σ (post_X5_low (gM G) σ) := by
  refine CtI.of hG (by decide) (Nat.le_of_ble_eq_true rfl) (fun X hl C => ?_)
  show RW G X 1 (QI G X _) 0 [(0, pR 37)] [] σ
  exact seg_X5_low_0 C σ (ok_X5_low_0 h)

/-! X5_share -/
/-- what share answers, and whether it throws (k) -/
def R_share (M : Nat) (a : Mem) (z k : Int) : Prop := (NP M a ∧ z = -9223372036854775808 ∧ k = 0) ∨ ∃ B g w, PLN M a B ∧ SPN a Tr B g ∧ LOW M a w ∧ ((w = 0 ∧ k = 1) ∨ (w ≠ 0 ∧ z = 1000 * g / w ∧ k = 0))
theorem R_share_det {M : Nat} {a : Mem} (h : WF M a) {z k z' k' : Int} (x : R_share M a z k) (y : R_share M a z' k') : k = k' ∧ (k = 0 → z = z') := by
  rcases x with ⟨x1, x2, x3⟩ | ⟨B, g, w, x1, x2, x3, x4⟩ <;> rcases y with ⟨y1, y2, y3⟩ | ⟨B', g', w', y1, y2, y3, y4⟩
  · exact ⟨by omega, fun _ => by omega⟩
  · exact absurd ⟨B', y1⟩ x1
  · exact absurd ⟨B, x1⟩ y1
  · have eg := PLN_span h x1 y1 x2 y2
    have ew := LOW_uniq x3 y3
    subst eg
    subst ew
    rcases x4 with ⟨p, q⟩ | ⟨p, q, r⟩ <;> rcases y4 with ⟨p', q'⟩ | ⟨p', q', r'⟩
    · exact ⟨by omega, fun _ => by omega⟩
    · exact absurd p p'
    · exact absurd p' p
    · exact ⟨by omega, fun _ => by rw [q, q']⟩
def pre_X5_share (M : Nat) (σ : Mem) : Prop := RP M σ
def post_X5_share (M : Nat) (σ : Mem) (z : Int) (σ' : Mem) : Prop := RFr σ σ' ∧ R_share M (gh σ) z (σ' 37 0)
def VC_X5_share_0 (M : Nat) (post : Int → Mem → Prop)  (σ : Mem) : Prop :=
  ∀ s1 : Mem, s1 = up σ 37 0 0 → (pre_X5_plan M s1) ∧ ∀ s3 : Mem, post_X5_plan M s1 s3 → (inR (s3 37 15)) ∧ (((s3 37 15) = 0 → (pre_X5_lowOf M s3) ∧ ∀ (z8 : Int) (s7 : Mem), post_X5_lowOf M s3 z8 s7 → (inR z8) ∧ ((¬ z8 = 0 → (inR (s7 37 16)) ∧ (inR z8) ∧ (0 ≤ (1000 * (s7 37 16)) ∧ inL (1000 * (s7 37 16)) ∧ inL z8 ∧ 0 < z8) ∧ post ((1000 * (s7 37 16)) / z8) s7) ∧ (z8 = 0 → ∀ s17 : Mem, s17 = up s7 37 0 1 → post 0 s17))) ∧ (¬ (s3 37 15) = 0 → post (-9223372036854775808) s3))
set_option maxRecDepth 20000 in
set_option maxHeartbeats 4000000 in
theorem seg_X5_share_0 {G : GG} {X : XX} {post : Int → Mem → Prop} (C : CX G X cX5_share RX5 2 (some .long) 4)    (σ : Mem) (vc : VC_X5_share_0 (gM G)  post   σ) : RW G X 2 (QL G X post) 0 [(0, pR 37)] [] σ := by
  unfold VC_X5_share_0 at vc
  refine w_aload_n C 0 dX5_share_0 rfl ?_
  refine w_iconst C dX5_share_1 ?_
  refine w_putI C 0 dX5_share_2 pf_X5_69 ob_37 rfl rfl ?_
  refine w_mem (fun s1 hs1 => ?_)
  have vc := vc s1 hs1
  refine w_aload_n C 0 dX5_share_5 rfl ?_
  obtain ⟨sc2, vc⟩ := vc
  refine w_callVV C [] [] rfl dX5_share_6 (c_X5_plan C.gi (xL X)  s1 sc2) oc_37 mw_X5_plan ml_X5_130 im_X5_plan se_X5_plan (by decide) (Nat.le_of_ble_eq_true rfl) (fun s3 hs3 => ?_)
  have vc := vc s3 hs3
  refine w_aload_n C 0 dX5_share_9 rfl ?_
  refine w_getI C 15 dX5_share_10 gf_X5_113 ob_37 rfl rfl ?_
  obtain ⟨sc4, vc⟩ := vc
  refine w_if_eq C 20 dX5_share_13 (by decide) sc4 (fun h5 => ?_) (fun h5 => ?_)
  · have vc := vc.1 h5
    refine w_aload_n C 0 dX5_share_20 rfl ?_
    obtain ⟨sc6, vc⟩ := vc
    refine w_callVI C [] [] rfl dX5_share_21 (c_X5_lowOf C.gi (xL X)  s3 sc6) oc_37 mw_X5_lowOf ml_X5_153 im_X5_lowOf se_X5_lowOf (by decide) (Nat.le_of_ble_eq_true rfl) (fun z8 s7 hs7 => ?_)
    have vc := vc z8 s7 hs7
    refine w_istore_n C [(1, pI z8), (0, pR 37)] dX5_share_24 (by decide) rfl ?_
    refine w_iload_n C 0 dX5_share_25 rfl ?_
    obtain ⟨sc9, vc⟩ := vc
    refine w_if_ne C 36 dX5_share_26 (by decide) sc9 (fun h10 => ?_) (fun h10 => ?_)
    · have vc := vc.1 h10
      refine w_ldc2 (n := 1000) C dX5_share_36 cs_X5_157 ?_
      refine w_aload_n C 1 dX5_share_39 rfl ?_
      refine w_getI C 16 dX5_share_40 gf_X5_116 ob_37 rfl rfl ?_
      obtain ⟨sc11, vc⟩ := vc
      refine w_i2l C dX5_share_43 sc11 ?_
      refine w_lmul C dX5_share_44 ?_
      refine w_iload_n C 0 dX5_share_45 rfl ?_
      obtain ⟨sc12, vc⟩ := vc
      refine w_i2l C dX5_share_46 sc12 ?_
      obtain ⟨⟨sc13, sc14, sc15, sc16⟩, vc⟩ := vc
      refine w_ldivN C dX5_share_47 sc13 sc14 sc15 sc16 ?_
      exact w_lreturn C dX5_share_48 vc
    · have vc := vc.2 h10
      refine w_aload_n C 1 dX5_share_29 rfl ?_
      refine w_iconst C dX5_share_30 ?_
      refine w_putI C 0 dX5_share_31 pf_X5_69 ob_37 rfl rfl ?_
      refine w_mem (fun s17 hs17 => ?_)
      have vc := vc s17 hs17
      refine w_lconst (z := 0) C dX5_share_34 (by decide) ?_
      exact w_lreturn C dX5_share_35 vc
  · have vc := vc.2 h5
    refine w_ldc2 (n := -9223372036854775808) C dX5_share_16 cs_X5_136 ?_
    exact w_lreturn C dX5_share_19 vc
set_option maxHeartbeats 1000000 in
theorem ok_X5_share_0 {M : Nat} {σ : Mem} (h : pre_X5_share M σ) : VC_X5_share_0 M (post_X5_share M σ) σ := by
  intro s1 e1
  obtain ⟨p1, p2⟩ := plan_q h e1
  refine ⟨p1, fun s3 h3 => ?_⟩
  obtain ⟨f3, q, r3, t0⟩ := p2 s3 h3
  obtain ⟨t1, t2, t3⟩ := STs_in q
  have eg := gh_eq f3.FM
  refine ⟨t1, fun g => ⟨RP_fr f3 h, fun z8 s7 h7 => ?_⟩, fun g => ⟨f3, Or.inl ⟨t3 g, rfl, t0⟩⟩⟩
  obtain ⟨f7, q7⟩ := h7
  rw [eg] at q7
  have T := t2 g
  have hb := T.2.2.2.1
  have e16 : s7 37 16 = s3 37 16 := f7.2 16 (by omega)
  have e0 : s7 37 0 = 0 := by rw [f7.2 0 (by omega)]; exact t0
  have z0 := q7.1
  have z1 := q7.2.1
  rw [e16]
  refine ⟨⟨by omega, by omega⟩, fun g2 => ⟨⟨by omega, by omega⟩, ⟨by omega, by omega⟩, ⟨by omega, ⟨by omega, by omega⟩, ⟨by omega, by omega⟩, by omega⟩, f3.trans f7.RFr, Or.inr ⟨_, _, z8, T.1, T.2.1, q7, Or.inr ⟨g2, rfl, e0⟩⟩⟩, fun g2 s17 e17 => ⟨?_, Or.inr ⟨_, _, z8, T.1, T.2.1, q7, Or.inl ⟨g2, by rw [e17, up_self]⟩⟩⟩⟩
  rw [e17]
  exact (f3.trans f7.RFr).trans (thr_fr s7 1)
theorem c_X5_share {G : GG} (hG : GI G) (l : Launch) (σ : Mem) (h : pre_X5_share (gM G) σ) : CtL G l yX5_share cX5_share 2 (some .long) 4 [pR 37] σ (post_X5_share (gM G) σ) := by
  refine CtL.of hG (by decide) (Nat.le_of_ble_eq_true rfl) (fun X hl C => ?_)
  show RW G X 2 (QL G X _) 0 [(0, pR 37)] [] σ
  exact seg_X5_share_0 C σ (ok_X5_share_0 h)
