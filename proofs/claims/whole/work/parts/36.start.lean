/-! the law's cell(), and the world at the loop's begin -/
theorem c_L_cell (l : Launch) (b L : Nat) (xs : Nat → Int32) (hL : L ≤ 2561) : Met l yL_cell (wsY yL_cell cL_cell 2 (some .int)) (rmL 0) (va_Pc [.ref b, .int (oI 0)] (fun U => va_X b L xs U U.heap)) (va_Qi (fun r (_ : Unit) => r = if 0 < L then xs 0 else 0) (fun _ _ => True) (fun _ => False)) 0 0 (fun _ => False) := by
  refine Met.ofW (cc := cL_cell) (maxL := 2) (ret := some .int) (by decide) rfl ?_
  intro p e s m args below meth c s₁ B hml hv
  obtain ⟨rfl, hX⟩ := hv
  have hx := B.exec
  have hb := B.bytes
  have hbl : b < s.heap.size := by
    obtain ⟨scr, h1, -⟩ := hX
    exact (Array.getElem?_eq_some_iff.mp h1).1
  have hl := lv_entry ([.ref b, .int (oI 0)] : List Value) (n := 2) (Nat.le_of_ble_eq_true rfl)
  rw [lg_entry_eq]
  generalize (lg_sl ([.ref b, .int (oI 0)] : List Value) ++ List.replicate (2 - (lg_sl ([.ref b, .int (oI 0)] : List Value)).length) Slot.unset).toArray = ls at hl ⊢
  have hl : lv_has ls 2 [(0, .ref b), (1, .int (oI 0))] := hl
  have hS : va_S (fun _ => False) s.heap s.heap [] := va_S.rf
  refine lv_iload_n hx hb dL_cell_0 rfl (lv_at hl 1 rfl) ?_
  refine lv_aload_n hx hb dL_cell_1 rfl (lv_at hl 0 rfl) ?_
  refine va_slen hx hb hX hbl (fun z => z) hS dL_cell_2 ?_
  have e0 : (Int32.ofNat L) = oI (L : Int) := rfl
  rw [e0]
  have r0 : inR 0 := ⟨by omega, by omega⟩
  have rL : inR (L : Int) := ⟨by omega, by omega⟩
  have fin : ∀ (r : Int32) (pc : Nat), decode cL_cell pc = .ok (.ireturn, 1) → r = (if 0 < L then xs 0 else 0) → W p l e (headSpec (wsY yL_cell cL_cell 2 (some .int)) (rmL 0)).room s m ([.ref b, .int (oI 0)] : List Value).toArray below meth c s.heap [] 0 0 (MQ below (va_Qi (fun r (_ : Unit) => r = if 0 < L then xs 0 else 0) (fun _ _ => True) (fun _ => False)) ([.ref b, .int (oI 0)] : List Value).toArray s 0 0 (fun _ => False)) (F0 m pc ls [.int r]) := fun r pc hd hr => W.iret hx hb B.returns (fun t ht hw => ⟨⟨r, (), rfl, hr, trivial⟩, hS.F ht⟩) hS.2.2 hd (hlocks := B.notSynchronized)
  refine lv_icmp_ge (tgt := 12) hx hb dL_cell_3 (by decide) (fun q => ?_) (fun q => ?_)
  · have := (oI_le rL r0).mp q
    refine lv_iconst (v := 0) hx hb dL_cell_12 (by decide) ?_
    exact fin 0 13 dL_cell_13 (by rw [if_neg (by omega)])
  · have : 0 < L := by
      apply Nat.pos_of_ne_zero
      intro z
      subst z
      exact q ((oI_le rL r0).mpr (by omega))
    have hin : vp_in (oI 0) L := by rw [vp_in_iff, oI_toInt r0]; omega
    refine lv_aload_n hx hb dL_cell_6 rfl (lv_at hl 0 rfl) ?_
    refine lv_iload_n hx hb dL_cell_7 rfl (lv_at hl 1 rfl) ?_
    refine va_sld hx hb hX hbl (fun z => z) hS hin dL_cell_8 ?_
    refine lv_goto (tgt := 13) hx hb dL_cell_9 (by decide) ?_
    exact fin _ 13 dL_cell_13 (by rw [if_pos this]; rfl)
theorem mw_L_cell' : MW yL_cell cL_cell 2 (some .int) 2 := mw_L_cell
theorem r_cell {Y : YY} {cc : ByteArray} {nL lev mc ms : Nat} {Q : State → Prop} {pc : Nat} {lv : List (Nat × Value)} {st : List Value} {w : va_W} {ce sl : Nat} (C : CY Y cc RL nL lev mc ms) {idx b L : Nat} {xs : Nat → Int32} (hL : L ≤ 2561) (hX : va_X b L xs Y.1.2.2.2.2 Y.1.2.2.2.2.heap) (hbA : ¬ Y.2.2.1 b) (hd : decode cc pc = .ok (.invokestatic idx, 3)) (hl1 : Cond.methodLink RL idx yL_cell ∈ TB) (hlev : 0 < lev) (hst : (st.map fun v => v.category).sum ≤ 8) (h1 : ce ≤ mc) (h2 : sl ≤ ms) (kk : RC Y nL Q (pc + 3) lv (.int (if 0 < L then xs 0 else 0) :: st) w ce sl) : RC Y nL Q pc lv (.int (oI 0) :: .ref b :: st) w ce sl := by
  obtain ⟨⟨p, l, e9, R, s⟩, ⟨m, args, below, meth, c⟩, A, D, cy⟩ := Y
  obtain ⟨hx, hb, hml, hown, hts, hK, hA, hlocks, hR⟩ := C
  intro H locs ls hP hD hS hl
  have hbl : b < s.heap.size := by
    obtain ⟨scr, g1, -⟩ := hX
    exact (Array.getElem?_eq_some_iff.mp g1).1
  have hXH : va_X b L xs s H := hX.kept (hS.2.1 b hbl hbA)
  obtain ⟨g1, g2, g3, g4, g5, g6⟩ := mw_L_cell
  have hcb : CallB R s args RL idx yL_cell cL_cell 2 (some .int) (wsY yL_cell cL_cell 2 (some .int)) (rmL 0) 0 0 2 := by
    refine callB_of (Ts := TB) (ws' := TB) 2 hts (fun w9 h9 => ?_) rfl rfl rfl (hts _ g1) (hts _ hl1) ⟨g3, g4, g5⟩ ⟨?_, ?_⟩
    · rcases List.mem_cons.mp h9 with rfl | h9
      · exact TB_good _ g2
      · exact TB_good _ h9
    · show 0 + 1 + 1 ≤ R.frames
      omega
    · show 8 + (2 + 11) + 34 * (0 + 1) ≤ R.locals
      omega
  refine va_calli (va_runS (bytes := cL_cell) (maxL := 2) (ret := some .int) (n := 2) (As := [.ref b, .int (oI 0)]) (rest := st) (Ts := TB) ⟨hx, hb, hml, hown, hts⟩ (c_L_cell l b L xs hL) ⟨hcb, hts _ ss_L_cell⟩ ⟨fun a U g mk q => ⟨q.1, va_X.moved (u := U) (U := U.calling g mk a) (Vm.Alike.refl U.vm) q.2⟩, fun U hU hW => ⟨rfl, by show va_X b L xs U U.heap; rw [hU]; exact va_X.moved hW.alike hXH⟩⟩ rfl rfl hl.1 rfl (lv_room hst) hd ⟨by omega, by omega⟩) hS (fun q _ z => z.elim) (fun q z => z.elim) (fun r u t H1 locs1 ht hvm hpost hB hz hk hS1 => ?_)
  subst hpost
  exact kk H1 locs1 ls (hP.kept (fun k q hq => hk q.1 (hP k q hq).lt (fun z => z))) hD hS1 hl
/-! the memory at the begin -/
def m0 (M : Nat) : Mem := fun c => if c = 1 then (fun i => if i = 0 then (M : Int) else 0) else if c = 37 then (fun i => if i = 1 then (M : Int) else 0) else if c = 32 then (fun j => if j < ((5 : Nat) : Int) then -1 else 0) else fun _ => 0
theorem m0_z (M : Nat) {c : Int} (h1 : c ≠ 1) (h2 : c ≠ 37) (h3 : c ≠ 32) : m0 M c = fun _ => 0 := by unfold m0; rw [if_neg h1, if_neg h2, if_neg h3]
theorem m0_CI {M : Nat} (h1 : 1 ≤ M) (h5 : M ≤ 5) : CI M (m0 M) := by
  have z : ∀ c : Int, c ≠ 1 → c ≠ 37 → c ≠ 32 → ∀ i, m0 M c i = 0 := fun c q1 q2 q3 i => by rw [m0_z M q1 q2 q3]
  have e1 : ∀ i, m0 M 1 i = if i = 0 then (M : Int) else 0 := fun i => rfl
  have e10 : m0 M 1 0 = M := rfl
  have e11 : m0 M 1 1 = 0 := rfl
  have hV : ∀ s, ¬ VS (m0 M) s := fun s v => by
    have := v.2.1
    have := v.1
    omega
  have hz : ∀ (f : Int → Int) (k : Nat), (∀ i, f i = 0) → sumI f 0 k = 0 := fun f k hf => by
    rw [sumI_congr (g := fun _ => 0) (fun i _ _ => hf i)]
    have : ∀ n : Nat, sumN (fun _ => (0 : Int)) 0 n = 0 := fun n => by
      induction n with
      | zero => rfl
      | succ n ih => show sumN (fun _ => (0 : Int)) 0 n + 0 = 0; rw [ih]; rfl
    exact this _
  refine ⟨⟨⟨⟨e10, h1, h5, by omega, fun j _ _ => by rw [z 5 (by omega) (by omega) (by omega)]; omega, fun m _ _ => by rw [z 10 (by omega) (by omega) (by omega)]; omega⟩, fun j _ _ => by rw [z 2 (by omega) (by omega) (by omega), z 3 (by omega) (by omega) (by omega), z 4 (by omega) (by omega) (by omega)]; omega, fun j _ _ => z 5 (by omega) (by omega) (by omega) j, fun s _ _ => by rw [z 6 (by omega) (by omega) (by omega), z 7 (by omega) (by omega) (by omega)]; omega, fun i _ _ => by rw [z 11 (by omega) (by omega) (by omega)]; omega, fun m j _ _ _ _ => z 11 (by omega) (by omega) (by omega) _⟩, ⟨fun m i _ _ i0 i1 => ?_, fun m i i' _ _ i0 i1 => ?_⟩, fun s _ _ => Or.inl (z 8 (by omega) (by omega) (by omega) s), fun s v => absurd v (hV s), ?_, ?_, fun m _ _ => ?_⟩, fun m m0' m1 => Or.inl ?_⟩
  · rw [z 10 (by omega) (by omega) (by omega)] at i1; omega
  · rw [z 10 (by omega) (by omega) (by omega)] at i1; omega
  · have := hz (fun j => m0 M 5 j) 8 (z 5 (by omega) (by omega) (by omega))
    exact this.symm
  · have := hz (fun j => m0 M 8 j) 80 (z 8 (by omega) (by omega) (by omega))
    exact this.symm
  · have := hz (fun s => if m0 M 6 s = m then m0 M 8 s else 0) 80 (fun i => by rw [z 8 (by omega) (by omega) (by omega)]; split <;> rfl)
    rw [z 10 (by omega) (by omega) (by omega)]
    exact this.symm
  · show (if m < ((5 : Nat) : Int) then -1 else 0) = _
    rw [if_pos (by omega)]
theorem m0_RM {M : Nat} (h5 : M ≤ 5) : RM M (m0 M) (m0 M) := by
  have z : ∀ c : Int, c ≠ 1 → c ≠ 37 → c ≠ 32 → ∀ i, m0 M c i = 0 := fun c q1 q2 q3 i => by rw [m0_z M q1 q2 q3]
  refine ⟨rfl, rfl, fun j _ _ => ?_, fun k _ _ => ?_, fun i _ _ => ?_, fun m _ _ => ?_, fun m i hi => ?_⟩
  · rw [z 38 (by omega) (by omega) (by omega), z 39 (by omega) (by omega) (by omega), z 40 (by omega) (by omega) (by omega), z 41 (by omega) (by omega) (by omega), z 2 (by omega) (by omega) (by omega), z 3 (by omega) (by omega) (by omega), z 4 (by omega) (by omega) (by omega), z 5 (by omega) (by omega) (by omega)]
    exact ⟨rfl, rfl, rfl, rfl⟩
  · rw [z 42 (by omega) (by omega) (by omega), z 43 (by omega) (by omega) (by omega), z 44 (by omega) (by omega) (by omega), z 6 (by omega) (by omega) (by omega), z 7 (by omega) (by omega) (by omega), z 8 (by omega) (by omega) (by omega)]
    exact ⟨rfl, rfl, rfl⟩
  · rw [z 45 (by omega) (by omega) (by omega), z 11 (by omega) (by omega) (by omega)]
  · rw [z 46 (by omega) (by omega) (by omega), z 10 (by omega) (by omega) (by omega)]
  · have := hi.2.2.2
    have := hi.2.2.1
    rw [z 10 (by omega) (by omega) (by omega)] at *
    omega
/-! where everything lies -/
def adF (b : Nat) (L : List Nat) (r : Nat → Nat) : Int → Nat := fun k => if k < 0 then b else if k < 57 then L.getD k.toNat 0 else r (k.toNat - 57)
def adL (h0 q1 q2 q3 q4 q5 hm ho : Nat) (u1 : (Nat → Nat) × (Nat → Nat)) (u2 u3 u4 u5 um : Nat → Nat) : List Nat := [h0, q1, u1.1 2, u1.1 3, u1.1 4, u1.1 5, u1.1 6, u1.1 7, u1.1 8, u1.1 9, u1.1 10, u1.1 11, q2, u2 1, u2 2, u2 3, u2 4, u2 5, u2 6, q3, u3 1, u3 2, u3 3, u3 4, u3 5, u3 6, q4, u4 1, u4 2, u4 3, u4 4, q5, u5 1, u5 2, u5 3, u5 4, u5 5, hm, um 1, um 2, um 3, um 4, um 5, um 6, um 7, um 8, um 9, um 10, um 11, um 12, um 13, um 14, um 15, um 16, um 17, um 18, ho]
def cwF (G : GG) (σ : Mem) (k : Nat) : Nat × va_E := (gA G (k : Int), shw G k (σ (k : Int)))
theorem adF_row (b : Nat) (L : List Nat) (r : Nat → Nat) (i : Nat) : adF b L r (57 + (i : Int)) = r i := by
  unfold adF
  rw [if_neg (by omega), if_neg (by omega)]
  congr 1
  omega
set_option maxRecDepth 100000 in
set_option maxHeartbeats 4000000 in
theorem asm9 (D : va_G) (cy : Nat → ClassId) (M b h0 q1 q2 q3 q4 q5 hm ho : Nat) (u1 : (Nat → Nat) × (Nat → Nat)) (u2 u3 u4 u5 um : Nat → Nat) : cwF (D, adF b (adL h0 q1 q2 q3 q4 q5 hm ho u1 u2 u3 u4 u5 um) u1.2, M, cy) (m0 M) 9 = (u1.1 9, .inl (cy 3, M, .inr (.inr (.inr (.inr (fun i => if i < M then some (u1.2 i) else none)))))) := by
  show (u1.1 9, raE (cy 3) M (adF b (adL h0 q1 q2 q3 q4 q5 hm ho u1 u2 u3 u4 u5 um) u1.2) (m0 M 9)) = _
  unfold raE
  congr 8
  funext i
  rw [adF_row]
set_option maxRecDepth 100000 in
set_option maxHeartbeats 4000000 in
theorem asmA (D : va_G) (cy : Nat → ClassId) (M b h0 q1 q2 q3 q4 q5 hm ho : Nat) (u1 : (Nat → Nat) × (Nat → Nat)) (u2 u3 u4 u5 um : Nat → Nat) : (List.range 57).map (cwF (D, adF b (adL h0 q1 q2 q3 q4 q5 hm ho u1 u2 u3 u4 u5 um) u1.2, M, cy) (m0 M)) = ([(h0, .inr (4, [.ref q1, .ref q2, .ref q3, .ref q4, .ref q5]))] ++ (wShop cy q1 M u1).take 9) ++ (([(u1.1 10, iaE (cy 0) M (fun _ => 0))] ++ [(u1.1 11, iaE (cy 0) (64 * M) (fun _ => 0))]) ++ (wPlan cy q2 q1 u2 ++ (wPlan cy q3 q1 u3 ++ (wFill cy q4 q1 u4 ++ (wBnd cy q5 q1 u5 ++ (wMod cy hm M um ++ [(ho, laE (cy 2) 1 (fun _ => 0))])))))) := by
  have e : (List.range 57).map (cwF (D, adF b (adL h0 q1 q2 q3 q4 q5 hm ho u1 u2 u3 u4 u5 um) u1.2, M, cy) (m0 M)) = [cwF (D, adF b (adL h0 q1 q2 q3 q4 q5 hm ho u1 u2 u3 u4 u5 um) u1.2, M, cy) (m0 M) 0, cwF (D, adF b (adL h0 q1 q2 q3 q4 q5 hm ho u1 u2 u3 u4 u5 um) u1.2, M, cy) (m0 M) 1, cwF (D, adF b (adL h0 q1 q2 q3 q4 q5 hm ho u1 u2 u3 u4 u5 um) u1.2, M, cy) (m0 M) 2, cwF (D, adF b (adL h0 q1 q2 q3 q4 q5 hm ho u1 u2 u3 u4 u5 um) u1.2, M, cy) (m0 M) 3, cwF (D, adF b (adL h0 q1 q2 q3 q4 q5 hm ho u1 u2 u3 u4 u5 um) u1.2, M, cy) (m0 M) 4, cwF (D, adF b (adL h0 q1 q2 q3 q4 q5 hm ho u1 u2 u3 u4 u5 um) u1.2, M, cy) (m0 M) 5, cwF (D, adF b (adL h0 q1 q2 q3 q4 q5 hm ho u1 u2 u3 u4 u5 um) u1.2, M, cy) (m0 M) 6, cwF (D, adF b (adL h0 q1 q2 q3 q4 q5 hm ho u1 u2 u3 u4 u5 um) u1.2, M, cy) (m0 M) 7, cwF (D, adF b (adL h0 q1 q2 q3 q4 q5 hm ho u1 u2 u3 u4 u5 um) u1.2, M, cy) (m0 M) 8] ++ [cwF (D, adF b (adL h0 q1 q2 q3 q4 q5 hm ho u1 u2 u3 u4 u5 um) u1.2, M, cy) (m0 M) 9] ++ [cwF (D, adF b (adL h0 q1 q2 q3 q4 q5 hm ho u1 u2 u3 u4 u5 um) u1.2, M, cy) (m0 M) 10, cwF (D, adF b (adL h0 q1 q2 q3 q4 q5 hm ho u1 u2 u3 u4 u5 um) u1.2, M, cy) (m0 M) 11, cwF (D, adF b (adL h0 q1 q2 q3 q4 q5 hm ho u1 u2 u3 u4 u5 um) u1.2, M, cy) (m0 M) 12, cwF (D, adF b (adL h0 q1 q2 q3 q4 q5 hm ho u1 u2 u3 u4 u5 um) u1.2, M, cy) (m0 M) 13, cwF (D, adF b (adL h0 q1 q2 q3 q4 q5 hm ho u1 u2 u3 u4 u5 um) u1.2, M, cy) (m0 M) 14, cwF (D, adF b (adL h0 q1 q2 q3 q4 q5 hm ho u1 u2 u3 u4 u5 um) u1.2, M, cy) (m0 M) 15, cwF (D, adF b (adL h0 q1 q2 q3 q4 q5 hm ho u1 u2 u3 u4 u5 um) u1.2, M, cy) (m0 M) 16, cwF (D, adF b (adL h0 q1 q2 q3 q4 q5 hm ho u1 u2 u3 u4 u5 um) u1.2, M, cy) (m0 M) 17, cwF (D, adF b (adL h0 q1 q2 q3 q4 q5 hm ho u1 u2 u3 u4 u5 um) u1.2, M, cy) (m0 M) 18, cwF (D, adF b (adL h0 q1 q2 q3 q4 q5 hm ho u1 u2 u3 u4 u5 um) u1.2, M, cy) (m0 M) 19, cwF (D, adF b (adL h0 q1 q2 q3 q4 q5 hm ho u1 u2 u3 u4 u5 um) u1.2, M, cy) (m0 M) 20, cwF (D, adF b (adL h0 q1 q2 q3 q4 q5 hm ho u1 u2 u3 u4 u5 um) u1.2, M, cy) (m0 M) 21, cwF (D, adF b (adL h0 q1 q2 q3 q4 q5 hm ho u1 u2 u3 u4 u5 um) u1.2, M, cy) (m0 M) 22, cwF (D, adF b (adL h0 q1 q2 q3 q4 q5 hm ho u1 u2 u3 u4 u5 um) u1.2, M, cy) (m0 M) 23, cwF (D, adF b (adL h0 q1 q2 q3 q4 q5 hm ho u1 u2 u3 u4 u5 um) u1.2, M, cy) (m0 M) 24, cwF (D, adF b (adL h0 q1 q2 q3 q4 q5 hm ho u1 u2 u3 u4 u5 um) u1.2, M, cy) (m0 M) 25, cwF (D, adF b (adL h0 q1 q2 q3 q4 q5 hm ho u1 u2 u3 u4 u5 um) u1.2, M, cy) (m0 M) 26, cwF (D, adF b (adL h0 q1 q2 q3 q4 q5 hm ho u1 u2 u3 u4 u5 um) u1.2, M, cy) (m0 M) 27, cwF (D, adF b (adL h0 q1 q2 q3 q4 q5 hm ho u1 u2 u3 u4 u5 um) u1.2, M, cy) (m0 M) 28, cwF (D, adF b (adL h0 q1 q2 q3 q4 q5 hm ho u1 u2 u3 u4 u5 um) u1.2, M, cy) (m0 M) 29, cwF (D, adF b (adL h0 q1 q2 q3 q4 q5 hm ho u1 u2 u3 u4 u5 um) u1.2, M, cy) (m0 M) 30, cwF (D, adF b (adL h0 q1 q2 q3 q4 q5 hm ho u1 u2 u3 u4 u5 um) u1.2, M, cy) (m0 M) 31, cwF (D, adF b (adL h0 q1 q2 q3 q4 q5 hm ho u1 u2 u3 u4 u5 um) u1.2, M, cy) (m0 M) 32, cwF (D, adF b (adL h0 q1 q2 q3 q4 q5 hm ho u1 u2 u3 u4 u5 um) u1.2, M, cy) (m0 M) 33, cwF (D, adF b (adL h0 q1 q2 q3 q4 q5 hm ho u1 u2 u3 u4 u5 um) u1.2, M, cy) (m0 M) 34, cwF (D, adF b (adL h0 q1 q2 q3 q4 q5 hm ho u1 u2 u3 u4 u5 um) u1.2, M, cy) (m0 M) 35, cwF (D, adF b (adL h0 q1 q2 q3 q4 q5 hm ho u1 u2 u3 u4 u5 um) u1.2, M, cy) (m0 M) 36, cwF (D, adF b (adL h0 q1 q2 q3 q4 q5 hm ho u1 u2 u3 u4 u5 um) u1.2, M, cy) (m0 M) 37, cwF (D, adF b (adL h0 q1 q2 q3 q4 q5 hm ho u1 u2 u3 u4 u5 um) u1.2, M, cy) (m0 M) 38, cwF (D, adF b (adL h0 q1 q2 q3 q4 q5 hm ho u1 u2 u3 u4 u5 um) u1.2, M, cy) (m0 M) 39, cwF (D, adF b (adL h0 q1 q2 q3 q4 q5 hm ho u1 u2 u3 u4 u5 um) u1.2, M, cy) (m0 M) 40, cwF (D, adF b (adL h0 q1 q2 q3 q4 q5 hm ho u1 u2 u3 u4 u5 um) u1.2, M, cy) (m0 M) 41, cwF (D, adF b (adL h0 q1 q2 q3 q4 q5 hm ho u1 u2 u3 u4 u5 um) u1.2, M, cy) (m0 M) 42, cwF (D, adF b (adL h0 q1 q2 q3 q4 q5 hm ho u1 u2 u3 u4 u5 um) u1.2, M, cy) (m0 M) 43, cwF (D, adF b (adL h0 q1 q2 q3 q4 q5 hm ho u1 u2 u3 u4 u5 um) u1.2, M, cy) (m0 M) 44, cwF (D, adF b (adL h0 q1 q2 q3 q4 q5 hm ho u1 u2 u3 u4 u5 um) u1.2, M, cy) (m0 M) 45, cwF (D, adF b (adL h0 q1 q2 q3 q4 q5 hm ho u1 u2 u3 u4 u5 um) u1.2, M, cy) (m0 M) 46, cwF (D, adF b (adL h0 q1 q2 q3 q4 q5 hm ho u1 u2 u3 u4 u5 um) u1.2, M, cy) (m0 M) 47, cwF (D, adF b (adL h0 q1 q2 q3 q4 q5 hm ho u1 u2 u3 u4 u5 um) u1.2, M, cy) (m0 M) 48, cwF (D, adF b (adL h0 q1 q2 q3 q4 q5 hm ho u1 u2 u3 u4 u5 um) u1.2, M, cy) (m0 M) 49, cwF (D, adF b (adL h0 q1 q2 q3 q4 q5 hm ho u1 u2 u3 u4 u5 um) u1.2, M, cy) (m0 M) 50, cwF (D, adF b (adL h0 q1 q2 q3 q4 q5 hm ho u1 u2 u3 u4 u5 um) u1.2, M, cy) (m0 M) 51, cwF (D, adF b (adL h0 q1 q2 q3 q4 q5 hm ho u1 u2 u3 u4 u5 um) u1.2, M, cy) (m0 M) 52, cwF (D, adF b (adL h0 q1 q2 q3 q4 q5 hm ho u1 u2 u3 u4 u5 um) u1.2, M, cy) (m0 M) 53, cwF (D, adF b (adL h0 q1 q2 q3 q4 q5 hm ho u1 u2 u3 u4 u5 um) u1.2, M, cy) (m0 M) 54, cwF (D, adF b (adL h0 q1 q2 q3 q4 q5 hm ho u1 u2 u3 u4 u5 um) u1.2, M, cy) (m0 M) 55, cwF (D, adF b (adL h0 q1 q2 q3 q4 q5 hm ho u1 u2 u3 u4 u5 um) u1.2, M, cy) (m0 M) 56] := rfl
  rw [e, asm9]
  rfl
theorem asm (D : va_G) (cy : Nat → ClassId) (M b h0 q1 q2 q3 q4 q5 hm ho : Nat) (u1 : (Nat → Nat) × (Nat → Nat)) (u2 u3 u4 u5 um : Nat → Nat) : WS (D, adF b (adL h0 q1 q2 q3 q4 q5 hm ho u1 u2 u3 u4 u5 um) u1.2, M, cy) (m0 M) = (([(h0, .inr (4, [.ref q1, .ref q2, .ref q3, .ref q4, .ref q5]))] ++ (wShop cy q1 M u1).take 9) ++ (([(u1.1 10, iaE (cy 0) M (fun _ => 0))] ++ [(u1.1 11, iaE (cy 0) (64 * M) (fun _ => 0))]) ++ (wPlan cy q2 q1 u2 ++ (wPlan cy q3 q1 u3 ++ (wFill cy q4 q1 u4 ++ (wBnd cy q5 q1 u5 ++ (wMod cy hm M um ++ [(ho, laE (cy 2) 1 (fun _ => 0))]))))))) ++ (List.range M).map (fun i => (u1.2 i, iaE (cy 0) 48 (fun _ => 0))) := by
  show (List.range (57 + M)).map (cwF (D, adF b (adL h0 q1 q2 q3 q4 q5 hm ho u1 u2 u3 u4 u5 um) u1.2, M, cy) (m0 M)) = _
  rw [List.range_add, List.map_append, List.map_map, asmA]
  congr 1
  apply List.map_congr_left
  intro i hi
  show (adF b (adL h0 q1 q2 q3 q4 q5 hm ho u1 u2 u3 u4 u5 um) u1.2 ((57 + i : Nat) : Int), shw _ (57 + i) (m0 M ((57 + i : Nat) : Int))) = _
  rw [m0_z M (by omega) (by omega) (by omega), show ((57 + i : Nat) : Int) = 57 + (i : Int) by omega, adF_row]
  unfold shw
  rw [List.getD_eq_getElem?_getD, List.getElem?_eq_none (by simp [shl])]
  rfl
