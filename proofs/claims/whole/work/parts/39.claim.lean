/-! THE LAW FROM ITS ENTRY -/
theorem r_astore_n {Y : YY} {cc : ByteArray} {own : String} {nL lev mc ms : Nat} {Q : State → Prop} {pc : Nat} {lv : List (Nat × Value)} {st : List Value} {w : va_W} {ce sl : Nat} (C : CY Y cc own nL lev mc ms) {j : Fin 4} {x : Nat} (lv' : List (Nat × Value)) (hd : decode cc pc = .ok (.astore_n j, 1)) (hn : (j : Nat) < nL) (hv : ((j : Nat), Value.ref x) :: lv.filter (fun q => !(q.1 == (j : Nat)) && !(q.1 + 1 == (j : Nat) && q.2.category == 2)) = lv') (kk : RC Y nL Q (pc + 1) lv' st w ce sl) : RC Y nL Q pc lv (.ref x :: st) w ce sl := by
  obtain ⟨⟨p, l, e9, R, s⟩, ⟨m, args, below, meth, c⟩, A, D, cy⟩ := Y
  obtain ⟨hx, hb, hml, hown, hts, hK, hA, hlocks, hR⟩ := C
  intro H locs ls hP hD hS hl
  exact lv_astore_n hx hb hd rfl hl hn hv (fun ls' hl' => kk H locs ls' hP hD hS hl')
theorem r_istore {Y : YY} {cc : ByteArray} {own : String} {nL lev mc ms : Nat} {Q : State → Prop} {pc : Nat} {lv : List (Nat × Value)} {st : List Value} {w : va_W} {ce sl : Nat} (C : CY Y cc own nL lev mc ms) {i : Nat} {x : Int32} (lv' : List (Nat × Value)) (hd : decode cc pc = .ok (.istore i, 2)) (hn : i < nL) (hv : (i, Value.int x) :: lv.filter (fun q => !(q.1 == i) && !(q.1 + 1 == i && q.2.category == 2)) = lv') (kk : RC Y nL Q (pc + 2) lv' st w ce sl) : RC Y nL Q pc lv (.int x :: st) w ce sl := by
  obtain ⟨⟨p, l, e9, R, s⟩, ⟨m, args, below, meth, c⟩, A, D, cy⟩ := Y
  obtain ⟨hx, hb, hml, hown, hts, hK, hA, hlocks, hR⟩ := C
  intro H locs ls hP hD hS hl
  exact lv_istore hx hb hd hl hn hv (fun ls' hl' => kk H locs ls' hP hD hS hl')
theorem acl {ty : FieldType} {args : Array Value} {s : State} (h : (Cond.arrayClass ty).before args s = true) : ∃ cA, ArrOfT s cA ty ∧ s.vm.findClass ("[" ++ ty.toString) = some cA := by
  obtain ⟨c, k, comp, h1, h2, h3⟩ := Cond.arrayClass_spec h
  exact ⟨c, fun n z => ⟨fun k h => (by cases h), k, h2, comp, h3⟩, h1⟩
set_option maxRecDepth 100000 in
theorem ndX_in : ∀ w ∈ ndX, w ∈ lw_tbl := by decide +kernel
theorem in_lU : Cond.laysStatic Bundle.tN "UNASSIGNED_STACK" Bundle.steD ∈ lw_tbl := List.mem_of_getElem? (i := 572) (by decide +kernel)
theorem in_lN : Cond.laysStatic Bundle.tN "SUPPRESSED_SENTINEL" Bundle.listD ∈ lw_tbl := List.mem_of_getElem? (i := 574) (by decide +kernel)
theorem in_iT : Cond.initialized Bundle.tN ∈ lw_tbl := List.mem_of_getElem? (i := 49) (by decide +kernel)
theorem in_sR : Cond.stringRef RX4 184 "LOW is 0" ∈ lw_tbl := List.mem_of_getElem? (i := 584) (by decide +kernel)
theorem in_aO : Cond.arrayOver (.array .int) ∈ lw_tbl := List.mem_of_getElem? (i := 74) (by decide +kernel)
theorem TB_lw {w : Cond} (h : w ∈ TB) : w ∈ lw_tbl := (List.mem_filter.mp h).1
/-- the world, once all is made -/
theorem start_world {D : va_G} {cy : Nat → ClassId} {M b h0 hm ho : Nat} {u : Nat × ((Nat → Nat) × (Nat → Nat)) × Nat × (Nat → Nat) × Nat × (Nat → Nat) × Nat × (Nat → Nat) × Nat × (Nat → Nat)} {um : Nat → Nat} {A : Nat → Prop} {H : Heap} (hM : M ≤ 5) (hP : va_P D vwCl ((wSR cy h0 M u ++ wMod cy hm M um) ++ [(ho, laE (cy 2) 1 (fun _ => 0))]) H) (hD : va_D A ((wSR cy h0 M u ++ wMod cy hm M um) ++ [(ho, laE (cy 2) 1 (fun _ => 0))])) :
    ∃ G : GG, gD G = D ∧ gM G = M ∧ gC G = cy ∧ gA G (-1) = b ∧ gA G 0 = h0 ∧ gA G 37 = hm ∧ gA G 56 = ho ∧ va_P D vwCl (WS G (m0 M)) H ∧ GI G ∧ ∀ q, AA G q → A q := by
  obtain ⟨q1, u1, q2, u2, q3, u3, q4, u4, q5, u5⟩ := u
  have e1 : ((wSR cy h0 M (q1, u1, q2, u2, q3, u3, q4, u4, q5, u5) ++ wMod cy hm M um) ++ [(ho, laE (cy 2) 1 (fun _ => 0))]) = (([(h0, .inr (4, [.ref q1, .ref q2, .ref q3, .ref q4, .ref q5]))] ++ (wShop cy q1 M u1).take 9) ++ (List.range M).map (fun i => (u1.2 i, iaE (cy 0) 48 (fun _ => 0)))) ++ (([(u1.1 10, iaE (cy 0) M (fun _ => 0))] ++ [(u1.1 11, iaE (cy 0) (64 * M) (fun _ => 0))]) ++ (wPlan cy q2 q1 u2 ++ (wPlan cy q3 q1 u3 ++ (wFill cy q4 q1 u4 ++ (wBnd cy q5 q1 u5 ++ (wMod cy hm M um ++ [(ho, laE (cy 2) 1 (fun _ => 0))])))))) := by
    have es : wShop cy q1 M u1 = (wShop cy q1 M u1).take 9 ++ (List.range M).map (fun i => (u1.2 i, iaE (cy 0) 48 (fun _ => 0))) ++ [(u1.1 10, iaE (cy 0) M (fun _ => 0))] ++ [(u1.1 11, iaE (cy 0) (64 * M) (fun _ => 0))] := rfl
    show ((([(h0, .inr (4, [.ref q1, .ref q2, .ref q3, .ref q4, .ref q5]))] ++ wShop cy q1 M u1 ++ wPlan cy q2 q1 u2 ++ wPlan cy q3 q1 u3 ++ wFill cy q4 q1 u4 ++ wBnd cy q5 q1 u5) ++ wMod cy hm M um) ++ [(ho, laE (cy 2) 1 (fun _ => 0))]) = _
    generalize hS9 : (wShop cy q1 M u1).take 9 = S9 at *
    rw [es]
    simp only [List.append_assoc]
  rw [e1] at hP hD
  have hP2 := va_P.swap hP
  have hD2 := va_D.swap hD
  rw [← asm D cy M b h0 q1 q2 q3 q4 q5 hm ho u1 u2 u3 u4 u5 um] at hP2 hD2
  refine ⟨(D, adF b (adL h0 q1 q2 q3 q4 q5 hm ho u1 u2 u3 u4 u5 um) u1.2, M, cy), rfl, rfl, rfl, rfl, rfl, rfl, rfl, hP2, ⟨hM, fun i j hi hj e => ?_⟩, fun q hq => ?_⟩
  · exact hD2.1 i j _ _ (WS_get _ _ hi) (WS_get _ _ hj) e
  · obtain ⟨k, hk, rfl⟩ := hq
    exact hD2.2 k _ (WS_get _ _ hk)
set_option maxRecDepth 100000 in
set_option maxHeartbeats 4000000 in
theorem whole_start {p : Program} {e : Env} {s : State} {m : MethodId} {below : List Frame} {meth : Method} {c : Code} (l : Launch) (hl0 : l.stackTraces = false) {b L : Nat} {xs : Nat → Int32} (hL : L ≤ 2561) (C0 : lw_At p s m meth c b L xs) : W p l e room_1 s m #[Value.ref b] below meth c s.heap [] 0 0 (lw_Z below #[Value.ref b] s) (entryFrame m ([Value.ref b] : List Value).toArray 8) := by
  obtain ⟨hx, hb, hr, hml, hown, hts, hX, hbl, hlocks, hgv⟩ := id C0
  have htB : ∀ w ∈ TB, w.before #[Value.ref b] s = true := fun w h => hts w (TB_lw h)
  have hfl := flat_of_before _ hgv
  have hbA : ¬ (fun q : Nat => s.heap.size ≤ q) b := Nat.not_le.mpr hbl
  obtain ⟨c0, iS0, hKn0⟩ := u_known (C := RX0) (T := TX0) (N := 7) (n := 7) htB inB0 (hts (.instantiable RX0 7) (List.mem_of_getElem? (i := 213) (by decide +kernel)))
  obtain ⟨c1, iS1, hKn1⟩ := u_known (C := RX1) (T := TX1) (N := 5) (n := 5) htB inB1 (hts (.instantiable RX1 5) (List.mem_of_getElem? (i := 191) (by decide +kernel)))
  obtain ⟨c2, iS2, hKn2⟩ := u_known (C := RX2) (T := TX2) (N := 9) (n := 9) htB inB2 (hts (.instantiable RX2 9) (List.mem_of_getElem? (i := 155) (by decide +kernel)))
  obtain ⟨c3, iS3, hKn3⟩ := u_known (C := RX3) (T := TX3) (N := 14) (n := 14) htB inB3 (hts (.instantiable RX3 14) (List.mem_of_getElem? (i := 62) (by decide +kernel)))
  obtain ⟨c4, iS4, hKn4⟩ := u_known (C := RX4) (T := TX4) (N := 5) (n := 5) htB inB4 (hts (.instantiable RX4 5) (List.mem_of_getElem? (i := 54) (by decide +kernel)))
  obtain ⟨c5, iS5, hKn5⟩ := u_known (C := RX5) (T := TX5) (N := 24) (n := 24) htB inB5 (hts (.instantiable RX5 24) (List.mem_of_getElem? (i := 613) (by decide +kernel)))
  obtain ⟨D, hKc⟩ : ∃ D : va_G, ∀ (k : Nat) (q : vw_C), vwCl[k]? = some q → u_Kn s q.1 q.2.1 q.2.2 (D.1 k) (D.2 k) := by
    refine ⟨(fun k => match k with | 0 => c0 | 1 => c1 | 2 => c2 | 3 => c3 | 4 => c4 | _ => c5, fun k => match k with | 0 => iS0 | 1 => iS1 | 2 => iS2 | 3 => iS3 | 4 => iS4 | _ => iS5), ?_⟩
    intro k q hq
    match k, hq with
    | 0, hq => cases hq; exact hKn0
    | 1, hq => cases hq; exact hKn1
    | 2, hq => cases hq; exact hKn2
    | 3, hq => cases hq; exact hKn3
    | 4, hq => cases hq; exact hKn4
    | 5, hq => cases hq; exact hKn5
    | k + 6, hq => simp [vwCl] at hq
  obtain ⟨cI, gI1, gI2⟩ := acl (htB _ w_ac0)
  obtain ⟨cB, gB1, gB2⟩ := acl (htB _ w_ac1)
  obtain ⟨cL, gL1, gL2⟩ := acl (htB _ w_ac2)
  have hao : va_AOA .int s := va_AOA.of (hts _ in_aO)
  obtain ⟨comp, cR, kR, gR0, -, gR1, gR2, gR3⟩ := aoa_spec hao
  obtain ⟨cy, hcy⟩ : ∃ cy : Nat → ClassId, cy = fun k => match k with | 0 => cI | 1 => cB | 2 => cL | _ => cR := ⟨_, rfl⟩
  have hK : va_K D vwCl (tyC cy) s := by
    refine ⟨hKc, fun k q hq => ?_⟩
    subst hcy
    match k, hq with
    | 0, hq => cases hq; exact ⟨gI1, gI2⟩
    | 1, hq => cases hq; exact ⟨gB1, gB2⟩
    | 2, hq => cases hq; exact ⟨gL1, gL2⟩
    | 3, hq => cases hq; exact ⟨fun n z => ⟨fun k h => (by cases h), kR, gR1, comp, gR2⟩, gR3⟩
    | k + 4, hq => simp [tyC] at hq
  have hXS : ∃ sa, XS sa (fun q => s.heap.size ≤ q) s := by
    obtain ⟨sa, -, -, -, q1, -⟩ := Cond.exactly_spec (hfl (.exactly (.string RX4 184) "java/lang/String") (by decide +kernel))
    exact ⟨sa, vx_Zqof (hts _ in_lU) (hts _ in_iT) (hfl (.isRef (.static Bundle.tN "UNASSIGNED_STACK" Bundle.steD)) (by decide +kernel)) (fun a ha => Nat.not_le.mpr ha), vx_Zqof (hts _ in_lN) (hts _ in_iT) (hfl (.isRef (.static Bundle.tN "SUPPRESSED_SENTINEL" Bundle.listD)) (by decide +kernel)) (fun a ha => Nat.not_le.mpr ha), vk_R.of (hts _ in_sR) q1, fun w hw => cast_moved hw (Vm.Alike.refl _) (hts w (ndX_in w hw))⟩
  obtain ⟨sa, hXS⟩ := hXS
  obtain ⟨x, hxe⟩ : ∃ x : Int, x = (if 0 < L then xs 0 else 0 : Int32).toInt := ⟨_, rfl⟩
  have hxo : (if 0 < L then xs 0 else 0 : Int32) = oI x := by rw [hxe, oI_of]
  have hxr : inR x := by rw [hxe]; exact inR_of _
  obtain ⟨M, hM⟩ : ∃ M : Nat, max 1 (min 5 x) = (M : Int) := ⟨(max 1 (min 5 x)).toNat, by omega⟩
  have hM1 : 1 ≤ M := by omega
  have hM5 : M ≤ 5 := by omega
  have C : CY ((p, l, e, room_1, s), (m, #[Value.ref b], below, meth, c), (fun q => s.heap.size ≤ q), D, cy) cL_law RL 8 8 601024 7293000 := ⟨hx, hb, hml, hown, htB, hK, fun q h => h, hlocks, by decide, by decide, by decide, by decide⟩
  have n4 : dfX4.length = 5 := rfl
  have n5 : dfX5.length = 24 := rfl
  have key : RC ((p, l, e, room_1, s), (m, #[Value.ref b], below, meth, c), (fun q => s.heap.size ≤ q), D, cy) 8 (lw_Z below #[Value.ref b] s) 0 [(0, .ref b)] [] [] 0 0 := by
    refine r_new C dL_law_0 nw_L_8 (by omega) (by omega) (fun h0 => ?_)
    refine r_dup C dL_law_3 rfl ?_
    refine r_aload_n C 0 dL_law_4 rfl ?_
    refine r_iconst C dL_law_5 ?_
    refine r_cell C hL hX hbA dL_law_6 ml_L_15 (by decide) (Nat.le_of_ble_eq_true rfl) (by omega) (by omega) ?_
    rw [hxo]
    refine r_callI (as := [.int (oI x)]) (E := va_AOA .int) C [] rfl rfl dL_law_9 (c_X4_init _ _ _ h0 M x hxr hM) (fun _ _ h1 h2 => va_AOA.moved h1 h2) hao mw_X4_init ml_L_21 im_X4_init rfl (by decide) (Nat.le_of_ble_eq_true rfl) (by omega) (by omega) (fun u => ?_)
    refine r_astore_n C [(1, .ref h0), (0, .ref b)] dL_law_12 (by decide) rfl ?_
    refine r_new C dL_law_13 nw_L_24 (by omega) (by omega) (fun hm => ?_)
    refine r_dup C dL_law_16 rfl ?_
    refine r_aload_n C 1 dL_law_17 rfl ?_
    refine r_iconst C dL_law_18 ?_
    refine r_cell C hL hX hbA dL_law_19 ml_L_15 (by decide) (Nat.le_of_ble_eq_true rfl) (by omega) (by omega) ?_
    rw [hxo]
    refine r_callI (as := [.int (oI x)]) (E := fun _ => True) C ([] ++ wSR cy h0 M u) rfl rfl dL_law_22 (c_X5_init _ _ _ hm M x hxr hM) (fun _ _ _ h => h) trivial mw_X5_init ml_L_26 im_X5_init rfl (by decide) (Nat.le_of_ble_eq_true rfl) (by omega) (by omega) (fun um => ?_)
    refine r_astore_n C [(2, .ref hm), (1, .ref h0), (0, .ref b)] dL_law_25 (by decide) rfl ?_
    refine r_iconst C dL_law_26 ?_
    refine r_newL C (N := 1) dL_law_27 rfl (by decide) (by omega) (by omega) (fun ho => ?_)
    refine r_astore_n C [(3, .ref ho), (2, .ref hm), (1, .ref h0), (0, .ref b)] dL_law_29 (by decide) rfl ?_
    refine r_iconst C dL_law_30 ?_
    refine r_istore C [(4, .int (oI 1)), (3, .ref ho), (2, .ref hm), (1, .ref h0), (0, .ref b)] dL_law_31 (by decide) rfl ?_
    intro H locs ls hP hD hS hl
    obtain ⟨G, g1, g2, g3, g4, g5, g6, g7, hPW, hGI, hAA⟩ := start_world (b := b) hM5 hP hD
    have hC : ∀ k : Nat, k ≤ 700 → CX G ((p, l, e, room_1, s), (m, #[Value.ref b], below, meth, c), (fun q => s.heap.size ≤ q), 1000 + k, 10000 + 6 * k) cL_law RL 8 ret 8 := fun k hk => ⟨hx, hb, hml, hown, htB, by rw [g1]; unfold tyG; rw [g3]; exact hK, hGI, hAA, hlocks, hr, by decide, by decide, by show _ ≤ 601024; omega, by show _ ≤ 7293000; omega⟩
    have hloop := law_loop hC g4 hX hL hl0 hXS 520 0 (by omega) (by omega) (m0 M) (by rw [g2]; exact ⟨m0_CI hM1 hM5, m0_RM hM5⟩)
    refine W.widen (k := 1000 + 0) (n := 10000 + 6 * 0) (by omega) (by omega) (hloop H locs ls (by rw [g1]; exact hPW) hS ?_)
    have hdl : denl (gA G) (lvL (1 + 5 * ((0 : Nat) : Int))) = [(0, .ref b), (1, .ref h0), (2, .ref hm), (3, .ref ho), (4, .int (oI 1))] := by
      show [(0, Value.ref (gA G (-1))), (1, Value.ref (gA G 0)), (2, Value.ref (gA G 37)), (3, Value.ref (gA G 56)), (4, Value.int (oI 1))] = _
      rw [g4, g5, g6, g7]
    rw [hdl]
    exact lv_sub hl [4, 3, 2, 1, 0] rfl
  have hl := lv_entry ([.ref b] : List Value) (n := 8) (Nat.le_of_ble_eq_true rfl)
  rw [lg_entry_eq]
  generalize (lg_sl ([.ref b] : List Value) ++ List.replicate (8 - (lg_sl ([.ref b] : List Value)).length) Slot.unset).toArray = ls at hl ⊢
  exact key s.heap [] ls (fun k q h => by simp at h) ⟨fun i j p q h => by simp at h, fun k q h => by simp at h⟩ va_S.rf hl
set_option maxHeartbeats 4000000 in
theorem lw_walk (l : Launch) (hl0 : l.stackTraces = false) (b : Addr) (xs : List Int32) : MetFree l x (headSpec (Jvm.Cond.code x code maxLocals ret :: tables_1) room_1) (lw_P b xs) (fun _ _ _ _ _ => True) lw_Q := by
  refine MetFree.of_bodyS (code := code) (maxLocals := maxLocals) (ret := ret) (by decide) ?_ ?_
  · intro args s m h hn
    obtain ⟨meth, c, h1, h2, h3, h4, h5, h6, -, -⟩ := Cond.code_spec hn (atoms_spec (ws := Jvm.Cond.code x code maxLocals ret :: tables_1) h _ List.mem_cons_self)
    exact ⟨meth, c, h1, h2, h3, h4, h5, h6⟩
  · intro p e s m args below meth c s₁ B hml0 hP _
    obtain ⟨rfl, hx, hbd, hgv⟩ := hP
    obtain ⟨scr, harrAt, hlist, hof, hsmall⟩ := hx
    obtain ⟨hcb, hkn, -, -⟩ := State.arrayAt?_spec harrAt
    have hown : s.vm.findClass R_law = some m.cls := findClass_of_methodNamed B.named
    have hts0 : ∀ c ∈ (Jvm.Cond.code x code maxLocals ret :: tables_1), c.before #[Value.ref b] s = true := atoms_spec (ws := Jvm.Cond.code x code maxLocals ret :: tables_1) B.pre
    have hts : ∀ w ∈ lw_tbl, w.before #[Value.ref b] s = true := k2_hts_sels lw_privs (fun w hw => hts0 w (List.mem_cons_of_mem _ hw)) lw_privs_ok
    have hml : c.maxLocals = 8 := B.maxLocals_eq (hts0 _ List.mem_cons_self)
    have X₀ : Stand p l e room_1 s m #[Value.ref b] below meth c s₁ [] 0 0 := Stand.of_body B
    have hh0 : s₁.heap = s.heap := by rw [B.state]; rfl
    have hsz : scr.slots.size = xs.length := by rw [← Array.length_toList, hlist, List.length_map]
    have hval : ∀ j : Nat, j < xs.length → scr.slots[j]? = some (.int (xs.getD j 0)) := fun j hj => by
      rw [← Array.getElem?_toList, hlist]
      simp [hj]
    have hbl : b < s.heap.size := (Array.getElem?_eq_some_iff.mp hcb).1
    have hX : va_X b xs.length (fun j => xs.getD j 0) s s.heap := ⟨scr, hcb, hof, hkn, hsz, hval⟩
    have K : W p l e room_1 s m #[Value.ref b] below meth c s₁.heap [] 0 0 (lw_Z below #[Value.ref b] s) (entryFrame m ([Value.ref b] : List Value).toArray 8) := by
      rw [hh0]
      exact whole_start l hl0 hbd ⟨B.exec, B.bytes, B.returns, hml, hown, hts, hX, hbl, B.notSynchronized, hgv⟩
    obtain ⟨t, a1, o, b1, b2, b3⟩ := K s₁ rfl X₀
    exact ⟨t, o, a1, b1, b2, b3⟩
theorem lw_pre_spec {args : Array Value} {s : State} (h : (Jvm.Cond.and given_1 narrow_1).before args s = true) (hr : rest_1_c.before args s = true) : ∃ (b : Addr) (xs : List Int32), lw_P b xs args s := by
  have hs := flat_of_before _ h
  have hq := flat_of_before _ hr
  have hc : (Cond.count 1).before args s = true := hs _ (by decide +kernel)
  have harr : (Cond.arrayOf (.arg 0) .int).before args s = true := hs _ (by decide +kernel)
  have hle : (Cond.le (.length (.arg 0)) (.int 2561)).before args s = true := hs _ (by decide +kernel)
  have hlen : (Cond.isInt (.length (.arg 0))).before args s = true := hq _ (by decide +kernel)
  have hall : (Cond.all (.arg 0) (.isInt (.elem (.arg 0) (.index 0)))).before args s = true := hq _ (by decide +kernel)
  obtain ⟨b, xs, hb, hx⟩ := State.ints_of_pre rfl harr hlen hall
  have hsm : xs.length < 2 ^ 31 := hx.choose_spec.2.2.2
  have hev : (Term.length (.arg 0)).eval args s none [] s = some (.int xs.length.toInt32) := hx.length_eval hb
  have hv := Cond.le_ints hev (show (Term.int 2561).eval args s none [] s = some (.int 2561) from rfl)
  have hd : xs.length.toInt32 ≤ 2561 := by
    simpa [Cond.before, Cond.holds, hv] using hle
  have hN : xs.length ≤ 2561 := (Int32.ofNat_le_ofNat hsm (by decide)).mp (show Int32.ofNat xs.length ≤ Int32.ofNat 2561 from hd)
  exact ⟨b, xs, Cond.one_arg hc (show args[0]? = some (.ref b) from hb), hx, hN, h⟩
theorem lw_comes (l : Launch) (hl0 : l.stackTraces = false) : Comes l x (Jvm.Cond.code x code maxLocals ret :: tables_1) room_1 (fun tb e args s => Calls_1 tb e args s ∧ rest_1 tb e args s ∧ Pre_1 tb e args s)
    (fun _ _ args s o t => lw_Q args s o t) := by
  intro p e ha hc hk s m args below hf hfit hheap happ hpre
  obtain ⟨b, xs, hP⟩ := lw_pre_spec hpre.2.2 hpre.2.1
  obtain ⟨k, o, h1, h2, h3, hQ⟩   := lw_walk l hl0 b xs p e ha hc hk s m args below hf ((Spec.applies_iff_loose hf).mp happ).1 hP trivial
  exact ⟨k, o, h1, h2, h3, hQ⟩
theorem lw_frame {s t : State} {o : Outcome} {args : Array Value} (h : Framed s o t [] 601024 7293000) :
    Framed s o t (fieldLocs frame_1_writes args s ++ arrayLocs frame_1_arrays args s ++ staticLocs frame_1_statics s) 601024 7293000 := h
theorem lw_limb (L : Cond) (hL : ∀ (args : Array Value) (s t : State), L.after args s (.returned (some (.int 1))) t = true) :
    ArmFor flags0 classFile x code maxLocals ret World_1 tables_1 room_1 Calls_1 rest_1 Pre_1
      (fun tb e a s o t => postC L tb e a s o t ∧ Framed s o t (fieldLocs frame_1_writes a s ++ arrayLocs frame_1_arrays a s ++ staticLocs frame_1_statics s) 601024 7293000) := by
  intro l hfl _ _ p e ha hc hk s m args below hf hfit hheap happ hpre
  obtain ⟨k, o, h1, h2, h3, rfl, hF⟩   := lw_comes l (by unfold Launch.stackTraces; rw [hfl]; decide) p e ha hc hk s m args below hf hfit hheap happ hpre
  exact ⟨k, _, h1, h2, h3, hL args s _, lw_frame hF⟩
theorem i_vc : Claimed_1_1 ∧ Claimed_1_2 := ⟨lw_limb limb_1_1 (fun args s t => by simp [limb_1_1, Cond.after, Cond.holds, Cond.value]), lw_limb limb_1_2 (fun args s t => Cond.after_iff.mpr (by
  first | (rw [show limb_1_2 = Cond.eq .result (.int 1) from rfl, Cond.eq_ints (x := 1) (y := 1) rfl rfl]; simp; done) | (simp [limb_1_2, Cond.value, Term.eval]; done)))⟩
