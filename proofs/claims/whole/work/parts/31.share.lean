/-! a throw of share -/
def AEx : String := "java/lang/ArithmeticException"
def nmX : List String := ["java/lang/RuntimeException", "java/lang/Exception"]
set_option maxRecDepth 100000 in
theorem at_X4g : ∀ w ∈ (vx_atS RX4 186 AEx nmX).filter goodWord, w ∈ TB := by decide +kernel
set_option maxRecDepth 100000 in
theorem at_X4n : ∀ w ∈ (vx_atS RX4 186 AEx nmX).filter (fun w => !goodWord w), (w.faceAtom && w.onTables) = true := by decide +kernel
def ndX : List Cond := Cond.castable AEx AEx :: (vx_atS RX4 186 AEx nmX).filter (fun w => !goodWord w)
theorem ndX_ok : ∀ w ∈ ndX, w.faceAtom = true ∧ w.onTables = true := fun w h => by
  rcases List.mem_cons.mp h with e | h
  · rw [e]; exact ⟨rfl, rfl⟩
  · have := at_X4n w h
    simpa using this
set_option maxRecDepth 100000 in
theorem at_X4o : ∀ w ∈ Cond.classLink RX4 182 AEx :: Cond.initialized AEx :: vx_atS RX4 186 AEx nmX, vx_ot w = true := by decide +kernel
theorem w_X4k : Cond.classLink RX4 182 AEx ∈ TB := TB_of 545 (by decide +kernel) rfl
theorem w_X4i : Cond.initialized AEx ∈ TB := TB_of 52 (by decide +kernel) rfl
/-- what a throw finds in the machine -/
def XS (sa : Nat) (A : Nat → Prop) (U : State) : Prop := vx_Zq Bundle.tN "UNASSIGNED_STACK" Bundle.steD A U U.heap ∧ vx_Zq Bundle.tN "SUPPRESSED_SENTINEL" Bundle.listD A U U.heap ∧ vk_R RX4 184 "LOW is 0" sa U ∧ ∀ w ∈ ndX, w.before #[] U = true
theorem cast_moved {w : Cond} {a a' : Array Value} {s U : State} (hw : w ∈ ndX) (hv : s.vm.Alike U.vm) (h : w.before a s = true) : w.before a' U = true := by
  obtain ⟨h1, h2⟩ := ndX_ok w hw
  have h3 : w.before a (s.setVm U.vm) = true := Cond.faceAtom_setVm hv w h1 h
  exact va_tabs h2 (u := s.setVm U.vm) rfl h3
theorem XS.moved {sa : Nat} {A B : Nat → Prop} {s U : State} {locs : List Loc} (h : XS sa A s) (hW : s.WarmedH U.vm) (hS : va_S A s.heap U.heap locs) (hAB : ∀ q, B q → A q) : XS sa B U := by
  obtain ⟨h1, h2, h3, h4⟩ := h
  exact ⟨vx_Zq.moved hW.alike ((h1.kept hS.2.1).narrow hAB), vx_Zq.moved hW.alike ((h2.kept hS.2.1).narrow hAB), vk_R.warm hW h3, fun w hw => cast_moved hw hW.alike (h4 w hw)⟩
def XF (sa : Nat) (X : XX) : Prop := match X with
  | ((_, l, _, R, s), (_, _, _, _, c), A0, ce, sl) => l.stackTraces = false ∧ XS sa A0 s ∧ (∀ x ∈ c.exceptionTable.toList, False) ∧ ce + 1 ≤ R.cells ∧ sl + 6 ≤ R.slots
def BXr (G : GG) : String → Mem → State → Prop := fun E u t => E = AEx ∧ va_P (gD G) vwCl (WS G u) t.heap
def QX (G : GG) (X : XX) (post : Int → Mem → Prop) (px : Mem → Prop) : State → Prop := match X with
  | ((_, _, _, _, s), (_, args, below, _, _), A0, ce, sl) => vx_MQ below (va_Ql (fun r (u : Mem) => ∃ z, r = oL z ∧ post z u) (fun u t => va_P (gD G) vwCl (WS G u) t.heap) A0) (vx_X px (BXr G) A0) args s (ce + 1) (sl + 6) A0
theorem w_lretX {G : GG} {X : XX} {cc : ByteArray} {own : String} {nL lev : Nat} {pc : Nat} {lv : List (Nat × PV)} {σ : Mem} {z : Int} {post : Int → Mem → Prop} {px : Mem → Prop} {sa : Nat} (C : CX G X cc own nL (some .long) lev) (F : XF sa X) (hd : decode cc pc = .ok (.lreturn, 1)) (hp : post z σ) : RW G X nL (QX G X post px) pc lv [pL z] σ := by
  obtain ⟨⟨p, l, e, R, s⟩, ⟨m, args, below, meth, c⟩, A0, ce, sl⟩ := X
  obtain ⟨hx, hb, hml, hown, hts, hK, hG, hAA, hlocks, hr, hR⟩ := C
  intro H locs ls hP hS hl
  refine vx_ret (W.widen (k := ce + 1) (n := sl + 6) (by omega) (by omega) ?_)
  exact W.lret hx hb hr (fun t ht hw => ⟨⟨oL z, σ, rfl, ⟨z, rfl, hp⟩, by show va_P (gD G) vwCl (WS G σ) t.heap; rw [ht]; exact hP⟩, hS.F ht⟩) hS.2.2 hd (hlocks := hlocks)
theorem w_throwX {G : GG} {X : XX} {lv : List (Nat × PV)} {σ : Mem} {post : Int → Mem → Prop} {px : Mem → Prop} {sa : Nat} (C : CX G X cX4_share RX4 3 (some .long) 5) (F : XF sa X) (hp : px σ) : RW G X 3 (QX G X post px) 29 lv [] σ := by
  obtain ⟨⟨p, l, e, R, s⟩, ⟨m, args, below, meth, c⟩, A0, ce, sl⟩ := X
  obtain ⟨hx, hb, hml, hown, hts, hK, hG, hAA, hlocks, hr, hR⟩ := C
  obtain ⟨f1, ⟨f2, f3, f4, f5⟩, f6, f7, f8⟩ := F
  intro H locs ls hP hS hl
  refine vx_throwS (own := RX4) (cls := AEx) (text := "LOW is 0") (names := nmX) (ik := 182) (is := 184) (ic := 186) (A := A0) (sa := sa) hx hb f1 hown (by decide +kernel) (by decide +kernel) (hts _ w_X4k) (hts _ w_X4i) f4 (vx_hat (B := ndX) (fun w h => hts w (at_X4g w h)) (fun w h => List.mem_cons_of_mem _ h) (fun w h => cast_moved h (Vm.Alike.refl _) (f5 w h))) at_X4o f2 f3 hS (by rw [hml, hl.1]) dX4_share_29 dX4_share_32 dX4_share_33 dX4_share_35 dX4_share_38 (fun x hx => (f6 x hx).elim) ?_ ?_ f7 f8 hlocks (fun t ht hz hk => ⟨σ, hp, ⟨rfl, hP.kept (fun k q hq => hk q.1 ((hP k q hq).lt))⟩, ⟨Nat.le_trans hS.1 hz, fun q h1 h2 => by rw [hk q (Nat.lt_of_lt_of_le h1 hS.1)]; exact hS.2.1 q h1 h2⟩⟩) hS.2.2 (Nat.le_refl _) (Nat.le_refl _)
  · show 2 + 3 < R.frames
    omega
  · show 0 + (13 * (2 + 1) + 43) ≤ R.locals
    omega
def VC_X4_share_0 (M : Nat) (post : Int → Mem → Prop) (px : Mem → Prop)  (σ : Mem) : Prop :=
 (pre_X2_draw M 12 σ) ∧ ∀ (z3 : Int) (s2 : Mem), post_X2_draw M 12 σ z3 s2 → (inR z3) ∧ ((z3 = 0 → (pre_X0_greatest M s2) ∧ ∀ (z8 : Int) (s7 : Mem), post_X0_greatest M s2 z8 s7 → (inR z8) ∧ (inL z8) ∧ (inR (sgn z8 0)) ∧ ((¬ (sgn z8 0) = 0 → (inR (s7 12 1)) ∧ (0 ≤ (1000 * (s7 12 1)) ∧ inL (1000 * (s7 12 1)) ∧ inL z8 ∧ 0 < z8) ∧ post ((1000 * (s7 12 1)) / z8) s7) ∧ ((sgn z8 0) = 0 → px s7))) ∧ (¬ z3 = 0 → post (-9223372036854775808) s2))
set_option maxRecDepth 20000 in
set_option maxHeartbeats 4000000 in
theorem seg_X4_share_0 {G : GG} {X : XX} {post : Int → Mem → Prop} {px : Mem → Prop} {sa : Nat} (C : CX G X cX4_share RX4 3 (some .long) 5) (F : XF sa X)    (σ : Mem) (vc : VC_X4_share_0 (gM G) post px   σ) : RW G X 3 (QX G X post px) 0 [(0, pR 0)] [] σ := by
  unfold VC_X4_share_0 at vc
  refine w_aload_n C 0 dX4_share_0 rfl ?_
  refine w_getR C dX4_share_1 gf_X4_34 ob_0 rfl ?_
  obtain ⟨sc1, vc⟩ := vc
  refine w_callVI C [] [] rfl dX4_share_4 (c_X2_draw C.gi (xL X) 12 σ (by omega) sc1) oc_12 mw_X2_draw ml_X4_128 im_X2_draw se_X2_draw (by decide) (Nat.le_of_ble_eq_true rfl) (fun z3 s2 hs2 => ?_)
  have vc := vc z3 s2 hs2
  obtain ⟨sc4, vc⟩ := vc
  refine w_if_eq C 14 dX4_share_7 (by decide) sc4 (fun h5 => ?_) (fun h5 => ?_)
  · have vc := vc.1 h5
    refine w_aload_n C 0 dX4_share_14 rfl ?_
    refine w_getR C dX4_share_15 gf_X4_51 ob_0 rfl ?_
    obtain ⟨sc6, vc⟩ := vc
    refine w_callVI C [] [] rfl dX4_share_18 (c_X0_greatest C.gi (xL X)  s2 sc6) oc_31 mw_X0_greatest ml_X4_179 im_X0_greatest se_X0_greatest (by decide) (Nat.le_of_ble_eq_true rfl) (fun z8 s7 hs7 => ?_)
    have vc := vc z8 s7 hs7
    obtain ⟨sc9, vc⟩ := vc
    refine w_i2l C dX4_share_21 sc9 ?_
    refine w_lstore_n C [(1, pL z8), (0, pR 0)] dX4_share_22 (by decide) rfl ?_
    refine w_lload_n C 0 dX4_share_23 rfl ?_
    refine w_lconst (z := 0) C dX4_share_24 (by decide) ?_
    obtain ⟨sc10, vc⟩ := vc
    refine w_lcmp C dX4_share_25 sc10 ⟨by omega, by omega⟩ ?_
    obtain ⟨sc11, vc⟩ := vc
    refine w_if_ne C 39 dX4_share_26 (by decide) sc11 (fun h12 => ?_) (fun h12 => ?_)
    · have vc := vc.1 h12
      refine w_ldc2 (n := 1000) C dX4_share_39 cs_X4_189 ?_
      refine w_aload_n C 1 dX4_share_42 rfl ?_
      refine w_getR C dX4_share_43 gf_X4_34 ob_0 rfl ?_
      refine w_getI C 1 dX4_share_46 gf_X4_144 ob_12 rfl rfl ?_
      obtain ⟨sc13, vc⟩ := vc
      refine w_i2l C dX4_share_49 sc13 ?_
      refine w_lmul C dX4_share_50 ?_
      refine w_lload_n C 0 dX4_share_51 rfl ?_
      obtain ⟨⟨sc14, sc15, sc16, sc17⟩, vc⟩ := vc
      refine w_ldivN C dX4_share_52 sc14 sc15 sc16 sc17 ?_
      exact w_lretX C F dX4_share_53 vc
    · have vc := vc.2 h12
      exact w_throwX C F vc
  · have vc := vc.2 h5
    refine w_ldc2 (n := -9223372036854775808) C dX4_share_10 cs_X4_147 ?_
    exact w_lretX C F dX4_share_13 vc
theorem SE_LOW {M : Nat} {a b : Mem} (h : SE a b) {z : Int} (x : LOW M a z) : LOW M b z := by
  obtain ⟨x0, x1, x2, x3, x4⟩ := x
  have ej : ∀ j, jbA a j = jbA b j := fun j => by unfold jbA; rw [h 2 (by omega), h 7 (by omega), h 5 (by omega)]
  refine ⟨x0, x1, fun m v m0 m1 m2 m3 => x2 m v m0 m1 (by rw [SE_cU h]; exact m2) (SE_BND h.symm m3), fun j j0 j1 j2 => ?_, ?_⟩
  · rw [← ej]; exact x3 j j0 (by rw [h 1 (by omega)]; exact j1) (by rw [h 5 (by omega)]; exact j2)
  · rcases x4 with e | ⟨m, m0, m1, m2, m3⟩ | ⟨j, j0, j1, j2, j3⟩
    · exact Or.inl e
    · exact Or.inr (Or.inl ⟨m, m0, m1, by rw [← SE_cU h]; exact m2, SE_BND h m3⟩)
    · exact Or.inr (Or.inr ⟨j, j0, by rw [← h 1 (by omega)]; exact j1, by rw [← h 5 (by omega)]; exact j2, by rw [← ej]; exact j3⟩)
def post_X4_share (M : Nat) (σ : Mem) (z : Int) (σ' : Mem) : Prop := R_share M σ z 0 ∧ SE σ σ' ∧ CI M σ' ∧ FC σ σ' ∧ inL z
def px_X4_share (M : Nat) (σ σ' : Mem) : Prop := R_share M σ 0 1 ∧ SE σ σ' ∧ CI M σ' ∧ FC σ σ'
theorem ok_X4_share {M : Nat} {σ : Mem} (h : CI M σ) : VC_X4_share_0 M (post_X4_share M σ) (px_X4_share M σ) σ := by
  refine ⟨h.1, fun z s hp => ?_⟩
  obtain ⟨hF, hz⟩ := draw_plan (Or.inl rfl) h.1 hp
  have hSE := hF.SE (Or.inl rfl)
  have hCI := FR_CI (Or.inl rfl) hF h
  have hFC := FR_FC (Or.inl rfl) hF
  refine ⟨⟨by omega, by omega⟩, fun g => ⟨⟨hCI.1.1, hCI.2⟩, fun z8 s7 h7 => ?_⟩, fun g => ⟨?_, hSE, hCI, hFC, ⟨by omega, by omega⟩⟩⟩
  · obtain ⟨c7, k7, l7⟩ := h7
    have d : DP M 12 σ s := by
      rcases hz with ⟨e, -⟩ | ⟨e, -⟩ | ⟨e, d⟩
      · omega
      · omega
      · exact d
    have l7' : LOW M σ z8 := SE_LOW hSE.symm l7
    have z0 := l7.1
    have z1 := l7.2.1
    have hS7 := hSE.trans c7.SE
    have hC7 : CI M s7 := ⟨SE_WF c7.SE hCI.1, k7⟩
    have hF7 : FC σ s7 := fun c c1 c2 => (c7 c (by omega)).trans (hFC c c1 c2)
    have e12 : s7 12 = s 12 := c7 12 (by omega)
    have hg := d.2.2.2.1
    have hgs : sgn z8 0 = if 0 < z8 then 1 else 0 := by
      unfold sgn
      by_cases q : 0 < z8
      · rw [if_pos q, if_pos q]
      · rw [if_neg q, if_neg q, if_pos (by omega)]
    rw [hgs, e12]
    refine ⟨⟨by omega, by omega⟩, ⟨by omega, by omega⟩, by split <;> exact ⟨by omega, by omega⟩, fun q => ?_, fun q => ?_⟩
    · have hp : 0 < z8 := by
        apply Classical.byContradiction
        intro w
        rw [if_neg w] at q
        exact q rfl
      have hd : 0 ≤ 1000 * s 12 1 / z8 ∧ 1000 * s 12 1 / z8 ≤ 1000 * s 12 1 := ⟨Int.ediv_nonneg (by omega) (by omega), Int.ediv_le_self _ (by omega)⟩
      exact ⟨⟨by omega, by omega⟩, ⟨by omega, ⟨by omega, by omega⟩, ⟨by omega, by omega⟩, hp⟩, Or.inr ⟨_, _, z8, d.1, d.2.1, l7', Or.inr ⟨by omega, rfl, rfl⟩⟩, hS7, hC7, hF7, ⟨by omega, by omega⟩⟩
    · have hp : z8 = 0 := by
        by_cases w : 0 < z8
        · rw [if_pos w] at q; omega
        · omega
      exact ⟨Or.inr ⟨_, _, z8, d.1, d.2.1, l7', Or.inl ⟨hp, rfl⟩⟩, hS7, hC7, hF7⟩
  · rcases hz with ⟨e, q, n⟩ | ⟨e, q, n⟩ | ⟨e, d⟩
    · exact Or.inl ⟨n, rfl, rfl⟩
    · exact Or.inl ⟨n, rfl, rfl⟩
    · exact absurd e g
/-! contracts -/
def PcX (G : GG) (sa : Nat) (as : List PV) (σ : Mem) : Array Value → State → Prop := va_Pc (dens (gA G) as) (fun U => va_P (gD G) vwCl (WS G σ) U.heap ∧ va_K (gD G) vwCl (tyG G) U ∧ XS sa (AA G) U)
theorem PcX_blind (G : GG) (sa : Nat) (as : List PV) (σ : Mem) : FrameBlind (PcX G sa as σ) := fun a U g mk q => by
  obtain ⟨q0, qP, qK, q1, q2, q3, q4⟩ := q
  exact ⟨q0, qP, va_K.moved (u := U) (U := U.calling g mk a) (Vm.Alike.refl U.vm) qK, vx_Zq.moved (u := U) (U := U.calling g mk a) (Vm.Alike.refl U.vm) q1, vx_Zq.moved (u := U) (U := U.calling g mk a) (Vm.Alike.refl U.vm) q2, vk_R.same rfl q3, fun w hw => cast_moved hw (Vm.Alike.refl U.vm) (q4 w hw)⟩
def rmX (d : Nat) : Room := { frames := d + 1, cells := 1, slots := 6, locals := 34 * (d + 1) }
theorem c_X4_share {G : GG} (hG : GI G) (l : Launch) (hl0 : l.stackTraces = false) (sa : Nat) (σ : Mem) (h : CI (gM G) σ) : vx_Met l yX4_share (wsY yX4_share cX4_share 3 (some .long)) (rmX 5) (PcX G sa [pR 0] σ) (va_Ql (fun r (u : Mem) => ∃ z, r = oL z ∧ post_X4_share (gM G) σ z u) (fun u t => va_P (gD G) vwCl (WS G u) t.heap) (AA G)) (vx_X (px_X4_share (gM G) σ) (BXr G) (AA G)) 1 6 (AA G) := by
  refine vx_ofW (cc := cX4_share) (maxL := 3) (ret := some .long) (by decide) rfl ?_
  intro p e s m args below meth c s₁ B hml hta hv
  obtain ⟨rfl, hP, hK, hXS⟩ := hv
  have hts0 := atoms_spec (ws := wsY yX4_share cX4_share 3 (some .long)) B.pre
  have hown : s.vm.findClass RX4 = some m.cls := findClass_of_methodNamed B.named
  have hl := lv_entry (dens (gA G) [pR 0]) (n := 3) (by rw [aN_len]; decide)
  rw [lg_entry_eq]
  generalize (lg_sl (dens (gA G) [pR 0]) ++ List.replicate (3 - (lg_sl (dens (gA G) [pR 0])).length) Slot.unset).toArray = ls at hl ⊢
  rw [← aL_den] at hl
  exact seg_X4_share_0 (X := ((p, l, e, (headSpec (wsY yX4_share cX4_share 3 (some .long)) (rmX 5)).room, s), (m, (dens (gA G) [pR 0]).toArray, below, meth, c), AA G, 0, 0))
    ⟨B.exec, B.bytes, hml, hown, fun w h => hts0 w (List.mem_cons_of_mem _ h), hK, hG, fun _ h => h, B.notSynchronized, B.returns, Nat.le_refl _, Nat.le_refl _, Nat.zero_le _, Nat.zero_le _⟩ (sa := sa) ⟨hl0, hXS, hta, Nat.le_refl _, Nat.le_refl _⟩ σ (ok_X4_share h) s.heap [] ls hP va_S.rf hl
/-! the law's share -/
def post_L_share (M : Nat) (σ : Mem) (k : Int) (σ' : Mem) : Prop := CI M σ' ∧ SE σ σ' ∧ (∀ c : Int, 37 ≤ c → c < 56 → σ' c = σ c) ∧ ((k = 0 ∧ R_share M σ (σ' 56 0) 0 ∧ inL (σ' 56 0)) ∨ (k = 1 ∧ R_share M σ 0 1))
def wsLs : List Cond := .codeWith yL_share cL_share 3 (some .int) [(0, 7, 10, 13)] :: TB
theorem w_Lk : Cond.classLink RL 13 AEx ∈ TB := TB_of 540 (by decide +kernel) rfl
theorem c_L_share {G : GG} (hG : GI G) (l : Launch) (hl0 : l.stackTraces = false) (sa : Nat) (σ : Mem) (h : CI (gM G) σ) : Met l yL_share wsLs (rmX 6) (PcX G sa [pR 0, pR 56] σ) (va_Qi (fun r (u : Mem) => ∃ z, r = oI z ∧ post_L_share (gM G) σ z u) (fun u t => va_P (gD G) vwCl (WS G u) t.heap) (AA G)) 1 6 (AA G) := by
  refine va_MetW (cc := cL_share) (maxL := 3) (ret := some .int) (hh := [(0, 7, 10, 13)]) (by decide) rfl ?_
  intro p e s m args below meth c s₁ B hml hv
  obtain ⟨rfl, hP, hK, hXS⟩ := hv
  have hts0 := atoms_spec (ws := wsLs) B.pre
  have htbl := vx_table (x := yL_share) B (hts0 _ List.mem_cons_self)
  have hts : ∀ w ∈ TB, w.before (dens (gA G) [pR 0, pR 56]).toArray s = true := fun w h => hts0 w (List.mem_cons_of_mem _ h)
  have hown : s.vm.findClass RL = some m.cls := findClass_of_methodNamed B.named
  have hl := lv_entry (dens (gA G) [pR 0, pR 56]) (n := 3) (by rw [aN_len]; decide)
  rw [lg_entry_eq]
  generalize (lg_sl (dens (gA G) [pR 0, pR 56]) ++ List.replicate (3 - (lg_sl (dens (gA G) [pR 0, pR 56])).length) Slot.unset).toArray = ls at hl ⊢
  rw [← aL_den] at hl
  obtain ⟨R, hR⟩ : ∃ R, R = (headSpec wsLs (rmX 6)).room := ⟨_, rfl⟩
  have hR0 : R = rmX 6 := hR
  rw [← hR]
  have C0 : CX G ((p, l, e, R, s), (m, (dens (gA G) [pR 0, pR 56]).toArray, below, meth, c), AA G, 0, 0) cL_share RL 3 (some .int) 6 := ⟨B.exec, B.bytes, hml, hown, hts, hK, hG, fun _ h => h, B.notSynchronized, B.returns, by rw [hR0]; exact Nat.le_refl _, by rw [hR0]; exact Nat.le_refl _, Nat.zero_le _, Nat.zero_le _⟩
  have C1 : CX G ((p, l, e, R, s), (m, (dens (gA G) [pR 0, pR 56]).toArray, below, meth, c), AA G, 1, 6) cL_share RL 3 (some .int) 6 := ⟨B.exec, B.bytes, hml, hown, hts, hK, hG, fun _ h => h, B.notSynchronized, B.returns, by rw [hR0]; exact Nat.le_refl _, by rw [hR0]; exact Nat.le_refl _, by rw [hR0]; exact Nat.le_refl _, by rw [hR0]; exact Nat.le_refl _⟩
  have key : RW G ((p, l, e, R, s), (m, (dens (gA G) [pR 0, pR 56]).toArray, below, meth, c), AA G, 0, 0) 3 (QI G ((p, l, e, R, s), (m, (dens (gA G) [pR 0, pR 56]).toArray, below, meth, c), AA G, 1, 6) (post_L_share (gM G) σ)) 0 [(0, pR 0), (1, pR 56)] [] σ := by
    refine w_aload_n C0 1 dL_share_0 rfl ?_
    refine w_iconst C0 dL_share_1 ?_
    refine w_aload_n C0 0 dL_share_2 rfl ?_
    intro H locs ls hP hS hl
    obtain ⟨ci, fs, q, ⟨k, hk0, hq, hs⟩, hcl, hqc⟩ := oc_0 (G := G)
    have hk0' : k = 0 := by omega
    subst hk0'
    have he : (WS G σ)[0]? = some (gA G 0, obE (gA G) ci fs (σ 0)) := by rw [WS_get G σ hq, hs]; rfl
    refine vx_calll (A0 := AA G) (H0 := s.heap) (vx_runV (bytes := cX4_share) (maxL := 3) (ret := some .long) (n := 0) (As := []) (rest := dens (gA G) [pI 0, pR 56]) (Ts := TB) (C := RX4) (b := gA G 0) ⟨B.exec, B.bytes, hml, hown, hts⟩ (c_X4_share hG l hl0 sa σ h) ⟨?_, hts _ im_X4_share, hts _ se_X4_share⟩ ⟨PcX_blind _ _ _ _, ?_, fun U hU hW => ⟨rfl, by rw [hU]; exact hP, va_K.moved hW.alike hK, XS.moved (locs := locs) hXS hW (by rw [hU]; exact hS) (fun _ h => h)⟩⟩ rfl rfl hl.1 rfl (lv_room (Nat.le_of_ble_eq_true rfl)) dL_share_3 ⟨by rw [hR0]; exact Nat.le_refl _, by rw [hR0]; exact Nat.le_refl _⟩) hS (fun q _ h => h) (fun _ h => h) (fun q _ h => h) (fun E ce q9 u t H1 locs1 ht hvm hpx hBX hz hk hS1 hcell hv hcl9 => ?_) (fun r u t H1 locs1 ht hvm hpost hB hz hk hS1 => ?_)
    · obtain ⟨h1, h2, h3, h4, h5, h6⟩ := mw_X4_share
      refine callB_of (Ts := TB) (ws' := TB) 0 hts (fun w h => ?_) rfl rfl rfl (hts _ h1) (hts _ ml_L_7) ⟨h3, h4, h5⟩ ⟨by rw [hR0]; exact Nat.le_refl _, by rw [hR0]; decide⟩
      rcases List.mem_cons.mp h with rfl | h
      · exact TB_good _ h2
      · exact TB_good _ h
    · have := va_recv hK hP hcl he
      rw [hqc] at this
      exact this
    · obtain ⟨rfl, hPu⟩ := hBX
      refine vx_catch (own := RL) (name := AEx) (E := AEx) hown ⟨0, 7, 10, 13⟩ [] htbl rfl (by decide) (hts _ w_Lk) (cast_moved (List.mem_cons_self) (Vm.Alike.refl _) (hXS.2.2.2 _ List.mem_cons_self)) hcell hv hcl9 ?_
      refine lv_astore_n (lv' := [(2, .ref q9), (0, .ref (gA G 0)), (1, .ref (gA G 56))]) B.exec B.bytes dL_share_10 rfl hl (by decide) rfl (fun ls hl => ?_)
      refine lv_iconst (v := 1) B.exec B.bytes dL_share_11 (by decide) ?_
      exact W.iret B.exec B.bytes B.returns (fun t' ht' hw => ⟨⟨oI 1, u, rfl, ⟨1, rfl, hpx.2.2.1, hpx.2.1, fun c c1 c2 => hpx.2.2.2 c c1 (by omega), Or.inr ⟨rfl, hpx.1⟩⟩, by show va_P (gD G) vwCl (WS G u) t'.heap; rw [ht', ← ht]; exact hPu⟩, hS1.F ht'⟩) hS1.2.2 dL_share_12 (hlocks := B.notSynchronized)
    · obtain ⟨z, rfl, hp⟩ := hpost
      have s1 : RW G ((p, l, e, R, s), (m, (dens (gA G) [pR 0, pR 56]).toArray, below, meth, c), AA G, 1, 6) 3 (QI G ((p, l, e, R, s), (m, (dens (gA G) [pR 0, pR 56]).toArray, below, meth, c), AA G, 1, 6) (post_L_share (gM G) σ)) 6 [(0, pR 0), (1, pR 56)] [pL z, pI 0, pR 56] u := by
        refine w_last C1 dL_share_6 la_56 (by omega) (by omega) ?_
        refine w_goto C1 13 dL_share_7 (by decide) ?_
        refine w_iconst C1 dL_share_13 ?_
        refine w_ireturn C1 dL_share_14 ?_
        have hse : SE u (up u 56 0 z) := fun c hc => (up_other _ _ _ (by omega)).symm
        refine ⟨CI_SE hse (up_other _ _ _ (by omega)) hp.2.2.1, hp.2.1.trans hse, fun c c1 c2 => ?_, Or.inl ⟨rfl, ?_, ?_⟩⟩
        · rw [up_other _ _ _ (by omega)]; exact hp.2.2.2.1 c c1 (by omega)
        · rw [up_self]; exact hp.1
        · rw [up_self]; exact hp.2.2.2.2
      exact s1 H1 locs1 ls (by rw [← ht]; exact hB) hS1 hl
  exact key s.heap [] ls hP va_S.rf hl
