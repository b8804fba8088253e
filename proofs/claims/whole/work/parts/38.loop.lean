/-! THE LAW'S LOOP -/
def R_law : String := "ShopRulesLaw"
def lw_P (b : Addr) (xs : List Int32) (args : Array Value) (s : State) : Prop := args = #[.ref b] ∧ s.IntsAt b xs ∧ xs.length ≤ 2561 ∧ (Jvm.Cond.and given_1 narrow_1).before args s = true
def lw_Q (_ : Array Value) (s : State) (o : Outcome) (t : State) : Prop := o = .returned (some (.int 1)) ∧ Framed s o t [] 601024 7293000
def lw_Z (below : List Frame) (a : Array Value) (s : State) : State → Prop := fun t => ∃ o, t.status = .running ∧ Ended t below o ∧ lw_Q a s o t
/-- the law's own end, with 1 on the stack, nothing written that was there before, its room as the claim has it -/
theorem lw_ret {p : Program} {l : Launch} {e : Env} {s : State} {m : MethodId} {below : List Frame} {meth : Method} {c : Code} {b : Nat} (hx : p.tables.exec = Jvm.exec) (hb : c.code = code) (hr : meth.sig.returnType = ret) (hlocks : meth.locks = false) {pc : Nat} {H : Heap} {ls : Array Slot} (hdg : decode code pc = .ok (.ireturn, 1)) : W p l e room_1 s m #[Value.ref b] below meth c H [] 601024 7293000 (lw_Z below #[Value.ref b] s) (F0 m pc ls [.int 1]) := by
  intro T hT X
  obtain ⟨fs, hret, hrun, hended, hW, hframe⟩ := X.leave (v := some (.int 1)) (hlocks := hlocks) (fun h => by rw [hr] at h; cases h)
  have hmeth' : T.vm.method? m = some meth := X.method'
  refine ⟨T.setFrames fs, ?_, .returned (some (.int 1)), hrun, hended, rfl, ⟨_, rfl⟩, hW, hframe⟩
  jvm_step X.here [X.here.top, hx, hb, hdg, hmeth', hr, ret, narrow_b1]
  (try refine ⟨rfl, ?_⟩); (try refine ⟨rfl, ?_⟩)
  first | (intro acts; rw [hret _ acts rfl rfl rfl]) | rw [hret _ _ rfl rfl rfl]
  exact Steps.refl _
/-- what holds at the law's entry: the machine, the code, the tables' words (any of lw_tbl by 'hts w (by decide +kernel)'), the script of L ints xs at the cell b, what the Statement gives of the start (any of its parts by flat_of_before) -/
def lw_At (p : Program) (s : State) (m : MethodId) (meth : Method) (c : Code) (b L : Nat) (xs : Nat → Int32) : Prop :=
  p.tables.exec = Jvm.exec ∧ c.code = code ∧ meth.sig.returnType = ret ∧ c.maxLocals = 8 ∧ s.vm.findClass R_law = some m.cls ∧ (∀ w ∈ lw_tbl, w.before #[Value.ref b] s = true) ∧ va_X b L xs s s.heap ∧ b < s.heap.size ∧ meth.locks = false ∧ (Jvm.Cond.and given_1 narrow_1).before #[Value.ref b] s = true

theorem w_Lsw : Cond.codeWith yL_share cL_share 3 (some .int) [(0, 7, 10, 13)] ∈ TB := TB_of 539 (by decide +kernel) rfl
theorem w_Lst : Cond.static yL_share ∈ TB := TB_of 538 (by decide +kernel) rfl
theorem w_Lin : Cond.initialized RL ∈ TB := TB_of 39 (by decide +kernel) rfl
set_option maxRecDepth 20000 in
set_option maxHeartbeats 4000000 in
theorem case_share {G : GG} {p : Program} {l : Launch} {e : Env} {R : Room} {s : State} {m : MethodId} {args : Array Value} {below : List Frame} {meth : Method} {c : Code} {A0 : Nat → Prop} {ce sl sa : Nat} {Q : State → Prop} (C : CX G ((p, l, e, R, s), (m, args, below, meth, c), A0, ce, sl) cL_law RL 8 ret 8) (C' : CX G ((p, l, e, R, s), (m, args, below, meth, c), A0, ce + 1, sl + 6) cL_law RL 8 ret 8) (hl0 : l.stackTraces = false) (hXS : XS sa A0 s) {σ : Mem} (hI : LI (gM G) σ) (hs : Sy σ) {i : Int} (K : ∀ τ, LI (gM G) τ → RW G ((p, l, e, R, s), (m, args, below, meth, c), A0, ce + 1, sl + 6) 8 Q 701 (lvL i) [] τ) : RW G ((p, l, e, R, s), (m, args, below, meth, c), A0, ce, sl) 8 Q 658 (lvL i) [] σ := by
  refine w_aload_n C 1 dL_law_658 rfl ?_
  refine w_aload_n C 3 dL_law_659 rfl ?_
  have nxt : ∀ (k : Int) (s1 : Mem), post_L_share (gM G) σ k s1 → RW G ((p, l, e, R, s), (m, args, below, meth, c), A0, ce + 1, sl + 6) 8 Q 663 (lvL i) [pI k] s1 := by
    intro k s1 hp
    obtain ⟨hci, hse, hfc, hk⟩ := hp
    have hf : ∀ c : Int, 37 ≤ c → c ≤ 47 → s1 c = σ c := fun c c1 c2 => hfc c c1 (by omega)
    have hrp := ref_pre hI hs hf
    have hkr : k = 0 ∨ k = 1 := by rcases hk with q | q <;> omega
    refine w_istore C' ((5, pI k) :: lvL i) dL_law_663 (by decide) rfl ?_
    refine w_gh (sg σ s1) (sg_nat σ s1) ?_
    refine w_aload_n C' 3 dL_law_665 rfl ?_
    refine w_callVL C' [] [] rfl dL_law_666 (c_X5_share C'.gi _ (sg σ s1) hrp) oc_37 mw_X5_share ml_L_103 im_X5_share se_X5_share (by decide) (Nat.le_of_ble_eq_true rfl) (fun z2 s2 hz2 => ?_)
    obtain ⟨hfr, hr2⟩ := hz2
    rw [sg_gh hs] at hr2
    have hI2 : LI (gM G) s2 := q_fin hI hse hci hf hfr
    have e56 : s2 56 = s1 56 := by rw [hfr.1 56 (by omega), sg_pos σ s1 (by omega)]
    have hth : s2 37 0 = k ∧ (k = 0 → s2 56 0 = z2) := by
      rcases hk with ⟨rfl, r1, -⟩ | ⟨rfl, r1⟩
      · have d := R_share_det hI.1.1 r1 hr2
        exact ⟨d.1.symm, fun _ => by rw [e56]; exact d.2 rfl⟩
      · have d := R_share_det hI.1.1 r1 hr2
        exact ⟨d.1.symm, fun q => by omega⟩
    refine w_lstore C' ((6, pL z2) :: (5, pI k) :: lvL i) dL_law_669 (by decide) rfl ?_
    refine w_aload_n C' 4 dL_law_671 rfl ?_
    refine w_callVI C' [] [] rfl dL_law_672 (c_X5_thrown C'.gi _ s2 trivial) oc_37 mw_X5_thrown ml_L_104 im_X5_thrown se_X5_thrown (by decide) (Nat.le_of_ble_eq_true rfl) (fun z3 s3 hz3 => ?_)
    obtain ⟨rfl, rfl⟩ := hz3
    refine w_iload C' 1 dL_law_675 rfl ?_
    refine w_eqJ C' 682 dL_law_677 (by decide) hth.1 ?_
    refine w_iload C' 1 dL_law_682 rfl ?_
    have fin : RW G ((p, l, e, R, s), (m, args, below, meth, c), A0, ce + 1, sl + 6) 8 Q 698 ((6, pL z2) :: (5, pI k) :: lvL i) [] s3 := by
      refine w_goto C' 701 dL_law_698 (by decide) ?_
      exact w_sub _ [2, 3, 4, 5, 6] rfl (K s3 hI2)
    refine w_if_ne C' 698 dL_law_684 (by decide) (by rcases hkr with q | q <;> rw [q] <;> exact ⟨by omega, by omega⟩) (fun _ => fin) (fun q => ?_)
    refine w_aload_n C' 5 dL_law_687 rfl ?_
    refine w_iconst C' dL_law_688 ?_
    refine w_lald C' dL_law_689 la_56 (by omega) (by omega) ?_
    refine w_lload C' 0 dL_law_690 rfl ?_
    refine w_lcmpS C' dL_law_692 (hth.2 q) ?_
    exact w_if_eq C' 698 dL_law_693 (by decide) ⟨by omega, by omega⟩ (fun _ => fin) (fun q => absurd rfl q)
  obtain ⟨hx, hb, hml, hown, hts, hK, hG, hAA, hlocks, hr, hR⟩ := id C
  have hR' := C'.2.2.2.2.2.2.2.2.2.2
  intro H locs ls hP hS hl
  have hcw : vx_CSW R s args RL 100 yL_share cL_share 3 (some .int) [(0, 7, 10, 13)] wsLs (rmX 6) 1 6 2 := by
    refine ⟨⟨rfl, rfl, ?_, ?_, pay_in hts (fun w hw => ?_), List.mem_cons_self⟩, hts _ w_Lsw, hts _ w_Lin, ⟨by decide, by decide⟩, fun sig h => ?_, hts _ ml_L_100, hts _ w_Lst⟩
    · show 6 + 1 + 1 ≤ R.frames
      omega
    · show 8 + (3 + 11) + 34 * (6 + 1) ≤ R.locals
      omega
    · rcases List.mem_cons.mp hw with rfl | hw
      · exact TB_good _ w_Lsw
      · exact TB_good _ hw
    · have h2 : (parseMethodDescriptor yL_share.desc).map (fun d => d.parameters.length) = some 2 := by decide +kernel
      rw [h] at h2
      exact (Option.some.inj h2).symm
  refine va_calli (A1 := AA G) (vx_runSW (As := dens (gA G) [pR 0, pR 56]) (rest := dens (gA G) []) (Ts := TB) ⟨hx, hb, hml, hown, hts⟩ (c_L_share hG l hl0 sa σ hI.1) hcw ⟨PcX_blind _ _ _ _, fun U hU hW => ⟨rfl, by rw [hU]; exact hP, va_K.moved hW.alike hK, XS.moved (locs := locs) hXS hW (by rw [hU]; exact hS) hAA⟩⟩ rfl rfl hl.1 rfl (lv_room (Nat.le_of_ble_eq_true rfl)) dL_law_660 ⟨hR'.2.2.1, hR'.2.2.2⟩) hS (fun q _ h => hAA q h) hAA (fun r u t H1 locs1 ht hvm hpost hB hz hk hS1 => ?_)
  obtain ⟨z, rfl, hp⟩ := hpost
  exact nxt z u hp H1 locs1 ls (by rw [← ht]; exact hB) hS1 hl
theorem w_wid {G : GG} {p : Program} {l : Launch} {e : Env} {R : Room} {s : State} {m : MethodId} {args : Array Value} {below : List Frame} {meth : Method} {c : Code} {A0 : Nat → Prop} {ce sl nL pc : Nat} {lv : List (Nat × PV)} {st : List PV} {σ : Mem} {Q : State → Prop} (ce' sl' : Nat) (h1 : ce ≤ ce') (h2 : sl ≤ sl') (k : RW G ((p, l, e, R, s), (m, args, below, meth, c), A0, ce', sl') nL Q pc lv st σ) : RW G ((p, l, e, R, s), (m, args, below, meth, c), A0, ce, sl) nL Q pc lv st σ := by
  intro H locs ls hP hS hl
  exact W.widen h1 h2 (k H locs ls hP hS hl)
set_option maxRecDepth 20000 in
set_option maxHeartbeats 4000000 in
theorem law_loop {G : GG} {p : Program} {l : Launch} {e : Env} {s : State} {m : MethodId} {below : List Frame} {meth : Method} {c : Code} {b sa : Nat} {L : Nat} {xs : Nat → Int32} (hC : ∀ k : Nat, k ≤ 700 → CX G ((p, l, e, room_1, s), (m, #[Value.ref b], below, meth, c), (fun q => s.heap.size ≤ q), 1000 + k, 10000 + 6 * k) cL_law RL 8 ret 8) (hb9 : gA G (-1) = b) (hX : va_X b L xs s s.heap) (hL : L ≤ 2561) (hl0 : l.stackTraces = false) (hXS : XS sa (fun q => s.heap.size ≤ q) s) : ∀ n k : Nat, (L : Int) < 5 * (k + n) + 6 → k + n ≤ 600 → ∀ σ : Mem, LI (gM G) σ → RW G ((p, l, e, room_1, s), (m, #[Value.ref b], below, meth, c), (fun q => s.heap.size ≤ q), 1000 + k, 10000 + 6 * k) 8 (lw_Z below #[Value.ref b] s) 33 (lvL (1 + 5 * k)) [] σ := by
  have hbl : b < s.heap.size := by
    obtain ⟨scr, h1, -⟩ := hX
    exact (Array.getElem?_eq_some_iff.mp h1).1
  have hS : ∀ k : Nat, SX G ((p, l, e, room_1, s), (m, #[Value.ref b], below, meth, c), (fun q => s.heap.size ≤ q), 1000 + k, 10000 + 6 * k) L xs := fun k => ⟨by rw [hb9]; exact hX, by rw [hb9]; exact Nat.not_le.mpr hbl, hL⟩
  intro n
  induction n with
  | zero =>
    intro k hk hk2 σ hI
    have C := hC k (by omega)
    refine w_iload C 4 dL_law_33 rfl ?_
    refine w_aload_n C 0 dL_law_35 rfl ?_
    refine w_slen C (hS k) dL_law_36 ?_
    refine w_iconst C dL_law_37 ?_
    refine w_isub C dL_law_38 ?_
    refine w_icmp_gt C 707 dL_law_39 (by decide) ⟨by omega, by omega⟩ ⟨by omega, by omega⟩ (fun g => ?_) (fun g => by omega)
    obtain ⟨hx, hb, hml, hown, hts, hK, hG, hAA, hlocks, hr, hR⟩ := C
    intro H locs ls hP hS9 hl
    refine lv_iconst (v := 1) hx hb dL_law_707 (by decide) ?_
    refine va_forget hS9.2.2 (W.widen (k := 601024) (n := 7293000) (by omega) (by omega) ?_)
    exact lw_ret hx hb hr hlocks dL_law_708
  | succ n ih =>
    intro k hk hk2 σ hI
    have C := hC k (by omega)
    have C' : CX G ((p, l, e, room_1, s), (m, #[Value.ref b], below, meth, c), (fun q => s.heap.size ≤ q), 1000 + k + 1, 10000 + 6 * k + 6) cL_law RL 8 ret 8 := by
      have := hC (k + 1) (by omega)
      rw [show 1000 + (k + 1) = 1000 + k + 1 by omega, show 10000 + 6 * (k + 1) = 10000 + 6 * k + 6 by omega] at this
      exact this
    refine w_iload C 4 dL_law_33 rfl ?_
    refine w_aload_n C 0 dL_law_35 rfl ?_
    refine w_slen C (hS k) dL_law_36 ?_
    refine w_iconst C dL_law_37 ?_
    refine w_isub C dL_law_38 ?_
    refine w_icmp_gt C 707 dL_law_39 (by decide) ⟨by omega, by omega⟩ ⟨by omega, by omega⟩ (fun g => ?_) (fun g => ?_)
    · obtain ⟨hx, hb, hml, hown, hts, hK, hG, hAA, hlocks, hr, hR⟩ := C
      intro H locs ls hP hS9 hl
      refine lv_iconst (v := 1) hx hb dL_law_707 (by decide) ?_
      refine va_forget hS9.2.2 (W.widen (k := 601024) (n := 7293000) (by omega) (by omega) ?_)
      exact lw_ret hx hb hr hlocks dL_law_708
    · have K' : ∀ τ, LI (gM G) τ → RW G ((p, l, e, room_1, s), (m, #[Value.ref b], below, meth, c), (fun q => s.heap.size ≤ q), 1000 + k + 1, 10000 + 6 * k + 6) 8 (lw_Z below #[Value.ref b] s) 701 (lvL (1 + 5 * k)) [] τ := fun τ hτ => by
        refine w_iinc C' 4 [(4, pI (1 + 5 * k + 5)), (0, pR (-1)), (1, pR 0), (2, pR 37), (3, pR 56)] dL_law_701 rfl (by decide) rfl ?_
        refine w_goto C' 33 dL_law_704 (by decide) ?_
        have h := ih (k + 1) (by omega) (by omega) τ hτ
        rw [show 1000 + (k + 1) = 1000 + k + 1 by omega, show 10000 + 6 * (k + 1) = 10000 + 6 * k + 6 by omega, show (1 : Int) + 5 * ((k + 1 : Nat) : Int) = 1 + 5 * k + 5 by omega] at h
        exact w_sub _ [1, 2, 3, 4, 0] rfl h
      have K : ∀ τ, LI (gM G) τ → RW G ((p, l, e, room_1, s), (m, #[Value.ref b], below, meth, c), (fun q => s.heap.size ≤ q), 1000 + k, 10000 + 6 * k) 8 (lw_Z below #[Value.ref b] s) 701 (lvL (1 + 5 * k)) [] τ := fun τ hτ => w_wid _ _ (by omega) (by omega) (K' τ hτ)
      have hIs := LI_sy hI
      have hss := sy_Sy σ
      refine w_gh (sy σ) (sy_nat σ) ?_
      refine w_aload_n C 0 dL_law_42 rfl ?_
      refine w_iload C 4 dL_law_43 rfl ?_
      refine w_sld C (hS k) dL_law_45 (by omega) (by omega) ?_
      refine w_bipush C dL_law_46 (by decide) ?_
      refine w_iand C dL_law_48 ?_
      refine w_top (fun v hv => ?_)
      have hvr : inR v := by rw [hv]; exact inR_of _
      rcases (by omega : v = 0 ∨ v = 1 ∨ v = 2 ∨ v = 3 ∨ v = 4 ∨ v = 5 ∨ v = 6 ∨ v = 7 ∨ v = 8 ∨ v = 9 ∨ v = 10 ∨ v = 11 ∨ v = 12 ∨ v = 13 ∨ v = 14 ∨ v = 15 ∨ v = 16 ∨ v = 17 ∨ (v < 0 ∨ 17 < v)) with h | h | h | h | h | h | h | h | h | h | h | h | h | h | h | h | h | h | h
      · refine w_tabIn C 136 dL_law_49 hvr (by omega) (by omega) (by rw [h]; rfl) (by decide) ?_
        exact case_job C (hS k) hIs hss (by omega) (by omega) K
      · refine w_tabIn C 185 dL_law_49 hvr (by omega) (by omega) (by rw [h]; rfl) (by decide) ?_
        exact case_step C (hS k) hIs hss (by omega) (by omega) K
      · refine w_tabIn C 234 dL_law_49 hvr (by omega) (by omega) (by rw [h]; rfl) (by decide) ?_
        exact case_change C (hS k) hIs hss (by omega) (by omega) K
      · refine w_tabIn C 295 dL_law_49 hvr (by omega) (by omega) (by rw [h]; rfl) (by decide) ?_
        exact case_put C (hS k) hIs hss (by omega) (by omega) K
      · refine w_tabIn C 332 dL_law_49 hvr (by omega) (by omega) (by rw [h]; rfl) (by decide) ?_
        exact case_take C (hS k) hIs hss (by omega) (by omega) K
      · refine w_tabIn C 357 dL_law_49 hvr (by omega) (by omega) (by rw [h]; rfl) (by decide) ?_
        exact case_swap C (hS k) hIs hss (by omega) (by omega) K
      · refine w_tabIn C 394 dL_law_49 hvr (by omega) (by omega) (by rw [h]; rfl) (by decide) ?_
        exact case_at C (hS k) hIs hss (by omega) (by omega) K
      · refine w_tabIn C 431 dL_law_49 hvr (by omega) (by omega) (by rw [h]; rfl) (by decide) ?_
        exact case_fill C (hS k) hIs hss (by omega) (by omega) K
      · refine w_tabIn C 456 dL_law_49 hvr (by omega) (by omega) (by rw [h]; rfl) (by decide) ?_
        exact case_state C (hS k) hIs hss (by omega) (by omega) K
      · refine w_tabIn C 469 dL_law_49 hvr (by omega) (by omega) (by rw [h]; rfl) (by decide) ?_
        exact case_when C (hS k) hIs hss (by omega) (by omega) K
      · refine w_tabIn C 506 dL_law_49 hvr (by omega) (by omega) (by rw [h]; rfl) (by decide) ?_
        exact case_span C (hS k) hIs hss (by omega) (by omega) K
      · refine w_tabIn C 519 dL_law_49 hvr (by omega) (by omega) (by rw [h]; rfl) (by decide) ?_
        exact case_late C (hS k) hIs hss (by omega) (by omega) K
      · refine w_tabIn C 533 dL_law_49 hvr (by omega) (by omega) (by rw [h]; rfl) (by decide) ?_
        exact case_swapped C (hS k) hIs hss (by omega) (by omega) K
      · refine w_tabIn C 570 dL_law_49 hvr (by omega) (by omega) (by rw [h]; rfl) (by decide) ?_
        exact case_better C (hS k) hIs hss (by omega) (by omega) K
      · refine w_tabIn C 583 dL_law_49 hvr (by omega) (by omega) (by rw [h]; rfl) (by decide) ?_
        exact case_part C (hS k) hIs hss (by omega) (by omega) K
      · refine w_tabIn C 620 dL_law_49 hvr (by omega) (by omega) (by rw [h]; rfl) (by decide) ?_
        exact case_bound C (hS k) hIs hss (by omega) (by omega) K
      · refine w_tabIn C 645 dL_law_49 hvr (by omega) (by omega) (by rw [h]; rfl) (by decide) ?_
        exact case_low C (hS k) hIs hss (by omega) (by omega) K
      · refine w_tabIn C 658 dL_law_49 hvr (by omega) (by omega) (by rw [h]; rfl) (by decide) ?_
        exact case_share C C' hl0 hXS hIs hss K'
      · refine w_tabOut C 701 dL_law_49 hvr h (by decide) ?_
        exact K _ hIs
