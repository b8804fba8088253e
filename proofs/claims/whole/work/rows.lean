section
-- ===== PART A: goes FIRST, ahead of the names: the tables' words, and 'selects' of the private methods out of them =====
/-- a private method of a class that the tables say can be made, by its rows of tables_1 -/
def lw_okq (q : MethodName × Nat) : Prop := (q.1.cls ≠ "java/lang/invoke/MethodHandle" ∧ q.1.cls ≠ "java/lang/invoke/VarHandle") ∧ Cond.instantiable q.1.cls q.2 ∈ tables_1 ∧ Cond.privateMethod q.1 ∈ tables_1 ∧ Cond.instanceMethod q.1 ∈ tables_1
theorem lw_p0 : lw_okq (⟨"ShopRules$Filling", "lookAhead", "()V"⟩, 5) := ⟨⟨by decide +kernel, by decide +kernel⟩, List.mem_of_getElem? (i := 152) (by decide +kernel), List.mem_of_getElem? (i := 319) (by decide +kernel), List.mem_of_getElem? (i := 320) (by decide +kernel)⟩
theorem lw_p1 : lw_okq (⟨"ShopRules$Filling", "hasNext", "(I)Z"⟩, 5) := ⟨⟨by decide +kernel, by decide +kernel⟩, List.mem_of_getElem? (i := 152) (by decide +kernel), List.mem_of_getElem? (i := 323) (by decide +kernel), List.mem_of_getElem? (i := 324) (by decide +kernel)⟩
theorem lw_p2 : lw_okq (⟨"ShopRules$Filling", "machineOfNext", "(I)I"⟩, 5) := ⟨⟨by decide +kernel, by decide +kernel⟩, List.mem_of_getElem? (i := 152) (by decide +kernel), List.mem_of_getElem? (i := 327) (by decide +kernel), List.mem_of_getElem? (i := 328) (by decide +kernel)⟩
theorem lw_p3 : lw_okq (⟨"ShopRules$Filling", "nextOf", "(I)I"⟩, 5) := ⟨⟨by decide +kernel, by decide +kernel⟩, List.mem_of_getElem? (i := 152) (by decide +kernel), List.mem_of_getElem? (i := 331) (by decide +kernel), List.mem_of_getElem? (i := 332) (by decide +kernel)⟩
theorem lw_p4 : lw_okq (⟨"ShopRules$Filling", "readyFor", "(II)I"⟩, 5) := ⟨⟨by decide +kernel, by decide +kernel⟩, List.mem_of_getElem? (i := 152) (by decide +kernel), List.mem_of_getElem? (i := 335) (by decide +kernel), List.mem_of_getElem? (i := 336) (by decide +kernel)⟩
theorem lw_p5 : lw_okq (⟨"ShopRules$Filling", "firstToEnd", "()I"⟩, 5) := ⟨⟨by decide +kernel, by decide +kernel⟩, List.mem_of_getElem? (i := 152) (by decide +kernel), List.mem_of_getElem? (i := 341) (by decide +kernel), List.mem_of_getElem? (i := 342) (by decide +kernel)⟩
theorem lw_p6 : lw_okq (⟨"ShopRules$Filling", "wouldEnd", "(I)I"⟩, 5) := ⟨⟨by decide +kernel, by decide +kernel⟩, List.mem_of_getElem? (i := 152) (by decide +kernel), List.mem_of_getElem? (i := 346) (by decide +kernel), List.mem_of_getElem? (i := 347) (by decide +kernel)⟩
theorem lw_p7 : lw_okq (⟨"ShopRules$Filling", "choose", "(II)I"⟩, 5) := ⟨⟨by decide +kernel, by decide +kernel⟩, List.mem_of_getElem? (i := 152) (by decide +kernel), List.mem_of_getElem? (i := 350) (by decide +kernel), List.mem_of_getElem? (i := 351) (by decide +kernel)⟩
theorem lw_p8 : lw_okq (⟨"ShopRules$Filling", "measure", "(II)I"⟩, 5) := ⟨⟨by decide +kernel, by decide +kernel⟩, List.mem_of_getElem? (i := 152) (by decide +kernel), List.mem_of_getElem? (i := 354) (by decide +kernel), List.mem_of_getElem? (i := 355) (by decide +kernel)⟩
theorem lw_p9 : lw_okq (⟨"ShopRules$Filling", "append", "(I)V"⟩, 5) := ⟨⟨by decide +kernel, by decide +kernel⟩, List.mem_of_getElem? (i := 152) (by decide +kernel), List.mem_of_getElem? (i := 362) (by decide +kernel), List.mem_of_getElem? (i := 363) (by decide +kernel)⟩
theorem lw_p10 : lw_okq (⟨"ShopRules$Plan", "drawWhatIsReady", "()V"⟩, 9) := ⟨⟨by decide +kernel, by decide +kernel⟩, List.mem_of_getElem? (i := 116) (by decide +kernel), List.mem_of_getElem? (i := 376) (by decide +kernel), List.mem_of_getElem? (i := 377) (by decide +kernel)⟩
theorem lw_p11 : lw_okq (⟨"ShopRules$Plan", "isReady", "(I)Z"⟩, 9) := ⟨⟨by decide +kernel, by decide +kernel⟩, List.mem_of_getElem? (i := 116) (by decide +kernel), List.mem_of_getElem? (i := 380) (by decide +kernel), List.mem_of_getElem? (i := 381) (by decide +kernel)⟩
theorem lw_p12 : lw_okq (⟨"ShopRules$Plan", "drawStep", "(II)V"⟩, 9) := ⟨⟨by decide +kernel, by decide +kernel⟩, List.mem_of_getElem? (i := 116) (by decide +kernel), List.mem_of_getElem? (i := 384) (by decide +kernel), List.mem_of_getElem? (i := 385) (by decide +kernel)⟩
theorem lw_p13 : lw_okq (⟨"ShopRules$Plan", "restInJob", "(I)I"⟩, 9) := ⟨⟨by decide +kernel, by decide +kernel⟩, List.mem_of_getElem? (i := 116) (by decide +kernel), List.mem_of_getElem? (i := 403) (by decide +kernel), List.mem_of_getElem? (i := 404) (by decide +kernel)⟩
theorem lw_p14 : lw_okq (⟨"ShopRules$Plan", "restInOrder", "(I)I"⟩, 9) := ⟨⟨by decide +kernel, by decide +kernel⟩, List.mem_of_getElem? (i := 116) (by decide +kernel), List.mem_of_getElem? (i := 407) (by decide +kernel), List.mem_of_getElem? (i := 408) (by decide +kernel)⟩
theorem lw_p15 : lw_okq (⟨"ShopRules", "spanOfTrial", "(II)I"⟩, 5) := ⟨⟨by decide +kernel, by decide +kernel⟩, List.mem_of_getElem? (i := 15) (by decide +kernel), List.mem_of_getElem? (i := 432) (by decide +kernel), List.mem_of_getElem? (i := 433) (by decide +kernel)⟩
def lw_privs_1 : List (MethodName × Nat) := [(⟨"ShopRules$Filling", "lookAhead", "()V"⟩, 5), (⟨"ShopRules$Filling", "hasNext", "(I)Z"⟩, 5), (⟨"ShopRules$Filling", "machineOfNext", "(I)I"⟩, 5), (⟨"ShopRules$Filling", "nextOf", "(I)I"⟩, 5), (⟨"ShopRules$Filling", "readyFor", "(II)I"⟩, 5), (⟨"ShopRules$Filling", "firstToEnd", "()I"⟩, 5), (⟨"ShopRules$Filling", "wouldEnd", "(I)I"⟩, 5), (⟨"ShopRules$Filling", "choose", "(II)I"⟩, 5), (⟨"ShopRules$Filling", "measure", "(II)I"⟩, 5), (⟨"ShopRules$Filling", "append", "(I)V"⟩, 5), (⟨"ShopRules$Plan", "drawWhatIsReady", "()V"⟩, 9), (⟨"ShopRules$Plan", "isReady", "(I)Z"⟩, 9), (⟨"ShopRules$Plan", "drawStep", "(II)V"⟩, 9), (⟨"ShopRules$Plan", "restInJob", "(I)I"⟩, 9), (⟨"ShopRules$Plan", "restInOrder", "(I)I"⟩, 9), (⟨"ShopRules", "spanOfTrial", "(II)I"⟩, 5)]
theorem lw_r1 : ∀ q ∈ lw_privs_1, lw_okq q := List.forall_mem_cons.mpr ⟨lw_p0, List.forall_mem_cons.mpr ⟨lw_p1, List.forall_mem_cons.mpr ⟨lw_p2, List.forall_mem_cons.mpr ⟨lw_p3, List.forall_mem_cons.mpr ⟨lw_p4, List.forall_mem_cons.mpr ⟨lw_p5, List.forall_mem_cons.mpr ⟨lw_p6, List.forall_mem_cons.mpr ⟨lw_p7, List.forall_mem_cons.mpr ⟨lw_p8, List.forall_mem_cons.mpr ⟨lw_p9, List.forall_mem_cons.mpr ⟨lw_p10, List.forall_mem_cons.mpr ⟨lw_p11, List.forall_mem_cons.mpr ⟨lw_p12, List.forall_mem_cons.mpr ⟨lw_p13, List.forall_mem_cons.mpr ⟨lw_p14, List.forall_mem_cons.mpr ⟨lw_p15, fun _ h => absurd h List.not_mem_nil⟩⟩⟩⟩⟩⟩⟩⟩⟩⟩⟩⟩⟩⟩⟩⟩
theorem lw_p16 : lw_okq (⟨"ShopRules", "areCritical", "(II)Z"⟩, 5) := ⟨⟨by decide +kernel, by decide +kernel⟩, List.mem_of_getElem? (i := 15) (by decide +kernel), List.mem_of_getElem? (i := 440) (by decide +kernel), List.mem_of_getElem? (i := 441) (by decide +kernel)⟩
theorem lw_p17 : lw_okq (⟨"ShopRules$Bounds", "collect", "(I)V"⟩, 7) := ⟨⟨by decide +kernel, by decide +kernel⟩, List.mem_of_getElem? (i := 174) (by decide +kernel), List.mem_of_getElem? (i := 469) (by decide +kernel), List.mem_of_getElem? (i := 470) (by decide +kernel)⟩
theorem lw_p18 : lw_okq (⟨"ShopRules$Bounds", "leastLimit", "()I"⟩, 7) := ⟨⟨by decide +kernel, by decide +kernel⟩, List.mem_of_getElem? (i := 174) (by decide +kernel), List.mem_of_getElem? (i := 475) (by decide +kernel), List.mem_of_getElem? (i := 476) (by decide +kernel)⟩
theorem lw_p19 : lw_okq (⟨"ShopRules$Bounds", "fits", "(I)Z"⟩, 7) := ⟨⟨by decide +kernel, by decide +kernel⟩, List.mem_of_getElem? (i := 174) (by decide +kernel), List.mem_of_getElem? (i := 480) (by decide +kernel), List.mem_of_getElem? (i := 481) (by decide +kernel)⟩
theorem lw_p20 : lw_okq (⟨"java/lang/Throwable", "fillInStackTrace", "(I)Ljava/lang/Throwable;"⟩, 6) := ⟨⟨by decide +kernel, by decide +kernel⟩, List.mem_of_getElem? (i := 543) (by decide +kernel), List.mem_of_getElem? (i := 541) (by decide +kernel), List.mem_of_getElem? (i := 542) (by decide +kernel)⟩
theorem lw_p21 : lw_okq (⟨"ShopRulesModel", "isJob", "(I)Z"⟩, 24) := ⟨⟨by decide +kernel, by decide +kernel⟩, List.mem_of_getElem? (i := 574) (by decide +kernel), List.mem_of_getElem? (i := 668) (by decide +kernel), List.mem_of_getElem? (i := 669) (by decide +kernel)⟩
theorem lw_p22 : lw_okq (⟨"ShopRulesModel", "isMachine", "(I)Z"⟩, 24) := ⟨⟨by decide +kernel, by decide +kernel⟩, List.mem_of_getElem? (i := 574) (by decide +kernel), List.mem_of_getElem? (i := 672) (by decide +kernel), List.mem_of_getElem? (i := 673) (by decide +kernel)⟩
theorem lw_p23 : lw_okq (⟨"ShopRulesModel", "isStep", "(I)Z"⟩, 24) := ⟨⟨by decide +kernel, by decide +kernel⟩, List.mem_of_getElem? (i := 574) (by decide +kernel), List.mem_of_getElem? (i := 684) (by decide +kernel), List.mem_of_getElem? (i := 685) (by decide +kernel)⟩
theorem lw_p24 : lw_okq (⟨"ShopRulesModel", "whereIs", "(I)I"⟩, 24) := ⟨⟨by decide +kernel, by decide +kernel⟩, List.mem_of_getElem? (i := 574) (by decide +kernel), List.mem_of_getElem? (i := 695) (by decide +kernel), List.mem_of_getElem? (i := 696) (by decide +kernel)⟩
theorem lw_p25 : lw_okq (⟨"ShopRulesModel", "arePlaces", "(II)Z"⟩, 24) := ⟨⟨by decide +kernel, by decide +kernel⟩, List.mem_of_getElem? (i := 574) (by decide +kernel), List.mem_of_getElem? (i := 703) (by decide +kernel), List.mem_of_getElem? (i := 704) (by decide +kernel)⟩
theorem lw_p26 : lw_okq (⟨"ShopRulesModel", "exchange", "(II)V"⟩, 24) := ⟨⟨by decide +kernel, by decide +kernel⟩, List.mem_of_getElem? (i := 574) (by decide +kernel), List.mem_of_getElem? (i := 707) (by decide +kernel), List.mem_of_getElem? (i := 708) (by decide +kernel)⟩
theorem lw_p27 : lw_okq (⟨"ShopRulesModel", "beginOfNext", "(I)I"⟩, 24) := ⟨⟨by decide +kernel, by decide +kernel⟩, List.mem_of_getElem? (i := 574) (by decide +kernel), List.mem_of_getElem? (i := 722) (by decide +kernel), List.mem_of_getElem? (i := 723) (by decide +kernel)⟩
theorem lw_p28 : lw_okq (⟨"ShopRulesModel", "leftOf", "(I)I"⟩, 24) := ⟨⟨by decide +kernel, by decide +kernel⟩, List.mem_of_getElem? (i := 574) (by decide +kernel), List.mem_of_getElem? (i := 726) (by decide +kernel), List.mem_of_getElem? (i := 727) (by decide +kernel)⟩
theorem lw_p29 : lw_okq (⟨"ShopRulesModel", "plan", "()V"⟩, 24) := ⟨⟨by decide +kernel, by decide +kernel⟩, List.mem_of_getElem? (i := 574) (by decide +kernel), List.mem_of_getElem? (i := 734) (by decide +kernel), List.mem_of_getElem? (i := 735) (by decide +kernel)⟩
theorem lw_p30 : lw_okq (⟨"ShopRulesModel", "before", "(I)I"⟩, 24) := ⟨⟨by decide +kernel, by decide +kernel⟩, List.mem_of_getElem? (i := 574) (by decide +kernel), List.mem_of_getElem? (i := 738) (by decide +kernel), List.mem_of_getElem? (i := 739) (by decide +kernel)⟩
theorem lw_p31 : lw_okq (⟨"ShopRulesModel", "changeOf", "(II)I"⟩, 24) := ⟨⟨by decide +kernel, by decide +kernel⟩, List.mem_of_getElem? (i := 574) (by decide +kernel), List.mem_of_getElem? (i := 742) (by decide +kernel), List.mem_of_getElem? (i := 743) (by decide +kernel)⟩
def lw_privs_2 : List (MethodName × Nat) := [(⟨"ShopRules", "areCritical", "(II)Z"⟩, 5), (⟨"ShopRules$Bounds", "collect", "(I)V"⟩, 7), (⟨"ShopRules$Bounds", "leastLimit", "()I"⟩, 7), (⟨"ShopRules$Bounds", "fits", "(I)Z"⟩, 7), (⟨"java/lang/Throwable", "fillInStackTrace", "(I)Ljava/lang/Throwable;"⟩, 6), (⟨"ShopRulesModel", "isJob", "(I)Z"⟩, 24), (⟨"ShopRulesModel", "isMachine", "(I)Z"⟩, 24), (⟨"ShopRulesModel", "isStep", "(I)Z"⟩, 24), (⟨"ShopRulesModel", "whereIs", "(I)I"⟩, 24), (⟨"ShopRulesModel", "arePlaces", "(II)Z"⟩, 24), (⟨"ShopRulesModel", "exchange", "(II)V"⟩, 24), (⟨"ShopRulesModel", "beginOfNext", "(I)I"⟩, 24), (⟨"ShopRulesModel", "leftOf", "(I)I"⟩, 24), (⟨"ShopRulesModel", "plan", "()V"⟩, 24), (⟨"ShopRulesModel", "before", "(I)I"⟩, 24), (⟨"ShopRulesModel", "changeOf", "(II)I"⟩, 24)]
theorem lw_r2 : ∀ q ∈ lw_privs_2, lw_okq q := List.forall_mem_cons.mpr ⟨lw_p16, List.forall_mem_cons.mpr ⟨lw_p17, List.forall_mem_cons.mpr ⟨lw_p18, List.forall_mem_cons.mpr ⟨lw_p19, List.forall_mem_cons.mpr ⟨lw_p20, List.forall_mem_cons.mpr ⟨lw_p21, List.forall_mem_cons.mpr ⟨lw_p22, List.forall_mem_cons.mpr ⟨lw_p23, List.forall_mem_cons.mpr ⟨lw_p24, List.forall_mem_cons.mpr ⟨lw_p25, List.forall_mem_cons.mpr ⟨lw_p26, List.forall_mem_cons.mpr ⟨lw_p27, List.forall_mem_cons.mpr ⟨lw_p28, List.forall_mem_cons.mpr ⟨lw_p29, List.forall_mem_cons.mpr ⟨lw_p30, List.forall_mem_cons.mpr ⟨lw_p31, fun _ h => absurd h List.not_mem_nil⟩⟩⟩⟩⟩⟩⟩⟩⟩⟩⟩⟩⟩⟩⟩⟩
theorem lw_p32 : lw_okq (⟨"ShopRulesModel", "ahead", "(I)V"⟩, 24) := ⟨⟨by decide +kernel, by decide +kernel⟩, List.mem_of_getElem? (i := 574) (by decide +kernel), List.mem_of_getElem? (i := 746) (by decide +kernel), List.mem_of_getElem? (i := 747) (by decide +kernel)⟩
theorem lw_p33 : lw_okq (⟨"ShopRulesModel", "slack", "(I)I"⟩, 24) := ⟨⟨by decide +kernel, by decide +kernel⟩, List.mem_of_getElem? (i := 574) (by decide +kernel), List.mem_of_getElem? (i := 754) (by decide +kernel), List.mem_of_getElem? (i := 755) (by decide +kernel)⟩
theorem lw_p34 : lw_okq (⟨"ShopRulesModel", "spanWith", "(II)I"⟩, 24) := ⟨⟨by decide +kernel, by decide +kernel⟩, List.mem_of_getElem? (i := 574) (by decide +kernel), List.mem_of_getElem? (i := 771) (by decide +kernel), List.mem_of_getElem? (i := 772) (by decide +kernel)⟩
theorem lw_p35 : lw_okq (⟨"ShopRulesModel", "headOf", "(I)I"⟩, 24) := ⟨⟨by decide +kernel, by decide +kernel⟩, List.mem_of_getElem? (i := 574) (by decide +kernel), List.mem_of_getElem? (i := 783) (by decide +kernel), List.mem_of_getElem? (i := 784) (by decide +kernel)⟩
theorem lw_p36 : lw_okq (⟨"ShopRulesModel", "boundOf", "(I)I"⟩, 24) := ⟨⟨by decide +kernel, by decide +kernel⟩, List.mem_of_getElem? (i := 574) (by decide +kernel), List.mem_of_getElem? (i := 791) (by decide +kernel), List.mem_of_getElem? (i := 792) (by decide +kernel)⟩
theorem lw_p37 : lw_okq (⟨"ShopRulesModel", "fits", "(I)Z"⟩, 24) := ⟨⟨by decide +kernel, by decide +kernel⟩, List.mem_of_getElem? (i := 574) (by decide +kernel), List.mem_of_getElem? (i := 795) (by decide +kernel), List.mem_of_getElem? (i := 796) (by decide +kernel)⟩
theorem lw_p38 : lw_okq (⟨"ShopRulesModel", "lowOf", "()I"⟩, 24) := ⟨⟨by decide +kernel, by decide +kernel⟩, List.mem_of_getElem? (i := 574) (by decide +kernel), List.mem_of_getElem? (i := 803) (by decide +kernel), List.mem_of_getElem? (i := 804) (by decide +kernel)⟩
def lw_privs_3 : List (MethodName × Nat) := [(⟨"ShopRulesModel", "ahead", "(I)V"⟩, 24), (⟨"ShopRulesModel", "slack", "(I)I"⟩, 24), (⟨"ShopRulesModel", "spanWith", "(II)I"⟩, 24), (⟨"ShopRulesModel", "headOf", "(I)I"⟩, 24), (⟨"ShopRulesModel", "boundOf", "(I)I"⟩, 24), (⟨"ShopRulesModel", "fits", "(I)Z"⟩, 24), (⟨"ShopRulesModel", "lowOf", "()I"⟩, 24)]
theorem lw_r3 : ∀ q ∈ lw_privs_3, lw_okq q := List.forall_mem_cons.mpr ⟨lw_p32, List.forall_mem_cons.mpr ⟨lw_p33, List.forall_mem_cons.mpr ⟨lw_p34, List.forall_mem_cons.mpr ⟨lw_p35, List.forall_mem_cons.mpr ⟨lw_p36, List.forall_mem_cons.mpr ⟨lw_p37, List.forall_mem_cons.mpr ⟨lw_p38, fun _ h => absurd h List.not_mem_nil⟩⟩⟩⟩⟩⟩⟩
def lw_privs : List (MethodName × Nat) := lw_privs_1 ++ (lw_privs_2 ++ (lw_privs_3))
def lw_tbl : List Cond := k2_sels lw_privs ++ tables_1
theorem lw_privs_ok : ∀ q ∈ lw_privs, lw_okq q := by
  show ∀ q ∈ lw_privs_1 ++ (lw_privs_2 ++ (lw_privs_3)), lw_okq q
  exact List.forall_mem_append.mpr ⟨lw_r1, List.forall_mem_append.mpr ⟨lw_r2, lw_r3⟩⟩
-- ===== end of PART A; then your names; then what follows =====
end
section
/-! ===== BEGIN words of one list among another's, by their places ===== -/
theorem goodIn_r {big : List Cond} (ws : List Cond) (ps : List Nat) (hp : ws = ps.filterMap (fun i => big[i]?)) (h : ws.all goodWord = true) : GoodIn big ws := by
  intro w hw
  have h1 := List.all_eq_true.mp h w hw
  rw [hp] at hw
  obtain ⟨i, -, hi⟩ := List.mem_filterMap.mp hw
  have hm : w ∈ big := by first | exact List.mem_of_getElem? hi | exact List.getElem?_mem hi
  exact ⟨hm, good_of_word h1⟩
theorem goodIn_app {big a b : List Cond} (ha : GoodIn big a) (hb : GoodIn big b) : GoodIn big (a ++ b) := fun w h => (List.mem_append.mp h).elim (ha w) (hb w)
theorem goodIn_ca {big a b : List Cond} {c : Cond} (ha : GoodIn big (c :: a)) (hb : GoodIn big b) : GoodIn big (c :: (a ++ b)) := fun w h => (List.mem_cons.mp h).elim (fun e => ha w (List.mem_cons.mpr (Or.inl e))) (fun h => (List.mem_append.mp h).elim (fun h => ha w (List.mem_cons.mpr (Or.inr h))) (hb w))
theorem goodIn_sub {big ws : List Cond} (hm : ∀ w ∈ ws, w ∈ big) (h : ws.all goodWord = true) : GoodIn big ws := fun w hw => ⟨hm w hw, good_of_word (List.all_eq_true.mp h w hw)⟩
/-! ===== END ===== -/
def RX0 : String := "ShopRules$Bounds"
def TX0 : u_T := fun k => match k with
  | 0 => ("ShopRules$Bounds", "shop", "LShopRules$Shop;", true)
  | 1 => ("ShopRules$Bounds", "known", "[I", true)
  | 2 => ("ShopRules$Bounds", "count", "I", false)
  | 3 => ("ShopRules$Bounds", "heads", "[I", true)
  | 4 => ("ShopRules$Bounds", "times", "[I", true)
  | 5 => ("ShopRules$Bounds", "tails", "[I", true)
  | _ => ("ShopRules$Bounds", "soonest", "[I", true)
def tyX0 : Nat → FieldType := fun k => match k with
  | 0 => .object "ShopRules$Shop"
  | 1 => .array .int
  | 2 => .int
  | 3 => .array .int
  | 4 => .array .int
  | 5 => .array .int
  | _ => .array .int
abbrev wsX00 : List Cond := u_ws RX0 TX0 7
theorem nmX0 : ∀ a, a < 7 → ∀ b, b < 7 → a ≠ b → (TX0 a).2.1 ≠ (TX0 b).2.1 := by decide +kernel
theorem tyX0_ok : ∀ k, k < 7 → parseFieldDescriptor (TX0 k).2.2.1 = some (tyX0 k) := by decide +kernel
abbrev cX0_init : ByteArray := prog_2_method_1_code
def yX0_init : MethodName := ⟨RX0, "<init>", "(LShopRules$Shop;)V"⟩
abbrev cX0_forget : ByteArray := prog_2_method_2_code
def yX0_forget : MethodName := ⟨RX0, "forget", "()V"⟩
abbrev cX0_greatest : ByteArray := prog_2_method_3_code
def yX0_greatest : MethodName := ⟨RX0, "greatest", "()I"⟩
abbrev cX0_hasOne : ByteArray := prog_2_method_4_code
def yX0_hasOne : MethodName := ⟨RX0, "hasOne", "(I)Z"⟩
abbrev cX0_ofMachine : ByteArray := prog_2_method_5_code
def yX0_ofMachine : MethodName := ⟨RX0, "ofMachine", "(I)I"⟩
abbrev cX0_collect : ByteArray := prog_2_method_6_code
def yX0_collect : MethodName := ⟨RX0, "collect", "(I)V"⟩
abbrev cX0_leastLimit : ByteArray := prog_2_method_7_code
def yX0_leastLimit : MethodName := ⟨RX0, "leastLimit", "()I"⟩
abbrev cX0_fits : ByteArray := prog_2_method_8_code
def yX0_fits : MethodName := ⟨RX0, "fits", "(I)Z"⟩
def RX1 : String := "ShopRules$Filling"
def TX1 : u_T := fun k => match k with
  | 0 => ("ShopRules$Filling", "shop", "LShopRules$Shop;", true)
  | 1 => ("ShopRules$Filling", "filledOfJob", "[I", true)
  | 2 => ("ShopRules$Filling", "endOfJob", "[I", true)
  | 3 => ("ShopRules$Filling", "endOfMachine", "[I", true)
  | _ => ("ShopRules$Filling", "begins", "[I", true)
def tyX1 : Nat → FieldType := fun k => match k with
  | 0 => .object "ShopRules$Shop"
  | 1 => .array .int
  | 2 => .array .int
  | 3 => .array .int
  | _ => .array .int
abbrev wsX10 : List Cond := u_ws RX1 TX1 5
theorem nmX1 : ∀ a, a < 5 → ∀ b, b < 5 → a ≠ b → (TX1 a).2.1 ≠ (TX1 b).2.1 := by decide +kernel
theorem tyX1_ok : ∀ k, k < 5 → parseFieldDescriptor (TX1 k).2.2.1 = some (tyX1 k) := by decide +kernel
abbrev cX1_init : ByteArray := prog_3_method_1_code
def yX1_init : MethodName := ⟨RX1, "<init>", "(LShopRules$Shop;)V"⟩
abbrev cX1_run : ByteArray := prog_3_method_2_code
def yX1_run : MethodName := ⟨RX1, "run", "(I)V"⟩
abbrev cX1_hasNext : ByteArray := prog_3_method_3_code
def yX1_hasNext : MethodName := ⟨RX1, "hasNext", "(I)Z"⟩
abbrev cX1_nextOf : ByteArray := prog_3_method_4_code
def yX1_nextOf : MethodName := ⟨RX1, "nextOf", "(I)I"⟩
abbrev cX1_machineOfNext : ByteArray := prog_3_method_5_code
def yX1_machineOfNext : MethodName := ⟨RX1, "machineOfNext", "(I)I"⟩
abbrev cX1_wouldEnd : ByteArray := prog_3_method_6_code
def yX1_wouldEnd : MethodName := ⟨RX1, "wouldEnd", "(I)I"⟩
abbrev cX1_lookAhead : ByteArray := prog_3_method_7_code
def yX1_lookAhead : MethodName := ⟨RX1, "lookAhead", "()V"⟩
abbrev cX1_readyFor : ByteArray := prog_3_method_8_code
def yX1_readyFor : MethodName := ⟨RX1, "readyFor", "(II)I"⟩
abbrev cX1_firstToEnd : ByteArray := prog_3_method_9_code
def yX1_firstToEnd : MethodName := ⟨RX1, "firstToEnd", "()I"⟩
abbrev cX1_choose : ByteArray := prog_3_method_10_code
def yX1_choose : MethodName := ⟨RX1, "choose", "(II)I"⟩
abbrev cX1_measure : ByteArray := prog_3_method_11_code
def yX1_measure : MethodName := ⟨RX1, "measure", "(II)I"⟩
abbrev cX1_append : ByteArray := prog_3_method_12_code
def yX1_append : MethodName := ⟨RX1, "append", "(I)V"⟩
def RX2 : String := "ShopRules$Plan"
def TX2 : u_T := fun k => match k with
  | 0 => ("ShopRules$Plan", "shop", "LShopRules$Shop;", true)
  | 1 => ("ShopRules$Plan", "greatestEnd", "I", false)
  | 2 => ("ShopRules$Plan", "begins", "[I", true)
  | 3 => ("ShopRules$Plan", "rests", "[I", true)
  | 4 => ("ShopRules$Plan", "placeOf", "[I", true)
  | 5 => ("ShopRules$Plan", "sequence", "[I", true)
  | 6 => ("ShopRules$Plan", "drawn", "I", false)
  | 7 => ("ShopRules$Plan", "drawnOfJob", "[I", true)
  | _ => ("ShopRules$Plan", "drawnOfMachine", "[I", true)
def tyX2 : Nat → FieldType := fun k => match k with
  | 0 => .object "ShopRules$Shop"
  | 1 => .int
  | 2 => .array .int
  | 3 => .array .int
  | 4 => .array .int
  | 5 => .array .int
  | 6 => .int
  | 7 => .array .int
  | _ => .array .int
abbrev wsX20 : List Cond := u_ws RX2 TX2 9
theorem nmX2 : ∀ a, a < 9 → ∀ b, b < 9 → a ≠ b → (TX2 a).2.1 ≠ (TX2 b).2.1 := by decide +kernel
theorem tyX2_ok : ∀ k, k < 9 → parseFieldDescriptor (TX2 k).2.2.1 = some (tyX2 k) := by decide +kernel
abbrev cX2_init : ByteArray := prog_4_method_1_code
def yX2_init : MethodName := ⟨RX2, "<init>", "(LShopRules$Shop;)V"⟩
abbrev cX2_draw : ByteArray := prog_4_method_2_code
def yX2_draw : MethodName := ⟨RX2, "draw", "()I"⟩
abbrev cX2_drawWhatIsReady : ByteArray := prog_4_method_3_code
def yX2_drawWhatIsReady : MethodName := ⟨RX2, "drawWhatIsReady", "()V"⟩
abbrev cX2_isReady : ByteArray := prog_4_method_4_code
def yX2_isReady : MethodName := ⟨RX2, "isReady", "(I)Z"⟩
abbrev cX2_drawStep : ByteArray := prog_4_method_5_code
def yX2_drawStep : MethodName := ⟨RX2, "drawStep", "(II)V"⟩
abbrev cX2_endOf : ByteArray := prog_4_method_6_code
def yX2_endOf : MethodName := ⟨RX2, "endOf", "(I)I"⟩
abbrev cX2_endOfJob : ByteArray := prog_4_method_7_code
def yX2_endOfJob : MethodName := ⟨RX2, "endOfJob", "(I)I"⟩
abbrev cX2_measureRests : ByteArray := prog_4_method_8_code
def yX2_measureRests : MethodName := ⟨RX2, "measureRests", "()V"⟩
abbrev cX2_restInJob : ByteArray := prog_4_method_9_code
def yX2_restInJob : MethodName := ⟨RX2, "restInJob", "(I)I"⟩
abbrev cX2_restInOrder : ByteArray := prog_4_method_10_code
def yX2_restInOrder : MethodName := ⟨RX2, "restInOrder", "(I)I"⟩
abbrev cX2_slackOf : ByteArray := prog_4_method_11_code
def yX2_slackOf : MethodName := ⟨RX2, "slackOf", "(I)I"⟩
def RX3 : String := "ShopRules$Shop"
def TX3 : u_T := fun k => match k with
  | 0 => ("ShopRules$Shop", "machines", "I", true)
  | 1 => ("ShopRules$Shop", "jobs", "I", false)
  | 2 => ("ShopRules$Shop", "steps", "I", false)
  | 3 => ("ShopRules$Shop", "orderedSteps", "I", false)
  | 4 => ("ShopRules$Shop", "releases", "[I", true)
  | 5 => ("ShopRules$Shop", "dues", "[I", true)
  | 6 => ("ShopRules$Shop", "weights", "[I", true)
  | 7 => ("ShopRules$Shop", "counts", "[I", true)
  | 8 => ("ShopRules$Shop", "machineOf", "[I", true)
  | 9 => ("ShopRules$Shop", "times", "[I", true)
  | 10 => ("ShopRules$Shop", "isOrdered", "[Z", true)
  | 11 => ("ShopRules$Shop", "orders", "[[I", true)
  | 12 => ("ShopRules$Shop", "sizes", "[I", true)
  | _ => ("ShopRules$Shop", "changes", "[I", true)
def tyX3 : Nat → FieldType := fun k => match k with
  | 0 => .int
  | 1 => .int
  | 2 => .int
  | 3 => .int
  | 4 => .array .int
  | 5 => .array .int
  | 6 => .array .int
  | 7 => .array .int
  | 8 => .array .int
  | 9 => .array .int
  | 10 => .array .boolean
  | 11 => .array (.array .int)
  | 12 => .array .int
  | _ => .array .int
abbrev wsX30 : List Cond := u_ws RX3 TX3 14
theorem nmX3 : ∀ a, a < 14 → ∀ b, b < 14 → a ≠ b → (TX3 a).2.1 ≠ (TX3 b).2.1 := by decide +kernel
theorem tyX3_ok : ∀ k, k < 14 → parseFieldDescriptor (TX3 k).2.2.1 = some (tyX3 k) := by decide +kernel
abbrev cX3_init : ByteArray := prog_5_method_1_code
def yX3_init : MethodName := ⟨RX3, "<init>", "(I)V"⟩
abbrev cX3_hasMachine : ByteArray := prog_5_method_2_code
def yX3_hasMachine : MethodName := ⟨RX3, "hasMachine", "(I)Z"⟩
abbrev cX3_hasJob : ByteArray := prog_5_method_3_code
def yX3_hasJob : MethodName := ⟨RX3, "hasJob", "(I)Z"⟩
abbrev cX3_hasStep : ByteArray := prog_5_method_4_code
def yX3_hasStep : MethodName := ⟨RX3, "hasStep", "(I)Z"⟩
abbrev cX3_hasNeighbours : ByteArray := prog_5_method_5_code
def yX3_hasNeighbours : MethodName := ⟨RX3, "hasNeighbours", "(II)Z"⟩
abbrev cX3_addJob : ByteArray := prog_5_method_6_code
def yX3_addJob : MethodName := ⟨RX3, "addJob", "(III)I"⟩
abbrev cX3_addStep : ByteArray := prog_5_method_7_code
def yX3_addStep : MethodName := ⟨RX3, "addStep", "(III)I"⟩
abbrev cX3_changeBetween : ByteArray := prog_5_method_8_code
def yX3_changeBetween : MethodName := ⟨RX3, "changeBetween", "(III)I"⟩
abbrev cX3_setChange : ByteArray := prog_5_method_9_code
def yX3_setChange : MethodName := ⟨RX3, "setChange", "(IIII)V"⟩
abbrev cX3_insert : ByteArray := prog_5_method_10_code
def yX3_insert : MethodName := ⟨RX3, "insert", "(II)V"⟩
abbrev cX3_remove : ByteArray := prog_5_method_11_code
def yX3_remove : MethodName := ⟨RX3, "remove", "(I)I"⟩
abbrev cX3_exchange : ByteArray := prog_5_method_12_code
def yX3_exchange : MethodName := ⟨RX3, "exchange", "(II)V"⟩
abbrev cX3_emptyOrders : ByteArray := prog_5_method_13_code
def yX3_emptyOrders : MethodName := ⟨RX3, "emptyOrders", "()V"⟩
abbrev cX3_headOf : ByteArray := prog_5_method_14_code
def yX3_headOf : MethodName := ⟨RX3, "headOf", "(I)I"⟩
abbrev cX3_tailOf : ByteArray := prog_5_method_15_code
def yX3_tailOf : MethodName := ⟨RX3, "tailOf", "(I)I"⟩
abbrev cX3_timeOf : ByteArray := prog_5_method_16_code
def yX3_timeOf : MethodName := ⟨RX3, "timeOf", "(III)I"⟩
def RX4 : String := "ShopRules"
def TX4 : u_T := fun k => match k with
  | 0 => ("ShopRules", "shop", "LShopRules$Shop;", true)
  | 1 => ("ShopRules", "plan", "LShopRules$Plan;", true)
  | 2 => ("ShopRules", "trial", "LShopRules$Plan;", true)
  | 3 => ("ShopRules", "filling", "LShopRules$Filling;", true)
  | _ => ("ShopRules", "bounds", "LShopRules$Bounds;", true)
def tyX4 : Nat → FieldType := fun k => match k with
  | 0 => .object "ShopRules$Shop"
  | 1 => .object "ShopRules$Plan"
  | 2 => .object "ShopRules$Plan"
  | 3 => .object "ShopRules$Filling"
  | _ => .object "ShopRules$Bounds"
abbrev wsX40 : List Cond := u_ws RX4 TX4 5
theorem nmX4 : ∀ a, a < 5 → ∀ b, b < 5 → a ≠ b → (TX4 a).2.1 ≠ (TX4 b).2.1 := by decide +kernel
theorem tyX4_ok : ∀ k, k < 5 → parseFieldDescriptor (TX4 k).2.2.1 = some (tyX4 k) := by decide +kernel
abbrev cX4_init : ByteArray := prog_1_method_1_code
def yX4_init : MethodName := ⟨RX4, "<init>", "(I)V"⟩
abbrev cX4_job : ByteArray := prog_1_method_2_code
def yX4_job : MethodName := ⟨RX4, "job", "(III)I"⟩
abbrev cX4_step : ByteArray := prog_1_method_3_code
def yX4_step : MethodName := ⟨RX4, "step", "(III)I"⟩
abbrev cX4_change : ByteArray := prog_1_method_4_code
def yX4_change : MethodName := ⟨RX4, "change", "(IIII)I"⟩
abbrev cX4_put : ByteArray := prog_1_method_5_code
def yX4_put : MethodName := ⟨RX4, "put", "(II)I"⟩
abbrev cX4_take : ByteArray := prog_1_method_6_code
def yX4_take : MethodName := ⟨RX4, "take", "(I)I"⟩
abbrev cX4_swap : ByteArray := prog_1_method_7_code
def yX4_swap : MethodName := ⟨RX4, "swap", "(II)I"⟩
abbrev cX4_at : ByteArray := prog_1_method_8_code
def yX4_at : MethodName := ⟨RX4, "at", "(II)I"⟩
abbrev cX4_fill : ByteArray := prog_1_method_9_code
def yX4_fill : MethodName := ⟨RX4, "fill", "(I)I"⟩
abbrev cX4_state : ByteArray := prog_1_method_10_code
def yX4_state : MethodName := ⟨RX4, "state", "()I"⟩
abbrev cX4_when : ByteArray := prog_1_method_11_code
def yX4_when : MethodName := ⟨RX4, "when", "(II)I"⟩
abbrev cX4_span : ByteArray := prog_1_method_12_code
def yX4_span : MethodName := ⟨RX4, "span", "()I"⟩
abbrev cX4_late : ByteArray := prog_1_method_13_code
def yX4_late : MethodName := ⟨RX4, "late", "()J"⟩
abbrev cX4_swapped : ByteArray := prog_1_method_14_code
def yX4_swapped : MethodName := ⟨RX4, "swapped", "(II)I"⟩
abbrev cX4_better : ByteArray := prog_1_method_15_code
def yX4_better : MethodName := ⟨RX4, "better", "()I"⟩
abbrev cX4_part : ByteArray := prog_1_method_16_code
def yX4_part : MethodName := ⟨RX4, "part", "(II)I"⟩
abbrev cX4_bound : ByteArray := prog_1_method_17_code
def yX4_bound : MethodName := ⟨RX4, "bound", "(I)I"⟩
abbrev cX4_low : ByteArray := prog_1_method_18_code
def yX4_low : MethodName := ⟨RX4, "low", "()I"⟩
abbrev cX4_share : ByteArray := prog_1_method_19_code
def yX4_share : MethodName := ⟨RX4, "share", "()J"⟩
abbrev cX4_isWithin : ByteArray := prog_1_method_20_code
def yX4_isWithin : MethodName := ⟨RX4, "isWithin", "(II)Z"⟩
abbrev cX4_areCritical : ByteArray := prog_1_method_21_code
def yX4_areCritical : MethodName := ⟨RX4, "areCritical", "(II)Z"⟩
abbrev cX4_spanOfTrial : ByteArray := prog_1_method_22_code
def yX4_spanOfTrial : MethodName := ⟨RX4, "spanOfTrial", "(II)I"⟩
def RX5 : String := "ShopRulesModel"
def TX5 : u_T := fun k => match k with
  | 0 => ("ShopRulesModel", "thrown", "I", false)
  | 1 => ("ShopRulesModel", "machines", "I", true)
  | 2 => ("ShopRulesModel", "jobs", "I", false)
  | 3 => ("ShopRulesModel", "release", "[I", true)
  | 4 => ("ShopRulesModel", "due", "[I", true)
  | 5 => ("ShopRulesModel", "weight", "[I", true)
  | 6 => ("ShopRulesModel", "many", "[I", true)
  | 7 => ("ShopRulesModel", "machineOf", "[I", true)
  | 8 => ("ShopRulesModel", "timeOf", "[I", true)
  | 9 => ("ShopRulesModel", "isPut", "[Z", true)
  | 10 => ("ShopRulesModel", "change", "[I", true)
  | 11 => ("ShopRulesModel", "sizes", "[I", true)
  | 12 => ("ShopRulesModel", "order", "[I", true)
  | 13 => ("ShopRulesModel", "endOf", "[I", true)
  | 14 => ("ShopRulesModel", "nextOf", "[I", true)
  | 15 => ("ShopRulesModel", "state", "I", false)
  | 16 => ("ShopRulesModel", "span", "I", false)
  | 17 => ("ShopRulesModel", "isDone", "[Z", true)
  | 18 => ("ShopRulesModel", "begins", "[I", true)
  | 19 => ("ShopRulesModel", "rest", "[I", true)
  | 20 => ("ShopRulesModel", "row", "[I", true)
  | 21 => ("ShopRulesModel", "own", "I", false)
  | 22 => ("ShopRulesModel", "ownStep", "[I", true)
  | _ => ("ShopRulesModel", "earliest", "[I", true)
def tyX5 : Nat → FieldType := fun k => match k with
  | 0 => .int
  | 1 => .int
  | 2 => .int
  | 3 => .array .int
  | 4 => .array .int
  | 5 => .array .int
  | 6 => .array .int
  | 7 => .array .int
  | 8 => .array .int
  | 9 => .array .boolean
  | 10 => .array .int
  | 11 => .array .int
  | 12 => .array .int
  | 13 => .array .int
  | 14 => .array .int
  | 15 => .int
  | 16 => .int
  | 17 => .array .boolean
  | 18 => .array .int
  | 19 => .array .int
  | 20 => .array .int
  | 21 => .int
  | 22 => .array .int
  | _ => .array .int
abbrev wsX50 : List Cond := u_ws RX5 TX5 24
theorem nmX5 : ∀ a, a < 24 → ∀ b, b < 24 → a ≠ b → (TX5 a).2.1 ≠ (TX5 b).2.1 := by decide +kernel
theorem tyX5_ok : ∀ k, k < 24 → parseFieldDescriptor (TX5 k).2.2.1 = some (tyX5 k) := by decide +kernel
abbrev cX5_init : ByteArray := prog_7_method_1_code
def yX5_init : MethodName := ⟨RX5, "<init>", "(I)V"⟩
abbrev cX5_thrown : ByteArray := prog_7_method_2_code
def yX5_thrown : MethodName := ⟨RX5, "thrown", "()I"⟩
abbrev cX5_in : ByteArray := prog_7_method_3_code
def yX5_in : MethodName := ⟨RX5, "in", "(III)Z"⟩
abbrev cX5_isJob : ByteArray := prog_7_method_4_code
def yX5_isJob : MethodName := ⟨RX5, "isJob", "(I)Z"⟩
abbrev cX5_isMachine : ByteArray := prog_7_method_5_code
def yX5_isMachine : MethodName := ⟨RX5, "isMachine", "(I)Z"⟩
abbrev cX5_isStep : ByteArray := prog_7_method_6_code
def yX5_isStep : MethodName := ⟨RX5, "isStep", "(I)Z"⟩
abbrev cX5_placeOf : ByteArray := prog_7_method_7_code
def yX5_placeOf : MethodName := ⟨RX5, "placeOf", "(I)I"⟩
abbrev cX5_job : ByteArray := prog_7_method_8_code
def yX5_job : MethodName := ⟨RX5, "job", "(III)I"⟩
abbrev cX5_step : ByteArray := prog_7_method_9_code
def yX5_step : MethodName := ⟨RX5, "step", "(III)I"⟩
abbrev cX5_change : ByteArray := prog_7_method_10_code
def yX5_change : MethodName := ⟨RX5, "change", "(IIII)I"⟩
abbrev cX5_put : ByteArray := prog_7_method_11_code
def yX5_put : MethodName := ⟨RX5, "put", "(II)I"⟩
abbrev cX5_whereIs : ByteArray := prog_7_method_12_code
def yX5_whereIs : MethodName := ⟨RX5, "whereIs", "(I)I"⟩
abbrev cX5_take : ByteArray := prog_7_method_13_code
def yX5_take : MethodName := ⟨RX5, "take", "(I)I"⟩
abbrev cX5_arePlaces : ByteArray := prog_7_method_14_code
def yX5_arePlaces : MethodName := ⟨RX5, "arePlaces", "(II)Z"⟩
abbrev cX5_exchange : ByteArray := prog_7_method_15_code
def yX5_exchange : MethodName := ⟨RX5, "exchange", "(II)V"⟩
abbrev cX5_swap : ByteArray := prog_7_method_16_code
def yX5_swap : MethodName := ⟨RX5, "swap", "(II)I"⟩
abbrev cX5_told : ByteArray := prog_7_method_17_code
def yX5_told : MethodName := ⟨RX5, "told", "(I)I"⟩
abbrev cX5_at : ByteArray := prog_7_method_18_code
def yX5_at : MethodName := ⟨RX5, "at", "(II)I"⟩
abbrev cX5_beginOfNext : ByteArray := prog_7_method_19_code
def yX5_beginOfNext : MethodName := ⟨RX5, "beginOfNext", "(I)I"⟩
abbrev cX5_leftOf : ByteArray := prog_7_method_20_code
def yX5_leftOf : MethodName := ⟨RX5, "leftOf", "(I)I"⟩
abbrev cX5_fill : ByteArray := prog_7_method_21_code
def yX5_fill : MethodName := ⟨RX5, "fill", "(I)I"⟩
abbrev cX5_before : ByteArray := prog_7_method_22_code
def yX5_before : MethodName := ⟨RX5, "before", "(I)I"⟩
abbrev cX5_changeOf : ByteArray := prog_7_method_23_code
def yX5_changeOf : MethodName := ⟨RX5, "changeOf", "(II)I"⟩
abbrev cX5_plan : ByteArray := prog_7_method_24_code
def yX5_plan : MethodName := ⟨RX5, "plan", "()V"⟩
abbrev cX5_ahead : ByteArray := prog_7_method_25_code
def yX5_ahead : MethodName := ⟨RX5, "ahead", "(I)V"⟩
abbrev cX5_state : ByteArray := prog_7_method_26_code
def yX5_state : MethodName := ⟨RX5, "state", "()I"⟩
abbrev cX5_slack : ByteArray := prog_7_method_27_code
def yX5_slack : MethodName := ⟨RX5, "slack", "(I)I"⟩
abbrev cX5_when : ByteArray := prog_7_method_28_code
def yX5_when : MethodName := ⟨RX5, "when", "(II)I"⟩
abbrev cX5_span : ByteArray := prog_7_method_29_code
def yX5_span : MethodName := ⟨RX5, "span", "()I"⟩
abbrev cX5_late : ByteArray := prog_7_method_30_code
def yX5_late : MethodName := ⟨RX5, "late", "()J"⟩
abbrev cX5_spanWith : ByteArray := prog_7_method_31_code
def yX5_spanWith : MethodName := ⟨RX5, "spanWith", "(II)I"⟩
abbrev cX5_swapped : ByteArray := prog_7_method_32_code
def yX5_swapped : MethodName := ⟨RX5, "swapped", "(II)I"⟩
abbrev cX5_better : ByteArray := prog_7_method_33_code
def yX5_better : MethodName := ⟨RX5, "better", "()I"⟩
abbrev cX5_headOf : ByteArray := prog_7_method_34_code
def yX5_headOf : MethodName := ⟨RX5, "headOf", "(I)I"⟩
abbrev cX5_part : ByteArray := prog_7_method_35_code
def yX5_part : MethodName := ⟨RX5, "part", "(II)I"⟩
abbrev cX5_fits : ByteArray := prog_7_method_36_code
def yX5_fits : MethodName := ⟨RX5, "fits", "(I)Z"⟩
abbrev cX5_boundOf : ByteArray := prog_7_method_37_code
def yX5_boundOf : MethodName := ⟨RX5, "boundOf", "(I)I"⟩
abbrev cX5_bound : ByteArray := prog_7_method_38_code
def yX5_bound : MethodName := ⟨RX5, "bound", "(I)I"⟩
abbrev cX5_lowOf : ByteArray := prog_7_method_39_code
def yX5_lowOf : MethodName := ⟨RX5, "lowOf", "()I"⟩
abbrev cX5_low : ByteArray := prog_7_method_40_code
def yX5_low : MethodName := ⟨RX5, "low", "()I"⟩
abbrev cX5_share : ByteArray := prog_7_method_41_code
def yX5_share : MethodName := ⟨RX5, "share", "()J"⟩
def RJ9 : String := "java/lang/Math"
def TJ9 : u_T := fun k => match k with
  | _ => ("", "", "", false)
def tyJ9 : Nat → FieldType := fun k => match k with
  | _ => .int
abbrev wsJ90 : List Cond := u_ws RJ9 TJ9 0
theorem nmJ9 : ∀ a, a < 0 → ∀ b, b < 0 → a ≠ b → (TJ9 a).2.1 ≠ (TJ9 b).2.1 := by decide +kernel
theorem tyJ9_ok : ∀ k, k < 0 → parseFieldDescriptor (TJ9 k).2.2.1 = some (tyJ9 k) := by decide +kernel
abbrev cJ9_max_7cf53 : ByteArray := prog_10_method_65_code
def yJ9_max_7cf53 : MethodName := ⟨RJ9, "max", "(II)I"⟩
abbrev cJ9_min_7cf53 : ByteArray := prog_10_method_69_code
def yJ9_min_7cf53 : MethodName := ⟨RJ9, "min", "(II)I"⟩
def RJ0 : String := "java/lang/String"
def TJ0 : u_T := fun k => match k with
  | _ => ("", "", "", false)
def tyJ0 : Nat → FieldType := fun k => match k with
  | _ => .int
abbrev wsJ00 : List Cond := u_ws RJ0 TJ0 0
theorem nmJ0 : ∀ a, a < 0 → ∀ b, b < 0 → a ≠ b → (TJ0 a).2.1 ≠ (TJ0 b).2.1 := by decide +kernel
theorem tyJ0_ok : ∀ k, k < 0 → parseFieldDescriptor (TJ0 k).2.2.1 = some (tyJ0 k) := by decide +kernel
def RJ10 : String := "java/lang/System"
def TJ10 : u_T := fun k => match k with
  | _ => ("", "", "", false)
def tyJ10 : Nat → FieldType := fun k => match k with
  | _ => .int
abbrev wsJ100 : List Cond := u_ws RJ10 TJ10 0
theorem nmJ10 : ∀ a, a < 0 → ∀ b, b < 0 → a ≠ b → (TJ10 a).2.1 ≠ (TJ10 b).2.1 := by decide +kernel
theorem tyJ10_ok : ∀ k, k < 0 → parseFieldDescriptor (TJ10 k).2.2.1 = some (tyJ10 k) := by decide +kernel
def RJ7 : String := "java/util/Arrays"
def TJ7 : u_T := fun k => match k with
  | _ => ("", "", "", false)
def tyJ7 : Nat → FieldType := fun k => match k with
  | _ => .int
abbrev wsJ70 : List Cond := u_ws RJ7 TJ7 0
theorem nmJ7 : ∀ a, a < 0 → ∀ b, b < 0 → a ≠ b → (TJ7 a).2.1 ≠ (TJ7 b).2.1 := by decide +kernel
theorem tyJ7_ok : ∀ k, k < 0 → parseFieldDescriptor (TJ7 k).2.2.1 = some (tyJ7 k) := by decide +kernel
abbrev cJ7_fill_53178 : ByteArray := prog_15_method_103_code
def yJ7_fill_53178 : MethodName := ⟨RJ7, "fill", "([II)V"⟩
def RL : String := "ShopRulesLaw"
abbrev cL_cell : ByteArray := method_2_code
def yL_cell : MethodName := ⟨RL, "cell", "([II)I"⟩
abbrev cL_share : ByteArray := method_3_code
def yL_share : MethodName := ⟨RL, "share", "(LShopRules;[J)I"⟩
abbrev cL_law : ByteArray := code
def yL_law : MethodName := ⟨RL, "law", "([I)Z"⟩
theorem dX0_init_0 : decode cX0_init 0 = .ok (.aload_n 0, 1) := by decide +kernel
theorem dX0_init_1 : decode cX0_init 1 = .ok (.invokespecial 3, 3) := by decide +kernel
theorem dX0_init_4 : decode cX0_init 4 = .ok (.aload_n 0, 1) := by decide +kernel
theorem dX0_init_5 : decode cX0_init 5 = .ok (.iconst 5, 1) := by decide +kernel
theorem dX0_init_6 : decode cX0_init 6 = .ok (.newarray .int, 2) := by decide +kernel
theorem dX0_init_8 : decode cX0_init 8 = .ok (.putfield 9, 3) := by decide +kernel
theorem dX0_init_11 : decode cX0_init 11 = .ok (.aload_n 0, 1) := by decide +kernel
theorem dX0_init_12 : decode cX0_init 12 = .ok (.iconst 0, 1) := by decide +kernel
theorem dX0_init_13 : decode cX0_init 13 = .ok (.putfield 15, 3) := by decide +kernel
theorem dX0_init_16 : decode cX0_init 16 = .ok (.aload_n 0, 1) := by decide +kernel
theorem dX0_init_17 : decode cX0_init 17 = .ok (.bipush 8, 2) := by decide +kernel
theorem dX0_init_19 : decode cX0_init 19 = .ok (.newarray .int, 2) := by decide +kernel
theorem dX0_init_21 : decode cX0_init 21 = .ok (.putfield 19, 3) := by decide +kernel
theorem dX0_init_24 : decode cX0_init 24 = .ok (.aload_n 0, 1) := by decide +kernel
theorem dX0_init_25 : decode cX0_init 25 = .ok (.bipush 8, 2) := by decide +kernel
theorem dX0_init_27 : decode cX0_init 27 = .ok (.newarray .int, 2) := by decide +kernel
theorem dX0_init_29 : decode cX0_init 29 = .ok (.putfield 22, 3) := by decide +kernel
theorem dX0_init_32 : decode cX0_init 32 = .ok (.aload_n 0, 1) := by decide +kernel
theorem dX0_init_33 : decode cX0_init 33 = .ok (.bipush 8, 2) := by decide +kernel
theorem dX0_init_35 : decode cX0_init 35 = .ok (.newarray .int, 2) := by decide +kernel
theorem dX0_init_37 : decode cX0_init 37 = .ok (.putfield 25, 3) := by decide +kernel
theorem dX0_init_40 : decode cX0_init 40 = .ok (.aload_n 0, 1) := by decide +kernel
theorem dX0_init_41 : decode cX0_init 41 = .ok (.sipush 256, 3) := by decide +kernel
theorem dX0_init_44 : decode cX0_init 44 = .ok (.newarray .int, 2) := by decide +kernel
theorem dX0_init_46 : decode cX0_init 46 = .ok (.putfield 28, 3) := by decide +kernel
theorem dX0_init_49 : decode cX0_init 49 = .ok (.aload_n 0, 1) := by decide +kernel
theorem dX0_init_50 : decode cX0_init 50 = .ok (.aload_n 1, 1) := by decide +kernel
theorem dX0_init_51 : decode cX0_init 51 = .ok (.putfield 31, 3) := by decide +kernel
theorem dX0_init_54 : decode cX0_init 54 = .ok (.aload_n 0, 1) := by decide +kernel
theorem dX0_init_55 : decode cX0_init 55 = .ok (.getfield 9, 3) := by decide +kernel
theorem dX0_init_58 : decode cX0_init 58 = .ok (.iconst (-1), 1) := by decide +kernel
theorem dX0_init_59 : decode cX0_init 59 = .ok (.invokestatic 35, 3) := by decide +kernel
theorem dX0_init_62 : decode cX0_init 62 = .ok (.return_, 1) := by decide +kernel
theorem dX0_forget_0 : decode cX0_forget 0 = .ok (.aload_n 0, 1) := by decide +kernel
theorem dX0_forget_1 : decode cX0_forget 1 = .ok (.getfield 9, 3) := by decide +kernel
theorem dX0_forget_4 : decode cX0_forget 4 = .ok (.iconst (-1), 1) := by decide +kernel
theorem dX0_forget_5 : decode cX0_forget 5 = .ok (.invokestatic 35, 3) := by decide +kernel
theorem dX0_forget_8 : decode cX0_forget 8 = .ok (.return_, 1) := by decide +kernel
theorem dX0_greatest_0 : decode cX0_greatest 0 = .ok (.iconst 0, 1) := by decide +kernel
theorem dX0_greatest_1 : decode cX0_greatest 1 = .ok (.istore_n 1, 1) := by decide +kernel
theorem dX0_greatest_2 : decode cX0_greatest 2 = .ok (.iconst 0, 1) := by decide +kernel
theorem dX0_greatest_3 : decode cX0_greatest 3 = .ok (.istore_n 2, 1) := by decide +kernel
theorem dX0_greatest_4 : decode cX0_greatest 4 = .ok (.iload_n 2, 1) := by decide +kernel
theorem dX0_greatest_5 : decode cX0_greatest 5 = .ok (.aload_n 0, 1) := by decide +kernel
theorem dX0_greatest_6 : decode cX0_greatest 6 = .ok (.getfield 31, 3) := by decide +kernel
theorem dX0_greatest_9 : decode cX0_greatest 9 = .ok (.getfield 41, 3) := by decide +kernel
theorem dX0_greatest_12 : decode cX0_greatest 12 = .ok (.if_icmp .ge 27, 3) := by decide +kernel
theorem dX0_greatest_15 : decode cX0_greatest 15 = .ok (.aload_n 0, 1) := by decide +kernel
theorem dX0_greatest_16 : decode cX0_greatest 16 = .ok (.iload_n 2, 1) := by decide +kernel
theorem dX0_greatest_17 : decode cX0_greatest 17 = .ok (.invokevirtual 46, 3) := by decide +kernel
theorem dX0_greatest_20 : decode cX0_greatest 20 = .ok (.ifCond .eq 13, 3) := by decide +kernel
theorem dX0_greatest_23 : decode cX0_greatest 23 = .ok (.iload_n 1, 1) := by decide +kernel
theorem dX0_greatest_24 : decode cX0_greatest 24 = .ok (.aload_n 0, 1) := by decide +kernel
theorem dX0_greatest_25 : decode cX0_greatest 25 = .ok (.iload_n 2, 1) := by decide +kernel
theorem dX0_greatest_26 : decode cX0_greatest 26 = .ok (.invokevirtual 50, 3) := by decide +kernel
theorem dX0_greatest_29 : decode cX0_greatest 29 = .ok (.invokestatic 54, 3) := by decide +kernel
theorem dX0_greatest_32 : decode cX0_greatest 32 = .ok (.istore_n 1, 1) := by decide +kernel
theorem dX0_greatest_33 : decode cX0_greatest 33 = .ok (.iinc 2 1, 3) := by decide +kernel
theorem dX0_greatest_36 : decode cX0_greatest 36 = .ok (.goto (-32), 3) := by decide +kernel
theorem dX0_greatest_39 : decode cX0_greatest 39 = .ok (.iconst 0, 1) := by decide +kernel
theorem dX0_greatest_40 : decode cX0_greatest 40 = .ok (.istore_n 2, 1) := by decide +kernel
theorem dX0_greatest_41 : decode cX0_greatest 41 = .ok (.iload_n 2, 1) := by decide +kernel
theorem dX0_greatest_42 : decode cX0_greatest 42 = .ok (.aload_n 0, 1) := by decide +kernel
theorem dX0_greatest_43 : decode cX0_greatest 43 = .ok (.getfield 31, 3) := by decide +kernel
theorem dX0_greatest_46 : decode cX0_greatest 46 = .ok (.getfield 60, 3) := by decide +kernel
theorem dX0_greatest_49 : decode cX0_greatest 49 = .ok (.if_icmp .ge 54, 3) := by decide +kernel
theorem dX0_greatest_52 : decode cX0_greatest 52 = .ok (.aload_n 0, 1) := by decide +kernel
theorem dX0_greatest_53 : decode cX0_greatest 53 = .ok (.getfield 31, 3) := by decide +kernel
theorem dX0_greatest_56 : decode cX0_greatest 56 = .ok (.getfield 63, 3) := by decide +kernel
theorem dX0_greatest_59 : decode cX0_greatest 59 = .ok (.iload_n 2, 1) := by decide +kernel
theorem dX0_greatest_60 : decode cX0_greatest 60 = .ok (.iaload, 1) := by decide +kernel
theorem dX0_greatest_61 : decode cX0_greatest 61 = .ok (.ifCond .le 36, 3) := by decide +kernel
theorem dX0_greatest_64 : decode cX0_greatest 64 = .ok (.iload_n 1, 1) := by decide +kernel
theorem dX0_greatest_65 : decode cX0_greatest 65 = .ok (.aload_n 0, 1) := by decide +kernel
theorem dX0_greatest_66 : decode cX0_greatest 66 = .ok (.getfield 31, 3) := by decide +kernel
theorem dX0_greatest_69 : decode cX0_greatest 69 = .ok (.getfield 66, 3) := by decide +kernel
theorem dX0_greatest_72 : decode cX0_greatest 72 = .ok (.iload_n 2, 1) := by decide +kernel
theorem dX0_greatest_73 : decode cX0_greatest 73 = .ok (.iaload, 1) := by decide +kernel
theorem dX0_greatest_74 : decode cX0_greatest 74 = .ok (.aload_n 0, 1) := by decide +kernel
theorem dX0_greatest_75 : decode cX0_greatest 75 = .ok (.getfield 31, 3) := by decide +kernel
theorem dX0_greatest_78 : decode cX0_greatest 78 = .ok (.iload_n 2, 1) := by decide +kernel
theorem dX0_greatest_79 : decode cX0_greatest 79 = .ok (.iconst 0, 1) := by decide +kernel
theorem dX0_greatest_80 : decode cX0_greatest 80 = .ok (.aload_n 0, 1) := by decide +kernel
theorem dX0_greatest_81 : decode cX0_greatest 81 = .ok (.getfield 31, 3) := by decide +kernel
theorem dX0_greatest_84 : decode cX0_greatest 84 = .ok (.getfield 63, 3) := by decide +kernel
theorem dX0_greatest_87 : decode cX0_greatest 87 = .ok (.iload_n 2, 1) := by decide +kernel
theorem dX0_greatest_88 : decode cX0_greatest 88 = .ok (.iaload, 1) := by decide +kernel
theorem dX0_greatest_89 : decode cX0_greatest 89 = .ok (.invokevirtual 69, 3) := by decide +kernel
theorem dX0_greatest_92 : decode cX0_greatest 92 = .ok (.iadd, 1) := by decide +kernel
theorem dX0_greatest_93 : decode cX0_greatest 93 = .ok (.invokestatic 54, 3) := by decide +kernel
theorem dX0_greatest_96 : decode cX0_greatest 96 = .ok (.istore_n 1, 1) := by decide +kernel
theorem dX0_greatest_97 : decode cX0_greatest 97 = .ok (.iinc 2 1, 3) := by decide +kernel
theorem dX0_greatest_100 : decode cX0_greatest 100 = .ok (.goto (-59), 3) := by decide +kernel
theorem dX0_greatest_103 : decode cX0_greatest 103 = .ok (.iload_n 1, 1) := by decide +kernel
theorem dX0_greatest_104 : decode cX0_greatest 104 = .ok (.ireturn, 1) := by decide +kernel
theorem dX0_hasOne_0 : decode cX0_hasOne 0 = .ok (.iconst 0, 1) := by decide +kernel
theorem dX0_hasOne_1 : decode cX0_hasOne 1 = .ok (.istore_n 2, 1) := by decide +kernel
theorem dX0_hasOne_2 : decode cX0_hasOne 2 = .ok (.iconst 0, 1) := by decide +kernel
theorem dX0_hasOne_3 : decode cX0_hasOne 3 = .ok (.istore_n 3, 1) := by decide +kernel
theorem dX0_hasOne_4 : decode cX0_hasOne 4 = .ok (.iload_n 3, 1) := by decide +kernel
theorem dX0_hasOne_5 : decode cX0_hasOne 5 = .ok (.aload_n 0, 1) := by decide +kernel
theorem dX0_hasOne_6 : decode cX0_hasOne 6 = .ok (.getfield 31, 3) := by decide +kernel
theorem dX0_hasOne_9 : decode cX0_hasOne 9 = .ok (.getfield 60, 3) := by decide +kernel
theorem dX0_hasOne_12 : decode cX0_hasOne 12 = .ok (.if_icmp .ge 54, 3) := by decide +kernel
theorem dX0_hasOne_15 : decode cX0_hasOne 15 = .ok (.iconst 0, 1) := by decide +kernel
theorem dX0_hasOne_16 : decode cX0_hasOne 16 = .ok (.istore 4, 2) := by decide +kernel
theorem dX0_hasOne_18 : decode cX0_hasOne 18 = .ok (.iload 4, 2) := by decide +kernel
theorem dX0_hasOne_20 : decode cX0_hasOne 20 = .ok (.aload_n 0, 1) := by decide +kernel
theorem dX0_hasOne_21 : decode cX0_hasOne 21 = .ok (.getfield 31, 3) := by decide +kernel
theorem dX0_hasOne_24 : decode cX0_hasOne 24 = .ok (.getfield 63, 3) := by decide +kernel
theorem dX0_hasOne_27 : decode cX0_hasOne 27 = .ok (.iload_n 3, 1) := by decide +kernel
theorem dX0_hasOne_28 : decode cX0_hasOne 28 = .ok (.iaload, 1) := by decide +kernel
theorem dX0_hasOne_29 : decode cX0_hasOne 29 = .ok (.if_icmp .ge 31, 3) := by decide +kernel
theorem dX0_hasOne_32 : decode cX0_hasOne 32 = .ok (.aload_n 0, 1) := by decide +kernel
theorem dX0_hasOne_33 : decode cX0_hasOne 33 = .ok (.getfield 31, 3) := by decide +kernel
theorem dX0_hasOne_36 : decode cX0_hasOne 36 = .ok (.getfield 73, 3) := by decide +kernel
theorem dX0_hasOne_39 : decode cX0_hasOne 39 = .ok (.bipush 10, 2) := by decide +kernel
theorem dX0_hasOne_41 : decode cX0_hasOne 41 = .ok (.iload_n 3, 1) := by decide +kernel
theorem dX0_hasOne_42 : decode cX0_hasOne 42 = .ok (.imul, 1) := by decide +kernel
theorem dX0_hasOne_43 : decode cX0_hasOne 43 = .ok (.iload 4, 2) := by decide +kernel
theorem dX0_hasOne_45 : decode cX0_hasOne 45 = .ok (.iadd, 1) := by decide +kernel
theorem dX0_hasOne_46 : decode cX0_hasOne 46 = .ok (.iaload, 1) := by decide +kernel
theorem dX0_hasOne_47 : decode cX0_hasOne 47 = .ok (.iload_n 1, 1) := by decide +kernel
theorem dX0_hasOne_48 : decode cX0_hasOne 48 = .ok (.if_icmp .ne 6, 3) := by decide +kernel
theorem dX0_hasOne_51 : decode cX0_hasOne 51 = .ok (.iinc 2 1, 3) := by decide +kernel
theorem dX0_hasOne_54 : decode cX0_hasOne 54 = .ok (.iinc 4 1, 3) := by decide +kernel
theorem dX0_hasOne_57 : decode cX0_hasOne 57 = .ok (.goto (-39), 3) := by decide +kernel
theorem dX0_hasOne_60 : decode cX0_hasOne 60 = .ok (.iinc 3 1, 3) := by decide +kernel
theorem dX0_hasOne_63 : decode cX0_hasOne 63 = .ok (.goto (-59), 3) := by decide +kernel
theorem dX0_hasOne_66 : decode cX0_hasOne 66 = .ok (.iload_n 2, 1) := by decide +kernel
theorem dX0_hasOne_67 : decode cX0_hasOne 67 = .ok (.bipush 8, 2) := by decide +kernel
theorem dX0_hasOne_69 : decode cX0_hasOne 69 = .ok (.if_icmp .gt 7, 3) := by decide +kernel
theorem dX0_hasOne_72 : decode cX0_hasOne 72 = .ok (.iconst 1, 1) := by decide +kernel
theorem dX0_hasOne_73 : decode cX0_hasOne 73 = .ok (.goto 4, 3) := by decide +kernel
theorem dX0_hasOne_76 : decode cX0_hasOne 76 = .ok (.iconst 0, 1) := by decide +kernel
theorem dX0_hasOne_77 : decode cX0_hasOne 77 = .ok (.ireturn, 1) := by decide +kernel
theorem dX0_ofMachine_0 : decode cX0_ofMachine 0 = .ok (.aload_n 0, 1) := by decide +kernel
theorem dX0_ofMachine_1 : decode cX0_ofMachine 1 = .ok (.getfield 9, 3) := by decide +kernel
theorem dX0_ofMachine_4 : decode cX0_ofMachine 4 = .ok (.iload_n 1, 1) := by decide +kernel
theorem dX0_ofMachine_5 : decode cX0_ofMachine 5 = .ok (.iaload, 1) := by decide +kernel
theorem dX0_ofMachine_6 : decode cX0_ofMachine 6 = .ok (.iconst (-1), 1) := by decide +kernel
theorem dX0_ofMachine_7 : decode cX0_ofMachine 7 = .ok (.if_icmp .ne 18, 3) := by decide +kernel
theorem dX0_ofMachine_10 : decode cX0_ofMachine 10 = .ok (.aload_n 0, 1) := by decide +kernel
theorem dX0_ofMachine_11 : decode cX0_ofMachine 11 = .ok (.iload_n 1, 1) := by decide +kernel
theorem dX0_ofMachine_12 : decode cX0_ofMachine 12 = .ok (.invokevirtual 76, 3) := by decide +kernel
theorem dX0_ofMachine_15 : decode cX0_ofMachine 15 = .ok (.aload_n 0, 1) := by decide +kernel
theorem dX0_ofMachine_16 : decode cX0_ofMachine 16 = .ok (.getfield 9, 3) := by decide +kernel
theorem dX0_ofMachine_19 : decode cX0_ofMachine 19 = .ok (.iload_n 1, 1) := by decide +kernel
theorem dX0_ofMachine_20 : decode cX0_ofMachine 20 = .ok (.aload_n 0, 1) := by decide +kernel
theorem dX0_ofMachine_21 : decode cX0_ofMachine 21 = .ok (.invokevirtual 80, 3) := by decide +kernel
theorem dX0_ofMachine_24 : decode cX0_ofMachine 24 = .ok (.iastore, 1) := by decide +kernel
theorem dX0_ofMachine_25 : decode cX0_ofMachine 25 = .ok (.aload_n 0, 1) := by decide +kernel
theorem dX0_ofMachine_26 : decode cX0_ofMachine 26 = .ok (.getfield 9, 3) := by decide +kernel
theorem dX0_ofMachine_29 : decode cX0_ofMachine 29 = .ok (.iload_n 1, 1) := by decide +kernel
theorem dX0_ofMachine_30 : decode cX0_ofMachine 30 = .ok (.iaload, 1) := by decide +kernel
theorem dX0_ofMachine_31 : decode cX0_ofMachine 31 = .ok (.ireturn, 1) := by decide +kernel
theorem dX0_collect_0 : decode cX0_collect 0 = .ok (.aload_n 0, 1) := by decide +kernel
theorem dX0_collect_1 : decode cX0_collect 1 = .ok (.iconst 0, 1) := by decide +kernel
theorem dX0_collect_2 : decode cX0_collect 2 = .ok (.putfield 15, 3) := by decide +kernel
theorem dX0_collect_5 : decode cX0_collect 5 = .ok (.iconst 0, 1) := by decide +kernel
theorem dX0_collect_6 : decode cX0_collect 6 = .ok (.istore_n 2, 1) := by decide +kernel
theorem dX0_collect_7 : decode cX0_collect 7 = .ok (.iload_n 2, 1) := by decide +kernel
theorem dX0_collect_8 : decode cX0_collect 8 = .ok (.aload_n 0, 1) := by decide +kernel
theorem dX0_collect_9 : decode cX0_collect 9 = .ok (.getfield 31, 3) := by decide +kernel
theorem dX0_collect_12 : decode cX0_collect 12 = .ok (.getfield 60, 3) := by decide +kernel
theorem dX0_collect_15 : decode cX0_collect 15 = .ok (.if_icmp .ge 126, 3) := by decide +kernel
theorem dX0_collect_18 : decode cX0_collect 18 = .ok (.iconst 0, 1) := by decide +kernel
theorem dX0_collect_19 : decode cX0_collect 19 = .ok (.istore_n 3, 1) := by decide +kernel
theorem dX0_collect_20 : decode cX0_collect 20 = .ok (.iload_n 3, 1) := by decide +kernel
theorem dX0_collect_21 : decode cX0_collect 21 = .ok (.aload_n 0, 1) := by decide +kernel
theorem dX0_collect_22 : decode cX0_collect 22 = .ok (.getfield 31, 3) := by decide +kernel
theorem dX0_collect_25 : decode cX0_collect 25 = .ok (.getfield 63, 3) := by decide +kernel
theorem dX0_collect_28 : decode cX0_collect 28 = .ok (.iload_n 2, 1) := by decide +kernel
theorem dX0_collect_29 : decode cX0_collect 29 = .ok (.iaload, 1) := by decide +kernel
theorem dX0_collect_30 : decode cX0_collect 30 = .ok (.if_icmp .ge 105, 3) := by decide +kernel
theorem dX0_collect_33 : decode cX0_collect 33 = .ok (.bipush 10, 2) := by decide +kernel
theorem dX0_collect_35 : decode cX0_collect 35 = .ok (.iload_n 2, 1) := by decide +kernel
theorem dX0_collect_36 : decode cX0_collect 36 = .ok (.imul, 1) := by decide +kernel
theorem dX0_collect_37 : decode cX0_collect 37 = .ok (.iload_n 3, 1) := by decide +kernel
theorem dX0_collect_38 : decode cX0_collect 38 = .ok (.iadd, 1) := by decide +kernel
theorem dX0_collect_39 : decode cX0_collect 39 = .ok (.istore 4, 2) := by decide +kernel
theorem dX0_collect_41 : decode cX0_collect 41 = .ok (.aload_n 0, 1) := by decide +kernel
theorem dX0_collect_42 : decode cX0_collect 42 = .ok (.getfield 31, 3) := by decide +kernel
theorem dX0_collect_45 : decode cX0_collect 45 = .ok (.getfield 73, 3) := by decide +kernel
theorem dX0_collect_48 : decode cX0_collect 48 = .ok (.iload 4, 2) := by decide +kernel
theorem dX0_collect_50 : decode cX0_collect 50 = .ok (.iaload, 1) := by decide +kernel
theorem dX0_collect_51 : decode cX0_collect 51 = .ok (.iload_n 1, 1) := by decide +kernel
theorem dX0_collect_52 : decode cX0_collect 52 = .ok (.if_icmp .ne 77, 3) := by decide +kernel
theorem dX0_collect_55 : decode cX0_collect 55 = .ok (.aload_n 0, 1) := by decide +kernel
theorem dX0_collect_56 : decode cX0_collect 56 = .ok (.getfield 15, 3) := by decide +kernel
theorem dX0_collect_59 : decode cX0_collect 59 = .ok (.bipush 8, 2) := by decide +kernel
theorem dX0_collect_61 : decode cX0_collect 61 = .ok (.if_icmp .ge 68, 3) := by decide +kernel
theorem dX0_collect_64 : decode cX0_collect 64 = .ok (.aload_n 0, 1) := by decide +kernel
theorem dX0_collect_65 : decode cX0_collect 65 = .ok (.getfield 19, 3) := by decide +kernel
theorem dX0_collect_68 : decode cX0_collect 68 = .ok (.aload_n 0, 1) := by decide +kernel
theorem dX0_collect_69 : decode cX0_collect 69 = .ok (.getfield 15, 3) := by decide +kernel
theorem dX0_collect_72 : decode cX0_collect 72 = .ok (.aload_n 0, 1) := by decide +kernel
theorem dX0_collect_73 : decode cX0_collect 73 = .ok (.getfield 31, 3) := by decide +kernel
theorem dX0_collect_76 : decode cX0_collect 76 = .ok (.iload 4, 2) := by decide +kernel
theorem dX0_collect_78 : decode cX0_collect 78 = .ok (.invokevirtual 84, 3) := by decide +kernel
theorem dX0_collect_81 : decode cX0_collect 81 = .ok (.iastore, 1) := by decide +kernel
theorem dX0_collect_82 : decode cX0_collect 82 = .ok (.aload_n 0, 1) := by decide +kernel
theorem dX0_collect_83 : decode cX0_collect 83 = .ok (.getfield 22, 3) := by decide +kernel
theorem dX0_collect_86 : decode cX0_collect 86 = .ok (.aload_n 0, 1) := by decide +kernel
theorem dX0_collect_87 : decode cX0_collect 87 = .ok (.getfield 15, 3) := by decide +kernel
theorem dX0_collect_90 : decode cX0_collect 90 = .ok (.aload_n 0, 1) := by decide +kernel
theorem dX0_collect_91 : decode cX0_collect 91 = .ok (.getfield 31, 3) := by decide +kernel
theorem dX0_collect_94 : decode cX0_collect 94 = .ok (.getfield 87, 3) := by decide +kernel
theorem dX0_collect_97 : decode cX0_collect 97 = .ok (.iload 4, 2) := by decide +kernel
theorem dX0_collect_99 : decode cX0_collect 99 = .ok (.iaload, 1) := by decide +kernel
theorem dX0_collect_100 : decode cX0_collect 100 = .ok (.iastore, 1) := by decide +kernel
theorem dX0_collect_101 : decode cX0_collect 101 = .ok (.aload_n 0, 1) := by decide +kernel
theorem dX0_collect_102 : decode cX0_collect 102 = .ok (.getfield 25, 3) := by decide +kernel
theorem dX0_collect_105 : decode cX0_collect 105 = .ok (.aload_n 0, 1) := by decide +kernel
theorem dX0_collect_106 : decode cX0_collect 106 = .ok (.getfield 15, 3) := by decide +kernel
theorem dX0_collect_109 : decode cX0_collect 109 = .ok (.aload_n 0, 1) := by decide +kernel
theorem dX0_collect_110 : decode cX0_collect 110 = .ok (.getfield 31, 3) := by decide +kernel
theorem dX0_collect_113 : decode cX0_collect 113 = .ok (.iload 4, 2) := by decide +kernel
theorem dX0_collect_115 : decode cX0_collect 115 = .ok (.invokevirtual 88, 3) := by decide +kernel
theorem dX0_collect_118 : decode cX0_collect 118 = .ok (.iastore, 1) := by decide +kernel
theorem dX0_collect_119 : decode cX0_collect 119 = .ok (.aload_n 0, 1) := by decide +kernel
theorem dX0_collect_120 : decode cX0_collect 120 = .ok (.dup, 1) := by decide +kernel
theorem dX0_collect_121 : decode cX0_collect 121 = .ok (.getfield 15, 3) := by decide +kernel
theorem dX0_collect_124 : decode cX0_collect 124 = .ok (.iconst 1, 1) := by decide +kernel
theorem dX0_collect_125 : decode cX0_collect 125 = .ok (.iadd, 1) := by decide +kernel
theorem dX0_collect_126 : decode cX0_collect 126 = .ok (.putfield 15, 3) := by decide +kernel
theorem dX0_collect_129 : decode cX0_collect 129 = .ok (.iinc 3 1, 3) := by decide +kernel
theorem dX0_collect_132 : decode cX0_collect 132 = .ok (.goto (-112), 3) := by decide +kernel
theorem dX0_collect_135 : decode cX0_collect 135 = .ok (.iinc 2 1, 3) := by decide +kernel
theorem dX0_collect_138 : decode cX0_collect 138 = .ok (.goto (-131), 3) := by decide +kernel
theorem dX0_collect_141 : decode cX0_collect 141 = .ok (.return_, 1) := by decide +kernel
theorem dX0_leastLimit_0 : decode cX0_leastLimit 0 = .ok (.iconst 0, 1) := by decide +kernel
theorem dX0_leastLimit_1 : decode cX0_leastLimit 1 = .ok (.istore_n 1, 1) := by decide +kernel
theorem dX0_leastLimit_2 : decode cX0_leastLimit 2 = .ok (.iconst 0, 1) := by decide +kernel
theorem dX0_leastLimit_3 : decode cX0_leastLimit 3 = .ok (.istore_n 2, 1) := by decide +kernel
theorem dX0_leastLimit_4 : decode cX0_leastLimit 4 = .ok (.iconst 0, 1) := by decide +kernel
theorem dX0_leastLimit_5 : decode cX0_leastLimit 5 = .ok (.istore_n 3, 1) := by decide +kernel
theorem dX0_leastLimit_6 : decode cX0_leastLimit 6 = .ok (.iconst 0, 1) := by decide +kernel
theorem dX0_leastLimit_7 : decode cX0_leastLimit 7 = .ok (.istore 4, 2) := by decide +kernel
theorem dX0_leastLimit_9 : decode cX0_leastLimit 9 = .ok (.iload 4, 2) := by decide +kernel
theorem dX0_leastLimit_11 : decode cX0_leastLimit 11 = .ok (.aload_n 0, 1) := by decide +kernel
theorem dX0_leastLimit_12 : decode cX0_leastLimit 12 = .ok (.getfield 15, 3) := by decide +kernel
theorem dX0_leastLimit_15 : decode cX0_leastLimit 15 = .ok (.if_icmp .ge 71, 3) := by decide +kernel
theorem dX0_leastLimit_18 : decode cX0_leastLimit 18 = .ok (.iload_n 1, 1) := by decide +kernel
theorem dX0_leastLimit_19 : decode cX0_leastLimit 19 = .ok (.aload_n 0, 1) := by decide +kernel
theorem dX0_leastLimit_20 : decode cX0_leastLimit 20 = .ok (.getfield 19, 3) := by decide +kernel
theorem dX0_leastLimit_23 : decode cX0_leastLimit 23 = .ok (.iload 4, 2) := by decide +kernel
theorem dX0_leastLimit_25 : decode cX0_leastLimit 25 = .ok (.iaload, 1) := by decide +kernel
theorem dX0_leastLimit_26 : decode cX0_leastLimit 26 = .ok (.aload_n 0, 1) := by decide +kernel
theorem dX0_leastLimit_27 : decode cX0_leastLimit 27 = .ok (.getfield 22, 3) := by decide +kernel
theorem dX0_leastLimit_30 : decode cX0_leastLimit 30 = .ok (.iload 4, 2) := by decide +kernel
theorem dX0_leastLimit_32 : decode cX0_leastLimit 32 = .ok (.iaload, 1) := by decide +kernel
theorem dX0_leastLimit_33 : decode cX0_leastLimit 33 = .ok (.iadd, 1) := by decide +kernel
theorem dX0_leastLimit_34 : decode cX0_leastLimit 34 = .ok (.aload_n 0, 1) := by decide +kernel
theorem dX0_leastLimit_35 : decode cX0_leastLimit 35 = .ok (.getfield 25, 3) := by decide +kernel
theorem dX0_leastLimit_38 : decode cX0_leastLimit 38 = .ok (.iload 4, 2) := by decide +kernel
theorem dX0_leastLimit_40 : decode cX0_leastLimit 40 = .ok (.iaload, 1) := by decide +kernel
theorem dX0_leastLimit_41 : decode cX0_leastLimit 41 = .ok (.iadd, 1) := by decide +kernel
theorem dX0_leastLimit_42 : decode cX0_leastLimit 42 = .ok (.invokestatic 54, 3) := by decide +kernel
theorem dX0_leastLimit_45 : decode cX0_leastLimit 45 = .ok (.istore_n 1, 1) := by decide +kernel
theorem dX0_leastLimit_46 : decode cX0_leastLimit 46 = .ok (.iload_n 3, 1) := by decide +kernel
theorem dX0_leastLimit_47 : decode cX0_leastLimit 47 = .ok (.aload_n 0, 1) := by decide +kernel
theorem dX0_leastLimit_48 : decode cX0_leastLimit 48 = .ok (.getfield 19, 3) := by decide +kernel
theorem dX0_leastLimit_51 : decode cX0_leastLimit 51 = .ok (.iload 4, 2) := by decide +kernel
theorem dX0_leastLimit_53 : decode cX0_leastLimit 53 = .ok (.iaload, 1) := by decide +kernel
theorem dX0_leastLimit_54 : decode cX0_leastLimit 54 = .ok (.invokestatic 54, 3) := by decide +kernel
theorem dX0_leastLimit_57 : decode cX0_leastLimit 57 = .ok (.aload_n 0, 1) := by decide +kernel
theorem dX0_leastLimit_58 : decode cX0_leastLimit 58 = .ok (.getfield 22, 3) := by decide +kernel
theorem dX0_leastLimit_61 : decode cX0_leastLimit 61 = .ok (.iload 4, 2) := by decide +kernel
theorem dX0_leastLimit_63 : decode cX0_leastLimit 63 = .ok (.iaload, 1) := by decide +kernel
theorem dX0_leastLimit_64 : decode cX0_leastLimit 64 = .ok (.iadd, 1) := by decide +kernel
theorem dX0_leastLimit_65 : decode cX0_leastLimit 65 = .ok (.istore_n 3, 1) := by decide +kernel
theorem dX0_leastLimit_66 : decode cX0_leastLimit 66 = .ok (.iload_n 2, 1) := by decide +kernel
theorem dX0_leastLimit_67 : decode cX0_leastLimit 67 = .ok (.iload_n 3, 1) := by decide +kernel
theorem dX0_leastLimit_68 : decode cX0_leastLimit 68 = .ok (.aload_n 0, 1) := by decide +kernel
theorem dX0_leastLimit_69 : decode cX0_leastLimit 69 = .ok (.getfield 25, 3) := by decide +kernel
theorem dX0_leastLimit_72 : decode cX0_leastLimit 72 = .ok (.iload 4, 2) := by decide +kernel
theorem dX0_leastLimit_74 : decode cX0_leastLimit 74 = .ok (.iaload, 1) := by decide +kernel
theorem dX0_leastLimit_75 : decode cX0_leastLimit 75 = .ok (.iadd, 1) := by decide +kernel
theorem dX0_leastLimit_76 : decode cX0_leastLimit 76 = .ok (.invokestatic 54, 3) := by decide +kernel
theorem dX0_leastLimit_79 : decode cX0_leastLimit 79 = .ok (.istore_n 2, 1) := by decide +kernel
theorem dX0_leastLimit_80 : decode cX0_leastLimit 80 = .ok (.iinc 4 1, 3) := by decide +kernel
theorem dX0_leastLimit_83 : decode cX0_leastLimit 83 = .ok (.goto (-74), 3) := by decide +kernel
theorem dX0_leastLimit_86 : decode cX0_leastLimit 86 = .ok (.iconst 0, 1) := by decide +kernel
theorem dX0_leastLimit_87 : decode cX0_leastLimit 87 = .ok (.istore 4, 2) := by decide +kernel
theorem dX0_leastLimit_89 : decode cX0_leastLimit 89 = .ok (.iload 4, 2) := by decide +kernel
theorem dX0_leastLimit_91 : decode cX0_leastLimit 91 = .ok (.bipush 32, 2) := by decide +kernel
theorem dX0_leastLimit_93 : decode cX0_leastLimit 93 = .ok (.if_icmp .ge 43, 3) := by decide +kernel
theorem dX0_leastLimit_96 : decode cX0_leastLimit 96 = .ok (.iload_n 1, 1) := by decide +kernel
theorem dX0_leastLimit_97 : decode cX0_leastLimit 97 = .ok (.iload_n 2, 1) := by decide +kernel
theorem dX0_leastLimit_98 : decode cX0_leastLimit 98 = .ok (.if_icmp .ge 38, 3) := by decide +kernel
theorem dX0_leastLimit_101 : decode cX0_leastLimit 101 = .ok (.iload_n 1, 1) := by decide +kernel
theorem dX0_leastLimit_102 : decode cX0_leastLimit 102 = .ok (.iload_n 2, 1) := by decide +kernel
theorem dX0_leastLimit_103 : decode cX0_leastLimit 103 = .ok (.iload_n 1, 1) := by decide +kernel
theorem dX0_leastLimit_104 : decode cX0_leastLimit 104 = .ok (.isub, 1) := by decide +kernel
theorem dX0_leastLimit_105 : decode cX0_leastLimit 105 = .ok (.iconst 2, 1) := by decide +kernel
theorem dX0_leastLimit_106 : decode cX0_leastLimit 106 = .ok (.idiv, 1) := by decide +kernel
theorem dX0_leastLimit_107 : decode cX0_leastLimit 107 = .ok (.iadd, 1) := by decide +kernel
theorem dX0_leastLimit_108 : decode cX0_leastLimit 108 = .ok (.istore 5, 2) := by decide +kernel
theorem dX0_leastLimit_110 : decode cX0_leastLimit 110 = .ok (.aload_n 0, 1) := by decide +kernel
theorem dX0_leastLimit_111 : decode cX0_leastLimit 111 = .ok (.iload 5, 2) := by decide +kernel
theorem dX0_leastLimit_113 : decode cX0_leastLimit 113 = .ok (.invokevirtual 91, 3) := by decide +kernel
theorem dX0_leastLimit_116 : decode cX0_leastLimit 116 = .ok (.ifCond .eq 9, 3) := by decide +kernel
theorem dX0_leastLimit_119 : decode cX0_leastLimit 119 = .ok (.iload 5, 2) := by decide +kernel
theorem dX0_leastLimit_121 : decode cX0_leastLimit 121 = .ok (.istore_n 2, 1) := by decide +kernel
theorem dX0_leastLimit_122 : decode cX0_leastLimit 122 = .ok (.goto 8, 3) := by decide +kernel
theorem dX0_leastLimit_125 : decode cX0_leastLimit 125 = .ok (.iload 5, 2) := by decide +kernel
theorem dX0_leastLimit_127 : decode cX0_leastLimit 127 = .ok (.iconst 1, 1) := by decide +kernel
theorem dX0_leastLimit_128 : decode cX0_leastLimit 128 = .ok (.iadd, 1) := by decide +kernel
theorem dX0_leastLimit_129 : decode cX0_leastLimit 129 = .ok (.istore_n 1, 1) := by decide +kernel
theorem dX0_leastLimit_130 : decode cX0_leastLimit 130 = .ok (.iinc 4 1, 3) := by decide +kernel
theorem dX0_leastLimit_133 : decode cX0_leastLimit 133 = .ok (.goto (-44), 3) := by decide +kernel
theorem dX0_leastLimit_136 : decode cX0_leastLimit 136 = .ok (.iload_n 2, 1) := by decide +kernel
theorem dX0_leastLimit_137 : decode cX0_leastLimit 137 = .ok (.ireturn, 1) := by decide +kernel
theorem dX0_fits_0 : decode cX0_fits 0 = .ok (.iconst 1, 1) := by decide +kernel
theorem dX0_fits_1 : decode cX0_fits 1 = .ok (.aload_n 0, 1) := by decide +kernel
theorem dX0_fits_2 : decode cX0_fits 2 = .ok (.getfield 15, 3) := by decide +kernel
theorem dX0_fits_5 : decode cX0_fits 5 = .ok (.ishl, 1) := by decide +kernel
theorem dX0_fits_6 : decode cX0_fits 6 = .ok (.iconst 1, 1) := by decide +kernel
theorem dX0_fits_7 : decode cX0_fits 7 = .ok (.isub, 1) := by decide +kernel
theorem dX0_fits_8 : decode cX0_fits 8 = .ok (.istore_n 2, 1) := by decide +kernel
theorem dX0_fits_9 : decode cX0_fits 9 = .ok (.aload_n 0, 1) := by decide +kernel
theorem dX0_fits_10 : decode cX0_fits 10 = .ok (.getfield 28, 3) := by decide +kernel
theorem dX0_fits_13 : decode cX0_fits 13 = .ok (.ldc 94, 2) := by decide +kernel
theorem dX0_fits_15 : decode cX0_fits 15 = .ok (.invokestatic 35, 3) := by decide +kernel
theorem dX0_fits_18 : decode cX0_fits 18 = .ok (.aload_n 0, 1) := by decide +kernel
theorem dX0_fits_19 : decode cX0_fits 19 = .ok (.getfield 28, 3) := by decide +kernel
theorem dX0_fits_22 : decode cX0_fits 22 = .ok (.iconst 0, 1) := by decide +kernel
theorem dX0_fits_23 : decode cX0_fits 23 = .ok (.iconst 0, 1) := by decide +kernel
theorem dX0_fits_24 : decode cX0_fits 24 = .ok (.iastore, 1) := by decide +kernel
theorem dX0_fits_25 : decode cX0_fits 25 = .ok (.iconst 0, 1) := by decide +kernel
theorem dX0_fits_26 : decode cX0_fits 26 = .ok (.istore_n 3, 1) := by decide +kernel
theorem dX0_fits_27 : decode cX0_fits 27 = .ok (.iload_n 3, 1) := by decide +kernel
theorem dX0_fits_28 : decode cX0_fits 28 = .ok (.iload_n 2, 1) := by decide +kernel
theorem dX0_fits_29 : decode cX0_fits 29 = .ok (.if_icmp .ge 116, 3) := by decide +kernel
theorem dX0_fits_32 : decode cX0_fits 32 = .ok (.aload_n 0, 1) := by decide +kernel
theorem dX0_fits_33 : decode cX0_fits 33 = .ok (.getfield 28, 3) := by decide +kernel
theorem dX0_fits_36 : decode cX0_fits 36 = .ok (.iload_n 3, 1) := by decide +kernel
theorem dX0_fits_37 : decode cX0_fits 37 = .ok (.iaload, 1) := by decide +kernel
theorem dX0_fits_38 : decode cX0_fits 38 = .ok (.ldc 94, 2) := by decide +kernel
theorem dX0_fits_40 : decode cX0_fits 40 = .ok (.if_icmp .ne 6, 3) := by decide +kernel
theorem dX0_fits_43 : decode cX0_fits 43 = .ok (.goto 96, 3) := by decide +kernel
theorem dX0_fits_46 : decode cX0_fits 46 = .ok (.iconst 0, 1) := by decide +kernel
theorem dX0_fits_47 : decode cX0_fits 47 = .ok (.istore 4, 2) := by decide +kernel
theorem dX0_fits_49 : decode cX0_fits 49 = .ok (.iload 4, 2) := by decide +kernel
theorem dX0_fits_51 : decode cX0_fits 51 = .ok (.aload_n 0, 1) := by decide +kernel
theorem dX0_fits_52 : decode cX0_fits 52 = .ok (.getfield 15, 3) := by decide +kernel
theorem dX0_fits_55 : decode cX0_fits 55 = .ok (.if_icmp .ge 84, 3) := by decide +kernel
theorem dX0_fits_58 : decode cX0_fits 58 = .ok (.iload_n 3, 1) := by decide +kernel
theorem dX0_fits_59 : decode cX0_fits 59 = .ok (.iconst 1, 1) := by decide +kernel
theorem dX0_fits_60 : decode cX0_fits 60 = .ok (.iload 4, 2) := by decide +kernel
theorem dX0_fits_62 : decode cX0_fits 62 = .ok (.ishl, 1) := by decide +kernel
theorem dX0_fits_63 : decode cX0_fits 63 = .ok (.ior, 1) := by decide +kernel
theorem dX0_fits_64 : decode cX0_fits 64 = .ok (.istore 5, 2) := by decide +kernel
theorem dX0_fits_66 : decode cX0_fits 66 = .ok (.aload_n 0, 1) := by decide +kernel
theorem dX0_fits_67 : decode cX0_fits 67 = .ok (.getfield 28, 3) := by decide +kernel
theorem dX0_fits_70 : decode cX0_fits 70 = .ok (.iload_n 3, 1) := by decide +kernel
theorem dX0_fits_71 : decode cX0_fits 71 = .ok (.iaload, 1) := by decide +kernel
theorem dX0_fits_72 : decode cX0_fits 72 = .ok (.aload_n 0, 1) := by decide +kernel
theorem dX0_fits_73 : decode cX0_fits 73 = .ok (.getfield 19, 3) := by decide +kernel
theorem dX0_fits_76 : decode cX0_fits 76 = .ok (.iload 4, 2) := by decide +kernel
theorem dX0_fits_78 : decode cX0_fits 78 = .ok (.iaload, 1) := by decide +kernel
theorem dX0_fits_79 : decode cX0_fits 79 = .ok (.invokestatic 54, 3) := by decide +kernel
theorem dX0_fits_82 : decode cX0_fits 82 = .ok (.aload_n 0, 1) := by decide +kernel
theorem dX0_fits_83 : decode cX0_fits 83 = .ok (.getfield 22, 3) := by decide +kernel
theorem dX0_fits_86 : decode cX0_fits 86 = .ok (.iload 4, 2) := by decide +kernel
theorem dX0_fits_88 : decode cX0_fits 88 = .ok (.iaload, 1) := by decide +kernel
theorem dX0_fits_89 : decode cX0_fits 89 = .ok (.iadd, 1) := by decide +kernel
theorem dX0_fits_90 : decode cX0_fits 90 = .ok (.istore 6, 2) := by decide +kernel
theorem dX0_fits_92 : decode cX0_fits 92 = .ok (.iload 5, 2) := by decide +kernel
theorem dX0_fits_94 : decode cX0_fits 94 = .ok (.iload_n 3, 1) := by decide +kernel
theorem dX0_fits_95 : decode cX0_fits 95 = .ok (.if_icmp .eq 38, 3) := by decide +kernel
theorem dX0_fits_98 : decode cX0_fits 98 = .ok (.iload 6, 2) := by decide +kernel
theorem dX0_fits_100 : decode cX0_fits 100 = .ok (.aload_n 0, 1) := by decide +kernel
theorem dX0_fits_101 : decode cX0_fits 101 = .ok (.getfield 25, 3) := by decide +kernel
theorem dX0_fits_104 : decode cX0_fits 104 = .ok (.iload 4, 2) := by decide +kernel
theorem dX0_fits_106 : decode cX0_fits 106 = .ok (.iaload, 1) := by decide +kernel
theorem dX0_fits_107 : decode cX0_fits 107 = .ok (.iadd, 1) := by decide +kernel
theorem dX0_fits_108 : decode cX0_fits 108 = .ok (.iload_n 1, 1) := by decide +kernel
theorem dX0_fits_109 : decode cX0_fits 109 = .ok (.if_icmp .gt 24, 3) := by decide +kernel
theorem dX0_fits_112 : decode cX0_fits 112 = .ok (.iload 6, 2) := by decide +kernel
theorem dX0_fits_114 : decode cX0_fits 114 = .ok (.aload_n 0, 1) := by decide +kernel
theorem dX0_fits_115 : decode cX0_fits 115 = .ok (.getfield 28, 3) := by decide +kernel
theorem dX0_fits_118 : decode cX0_fits 118 = .ok (.iload 5, 2) := by decide +kernel
theorem dX0_fits_120 : decode cX0_fits 120 = .ok (.iaload, 1) := by decide +kernel
theorem dX0_fits_121 : decode cX0_fits 121 = .ok (.if_icmp .ge 12, 3) := by decide +kernel
theorem dX0_fits_124 : decode cX0_fits 124 = .ok (.aload_n 0, 1) := by decide +kernel
theorem dX0_fits_125 : decode cX0_fits 125 = .ok (.getfield 28, 3) := by decide +kernel
theorem dX0_fits_128 : decode cX0_fits 128 = .ok (.iload 5, 2) := by decide +kernel
theorem dX0_fits_130 : decode cX0_fits 130 = .ok (.iload 6, 2) := by decide +kernel
theorem dX0_fits_132 : decode cX0_fits 132 = .ok (.iastore, 1) := by decide +kernel
theorem dX0_fits_133 : decode cX0_fits 133 = .ok (.iinc 4 1, 3) := by decide +kernel
theorem dX0_fits_136 : decode cX0_fits 136 = .ok (.goto (-87), 3) := by decide +kernel
theorem dX0_fits_139 : decode cX0_fits 139 = .ok (.iinc 3 1, 3) := by decide +kernel
theorem dX0_fits_142 : decode cX0_fits 142 = .ok (.goto (-115), 3) := by decide +kernel
theorem dX0_fits_145 : decode cX0_fits 145 = .ok (.aload_n 0, 1) := by decide +kernel
theorem dX0_fits_146 : decode cX0_fits 146 = .ok (.getfield 28, 3) := by decide +kernel
theorem dX0_fits_149 : decode cX0_fits 149 = .ok (.iload_n 2, 1) := by decide +kernel
theorem dX0_fits_150 : decode cX0_fits 150 = .ok (.iaload, 1) := by decide +kernel
theorem dX0_fits_151 : decode cX0_fits 151 = .ok (.ldc 94, 2) := by decide +kernel
theorem dX0_fits_153 : decode cX0_fits 153 = .ok (.if_icmp .eq 7, 3) := by decide +kernel
theorem dX0_fits_156 : decode cX0_fits 156 = .ok (.iconst 1, 1) := by decide +kernel
theorem dX0_fits_157 : decode cX0_fits 157 = .ok (.goto 4, 3) := by decide +kernel
theorem dX0_fits_160 : decode cX0_fits 160 = .ok (.iconst 0, 1) := by decide +kernel
theorem dX0_fits_161 : decode cX0_fits 161 = .ok (.ireturn, 1) := by decide +kernel
theorem dX1_init_0 : decode cX1_init 0 = .ok (.aload_n 0, 1) := by decide +kernel
theorem dX1_init_1 : decode cX1_init 1 = .ok (.invokespecial 3, 3) := by decide +kernel
theorem dX1_init_4 : decode cX1_init 4 = .ok (.aload_n 0, 1) := by decide +kernel
theorem dX1_init_5 : decode cX1_init 5 = .ok (.bipush 8, 2) := by decide +kernel
theorem dX1_init_7 : decode cX1_init 7 = .ok (.newarray .int, 2) := by decide +kernel
theorem dX1_init_9 : decode cX1_init 9 = .ok (.putfield 9, 3) := by decide +kernel
theorem dX1_init_12 : decode cX1_init 12 = .ok (.aload_n 0, 1) := by decide +kernel
theorem dX1_init_13 : decode cX1_init 13 = .ok (.bipush 8, 2) := by decide +kernel
theorem dX1_init_15 : decode cX1_init 15 = .ok (.newarray .int, 2) := by decide +kernel
theorem dX1_init_17 : decode cX1_init 17 = .ok (.putfield 15, 3) := by decide +kernel
theorem dX1_init_20 : decode cX1_init 20 = .ok (.aload_n 0, 1) := by decide +kernel
theorem dX1_init_21 : decode cX1_init 21 = .ok (.iconst 5, 1) := by decide +kernel
theorem dX1_init_22 : decode cX1_init 22 = .ok (.newarray .int, 2) := by decide +kernel
theorem dX1_init_24 : decode cX1_init 24 = .ok (.putfield 18, 3) := by decide +kernel
theorem dX1_init_27 : decode cX1_init 27 = .ok (.aload_n 0, 1) := by decide +kernel
theorem dX1_init_28 : decode cX1_init 28 = .ok (.bipush 8, 2) := by decide +kernel
theorem dX1_init_30 : decode cX1_init 30 = .ok (.newarray .int, 2) := by decide +kernel
theorem dX1_init_32 : decode cX1_init 32 = .ok (.putfield 21, 3) := by decide +kernel
theorem dX1_init_35 : decode cX1_init 35 = .ok (.aload_n 0, 1) := by decide +kernel
theorem dX1_init_36 : decode cX1_init 36 = .ok (.aload_n 1, 1) := by decide +kernel
theorem dX1_init_37 : decode cX1_init 37 = .ok (.putfield 24, 3) := by decide +kernel
theorem dX1_init_40 : decode cX1_init 40 = .ok (.return_, 1) := by decide +kernel
theorem dX1_run_0 : decode cX1_run 0 = .ok (.aload_n 0, 1) := by decide +kernel
theorem dX1_run_1 : decode cX1_run 1 = .ok (.getfield 24, 3) := by decide +kernel
theorem dX1_run_4 : decode cX1_run 4 = .ok (.invokevirtual 28, 3) := by decide +kernel
theorem dX1_run_7 : decode cX1_run 7 = .ok (.aload_n 0, 1) := by decide +kernel
theorem dX1_run_8 : decode cX1_run 8 = .ok (.getfield 9, 3) := by decide +kernel
theorem dX1_run_11 : decode cX1_run 11 = .ok (.iconst 0, 1) := by decide +kernel
theorem dX1_run_12 : decode cX1_run 12 = .ok (.invokestatic 33, 3) := by decide +kernel
theorem dX1_run_15 : decode cX1_run 15 = .ok (.aload_n 0, 1) := by decide +kernel
theorem dX1_run_16 : decode cX1_run 16 = .ok (.getfield 24, 3) := by decide +kernel
theorem dX1_run_19 : decode cX1_run 19 = .ok (.getfield 39, 3) := by decide +kernel
theorem dX1_run_22 : decode cX1_run 22 = .ok (.iconst 0, 1) := by decide +kernel
theorem dX1_run_23 : decode cX1_run 23 = .ok (.aload_n 0, 1) := by decide +kernel
theorem dX1_run_24 : decode cX1_run 24 = .ok (.getfield 15, 3) := by decide +kernel
theorem dX1_run_27 : decode cX1_run 27 = .ok (.iconst 0, 1) := by decide +kernel
theorem dX1_run_28 : decode cX1_run 28 = .ok (.bipush 8, 2) := by decide +kernel
theorem dX1_run_30 : decode cX1_run 30 = .ok (.invokestatic 42, 3) := by decide +kernel
theorem dX1_run_33 : decode cX1_run 33 = .ok (.aload_n 0, 1) := by decide +kernel
theorem dX1_run_34 : decode cX1_run 34 = .ok (.getfield 18, 3) := by decide +kernel
theorem dX1_run_37 : decode cX1_run 37 = .ok (.iconst 0, 1) := by decide +kernel
theorem dX1_run_38 : decode cX1_run 38 = .ok (.invokestatic 33, 3) := by decide +kernel
theorem dX1_run_41 : decode cX1_run 41 = .ok (.iconst 0, 1) := by decide +kernel
theorem dX1_run_42 : decode cX1_run 42 = .ok (.istore_n 2, 1) := by decide +kernel
theorem dX1_run_43 : decode cX1_run 43 = .ok (.iload_n 2, 1) := by decide +kernel
theorem dX1_run_44 : decode cX1_run 44 = .ok (.aload_n 0, 1) := by decide +kernel
theorem dX1_run_45 : decode cX1_run 45 = .ok (.getfield 24, 3) := by decide +kernel
theorem dX1_run_48 : decode cX1_run 48 = .ok (.getfield 48, 3) := by decide +kernel
theorem dX1_run_51 : decode cX1_run 51 = .ok (.if_icmp .ge 26, 3) := by decide +kernel
theorem dX1_run_54 : decode cX1_run 54 = .ok (.aload_n 0, 1) := by decide +kernel
theorem dX1_run_55 : decode cX1_run 55 = .ok (.invokevirtual 52, 3) := by decide +kernel
theorem dX1_run_58 : decode cX1_run 58 = .ok (.aload_n 0, 1) := by decide +kernel
theorem dX1_run_59 : decode cX1_run 59 = .ok (.aload_n 0, 1) := by decide +kernel
theorem dX1_run_60 : decode cX1_run 60 = .ok (.iload_n 1, 1) := by decide +kernel
theorem dX1_run_61 : decode cX1_run 61 = .ok (.aload_n 0, 1) := by decide +kernel
theorem dX1_run_62 : decode cX1_run 62 = .ok (.invokevirtual 55, 3) := by decide +kernel
theorem dX1_run_65 : decode cX1_run 65 = .ok (.invokevirtual 59, 3) := by decide +kernel
theorem dX1_run_68 : decode cX1_run 68 = .ok (.invokevirtual 63, 3) := by decide +kernel
theorem dX1_run_71 : decode cX1_run 71 = .ok (.iinc 2 1, 3) := by decide +kernel
theorem dX1_run_74 : decode cX1_run 74 = .ok (.goto (-31), 3) := by decide +kernel
theorem dX1_run_77 : decode cX1_run 77 = .ok (.return_, 1) := by decide +kernel
theorem dX1_hasNext_0 : decode cX1_hasNext 0 = .ok (.aload_n 0, 1) := by decide +kernel
theorem dX1_hasNext_1 : decode cX1_hasNext 1 = .ok (.getfield 9, 3) := by decide +kernel
theorem dX1_hasNext_4 : decode cX1_hasNext 4 = .ok (.iload_n 1, 1) := by decide +kernel
theorem dX1_hasNext_5 : decode cX1_hasNext 5 = .ok (.iaload, 1) := by decide +kernel
theorem dX1_hasNext_6 : decode cX1_hasNext 6 = .ok (.aload_n 0, 1) := by decide +kernel
theorem dX1_hasNext_7 : decode cX1_hasNext 7 = .ok (.getfield 24, 3) := by decide +kernel
theorem dX1_hasNext_10 : decode cX1_hasNext 10 = .ok (.getfield 67, 3) := by decide +kernel
theorem dX1_hasNext_13 : decode cX1_hasNext 13 = .ok (.iload_n 1, 1) := by decide +kernel
theorem dX1_hasNext_14 : decode cX1_hasNext 14 = .ok (.iaload, 1) := by decide +kernel
theorem dX1_hasNext_15 : decode cX1_hasNext 15 = .ok (.if_icmp .ge 7, 3) := by decide +kernel
theorem dX1_hasNext_18 : decode cX1_hasNext 18 = .ok (.iconst 1, 1) := by decide +kernel
theorem dX1_hasNext_19 : decode cX1_hasNext 19 = .ok (.goto 4, 3) := by decide +kernel
theorem dX1_hasNext_22 : decode cX1_hasNext 22 = .ok (.iconst 0, 1) := by decide +kernel
theorem dX1_hasNext_23 : decode cX1_hasNext 23 = .ok (.ireturn, 1) := by decide +kernel
theorem dX1_nextOf_0 : decode cX1_nextOf 0 = .ok (.bipush 10, 2) := by decide +kernel
theorem dX1_nextOf_2 : decode cX1_nextOf 2 = .ok (.iload_n 1, 1) := by decide +kernel
theorem dX1_nextOf_3 : decode cX1_nextOf 3 = .ok (.imul, 1) := by decide +kernel
theorem dX1_nextOf_4 : decode cX1_nextOf 4 = .ok (.aload_n 0, 1) := by decide +kernel
theorem dX1_nextOf_5 : decode cX1_nextOf 5 = .ok (.getfield 9, 3) := by decide +kernel
theorem dX1_nextOf_8 : decode cX1_nextOf 8 = .ok (.iload_n 1, 1) := by decide +kernel
theorem dX1_nextOf_9 : decode cX1_nextOf 9 = .ok (.iaload, 1) := by decide +kernel
theorem dX1_nextOf_10 : decode cX1_nextOf 10 = .ok (.iadd, 1) := by decide +kernel
theorem dX1_nextOf_11 : decode cX1_nextOf 11 = .ok (.ireturn, 1) := by decide +kernel
theorem dX1_machineOfNext_0 : decode cX1_machineOfNext 0 = .ok (.aload_n 0, 1) := by decide +kernel
theorem dX1_machineOfNext_1 : decode cX1_machineOfNext 1 = .ok (.getfield 24, 3) := by decide +kernel
theorem dX1_machineOfNext_4 : decode cX1_machineOfNext 4 = .ok (.getfield 70, 3) := by decide +kernel
theorem dX1_machineOfNext_7 : decode cX1_machineOfNext 7 = .ok (.aload_n 0, 1) := by decide +kernel
theorem dX1_machineOfNext_8 : decode cX1_machineOfNext 8 = .ok (.iload_n 1, 1) := by decide +kernel
theorem dX1_machineOfNext_9 : decode cX1_machineOfNext 9 = .ok (.invokevirtual 73, 3) := by decide +kernel
theorem dX1_machineOfNext_12 : decode cX1_machineOfNext 12 = .ok (.iaload, 1) := by decide +kernel
theorem dX1_machineOfNext_13 : decode cX1_machineOfNext 13 = .ok (.ireturn, 1) := by decide +kernel
theorem dX1_wouldEnd_0 : decode cX1_wouldEnd 0 = .ok (.aload_n 0, 1) := by decide +kernel
theorem dX1_wouldEnd_1 : decode cX1_wouldEnd 1 = .ok (.getfield 21, 3) := by decide +kernel
theorem dX1_wouldEnd_4 : decode cX1_wouldEnd 4 = .ok (.iload_n 1, 1) := by decide +kernel
theorem dX1_wouldEnd_5 : decode cX1_wouldEnd 5 = .ok (.iaload, 1) := by decide +kernel
theorem dX1_wouldEnd_6 : decode cX1_wouldEnd 6 = .ok (.aload_n 0, 1) := by decide +kernel
theorem dX1_wouldEnd_7 : decode cX1_wouldEnd 7 = .ok (.getfield 24, 3) := by decide +kernel
theorem dX1_wouldEnd_10 : decode cX1_wouldEnd 10 = .ok (.getfield 77, 3) := by decide +kernel
theorem dX1_wouldEnd_13 : decode cX1_wouldEnd 13 = .ok (.aload_n 0, 1) := by decide +kernel
theorem dX1_wouldEnd_14 : decode cX1_wouldEnd 14 = .ok (.iload_n 1, 1) := by decide +kernel
theorem dX1_wouldEnd_15 : decode cX1_wouldEnd 15 = .ok (.invokevirtual 73, 3) := by decide +kernel
theorem dX1_wouldEnd_18 : decode cX1_wouldEnd 18 = .ok (.iaload, 1) := by decide +kernel
theorem dX1_wouldEnd_19 : decode cX1_wouldEnd 19 = .ok (.iadd, 1) := by decide +kernel
theorem dX1_wouldEnd_20 : decode cX1_wouldEnd 20 = .ok (.ireturn, 1) := by decide +kernel
theorem dX1_lookAhead_0 : decode cX1_lookAhead 0 = .ok (.iconst 0, 1) := by decide +kernel
theorem dX1_lookAhead_1 : decode cX1_lookAhead 1 = .ok (.istore_n 1, 1) := by decide +kernel
theorem dX1_lookAhead_2 : decode cX1_lookAhead 2 = .ok (.iload_n 1, 1) := by decide +kernel
theorem dX1_lookAhead_3 : decode cX1_lookAhead 3 = .ok (.aload_n 0, 1) := by decide +kernel
theorem dX1_lookAhead_4 : decode cX1_lookAhead 4 = .ok (.getfield 24, 3) := by decide +kernel
theorem dX1_lookAhead_7 : decode cX1_lookAhead 7 = .ok (.getfield 80, 3) := by decide +kernel
theorem dX1_lookAhead_10 : decode cX1_lookAhead 10 = .ok (.if_icmp .ge 42, 3) := by decide +kernel
theorem dX1_lookAhead_13 : decode cX1_lookAhead 13 = .ok (.aload_n 0, 1) := by decide +kernel
theorem dX1_lookAhead_14 : decode cX1_lookAhead 14 = .ok (.iload_n 1, 1) := by decide +kernel
theorem dX1_lookAhead_15 : decode cX1_lookAhead 15 = .ok (.invokevirtual 83, 3) := by decide +kernel
theorem dX1_lookAhead_18 : decode cX1_lookAhead 18 = .ok (.ifCond .eq 28, 3) := by decide +kernel
theorem dX1_lookAhead_21 : decode cX1_lookAhead 21 = .ok (.aload_n 0, 1) := by decide +kernel
theorem dX1_lookAhead_22 : decode cX1_lookAhead 22 = .ok (.getfield 21, 3) := by decide +kernel
theorem dX1_lookAhead_25 : decode cX1_lookAhead 25 = .ok (.iload_n 1, 1) := by decide +kernel
theorem dX1_lookAhead_26 : decode cX1_lookAhead 26 = .ok (.aload_n 0, 1) := by decide +kernel
theorem dX1_lookAhead_27 : decode cX1_lookAhead 27 = .ok (.getfield 15, 3) := by decide +kernel
theorem dX1_lookAhead_30 : decode cX1_lookAhead 30 = .ok (.iload_n 1, 1) := by decide +kernel
theorem dX1_lookAhead_31 : decode cX1_lookAhead 31 = .ok (.iaload, 1) := by decide +kernel
theorem dX1_lookAhead_32 : decode cX1_lookAhead 32 = .ok (.aload_n 0, 1) := by decide +kernel
theorem dX1_lookAhead_33 : decode cX1_lookAhead 33 = .ok (.aload_n 0, 1) := by decide +kernel
theorem dX1_lookAhead_34 : decode cX1_lookAhead 34 = .ok (.iload_n 1, 1) := by decide +kernel
theorem dX1_lookAhead_35 : decode cX1_lookAhead 35 = .ok (.invokevirtual 87, 3) := by decide +kernel
theorem dX1_lookAhead_38 : decode cX1_lookAhead 38 = .ok (.iload_n 1, 1) := by decide +kernel
theorem dX1_lookAhead_39 : decode cX1_lookAhead 39 = .ok (.invokevirtual 90, 3) := by decide +kernel
theorem dX1_lookAhead_42 : decode cX1_lookAhead 42 = .ok (.invokestatic 93, 3) := by decide +kernel
theorem dX1_lookAhead_45 : decode cX1_lookAhead 45 = .ok (.iastore, 1) := by decide +kernel
theorem dX1_lookAhead_46 : decode cX1_lookAhead 46 = .ok (.iinc 1 1, 3) := by decide +kernel
theorem dX1_lookAhead_49 : decode cX1_lookAhead 49 = .ok (.goto (-47), 3) := by decide +kernel
theorem dX1_lookAhead_52 : decode cX1_lookAhead 52 = .ok (.return_, 1) := by decide +kernel
theorem dX1_readyFor_0 : decode cX1_readyFor 0 = .ok (.aload_n 0, 1) := by decide +kernel
theorem dX1_readyFor_1 : decode cX1_readyFor 1 = .ok (.getfield 24, 3) := by decide +kernel
theorem dX1_readyFor_4 : decode cX1_readyFor 4 = .ok (.getfield 98, 3) := by decide +kernel
theorem dX1_readyFor_7 : decode cX1_readyFor 7 = .ok (.iload_n 1, 1) := by decide +kernel
theorem dX1_readyFor_8 : decode cX1_readyFor 8 = .ok (.iaload, 1) := by decide +kernel
theorem dX1_readyFor_9 : decode cX1_readyFor 9 = .ok (.istore_n 3, 1) := by decide +kernel
theorem dX1_readyFor_10 : decode cX1_readyFor 10 = .ok (.iload_n 3, 1) := by decide +kernel
theorem dX1_readyFor_11 : decode cX1_readyFor 11 = .ok (.ifCond .ne 5, 3) := by decide +kernel
theorem dX1_readyFor_14 : decode cX1_readyFor 14 = .ok (.iconst 0, 1) := by decide +kernel
theorem dX1_readyFor_15 : decode cX1_readyFor 15 = .ok (.ireturn, 1) := by decide +kernel
theorem dX1_readyFor_16 : decode cX1_readyFor 16 = .ok (.aload_n 0, 1) := by decide +kernel
theorem dX1_readyFor_17 : decode cX1_readyFor 17 = .ok (.getfield 24, 3) := by decide +kernel
theorem dX1_readyFor_20 : decode cX1_readyFor 20 = .ok (.getfield 101, 3) := by decide +kernel
theorem dX1_readyFor_23 : decode cX1_readyFor 23 = .ok (.iload_n 1, 1) := by decide +kernel
theorem dX1_readyFor_24 : decode cX1_readyFor 24 = .ok (.aaload, 1) := by decide +kernel
theorem dX1_readyFor_25 : decode cX1_readyFor 25 = .ok (.iload_n 3, 1) := by decide +kernel
theorem dX1_readyFor_26 : decode cX1_readyFor 26 = .ok (.iconst 1, 1) := by decide +kernel
theorem dX1_readyFor_27 : decode cX1_readyFor 27 = .ok (.isub, 1) := by decide +kernel
theorem dX1_readyFor_28 : decode cX1_readyFor 28 = .ok (.iaload, 1) := by decide +kernel
theorem dX1_readyFor_29 : decode cX1_readyFor 29 = .ok (.istore 4, 2) := by decide +kernel
theorem dX1_readyFor_31 : decode cX1_readyFor 31 = .ok (.aload_n 0, 1) := by decide +kernel
theorem dX1_readyFor_32 : decode cX1_readyFor 32 = .ok (.getfield 18, 3) := by decide +kernel
theorem dX1_readyFor_35 : decode cX1_readyFor 35 = .ok (.iload_n 1, 1) := by decide +kernel
theorem dX1_readyFor_36 : decode cX1_readyFor 36 = .ok (.iaload, 1) := by decide +kernel
theorem dX1_readyFor_37 : decode cX1_readyFor 37 = .ok (.aload_n 0, 1) := by decide +kernel
theorem dX1_readyFor_38 : decode cX1_readyFor 38 = .ok (.getfield 24, 3) := by decide +kernel
theorem dX1_readyFor_41 : decode cX1_readyFor 41 = .ok (.iload_n 1, 1) := by decide +kernel
theorem dX1_readyFor_42 : decode cX1_readyFor 42 = .ok (.iload 4, 2) := by decide +kernel
theorem dX1_readyFor_44 : decode cX1_readyFor 44 = .ok (.bipush 10, 2) := by decide +kernel
theorem dX1_readyFor_46 : decode cX1_readyFor 46 = .ok (.idiv, 1) := by decide +kernel
theorem dX1_readyFor_47 : decode cX1_readyFor 47 = .ok (.iload_n 2, 1) := by decide +kernel
theorem dX1_readyFor_48 : decode cX1_readyFor 48 = .ok (.invokevirtual 105, 3) := by decide +kernel
theorem dX1_readyFor_51 : decode cX1_readyFor 51 = .ok (.iadd, 1) := by decide +kernel
theorem dX1_readyFor_52 : decode cX1_readyFor 52 = .ok (.ireturn, 1) := by decide +kernel
theorem dX1_firstToEnd_0 : decode cX1_firstToEnd 0 = .ok (.iconst 0, 1) := by decide +kernel
theorem dX1_firstToEnd_1 : decode cX1_firstToEnd 1 = .ok (.istore_n 1, 1) := by decide +kernel
theorem dX1_firstToEnd_2 : decode cX1_firstToEnd 2 = .ok (.ldc 109, 2) := by decide +kernel
theorem dX1_firstToEnd_4 : decode cX1_firstToEnd 4 = .ok (.istore_n 2, 1) := by decide +kernel
theorem dX1_firstToEnd_5 : decode cX1_firstToEnd 5 = .ok (.iconst 0, 1) := by decide +kernel
theorem dX1_firstToEnd_6 : decode cX1_firstToEnd 6 = .ok (.istore_n 3, 1) := by decide +kernel
theorem dX1_firstToEnd_7 : decode cX1_firstToEnd 7 = .ok (.iload_n 3, 1) := by decide +kernel
theorem dX1_firstToEnd_8 : decode cX1_firstToEnd 8 = .ok (.aload_n 0, 1) := by decide +kernel
theorem dX1_firstToEnd_9 : decode cX1_firstToEnd 9 = .ok (.getfield 24, 3) := by decide +kernel
theorem dX1_firstToEnd_12 : decode cX1_firstToEnd 12 = .ok (.getfield 80, 3) := by decide +kernel
theorem dX1_firstToEnd_15 : decode cX1_firstToEnd 15 = .ok (.if_icmp .ge 34, 3) := by decide +kernel
theorem dX1_firstToEnd_18 : decode cX1_firstToEnd 18 = .ok (.aload_n 0, 1) := by decide +kernel
theorem dX1_firstToEnd_19 : decode cX1_firstToEnd 19 = .ok (.iload_n 3, 1) := by decide +kernel
theorem dX1_firstToEnd_20 : decode cX1_firstToEnd 20 = .ok (.invokevirtual 83, 3) := by decide +kernel
theorem dX1_firstToEnd_23 : decode cX1_firstToEnd 23 = .ok (.ifCond .eq 20, 3) := by decide +kernel
theorem dX1_firstToEnd_26 : decode cX1_firstToEnd 26 = .ok (.aload_n 0, 1) := by decide +kernel
theorem dX1_firstToEnd_27 : decode cX1_firstToEnd 27 = .ok (.iload_n 3, 1) := by decide +kernel
theorem dX1_firstToEnd_28 : decode cX1_firstToEnd 28 = .ok (.invokevirtual 110, 3) := by decide +kernel
theorem dX1_firstToEnd_31 : decode cX1_firstToEnd 31 = .ok (.iload_n 2, 1) := by decide +kernel
theorem dX1_firstToEnd_32 : decode cX1_firstToEnd 32 = .ok (.if_icmp .ge 11, 3) := by decide +kernel
theorem dX1_firstToEnd_35 : decode cX1_firstToEnd 35 = .ok (.iload_n 3, 1) := by decide +kernel
theorem dX1_firstToEnd_36 : decode cX1_firstToEnd 36 = .ok (.istore_n 1, 1) := by decide +kernel
theorem dX1_firstToEnd_37 : decode cX1_firstToEnd 37 = .ok (.aload_n 0, 1) := by decide +kernel
theorem dX1_firstToEnd_38 : decode cX1_firstToEnd 38 = .ok (.iload_n 3, 1) := by decide +kernel
theorem dX1_firstToEnd_39 : decode cX1_firstToEnd 39 = .ok (.invokevirtual 110, 3) := by decide +kernel
theorem dX1_firstToEnd_42 : decode cX1_firstToEnd 42 = .ok (.istore_n 2, 1) := by decide +kernel
theorem dX1_firstToEnd_43 : decode cX1_firstToEnd 43 = .ok (.iinc 3 1, 3) := by decide +kernel
theorem dX1_firstToEnd_46 : decode cX1_firstToEnd 46 = .ok (.goto (-39), 3) := by decide +kernel
theorem dX1_firstToEnd_49 : decode cX1_firstToEnd 49 = .ok (.iload_n 1, 1) := by decide +kernel
theorem dX1_firstToEnd_50 : decode cX1_firstToEnd 50 = .ok (.ireturn, 1) := by decide +kernel
theorem dX1_choose_0 : decode cX1_choose 0 = .ok (.aload_n 0, 1) := by decide +kernel
theorem dX1_choose_1 : decode cX1_choose 1 = .ok (.iload_n 2, 1) := by decide +kernel
theorem dX1_choose_2 : decode cX1_choose 2 = .ok (.invokevirtual 87, 3) := by decide +kernel
theorem dX1_choose_5 : decode cX1_choose 5 = .ok (.istore_n 3, 1) := by decide +kernel
theorem dX1_choose_6 : decode cX1_choose 6 = .ok (.aload_n 0, 1) := by decide +kernel
theorem dX1_choose_7 : decode cX1_choose 7 = .ok (.iload_n 2, 1) := by decide +kernel
theorem dX1_choose_8 : decode cX1_choose 8 = .ok (.invokevirtual 110, 3) := by decide +kernel
theorem dX1_choose_11 : decode cX1_choose 11 = .ok (.istore 4, 2) := by decide +kernel
theorem dX1_choose_13 : decode cX1_choose 13 = .ok (.iload_n 2, 1) := by decide +kernel
theorem dX1_choose_14 : decode cX1_choose 14 = .ok (.istore 5, 2) := by decide +kernel
theorem dX1_choose_16 : decode cX1_choose 16 = .ok (.ldc 109, 2) := by decide +kernel
theorem dX1_choose_18 : decode cX1_choose 18 = .ok (.istore 6, 2) := by decide +kernel
theorem dX1_choose_20 : decode cX1_choose 20 = .ok (.iconst 0, 1) := by decide +kernel
theorem dX1_choose_21 : decode cX1_choose 21 = .ok (.istore 7, 2) := by decide +kernel
theorem dX1_choose_23 : decode cX1_choose 23 = .ok (.iload 7, 2) := by decide +kernel
theorem dX1_choose_25 : decode cX1_choose 25 = .ok (.aload_n 0, 1) := by decide +kernel
theorem dX1_choose_26 : decode cX1_choose 26 = .ok (.getfield 24, 3) := by decide +kernel
theorem dX1_choose_29 : decode cX1_choose 29 = .ok (.getfield 80, 3) := by decide +kernel
theorem dX1_choose_32 : decode cX1_choose 32 = .ok (.if_icmp .ge 86, 3) := by decide +kernel
theorem dX1_choose_35 : decode cX1_choose 35 = .ok (.aload_n 0, 1) := by decide +kernel
theorem dX1_choose_36 : decode cX1_choose 36 = .ok (.iload 7, 2) := by decide +kernel
theorem dX1_choose_38 : decode cX1_choose 38 = .ok (.invokevirtual 83, 3) := by decide +kernel
theorem dX1_choose_41 : decode cX1_choose 41 = .ok (.ifCond .eq 71, 3) := by decide +kernel
theorem dX1_choose_44 : decode cX1_choose 44 = .ok (.aload_n 0, 1) := by decide +kernel
theorem dX1_choose_45 : decode cX1_choose 45 = .ok (.iload 7, 2) := by decide +kernel
theorem dX1_choose_47 : decode cX1_choose 47 = .ok (.invokevirtual 87, 3) := by decide +kernel
theorem dX1_choose_50 : decode cX1_choose 50 = .ok (.iload_n 3, 1) := by decide +kernel
theorem dX1_choose_51 : decode cX1_choose 51 = .ok (.if_icmp .eq 6, 3) := by decide +kernel
theorem dX1_choose_54 : decode cX1_choose 54 = .ok (.goto 58, 3) := by decide +kernel
theorem dX1_choose_57 : decode cX1_choose 57 = .ok (.iload 7, 2) := by decide +kernel
theorem dX1_choose_59 : decode cX1_choose 59 = .ok (.iload_n 2, 1) := by decide +kernel
theorem dX1_choose_60 : decode cX1_choose 60 = .ok (.if_icmp .eq 15, 3) := by decide +kernel
theorem dX1_choose_63 : decode cX1_choose 63 = .ok (.aload_n 0, 1) := by decide +kernel
theorem dX1_choose_64 : decode cX1_choose 64 = .ok (.getfield 21, 3) := by decide +kernel
theorem dX1_choose_67 : decode cX1_choose 67 = .ok (.iload 7, 2) := by decide +kernel
theorem dX1_choose_69 : decode cX1_choose 69 = .ok (.iaload, 1) := by decide +kernel
theorem dX1_choose_70 : decode cX1_choose 70 = .ok (.iload 4, 2) := by decide +kernel
theorem dX1_choose_72 : decode cX1_choose 72 = .ok (.if_icmp .ge 7, 3) := by decide +kernel
theorem dX1_choose_75 : decode cX1_choose 75 = .ok (.iconst 1, 1) := by decide +kernel
theorem dX1_choose_76 : decode cX1_choose 76 = .ok (.goto 4, 3) := by decide +kernel
theorem dX1_choose_79 : decode cX1_choose 79 = .ok (.iconst 0, 1) := by decide +kernel
theorem dX1_choose_80 : decode cX1_choose 80 = .ok (.istore 8, 2) := by decide +kernel
theorem dX1_choose_82 : decode cX1_choose 82 = .ok (.iload 8, 2) := by decide +kernel
theorem dX1_choose_84 : decode cX1_choose 84 = .ok (.ifCond .eq 28, 3) := by decide +kernel
theorem dX1_choose_87 : decode cX1_choose 87 = .ok (.aload_n 0, 1) := by decide +kernel
theorem dX1_choose_88 : decode cX1_choose 88 = .ok (.iload_n 1, 1) := by decide +kernel
theorem dX1_choose_89 : decode cX1_choose 89 = .ok (.iload 7, 2) := by decide +kernel
theorem dX1_choose_91 : decode cX1_choose 91 = .ok (.invokevirtual 113, 3) := by decide +kernel
theorem dX1_choose_94 : decode cX1_choose 94 = .ok (.iload 6, 2) := by decide +kernel
theorem dX1_choose_96 : decode cX1_choose 96 = .ok (.if_icmp .ge 16, 3) := by decide +kernel
theorem dX1_choose_99 : decode cX1_choose 99 = .ok (.iload 7, 2) := by decide +kernel
theorem dX1_choose_101 : decode cX1_choose 101 = .ok (.istore 5, 2) := by decide +kernel
theorem dX1_choose_103 : decode cX1_choose 103 = .ok (.aload_n 0, 1) := by decide +kernel
theorem dX1_choose_104 : decode cX1_choose 104 = .ok (.iload_n 1, 1) := by decide +kernel
theorem dX1_choose_105 : decode cX1_choose 105 = .ok (.iload 7, 2) := by decide +kernel
theorem dX1_choose_107 : decode cX1_choose 107 = .ok (.invokevirtual 113, 3) := by decide +kernel
theorem dX1_choose_110 : decode cX1_choose 110 = .ok (.istore 6, 2) := by decide +kernel
theorem dX1_choose_112 : decode cX1_choose 112 = .ok (.iinc 7 1, 3) := by decide +kernel
theorem dX1_choose_115 : decode cX1_choose 115 = .ok (.goto (-92), 3) := by decide +kernel
theorem dX1_choose_118 : decode cX1_choose 118 = .ok (.iload 5, 2) := by decide +kernel
theorem dX1_choose_120 : decode cX1_choose 120 = .ok (.ireturn, 1) := by decide +kernel
theorem dX1_measure_0 : decode cX1_measure 0 = .ok (.iload_n 1, 1) := by decide +kernel
theorem dX1_measure_1 : decode cX1_measure 1 = .ok (.tableswitch 76 0 2 #[27, 41, 51], 27) := by decide +kernel
theorem dX1_measure_28 : decode cX1_measure 28 = .ok (.aload_n 0, 1) := by decide +kernel
theorem dX1_measure_29 : decode cX1_measure 29 = .ok (.getfield 24, 3) := by decide +kernel
theorem dX1_measure_32 : decode cX1_measure 32 = .ok (.getfield 77, 3) := by decide +kernel
theorem dX1_measure_35 : decode cX1_measure 35 = .ok (.aload_n 0, 1) := by decide +kernel
theorem dX1_measure_36 : decode cX1_measure 36 = .ok (.iload_n 2, 1) := by decide +kernel
theorem dX1_measure_37 : decode cX1_measure 37 = .ok (.invokevirtual 73, 3) := by decide +kernel
theorem dX1_measure_40 : decode cX1_measure 40 = .ok (.iaload, 1) := by decide +kernel
theorem dX1_measure_41 : decode cX1_measure 41 = .ok (.ireturn, 1) := by decide +kernel
theorem dX1_measure_42 : decode cX1_measure 42 = .ok (.aload_n 0, 1) := by decide +kernel
theorem dX1_measure_43 : decode cX1_measure 43 = .ok (.getfield 24, 3) := by decide +kernel
theorem dX1_measure_46 : decode cX1_measure 46 = .ok (.getfield 116, 3) := by decide +kernel
theorem dX1_measure_49 : decode cX1_measure 49 = .ok (.iload_n 2, 1) := by decide +kernel
theorem dX1_measure_50 : decode cX1_measure 50 = .ok (.iaload, 1) := by decide +kernel
theorem dX1_measure_51 : decode cX1_measure 51 = .ok (.ireturn, 1) := by decide +kernel
theorem dX1_measure_52 : decode cX1_measure 52 = .ok (.aload_n 0, 1) := by decide +kernel
theorem dX1_measure_53 : decode cX1_measure 53 = .ok (.getfield 24, 3) := by decide +kernel
theorem dX1_measure_56 : decode cX1_measure 56 = .ok (.iload_n 2, 1) := by decide +kernel
theorem dX1_measure_57 : decode cX1_measure 57 = .ok (.aload_n 0, 1) := by decide +kernel
theorem dX1_measure_58 : decode cX1_measure 58 = .ok (.getfield 9, 3) := by decide +kernel
theorem dX1_measure_61 : decode cX1_measure 61 = .ok (.iload_n 2, 1) := by decide +kernel
theorem dX1_measure_62 : decode cX1_measure 62 = .ok (.iaload, 1) := by decide +kernel
theorem dX1_measure_63 : decode cX1_measure 63 = .ok (.aload_n 0, 1) := by decide +kernel
theorem dX1_measure_64 : decode cX1_measure 64 = .ok (.getfield 24, 3) := by decide +kernel
theorem dX1_measure_67 : decode cX1_measure 67 = .ok (.getfield 67, 3) := by decide +kernel
theorem dX1_measure_70 : decode cX1_measure 70 = .ok (.iload_n 2, 1) := by decide +kernel
theorem dX1_measure_71 : decode cX1_measure 71 = .ok (.iaload, 1) := by decide +kernel
theorem dX1_measure_72 : decode cX1_measure 72 = .ok (.invokevirtual 119, 3) := by decide +kernel
theorem dX1_measure_75 : decode cX1_measure 75 = .ok (.ineg, 1) := by decide +kernel
theorem dX1_measure_76 : decode cX1_measure 76 = .ok (.ireturn, 1) := by decide +kernel
theorem dX1_measure_77 : decode cX1_measure 77 = .ok (.aload_n 0, 1) := by decide +kernel
theorem dX1_measure_78 : decode cX1_measure 78 = .ok (.getfield 21, 3) := by decide +kernel
theorem dX1_measure_81 : decode cX1_measure 81 = .ok (.iload_n 2, 1) := by decide +kernel
theorem dX1_measure_82 : decode cX1_measure 82 = .ok (.iaload, 1) := by decide +kernel
theorem dX1_measure_83 : decode cX1_measure 83 = .ok (.ireturn, 1) := by decide +kernel
theorem dX1_append_0 : decode cX1_append 0 = .ok (.aload_n 0, 1) := by decide +kernel
theorem dX1_append_1 : decode cX1_append 1 = .ok (.iload_n 1, 1) := by decide +kernel
theorem dX1_append_2 : decode cX1_append 2 = .ok (.invokevirtual 87, 3) := by decide +kernel
theorem dX1_append_5 : decode cX1_append 5 = .ok (.istore_n 2, 1) := by decide +kernel
theorem dX1_append_6 : decode cX1_append 6 = .ok (.aload_n 0, 1) := by decide +kernel
theorem dX1_append_7 : decode cX1_append 7 = .ok (.iload_n 1, 1) := by decide +kernel
theorem dX1_append_8 : decode cX1_append 8 = .ok (.invokevirtual 110, 3) := by decide +kernel
theorem dX1_append_11 : decode cX1_append 11 = .ok (.istore_n 3, 1) := by decide +kernel
theorem dX1_append_12 : decode cX1_append 12 = .ok (.aload_n 0, 1) := by decide +kernel
theorem dX1_append_13 : decode cX1_append 13 = .ok (.getfield 24, 3) := by decide +kernel
theorem dX1_append_16 : decode cX1_append 16 = .ok (.aload_n 0, 1) := by decide +kernel
theorem dX1_append_17 : decode cX1_append 17 = .ok (.iload_n 1, 1) := by decide +kernel
theorem dX1_append_18 : decode cX1_append 18 = .ok (.invokevirtual 73, 3) := by decide +kernel
theorem dX1_append_21 : decode cX1_append 21 = .ok (.aload_n 0, 1) := by decide +kernel
theorem dX1_append_22 : decode cX1_append 22 = .ok (.getfield 24, 3) := by decide +kernel
theorem dX1_append_25 : decode cX1_append 25 = .ok (.getfield 98, 3) := by decide +kernel
theorem dX1_append_28 : decode cX1_append 28 = .ok (.iload_n 2, 1) := by decide +kernel
theorem dX1_append_29 : decode cX1_append 29 = .ok (.iaload, 1) := by decide +kernel
theorem dX1_append_30 : decode cX1_append 30 = .ok (.invokevirtual 122, 3) := by decide +kernel
theorem dX1_append_33 : decode cX1_append 33 = .ok (.aload_n 0, 1) := by decide +kernel
theorem dX1_append_34 : decode cX1_append 34 = .ok (.getfield 15, 3) := by decide +kernel
theorem dX1_append_37 : decode cX1_append 37 = .ok (.iload_n 1, 1) := by decide +kernel
theorem dX1_append_38 : decode cX1_append 38 = .ok (.iload_n 3, 1) := by decide +kernel
theorem dX1_append_39 : decode cX1_append 39 = .ok (.iastore, 1) := by decide +kernel
theorem dX1_append_40 : decode cX1_append 40 = .ok (.aload_n 0, 1) := by decide +kernel
theorem dX1_append_41 : decode cX1_append 41 = .ok (.getfield 18, 3) := by decide +kernel
theorem dX1_append_44 : decode cX1_append 44 = .ok (.iload_n 2, 1) := by decide +kernel
theorem dX1_append_45 : decode cX1_append 45 = .ok (.iload_n 3, 1) := by decide +kernel
theorem dX1_append_46 : decode cX1_append 46 = .ok (.iastore, 1) := by decide +kernel
theorem dX1_append_47 : decode cX1_append 47 = .ok (.aload_n 0, 1) := by decide +kernel
theorem dX1_append_48 : decode cX1_append 48 = .ok (.getfield 9, 3) := by decide +kernel
theorem dX1_append_51 : decode cX1_append 51 = .ok (.iload_n 1, 1) := by decide +kernel
theorem dX1_append_52 : decode cX1_append 52 = .ok (.dup2, 1) := by decide +kernel
theorem dX1_append_53 : decode cX1_append 53 = .ok (.iaload, 1) := by decide +kernel
theorem dX1_append_54 : decode cX1_append 54 = .ok (.iconst 1, 1) := by decide +kernel
theorem dX1_append_55 : decode cX1_append 55 = .ok (.iadd, 1) := by decide +kernel
theorem dX1_append_56 : decode cX1_append 56 = .ok (.iastore, 1) := by decide +kernel
theorem dX1_append_57 : decode cX1_append 57 = .ok (.return_, 1) := by decide +kernel
theorem dX2_init_0 : decode cX2_init 0 = .ok (.aload_n 0, 1) := by decide +kernel
theorem dX2_init_1 : decode cX2_init 1 = .ok (.invokespecial 3, 3) := by decide +kernel
theorem dX2_init_4 : decode cX2_init 4 = .ok (.aload_n 0, 1) := by decide +kernel
theorem dX2_init_5 : decode cX2_init 5 = .ok (.iconst 0, 1) := by decide +kernel
theorem dX2_init_6 : decode cX2_init 6 = .ok (.putfield 9, 3) := by decide +kernel
theorem dX2_init_9 : decode cX2_init 9 = .ok (.aload_n 0, 1) := by decide +kernel
theorem dX2_init_10 : decode cX2_init 10 = .ok (.bipush 80, 2) := by decide +kernel
theorem dX2_init_12 : decode cX2_init 12 = .ok (.newarray .int, 2) := by decide +kernel
theorem dX2_init_14 : decode cX2_init 14 = .ok (.putfield 15, 3) := by decide +kernel
theorem dX2_init_17 : decode cX2_init 17 = .ok (.aload_n 0, 1) := by decide +kernel
theorem dX2_init_18 : decode cX2_init 18 = .ok (.bipush 80, 2) := by decide +kernel
theorem dX2_init_20 : decode cX2_init 20 = .ok (.newarray .int, 2) := by decide +kernel
theorem dX2_init_22 : decode cX2_init 22 = .ok (.putfield 19, 3) := by decide +kernel
theorem dX2_init_25 : decode cX2_init 25 = .ok (.aload_n 0, 1) := by decide +kernel
theorem dX2_init_26 : decode cX2_init 26 = .ok (.bipush 80, 2) := by decide +kernel
theorem dX2_init_28 : decode cX2_init 28 = .ok (.newarray .int, 2) := by decide +kernel
theorem dX2_init_30 : decode cX2_init 30 = .ok (.putfield 22, 3) := by decide +kernel
theorem dX2_init_33 : decode cX2_init 33 = .ok (.aload_n 0, 1) := by decide +kernel
theorem dX2_init_34 : decode cX2_init 34 = .ok (.bipush 48, 2) := by decide +kernel
theorem dX2_init_36 : decode cX2_init 36 = .ok (.newarray .int, 2) := by decide +kernel
theorem dX2_init_38 : decode cX2_init 38 = .ok (.putfield 25, 3) := by decide +kernel
theorem dX2_init_41 : decode cX2_init 41 = .ok (.aload_n 0, 1) := by decide +kernel
theorem dX2_init_42 : decode cX2_init 42 = .ok (.iconst 0, 1) := by decide +kernel
theorem dX2_init_43 : decode cX2_init 43 = .ok (.putfield 28, 3) := by decide +kernel
theorem dX2_init_46 : decode cX2_init 46 = .ok (.aload_n 0, 1) := by decide +kernel
theorem dX2_init_47 : decode cX2_init 47 = .ok (.bipush 8, 2) := by decide +kernel
theorem dX2_init_49 : decode cX2_init 49 = .ok (.newarray .int, 2) := by decide +kernel
theorem dX2_init_51 : decode cX2_init 51 = .ok (.putfield 31, 3) := by decide +kernel
theorem dX2_init_54 : decode cX2_init 54 = .ok (.aload_n 0, 1) := by decide +kernel
theorem dX2_init_55 : decode cX2_init 55 = .ok (.iconst 5, 1) := by decide +kernel
theorem dX2_init_56 : decode cX2_init 56 = .ok (.newarray .int, 2) := by decide +kernel
theorem dX2_init_58 : decode cX2_init 58 = .ok (.putfield 34, 3) := by decide +kernel
theorem dX2_init_61 : decode cX2_init 61 = .ok (.aload_n 0, 1) := by decide +kernel
theorem dX2_init_62 : decode cX2_init 62 = .ok (.aload_n 1, 1) := by decide +kernel
theorem dX2_init_63 : decode cX2_init 63 = .ok (.putfield 37, 3) := by decide +kernel
theorem dX2_init_66 : decode cX2_init 66 = .ok (.return_, 1) := by decide +kernel
theorem dX2_draw_0 : decode cX2_draw 0 = .ok (.aload_n 0, 1) := by decide +kernel
theorem dX2_draw_1 : decode cX2_draw 1 = .ok (.getfield 37, 3) := by decide +kernel
theorem dX2_draw_4 : decode cX2_draw 4 = .ok (.getfield 41, 3) := by decide +kernel
theorem dX2_draw_7 : decode cX2_draw 7 = .ok (.aload_n 0, 1) := by decide +kernel
theorem dX2_draw_8 : decode cX2_draw 8 = .ok (.getfield 37, 3) := by decide +kernel
theorem dX2_draw_11 : decode cX2_draw 11 = .ok (.getfield 46, 3) := by decide +kernel
theorem dX2_draw_14 : decode cX2_draw 14 = .ok (.if_icmp .ge 5, 3) := by decide +kernel
theorem dX2_draw_17 : decode cX2_draw 17 = .ok (.iconst 1, 1) := by decide +kernel
theorem dX2_draw_18 : decode cX2_draw 18 = .ok (.ireturn, 1) := by decide +kernel
theorem dX2_draw_19 : decode cX2_draw 19 = .ok (.aload_n 0, 1) := by decide +kernel
theorem dX2_draw_20 : decode cX2_draw 20 = .ok (.iconst 0, 1) := by decide +kernel
theorem dX2_draw_21 : decode cX2_draw 21 = .ok (.putfield 9, 3) := by decide +kernel
theorem dX2_draw_24 : decode cX2_draw 24 = .ok (.aload_n 0, 1) := by decide +kernel
theorem dX2_draw_25 : decode cX2_draw 25 = .ok (.iconst 0, 1) := by decide +kernel
theorem dX2_draw_26 : decode cX2_draw 26 = .ok (.putfield 28, 3) := by decide +kernel
theorem dX2_draw_29 : decode cX2_draw 29 = .ok (.aload_n 0, 1) := by decide +kernel
theorem dX2_draw_30 : decode cX2_draw 30 = .ok (.getfield 31, 3) := by decide +kernel
theorem dX2_draw_33 : decode cX2_draw 33 = .ok (.iconst 0, 1) := by decide +kernel
theorem dX2_draw_34 : decode cX2_draw 34 = .ok (.invokestatic 49, 3) := by decide +kernel
theorem dX2_draw_37 : decode cX2_draw 37 = .ok (.aload_n 0, 1) := by decide +kernel
theorem dX2_draw_38 : decode cX2_draw 38 = .ok (.getfield 34, 3) := by decide +kernel
theorem dX2_draw_41 : decode cX2_draw 41 = .ok (.iconst 0, 1) := by decide +kernel
theorem dX2_draw_42 : decode cX2_draw 42 = .ok (.invokestatic 49, 3) := by decide +kernel
theorem dX2_draw_45 : decode cX2_draw 45 = .ok (.iconst 1, 1) := by decide +kernel
theorem dX2_draw_46 : decode cX2_draw 46 = .ok (.istore_n 1, 1) := by decide +kernel
theorem dX2_draw_47 : decode cX2_draw 47 = .ok (.iconst 0, 1) := by decide +kernel
theorem dX2_draw_48 : decode cX2_draw 48 = .ok (.istore_n 2, 1) := by decide +kernel
theorem dX2_draw_49 : decode cX2_draw 49 = .ok (.iload_n 1, 1) := by decide +kernel
theorem dX2_draw_50 : decode cX2_draw 50 = .ok (.ifCond .eq 38, 3) := by decide +kernel
theorem dX2_draw_53 : decode cX2_draw 53 = .ok (.iload_n 2, 1) := by decide +kernel
theorem dX2_draw_54 : decode cX2_draw 54 = .ok (.bipush 48, 2) := by decide +kernel
theorem dX2_draw_56 : decode cX2_draw 56 = .ok (.if_icmp .ge 32, 3) := by decide +kernel
theorem dX2_draw_59 : decode cX2_draw 59 = .ok (.aload_n 0, 1) := by decide +kernel
theorem dX2_draw_60 : decode cX2_draw 60 = .ok (.getfield 28, 3) := by decide +kernel
theorem dX2_draw_63 : decode cX2_draw 63 = .ok (.istore_n 3, 1) := by decide +kernel
theorem dX2_draw_64 : decode cX2_draw 64 = .ok (.aload_n 0, 1) := by decide +kernel
theorem dX2_draw_65 : decode cX2_draw 65 = .ok (.invokevirtual 55, 3) := by decide +kernel
theorem dX2_draw_68 : decode cX2_draw 68 = .ok (.aload_n 0, 1) := by decide +kernel
theorem dX2_draw_69 : decode cX2_draw 69 = .ok (.getfield 28, 3) := by decide +kernel
theorem dX2_draw_72 : decode cX2_draw 72 = .ok (.iload_n 3, 1) := by decide +kernel
theorem dX2_draw_73 : decode cX2_draw 73 = .ok (.if_icmp .le 7, 3) := by decide +kernel
theorem dX2_draw_76 : decode cX2_draw 76 = .ok (.iconst 1, 1) := by decide +kernel
theorem dX2_draw_77 : decode cX2_draw 77 = .ok (.goto 4, 3) := by decide +kernel
theorem dX2_draw_80 : decode cX2_draw 80 = .ok (.iconst 0, 1) := by decide +kernel
theorem dX2_draw_81 : decode cX2_draw 81 = .ok (.istore_n 1, 1) := by decide +kernel
theorem dX2_draw_82 : decode cX2_draw 82 = .ok (.iinc 2 1, 3) := by decide +kernel
theorem dX2_draw_85 : decode cX2_draw 85 = .ok (.goto (-36), 3) := by decide +kernel
theorem dX2_draw_88 : decode cX2_draw 88 = .ok (.aload_n 0, 1) := by decide +kernel
theorem dX2_draw_89 : decode cX2_draw 89 = .ok (.getfield 28, 3) := by decide +kernel
theorem dX2_draw_92 : decode cX2_draw 92 = .ok (.aload_n 0, 1) := by decide +kernel
theorem dX2_draw_93 : decode cX2_draw 93 = .ok (.getfield 37, 3) := by decide +kernel
theorem dX2_draw_96 : decode cX2_draw 96 = .ok (.getfield 46, 3) := by decide +kernel
theorem dX2_draw_99 : decode cX2_draw 99 = .ok (.if_icmp .ne 7, 3) := by decide +kernel
theorem dX2_draw_102 : decode cX2_draw 102 = .ok (.iconst 0, 1) := by decide +kernel
theorem dX2_draw_103 : decode cX2_draw 103 = .ok (.goto 4, 3) := by decide +kernel
theorem dX2_draw_106 : decode cX2_draw 106 = .ok (.iconst 2, 1) := by decide +kernel
theorem dX2_draw_107 : decode cX2_draw 107 = .ok (.ireturn, 1) := by decide +kernel
theorem dX2_drawWhatIsReady_0 : decode cX2_drawWhatIsReady 0 = .ok (.iconst 0, 1) := by decide +kernel
theorem dX2_drawWhatIsReady_1 : decode cX2_drawWhatIsReady 1 = .ok (.istore_n 1, 1) := by decide +kernel
theorem dX2_drawWhatIsReady_2 : decode cX2_drawWhatIsReady 2 = .ok (.iload_n 1, 1) := by decide +kernel
theorem dX2_drawWhatIsReady_3 : decode cX2_drawWhatIsReady 3 = .ok (.aload_n 0, 1) := by decide +kernel
theorem dX2_drawWhatIsReady_4 : decode cX2_drawWhatIsReady 4 = .ok (.getfield 37, 3) := by decide +kernel
theorem dX2_drawWhatIsReady_7 : decode cX2_drawWhatIsReady 7 = .ok (.getfield 58, 3) := by decide +kernel
theorem dX2_drawWhatIsReady_10 : decode cX2_drawWhatIsReady 10 = .ok (.if_icmp .ge 67, 3) := by decide +kernel
theorem dX2_drawWhatIsReady_13 : decode cX2_drawWhatIsReady 13 = .ok (.aload_n 0, 1) := by decide +kernel
theorem dX2_drawWhatIsReady_14 : decode cX2_drawWhatIsReady 14 = .ok (.getfield 37, 3) := by decide +kernel
theorem dX2_drawWhatIsReady_17 : decode cX2_drawWhatIsReady 17 = .ok (.getfield 61, 3) := by decide +kernel
theorem dX2_drawWhatIsReady_20 : decode cX2_drawWhatIsReady 20 = .ok (.iload_n 1, 1) := by decide +kernel
theorem dX2_drawWhatIsReady_21 : decode cX2_drawWhatIsReady 21 = .ok (.aaload, 1) := by decide +kernel
theorem dX2_drawWhatIsReady_22 : decode cX2_drawWhatIsReady 22 = .ok (.astore_n 2, 1) := by decide +kernel
theorem dX2_drawWhatIsReady_23 : decode cX2_drawWhatIsReady 23 = .ok (.aload_n 0, 1) := by decide +kernel
theorem dX2_drawWhatIsReady_24 : decode cX2_drawWhatIsReady 24 = .ok (.getfield 37, 3) := by decide +kernel
theorem dX2_drawWhatIsReady_27 : decode cX2_drawWhatIsReady 27 = .ok (.getfield 65, 3) := by decide +kernel
theorem dX2_drawWhatIsReady_30 : decode cX2_drawWhatIsReady 30 = .ok (.iload_n 1, 1) := by decide +kernel
theorem dX2_drawWhatIsReady_31 : decode cX2_drawWhatIsReady 31 = .ok (.iaload, 1) := by decide +kernel
theorem dX2_drawWhatIsReady_32 : decode cX2_drawWhatIsReady 32 = .ok (.istore_n 3, 1) := by decide +kernel
theorem dX2_drawWhatIsReady_33 : decode cX2_drawWhatIsReady 33 = .ok (.aload_n 0, 1) := by decide +kernel
theorem dX2_drawWhatIsReady_34 : decode cX2_drawWhatIsReady 34 = .ok (.getfield 34, 3) := by decide +kernel
theorem dX2_drawWhatIsReady_37 : decode cX2_drawWhatIsReady 37 = .ok (.iload_n 1, 1) := by decide +kernel
theorem dX2_drawWhatIsReady_38 : decode cX2_drawWhatIsReady 38 = .ok (.iaload, 1) := by decide +kernel
theorem dX2_drawWhatIsReady_39 : decode cX2_drawWhatIsReady 39 = .ok (.istore 4, 2) := by decide +kernel
theorem dX2_drawWhatIsReady_41 : decode cX2_drawWhatIsReady 41 = .ok (.iload 4, 2) := by decide +kernel
theorem dX2_drawWhatIsReady_43 : decode cX2_drawWhatIsReady 43 = .ok (.iload_n 3, 1) := by decide +kernel
theorem dX2_drawWhatIsReady_44 : decode cX2_drawWhatIsReady 44 = .ok (.if_icmp .ge 27, 3) := by decide +kernel
theorem dX2_drawWhatIsReady_47 : decode cX2_drawWhatIsReady 47 = .ok (.aload_n 0, 1) := by decide +kernel
theorem dX2_drawWhatIsReady_48 : decode cX2_drawWhatIsReady 48 = .ok (.aload_n 2, 1) := by decide +kernel
theorem dX2_drawWhatIsReady_49 : decode cX2_drawWhatIsReady 49 = .ok (.iload 4, 2) := by decide +kernel
theorem dX2_drawWhatIsReady_51 : decode cX2_drawWhatIsReady 51 = .ok (.iaload, 1) := by decide +kernel
theorem dX2_drawWhatIsReady_52 : decode cX2_drawWhatIsReady 52 = .ok (.invokevirtual 68, 3) := by decide +kernel
theorem dX2_drawWhatIsReady_55 : decode cX2_drawWhatIsReady 55 = .ok (.ifCond .eq 16, 3) := by decide +kernel
theorem dX2_drawWhatIsReady_58 : decode cX2_drawWhatIsReady 58 = .ok (.aload_n 0, 1) := by decide +kernel
theorem dX2_drawWhatIsReady_59 : decode cX2_drawWhatIsReady 59 = .ok (.iload_n 1, 1) := by decide +kernel
theorem dX2_drawWhatIsReady_60 : decode cX2_drawWhatIsReady 60 = .ok (.iload 4, 2) := by decide +kernel
theorem dX2_drawWhatIsReady_62 : decode cX2_drawWhatIsReady 62 = .ok (.invokevirtual 72, 3) := by decide +kernel
theorem dX2_drawWhatIsReady_65 : decode cX2_drawWhatIsReady 65 = .ok (.iinc 4 1, 3) := by decide +kernel
theorem dX2_drawWhatIsReady_68 : decode cX2_drawWhatIsReady 68 = .ok (.goto (-27), 3) := by decide +kernel
theorem dX2_drawWhatIsReady_71 : decode cX2_drawWhatIsReady 71 = .ok (.iinc 1 1, 3) := by decide +kernel
theorem dX2_drawWhatIsReady_74 : decode cX2_drawWhatIsReady 74 = .ok (.goto (-72), 3) := by decide +kernel
theorem dX2_drawWhatIsReady_77 : decode cX2_drawWhatIsReady 77 = .ok (.return_, 1) := by decide +kernel
theorem dX2_isReady_0 : decode cX2_isReady 0 = .ok (.aload_n 0, 1) := by decide +kernel
theorem dX2_isReady_1 : decode cX2_isReady 1 = .ok (.getfield 31, 3) := by decide +kernel
theorem dX2_isReady_4 : decode cX2_isReady 4 = .ok (.iload_n 1, 1) := by decide +kernel
theorem dX2_isReady_5 : decode cX2_isReady 5 = .ok (.bipush 10, 2) := by decide +kernel
theorem dX2_isReady_7 : decode cX2_isReady 7 = .ok (.idiv, 1) := by decide +kernel
theorem dX2_isReady_8 : decode cX2_isReady 8 = .ok (.iaload, 1) := by decide +kernel
theorem dX2_isReady_9 : decode cX2_isReady 9 = .ok (.iload_n 1, 1) := by decide +kernel
theorem dX2_isReady_10 : decode cX2_isReady 10 = .ok (.bipush 10, 2) := by decide +kernel
theorem dX2_isReady_12 : decode cX2_isReady 12 = .ok (.irem, 1) := by decide +kernel
theorem dX2_isReady_13 : decode cX2_isReady 13 = .ok (.if_icmp .ne 7, 3) := by decide +kernel
theorem dX2_isReady_16 : decode cX2_isReady 16 = .ok (.iconst 1, 1) := by decide +kernel
theorem dX2_isReady_17 : decode cX2_isReady 17 = .ok (.goto 4, 3) := by decide +kernel
theorem dX2_isReady_20 : decode cX2_isReady 20 = .ok (.iconst 0, 1) := by decide +kernel
theorem dX2_isReady_21 : decode cX2_isReady 21 = .ok (.ireturn, 1) := by decide +kernel
theorem dX2_drawStep_0 : decode cX2_drawStep 0 = .ok (.aload_n 0, 1) := by decide +kernel
theorem dX2_drawStep_1 : decode cX2_drawStep 1 = .ok (.getfield 37, 3) := by decide +kernel
theorem dX2_drawStep_4 : decode cX2_drawStep 4 = .ok (.getfield 61, 3) := by decide +kernel
theorem dX2_drawStep_7 : decode cX2_drawStep 7 = .ok (.iload_n 1, 1) := by decide +kernel
theorem dX2_drawStep_8 : decode cX2_drawStep 8 = .ok (.aaload, 1) := by decide +kernel
theorem dX2_drawStep_9 : decode cX2_drawStep 9 = .ok (.iload_n 2, 1) := by decide +kernel
theorem dX2_drawStep_10 : decode cX2_drawStep 10 = .ok (.iaload, 1) := by decide +kernel
theorem dX2_drawStep_11 : decode cX2_drawStep 11 = .ok (.istore_n 3, 1) := by decide +kernel
theorem dX2_drawStep_12 : decode cX2_drawStep 12 = .ok (.iload_n 3, 1) := by decide +kernel
theorem dX2_drawStep_13 : decode cX2_drawStep 13 = .ok (.bipush 10, 2) := by decide +kernel
theorem dX2_drawStep_15 : decode cX2_drawStep 15 = .ok (.idiv, 1) := by decide +kernel
theorem dX2_drawStep_16 : decode cX2_drawStep 16 = .ok (.istore 4, 2) := by decide +kernel
theorem dX2_drawStep_18 : decode cX2_drawStep 18 = .ok (.iload_n 3, 1) := by decide +kernel
theorem dX2_drawStep_19 : decode cX2_drawStep 19 = .ok (.bipush 10, 2) := by decide +kernel
theorem dX2_drawStep_21 : decode cX2_drawStep 21 = .ok (.irem, 1) := by decide +kernel
theorem dX2_drawStep_22 : decode cX2_drawStep 22 = .ok (.ifCond .ne 16, 3) := by decide +kernel
theorem dX2_drawStep_25 : decode cX2_drawStep 25 = .ok (.aload_n 0, 1) := by decide +kernel
theorem dX2_drawStep_26 : decode cX2_drawStep 26 = .ok (.getfield 37, 3) := by decide +kernel
theorem dX2_drawStep_29 : decode cX2_drawStep 29 = .ok (.getfield 76, 3) := by decide +kernel
theorem dX2_drawStep_32 : decode cX2_drawStep 32 = .ok (.iload 4, 2) := by decide +kernel
theorem dX2_drawStep_34 : decode cX2_drawStep 34 = .ok (.iaload, 1) := by decide +kernel
theorem dX2_drawStep_35 : decode cX2_drawStep 35 = .ok (.goto 10, 3) := by decide +kernel
theorem dX2_drawStep_38 : decode cX2_drawStep 38 = .ok (.aload_n 0, 1) := by decide +kernel
theorem dX2_drawStep_39 : decode cX2_drawStep 39 = .ok (.iload_n 3, 1) := by decide +kernel
theorem dX2_drawStep_40 : decode cX2_drawStep 40 = .ok (.iconst 1, 1) := by decide +kernel
theorem dX2_drawStep_41 : decode cX2_drawStep 41 = .ok (.isub, 1) := by decide +kernel
theorem dX2_drawStep_42 : decode cX2_drawStep 42 = .ok (.invokevirtual 79, 3) := by decide +kernel
theorem dX2_drawStep_45 : decode cX2_drawStep 45 = .ok (.istore 5, 2) := by decide +kernel
theorem dX2_drawStep_47 : decode cX2_drawStep 47 = .ok (.iload_n 2, 1) := by decide +kernel
theorem dX2_drawStep_48 : decode cX2_drawStep 48 = .ok (.ifCond .le 51, 3) := by decide +kernel
theorem dX2_drawStep_51 : decode cX2_drawStep 51 = .ok (.aload_n 0, 1) := by decide +kernel
theorem dX2_drawStep_52 : decode cX2_drawStep 52 = .ok (.getfield 37, 3) := by decide +kernel
theorem dX2_drawStep_55 : decode cX2_drawStep 55 = .ok (.getfield 61, 3) := by decide +kernel
theorem dX2_drawStep_58 : decode cX2_drawStep 58 = .ok (.iload_n 1, 1) := by decide +kernel
theorem dX2_drawStep_59 : decode cX2_drawStep 59 = .ok (.aaload, 1) := by decide +kernel
theorem dX2_drawStep_60 : decode cX2_drawStep 60 = .ok (.iload_n 2, 1) := by decide +kernel
theorem dX2_drawStep_61 : decode cX2_drawStep 61 = .ok (.iconst 1, 1) := by decide +kernel
theorem dX2_drawStep_62 : decode cX2_drawStep 62 = .ok (.isub, 1) := by decide +kernel
theorem dX2_drawStep_63 : decode cX2_drawStep 63 = .ok (.iaload, 1) := by decide +kernel
theorem dX2_drawStep_64 : decode cX2_drawStep 64 = .ok (.istore 6, 2) := by decide +kernel
theorem dX2_drawStep_66 : decode cX2_drawStep 66 = .ok (.aload_n 0, 1) := by decide +kernel
theorem dX2_drawStep_67 : decode cX2_drawStep 67 = .ok (.getfield 37, 3) := by decide +kernel
theorem dX2_drawStep_70 : decode cX2_drawStep 70 = .ok (.iload_n 1, 1) := by decide +kernel
theorem dX2_drawStep_71 : decode cX2_drawStep 71 = .ok (.iload 6, 2) := by decide +kernel
theorem dX2_drawStep_73 : decode cX2_drawStep 73 = .ok (.bipush 10, 2) := by decide +kernel
theorem dX2_drawStep_75 : decode cX2_drawStep 75 = .ok (.idiv, 1) := by decide +kernel
theorem dX2_drawStep_76 : decode cX2_drawStep 76 = .ok (.iload 4, 2) := by decide +kernel
theorem dX2_drawStep_78 : decode cX2_drawStep 78 = .ok (.invokevirtual 83, 3) := by decide +kernel
theorem dX2_drawStep_81 : decode cX2_drawStep 81 = .ok (.istore 7, 2) := by decide +kernel
theorem dX2_drawStep_83 : decode cX2_drawStep 83 = .ok (.iload 5, 2) := by decide +kernel
theorem dX2_drawStep_85 : decode cX2_drawStep 85 = .ok (.aload_n 0, 1) := by decide +kernel
theorem dX2_drawStep_86 : decode cX2_drawStep 86 = .ok (.iload 6, 2) := by decide +kernel
theorem dX2_drawStep_88 : decode cX2_drawStep 88 = .ok (.invokevirtual 79, 3) := by decide +kernel
theorem dX2_drawStep_91 : decode cX2_drawStep 91 = .ok (.iload 7, 2) := by decide +kernel
theorem dX2_drawStep_93 : decode cX2_drawStep 93 = .ok (.iadd, 1) := by decide +kernel
theorem dX2_drawStep_94 : decode cX2_drawStep 94 = .ok (.invokestatic 87, 3) := by decide +kernel
theorem dX2_drawStep_97 : decode cX2_drawStep 97 = .ok (.istore 5, 2) := by decide +kernel
theorem dX2_drawStep_99 : decode cX2_drawStep 99 = .ok (.aload_n 0, 1) := by decide +kernel
theorem dX2_drawStep_100 : decode cX2_drawStep 100 = .ok (.getfield 15, 3) := by decide +kernel
theorem dX2_drawStep_103 : decode cX2_drawStep 103 = .ok (.iload_n 3, 1) := by decide +kernel
theorem dX2_drawStep_104 : decode cX2_drawStep 104 = .ok (.iload 5, 2) := by decide +kernel
theorem dX2_drawStep_106 : decode cX2_drawStep 106 = .ok (.iastore, 1) := by decide +kernel
theorem dX2_drawStep_107 : decode cX2_drawStep 107 = .ok (.aload_n 0, 1) := by decide +kernel
theorem dX2_drawStep_108 : decode cX2_drawStep 108 = .ok (.getfield 22, 3) := by decide +kernel
theorem dX2_drawStep_111 : decode cX2_drawStep 111 = .ok (.iload_n 3, 1) := by decide +kernel
theorem dX2_drawStep_112 : decode cX2_drawStep 112 = .ok (.iload_n 2, 1) := by decide +kernel
theorem dX2_drawStep_113 : decode cX2_drawStep 113 = .ok (.iastore, 1) := by decide +kernel
theorem dX2_drawStep_114 : decode cX2_drawStep 114 = .ok (.aload_n 0, 1) := by decide +kernel
theorem dX2_drawStep_115 : decode cX2_drawStep 115 = .ok (.aload_n 0, 1) := by decide +kernel
theorem dX2_drawStep_116 : decode cX2_drawStep 116 = .ok (.getfield 9, 3) := by decide +kernel
theorem dX2_drawStep_119 : decode cX2_drawStep 119 = .ok (.aload_n 0, 1) := by decide +kernel
theorem dX2_drawStep_120 : decode cX2_drawStep 120 = .ok (.iload_n 3, 1) := by decide +kernel
theorem dX2_drawStep_121 : decode cX2_drawStep 121 = .ok (.invokevirtual 79, 3) := by decide +kernel
theorem dX2_drawStep_124 : decode cX2_drawStep 124 = .ok (.invokestatic 87, 3) := by decide +kernel
theorem dX2_drawStep_127 : decode cX2_drawStep 127 = .ok (.putfield 9, 3) := by decide +kernel
theorem dX2_drawStep_130 : decode cX2_drawStep 130 = .ok (.aload_n 0, 1) := by decide +kernel
theorem dX2_drawStep_131 : decode cX2_drawStep 131 = .ok (.getfield 25, 3) := by decide +kernel
theorem dX2_drawStep_134 : decode cX2_drawStep 134 = .ok (.aload_n 0, 1) := by decide +kernel
theorem dX2_drawStep_135 : decode cX2_drawStep 135 = .ok (.dup, 1) := by decide +kernel
theorem dX2_drawStep_136 : decode cX2_drawStep 136 = .ok (.getfield 28, 3) := by decide +kernel
theorem dX2_drawStep_139 : decode cX2_drawStep 139 = .ok (.dup_x1, 1) := by decide +kernel
theorem dX2_drawStep_140 : decode cX2_drawStep 140 = .ok (.iconst 1, 1) := by decide +kernel
theorem dX2_drawStep_141 : decode cX2_drawStep 141 = .ok (.iadd, 1) := by decide +kernel
theorem dX2_drawStep_142 : decode cX2_drawStep 142 = .ok (.putfield 28, 3) := by decide +kernel
theorem dX2_drawStep_145 : decode cX2_drawStep 145 = .ok (.iload_n 3, 1) := by decide +kernel
theorem dX2_drawStep_146 : decode cX2_drawStep 146 = .ok (.iastore, 1) := by decide +kernel
theorem dX2_drawStep_147 : decode cX2_drawStep 147 = .ok (.aload_n 0, 1) := by decide +kernel
theorem dX2_drawStep_148 : decode cX2_drawStep 148 = .ok (.getfield 31, 3) := by decide +kernel
theorem dX2_drawStep_151 : decode cX2_drawStep 151 = .ok (.iload 4, 2) := by decide +kernel
theorem dX2_drawStep_153 : decode cX2_drawStep 153 = .ok (.dup2, 1) := by decide +kernel
theorem dX2_drawStep_154 : decode cX2_drawStep 154 = .ok (.iaload, 1) := by decide +kernel
theorem dX2_drawStep_155 : decode cX2_drawStep 155 = .ok (.iconst 1, 1) := by decide +kernel
theorem dX2_drawStep_156 : decode cX2_drawStep 156 = .ok (.iadd, 1) := by decide +kernel
theorem dX2_drawStep_157 : decode cX2_drawStep 157 = .ok (.iastore, 1) := by decide +kernel
theorem dX2_drawStep_158 : decode cX2_drawStep 158 = .ok (.aload_n 0, 1) := by decide +kernel
theorem dX2_drawStep_159 : decode cX2_drawStep 159 = .ok (.getfield 34, 3) := by decide +kernel
theorem dX2_drawStep_162 : decode cX2_drawStep 162 = .ok (.iload_n 1, 1) := by decide +kernel
theorem dX2_drawStep_163 : decode cX2_drawStep 163 = .ok (.dup2, 1) := by decide +kernel
theorem dX2_drawStep_164 : decode cX2_drawStep 164 = .ok (.iaload, 1) := by decide +kernel
theorem dX2_drawStep_165 : decode cX2_drawStep 165 = .ok (.iconst 1, 1) := by decide +kernel
theorem dX2_drawStep_166 : decode cX2_drawStep 166 = .ok (.iadd, 1) := by decide +kernel
theorem dX2_drawStep_167 : decode cX2_drawStep 167 = .ok (.iastore, 1) := by decide +kernel
theorem dX2_drawStep_168 : decode cX2_drawStep 168 = .ok (.return_, 1) := by decide +kernel
theorem dX2_endOf_0 : decode cX2_endOf 0 = .ok (.aload_n 0, 1) := by decide +kernel
theorem dX2_endOf_1 : decode cX2_endOf 1 = .ok (.getfield 15, 3) := by decide +kernel
theorem dX2_endOf_4 : decode cX2_endOf 4 = .ok (.iload_n 1, 1) := by decide +kernel
theorem dX2_endOf_5 : decode cX2_endOf 5 = .ok (.iaload, 1) := by decide +kernel
theorem dX2_endOf_6 : decode cX2_endOf 6 = .ok (.aload_n 0, 1) := by decide +kernel
theorem dX2_endOf_7 : decode cX2_endOf 7 = .ok (.getfield 37, 3) := by decide +kernel
theorem dX2_endOf_10 : decode cX2_endOf 10 = .ok (.getfield 93, 3) := by decide +kernel
theorem dX2_endOf_13 : decode cX2_endOf 13 = .ok (.iload_n 1, 1) := by decide +kernel
theorem dX2_endOf_14 : decode cX2_endOf 14 = .ok (.iaload, 1) := by decide +kernel
theorem dX2_endOf_15 : decode cX2_endOf 15 = .ok (.iadd, 1) := by decide +kernel
theorem dX2_endOf_16 : decode cX2_endOf 16 = .ok (.ireturn, 1) := by decide +kernel
theorem dX2_endOfJob_0 : decode cX2_endOfJob 0 = .ok (.aload_n 0, 1) := by decide +kernel
theorem dX2_endOfJob_1 : decode cX2_endOfJob 1 = .ok (.getfield 37, 3) := by decide +kernel
theorem dX2_endOfJob_4 : decode cX2_endOfJob 4 = .ok (.getfield 96, 3) := by decide +kernel
theorem dX2_endOfJob_7 : decode cX2_endOfJob 7 = .ok (.iload_n 1, 1) := by decide +kernel
theorem dX2_endOfJob_8 : decode cX2_endOfJob 8 = .ok (.iaload, 1) := by decide +kernel
theorem dX2_endOfJob_9 : decode cX2_endOfJob 9 = .ok (.istore_n 2, 1) := by decide +kernel
theorem dX2_endOfJob_10 : decode cX2_endOfJob 10 = .ok (.iload_n 2, 1) := by decide +kernel
theorem dX2_endOfJob_11 : decode cX2_endOfJob 11 = .ok (.ifCond .ne 15, 3) := by decide +kernel
theorem dX2_endOfJob_14 : decode cX2_endOfJob 14 = .ok (.aload_n 0, 1) := by decide +kernel
theorem dX2_endOfJob_15 : decode cX2_endOfJob 15 = .ok (.getfield 37, 3) := by decide +kernel
theorem dX2_endOfJob_18 : decode cX2_endOfJob 18 = .ok (.getfield 76, 3) := by decide +kernel
theorem dX2_endOfJob_21 : decode cX2_endOfJob 21 = .ok (.iload_n 1, 1) := by decide +kernel
theorem dX2_endOfJob_22 : decode cX2_endOfJob 22 = .ok (.iaload, 1) := by decide +kernel
theorem dX2_endOfJob_23 : decode cX2_endOfJob 23 = .ok (.goto 15, 3) := by decide +kernel
theorem dX2_endOfJob_26 : decode cX2_endOfJob 26 = .ok (.aload_n 0, 1) := by decide +kernel
theorem dX2_endOfJob_27 : decode cX2_endOfJob 27 = .ok (.bipush 10, 2) := by decide +kernel
theorem dX2_endOfJob_29 : decode cX2_endOfJob 29 = .ok (.iload_n 1, 1) := by decide +kernel
theorem dX2_endOfJob_30 : decode cX2_endOfJob 30 = .ok (.imul, 1) := by decide +kernel
theorem dX2_endOfJob_31 : decode cX2_endOfJob 31 = .ok (.iload_n 2, 1) := by decide +kernel
theorem dX2_endOfJob_32 : decode cX2_endOfJob 32 = .ok (.iadd, 1) := by decide +kernel
theorem dX2_endOfJob_33 : decode cX2_endOfJob 33 = .ok (.iconst 1, 1) := by decide +kernel
theorem dX2_endOfJob_34 : decode cX2_endOfJob 34 = .ok (.isub, 1) := by decide +kernel
theorem dX2_endOfJob_35 : decode cX2_endOfJob 35 = .ok (.invokevirtual 79, 3) := by decide +kernel
theorem dX2_endOfJob_38 : decode cX2_endOfJob 38 = .ok (.ireturn, 1) := by decide +kernel
theorem dX2_measureRests_0 : decode cX2_measureRests 0 = .ok (.aload_n 0, 1) := by decide +kernel
theorem dX2_measureRests_1 : decode cX2_measureRests 1 = .ok (.getfield 28, 3) := by decide +kernel
theorem dX2_measureRests_4 : decode cX2_measureRests 4 = .ok (.iconst 1, 1) := by decide +kernel
theorem dX2_measureRests_5 : decode cX2_measureRests 5 = .ok (.isub, 1) := by decide +kernel
theorem dX2_measureRests_6 : decode cX2_measureRests 6 = .ok (.istore_n 1, 1) := by decide +kernel
theorem dX2_measureRests_7 : decode cX2_measureRests 7 = .ok (.iload_n 1, 1) := by decide +kernel
theorem dX2_measureRests_8 : decode cX2_measureRests 8 = .ok (.ifCond .lt 45, 3) := by decide +kernel
theorem dX2_measureRests_11 : decode cX2_measureRests 11 = .ok (.aload_n 0, 1) := by decide +kernel
theorem dX2_measureRests_12 : decode cX2_measureRests 12 = .ok (.getfield 25, 3) := by decide +kernel
theorem dX2_measureRests_15 : decode cX2_measureRests 15 = .ok (.iload_n 1, 1) := by decide +kernel
theorem dX2_measureRests_16 : decode cX2_measureRests 16 = .ok (.iaload, 1) := by decide +kernel
theorem dX2_measureRests_17 : decode cX2_measureRests 17 = .ok (.istore_n 2, 1) := by decide +kernel
theorem dX2_measureRests_18 : decode cX2_measureRests 18 = .ok (.aload_n 0, 1) := by decide +kernel
theorem dX2_measureRests_19 : decode cX2_measureRests 19 = .ok (.getfield 19, 3) := by decide +kernel
theorem dX2_measureRests_22 : decode cX2_measureRests 22 = .ok (.iload_n 2, 1) := by decide +kernel
theorem dX2_measureRests_23 : decode cX2_measureRests 23 = .ok (.aload_n 0, 1) := by decide +kernel
theorem dX2_measureRests_24 : decode cX2_measureRests 24 = .ok (.getfield 37, 3) := by decide +kernel
theorem dX2_measureRests_27 : decode cX2_measureRests 27 = .ok (.getfield 93, 3) := by decide +kernel
theorem dX2_measureRests_30 : decode cX2_measureRests 30 = .ok (.iload_n 2, 1) := by decide +kernel
theorem dX2_measureRests_31 : decode cX2_measureRests 31 = .ok (.iaload, 1) := by decide +kernel
theorem dX2_measureRests_32 : decode cX2_measureRests 32 = .ok (.aload_n 0, 1) := by decide +kernel
theorem dX2_measureRests_33 : decode cX2_measureRests 33 = .ok (.iload_n 2, 1) := by decide +kernel
theorem dX2_measureRests_34 : decode cX2_measureRests 34 = .ok (.invokevirtual 99, 3) := by decide +kernel
theorem dX2_measureRests_37 : decode cX2_measureRests 37 = .ok (.aload_n 0, 1) := by decide +kernel
theorem dX2_measureRests_38 : decode cX2_measureRests 38 = .ok (.iload_n 2, 1) := by decide +kernel
theorem dX2_measureRests_39 : decode cX2_measureRests 39 = .ok (.invokevirtual 102, 3) := by decide +kernel
theorem dX2_measureRests_42 : decode cX2_measureRests 42 = .ok (.invokestatic 87, 3) := by decide +kernel
theorem dX2_measureRests_45 : decode cX2_measureRests 45 = .ok (.iadd, 1) := by decide +kernel
theorem dX2_measureRests_46 : decode cX2_measureRests 46 = .ok (.iastore, 1) := by decide +kernel
theorem dX2_measureRests_47 : decode cX2_measureRests 47 = .ok (.iinc 1 (-1), 3) := by decide +kernel
theorem dX2_measureRests_50 : decode cX2_measureRests 50 = .ok (.goto (-43), 3) := by decide +kernel
theorem dX2_measureRests_53 : decode cX2_measureRests 53 = .ok (.return_, 1) := by decide +kernel
theorem dX2_restInJob_0 : decode cX2_restInJob 0 = .ok (.iload_n 1, 1) := by decide +kernel
theorem dX2_restInJob_1 : decode cX2_restInJob 1 = .ok (.bipush 10, 2) := by decide +kernel
theorem dX2_restInJob_3 : decode cX2_restInJob 3 = .ok (.irem, 1) := by decide +kernel
theorem dX2_restInJob_4 : decode cX2_restInJob 4 = .ok (.iconst 1, 1) := by decide +kernel
theorem dX2_restInJob_5 : decode cX2_restInJob 5 = .ok (.iadd, 1) := by decide +kernel
theorem dX2_restInJob_6 : decode cX2_restInJob 6 = .ok (.aload_n 0, 1) := by decide +kernel
theorem dX2_restInJob_7 : decode cX2_restInJob 7 = .ok (.getfield 37, 3) := by decide +kernel
theorem dX2_restInJob_10 : decode cX2_restInJob 10 = .ok (.getfield 96, 3) := by decide +kernel
theorem dX2_restInJob_13 : decode cX2_restInJob 13 = .ok (.iload_n 1, 1) := by decide +kernel
theorem dX2_restInJob_14 : decode cX2_restInJob 14 = .ok (.bipush 10, 2) := by decide +kernel
theorem dX2_restInJob_16 : decode cX2_restInJob 16 = .ok (.idiv, 1) := by decide +kernel
theorem dX2_restInJob_17 : decode cX2_restInJob 17 = .ok (.iaload, 1) := by decide +kernel
theorem dX2_restInJob_18 : decode cX2_restInJob 18 = .ok (.if_icmp .ne 7, 3) := by decide +kernel
theorem dX2_restInJob_21 : decode cX2_restInJob 21 = .ok (.iconst 1, 1) := by decide +kernel
theorem dX2_restInJob_22 : decode cX2_restInJob 22 = .ok (.goto 4, 3) := by decide +kernel
theorem dX2_restInJob_25 : decode cX2_restInJob 25 = .ok (.iconst 0, 1) := by decide +kernel
theorem dX2_restInJob_26 : decode cX2_restInJob 26 = .ok (.istore_n 2, 1) := by decide +kernel
theorem dX2_restInJob_27 : decode cX2_restInJob 27 = .ok (.iload_n 2, 1) := by decide +kernel
theorem dX2_restInJob_28 : decode cX2_restInJob 28 = .ok (.ifCond .eq 7, 3) := by decide +kernel
theorem dX2_restInJob_31 : decode cX2_restInJob 31 = .ok (.iconst 0, 1) := by decide +kernel
theorem dX2_restInJob_32 : decode cX2_restInJob 32 = .ok (.goto 11, 3) := by decide +kernel
theorem dX2_restInJob_35 : decode cX2_restInJob 35 = .ok (.aload_n 0, 1) := by decide +kernel
theorem dX2_restInJob_36 : decode cX2_restInJob 36 = .ok (.getfield 19, 3) := by decide +kernel
theorem dX2_restInJob_39 : decode cX2_restInJob 39 = .ok (.iload_n 1, 1) := by decide +kernel
theorem dX2_restInJob_40 : decode cX2_restInJob 40 = .ok (.iconst 1, 1) := by decide +kernel
theorem dX2_restInJob_41 : decode cX2_restInJob 41 = .ok (.iadd, 1) := by decide +kernel
theorem dX2_restInJob_42 : decode cX2_restInJob 42 = .ok (.iaload, 1) := by decide +kernel
theorem dX2_restInJob_43 : decode cX2_restInJob 43 = .ok (.ireturn, 1) := by decide +kernel
theorem dX2_restInOrder_0 : decode cX2_restInOrder 0 = .ok (.aload_n 0, 1) := by decide +kernel
theorem dX2_restInOrder_1 : decode cX2_restInOrder 1 = .ok (.getfield 37, 3) := by decide +kernel
theorem dX2_restInOrder_4 : decode cX2_restInOrder 4 = .ok (.getfield 105, 3) := by decide +kernel
theorem dX2_restInOrder_7 : decode cX2_restInOrder 7 = .ok (.iload_n 1, 1) := by decide +kernel
theorem dX2_restInOrder_8 : decode cX2_restInOrder 8 = .ok (.iaload, 1) := by decide +kernel
theorem dX2_restInOrder_9 : decode cX2_restInOrder 9 = .ok (.istore_n 2, 1) := by decide +kernel
theorem dX2_restInOrder_10 : decode cX2_restInOrder 10 = .ok (.aload_n 0, 1) := by decide +kernel
theorem dX2_restInOrder_11 : decode cX2_restInOrder 11 = .ok (.getfield 22, 3) := by decide +kernel
theorem dX2_restInOrder_14 : decode cX2_restInOrder 14 = .ok (.iload_n 1, 1) := by decide +kernel
theorem dX2_restInOrder_15 : decode cX2_restInOrder 15 = .ok (.iaload, 1) := by decide +kernel
theorem dX2_restInOrder_16 : decode cX2_restInOrder 16 = .ok (.iconst 1, 1) := by decide +kernel
theorem dX2_restInOrder_17 : decode cX2_restInOrder 17 = .ok (.iadd, 1) := by decide +kernel
theorem dX2_restInOrder_18 : decode cX2_restInOrder 18 = .ok (.istore_n 3, 1) := by decide +kernel
theorem dX2_restInOrder_19 : decode cX2_restInOrder 19 = .ok (.iload_n 3, 1) := by decide +kernel
theorem dX2_restInOrder_20 : decode cX2_restInOrder 20 = .ok (.aload_n 0, 1) := by decide +kernel
theorem dX2_restInOrder_21 : decode cX2_restInOrder 21 = .ok (.getfield 37, 3) := by decide +kernel
theorem dX2_restInOrder_24 : decode cX2_restInOrder 24 = .ok (.getfield 65, 3) := by decide +kernel
theorem dX2_restInOrder_27 : decode cX2_restInOrder 27 = .ok (.iload_n 2, 1) := by decide +kernel
theorem dX2_restInOrder_28 : decode cX2_restInOrder 28 = .ok (.iaload, 1) := by decide +kernel
theorem dX2_restInOrder_29 : decode cX2_restInOrder 29 = .ok (.if_icmp .lt 5, 3) := by decide +kernel
theorem dX2_restInOrder_32 : decode cX2_restInOrder 32 = .ok (.iconst 0, 1) := by decide +kernel
theorem dX2_restInOrder_33 : decode cX2_restInOrder 33 = .ok (.ireturn, 1) := by decide +kernel
theorem dX2_restInOrder_34 : decode cX2_restInOrder 34 = .ok (.aload_n 0, 1) := by decide +kernel
theorem dX2_restInOrder_35 : decode cX2_restInOrder 35 = .ok (.getfield 37, 3) := by decide +kernel
theorem dX2_restInOrder_38 : decode cX2_restInOrder 38 = .ok (.getfield 61, 3) := by decide +kernel
theorem dX2_restInOrder_41 : decode cX2_restInOrder 41 = .ok (.iload_n 2, 1) := by decide +kernel
theorem dX2_restInOrder_42 : decode cX2_restInOrder 42 = .ok (.aaload, 1) := by decide +kernel
theorem dX2_restInOrder_43 : decode cX2_restInOrder 43 = .ok (.iload_n 3, 1) := by decide +kernel
theorem dX2_restInOrder_44 : decode cX2_restInOrder 44 = .ok (.iaload, 1) := by decide +kernel
theorem dX2_restInOrder_45 : decode cX2_restInOrder 45 = .ok (.istore 4, 2) := by decide +kernel
theorem dX2_restInOrder_47 : decode cX2_restInOrder 47 = .ok (.aload_n 0, 1) := by decide +kernel
theorem dX2_restInOrder_48 : decode cX2_restInOrder 48 = .ok (.getfield 37, 3) := by decide +kernel
theorem dX2_restInOrder_51 : decode cX2_restInOrder 51 = .ok (.iload_n 2, 1) := by decide +kernel
theorem dX2_restInOrder_52 : decode cX2_restInOrder 52 = .ok (.iload_n 1, 1) := by decide +kernel
theorem dX2_restInOrder_53 : decode cX2_restInOrder 53 = .ok (.bipush 10, 2) := by decide +kernel
theorem dX2_restInOrder_55 : decode cX2_restInOrder 55 = .ok (.idiv, 1) := by decide +kernel
theorem dX2_restInOrder_56 : decode cX2_restInOrder 56 = .ok (.iload 4, 2) := by decide +kernel
theorem dX2_restInOrder_58 : decode cX2_restInOrder 58 = .ok (.bipush 10, 2) := by decide +kernel
theorem dX2_restInOrder_60 : decode cX2_restInOrder 60 = .ok (.idiv, 1) := by decide +kernel
theorem dX2_restInOrder_61 : decode cX2_restInOrder 61 = .ok (.invokevirtual 83, 3) := by decide +kernel
theorem dX2_restInOrder_64 : decode cX2_restInOrder 64 = .ok (.aload_n 0, 1) := by decide +kernel
theorem dX2_restInOrder_65 : decode cX2_restInOrder 65 = .ok (.getfield 19, 3) := by decide +kernel
theorem dX2_restInOrder_68 : decode cX2_restInOrder 68 = .ok (.iload 4, 2) := by decide +kernel
theorem dX2_restInOrder_70 : decode cX2_restInOrder 70 = .ok (.iaload, 1) := by decide +kernel
theorem dX2_restInOrder_71 : decode cX2_restInOrder 71 = .ok (.iadd, 1) := by decide +kernel
theorem dX2_restInOrder_72 : decode cX2_restInOrder 72 = .ok (.ireturn, 1) := by decide +kernel
theorem dX2_slackOf_0 : decode cX2_slackOf 0 = .ok (.aload_n 0, 1) := by decide +kernel
theorem dX2_slackOf_1 : decode cX2_slackOf 1 = .ok (.getfield 9, 3) := by decide +kernel
theorem dX2_slackOf_4 : decode cX2_slackOf 4 = .ok (.aload_n 0, 1) := by decide +kernel
theorem dX2_slackOf_5 : decode cX2_slackOf 5 = .ok (.getfield 15, 3) := by decide +kernel
theorem dX2_slackOf_8 : decode cX2_slackOf 8 = .ok (.iload_n 1, 1) := by decide +kernel
theorem dX2_slackOf_9 : decode cX2_slackOf 9 = .ok (.iaload, 1) := by decide +kernel
theorem dX2_slackOf_10 : decode cX2_slackOf 10 = .ok (.isub, 1) := by decide +kernel
theorem dX2_slackOf_11 : decode cX2_slackOf 11 = .ok (.aload_n 0, 1) := by decide +kernel
theorem dX2_slackOf_12 : decode cX2_slackOf 12 = .ok (.getfield 19, 3) := by decide +kernel
theorem dX2_slackOf_15 : decode cX2_slackOf 15 = .ok (.iload_n 1, 1) := by decide +kernel
theorem dX2_slackOf_16 : decode cX2_slackOf 16 = .ok (.iaload, 1) := by decide +kernel
theorem dX2_slackOf_17 : decode cX2_slackOf 17 = .ok (.isub, 1) := by decide +kernel
theorem dX2_slackOf_18 : decode cX2_slackOf 18 = .ok (.ireturn, 1) := by decide +kernel
theorem dX3_init_0 : decode cX3_init 0 = .ok (.aload_n 0, 1) := by decide +kernel
theorem dX3_init_1 : decode cX3_init 1 = .ok (.invokespecial 3, 3) := by decide +kernel
theorem dX3_init_4 : decode cX3_init 4 = .ok (.aload_n 0, 1) := by decide +kernel
theorem dX3_init_5 : decode cX3_init 5 = .ok (.iconst 0, 1) := by decide +kernel
theorem dX3_init_6 : decode cX3_init 6 = .ok (.putfield 9, 3) := by decide +kernel
theorem dX3_init_9 : decode cX3_init 9 = .ok (.aload_n 0, 1) := by decide +kernel
theorem dX3_init_10 : decode cX3_init 10 = .ok (.iconst 0, 1) := by decide +kernel
theorem dX3_init_11 : decode cX3_init 11 = .ok (.putfield 15, 3) := by decide +kernel
theorem dX3_init_14 : decode cX3_init 14 = .ok (.aload_n 0, 1) := by decide +kernel
theorem dX3_init_15 : decode cX3_init 15 = .ok (.iconst 0, 1) := by decide +kernel
theorem dX3_init_16 : decode cX3_init 16 = .ok (.putfield 18, 3) := by decide +kernel
theorem dX3_init_19 : decode cX3_init 19 = .ok (.aload_n 0, 1) := by decide +kernel
theorem dX3_init_20 : decode cX3_init 20 = .ok (.bipush 8, 2) := by decide +kernel
theorem dX3_init_22 : decode cX3_init 22 = .ok (.newarray .int, 2) := by decide +kernel
theorem dX3_init_24 : decode cX3_init 24 = .ok (.putfield 21, 3) := by decide +kernel
theorem dX3_init_27 : decode cX3_init 27 = .ok (.aload_n 0, 1) := by decide +kernel
theorem dX3_init_28 : decode cX3_init 28 = .ok (.bipush 8, 2) := by decide +kernel
theorem dX3_init_30 : decode cX3_init 30 = .ok (.newarray .int, 2) := by decide +kernel
theorem dX3_init_32 : decode cX3_init 32 = .ok (.putfield 25, 3) := by decide +kernel
theorem dX3_init_35 : decode cX3_init 35 = .ok (.aload_n 0, 1) := by decide +kernel
theorem dX3_init_36 : decode cX3_init 36 = .ok (.bipush 8, 2) := by decide +kernel
theorem dX3_init_38 : decode cX3_init 38 = .ok (.newarray .int, 2) := by decide +kernel
theorem dX3_init_40 : decode cX3_init 40 = .ok (.putfield 28, 3) := by decide +kernel
theorem dX3_init_43 : decode cX3_init 43 = .ok (.aload_n 0, 1) := by decide +kernel
theorem dX3_init_44 : decode cX3_init 44 = .ok (.bipush 8, 2) := by decide +kernel
theorem dX3_init_46 : decode cX3_init 46 = .ok (.newarray .int, 2) := by decide +kernel
theorem dX3_init_48 : decode cX3_init 48 = .ok (.putfield 31, 3) := by decide +kernel
theorem dX3_init_51 : decode cX3_init 51 = .ok (.aload_n 0, 1) := by decide +kernel
theorem dX3_init_52 : decode cX3_init 52 = .ok (.bipush 80, 2) := by decide +kernel
theorem dX3_init_54 : decode cX3_init 54 = .ok (.newarray .int, 2) := by decide +kernel
theorem dX3_init_56 : decode cX3_init 56 = .ok (.putfield 34, 3) := by decide +kernel
theorem dX3_init_59 : decode cX3_init 59 = .ok (.aload_n 0, 1) := by decide +kernel
theorem dX3_init_60 : decode cX3_init 60 = .ok (.bipush 80, 2) := by decide +kernel
theorem dX3_init_62 : decode cX3_init 62 = .ok (.newarray .int, 2) := by decide +kernel
theorem dX3_init_64 : decode cX3_init 64 = .ok (.putfield 37, 3) := by decide +kernel
theorem dX3_init_67 : decode cX3_init 67 = .ok (.aload_n 0, 1) := by decide +kernel
theorem dX3_init_68 : decode cX3_init 68 = .ok (.bipush 80, 2) := by decide +kernel
theorem dX3_init_70 : decode cX3_init 70 = .ok (.newarray .boolean, 2) := by decide +kernel
theorem dX3_init_72 : decode cX3_init 72 = .ok (.putfield 40, 3) := by decide +kernel
theorem dX3_init_75 : decode cX3_init 75 = .ok (.aload_n 0, 1) := by decide +kernel
theorem dX3_init_76 : decode cX3_init 76 = .ok (.iload_n 1, 1) := by decide +kernel
theorem dX3_init_77 : decode cX3_init 77 = .ok (.putfield 44, 3) := by decide +kernel
theorem dX3_init_80 : decode cX3_init 80 = .ok (.aload_n 0, 1) := by decide +kernel
theorem dX3_init_81 : decode cX3_init 81 = .ok (.iload_n 1, 1) := by decide +kernel
theorem dX3_init_82 : decode cX3_init 82 = .ok (.bipush 48, 2) := by decide +kernel
theorem dX3_init_84 : decode cX3_init 84 = .ok (.multianewarray 47 2, 4) := by decide +kernel
theorem dX3_init_88 : decode cX3_init 88 = .ok (.putfield 49, 3) := by decide +kernel
theorem dX3_init_91 : decode cX3_init 91 = .ok (.aload_n 0, 1) := by decide +kernel
theorem dX3_init_92 : decode cX3_init 92 = .ok (.iload_n 1, 1) := by decide +kernel
theorem dX3_init_93 : decode cX3_init 93 = .ok (.newarray .int, 2) := by decide +kernel
theorem dX3_init_95 : decode cX3_init 95 = .ok (.putfield 52, 3) := by decide +kernel
theorem dX3_init_98 : decode cX3_init 98 = .ok (.aload_n 0, 1) := by decide +kernel
theorem dX3_init_99 : decode cX3_init 99 = .ok (.iload_n 1, 1) := by decide +kernel
theorem dX3_init_100 : decode cX3_init 100 = .ok (.bipush 8, 2) := by decide +kernel
theorem dX3_init_102 : decode cX3_init 102 = .ok (.imul, 1) := by decide +kernel
theorem dX3_init_103 : decode cX3_init 103 = .ok (.bipush 8, 2) := by decide +kernel
theorem dX3_init_105 : decode cX3_init 105 = .ok (.imul, 1) := by decide +kernel
theorem dX3_init_106 : decode cX3_init 106 = .ok (.newarray .int, 2) := by decide +kernel
theorem dX3_init_108 : decode cX3_init 108 = .ok (.putfield 55, 3) := by decide +kernel
theorem dX3_init_111 : decode cX3_init 111 = .ok (.return_, 1) := by decide +kernel
theorem dX3_hasMachine_0 : decode cX3_hasMachine 0 = .ok (.iload_n 1, 1) := by decide +kernel
theorem dX3_hasMachine_1 : decode cX3_hasMachine 1 = .ok (.ifCond .lt 15, 3) := by decide +kernel
theorem dX3_hasMachine_4 : decode cX3_hasMachine 4 = .ok (.iload_n 1, 1) := by decide +kernel
theorem dX3_hasMachine_5 : decode cX3_hasMachine 5 = .ok (.aload_n 0, 1) := by decide +kernel
theorem dX3_hasMachine_6 : decode cX3_hasMachine 6 = .ok (.getfield 44, 3) := by decide +kernel
theorem dX3_hasMachine_9 : decode cX3_hasMachine 9 = .ok (.if_icmp .ge 7, 3) := by decide +kernel
theorem dX3_hasMachine_12 : decode cX3_hasMachine 12 = .ok (.iconst 1, 1) := by decide +kernel
theorem dX3_hasMachine_13 : decode cX3_hasMachine 13 = .ok (.goto 4, 3) := by decide +kernel
theorem dX3_hasMachine_16 : decode cX3_hasMachine 16 = .ok (.iconst 0, 1) := by decide +kernel
theorem dX3_hasMachine_17 : decode cX3_hasMachine 17 = .ok (.ireturn, 1) := by decide +kernel
theorem dX3_hasJob_0 : decode cX3_hasJob 0 = .ok (.iload_n 1, 1) := by decide +kernel
theorem dX3_hasJob_1 : decode cX3_hasJob 1 = .ok (.ifCond .lt 15, 3) := by decide +kernel
theorem dX3_hasJob_4 : decode cX3_hasJob 4 = .ok (.iload_n 1, 1) := by decide +kernel
theorem dX3_hasJob_5 : decode cX3_hasJob 5 = .ok (.aload_n 0, 1) := by decide +kernel
theorem dX3_hasJob_6 : decode cX3_hasJob 6 = .ok (.getfield 9, 3) := by decide +kernel
theorem dX3_hasJob_9 : decode cX3_hasJob 9 = .ok (.if_icmp .ge 7, 3) := by decide +kernel
theorem dX3_hasJob_12 : decode cX3_hasJob 12 = .ok (.iconst 1, 1) := by decide +kernel
theorem dX3_hasJob_13 : decode cX3_hasJob 13 = .ok (.goto 4, 3) := by decide +kernel
theorem dX3_hasJob_16 : decode cX3_hasJob 16 = .ok (.iconst 0, 1) := by decide +kernel
theorem dX3_hasJob_17 : decode cX3_hasJob 17 = .ok (.ireturn, 1) := by decide +kernel
theorem dX3_hasStep_0 : decode cX3_hasStep 0 = .ok (.iload_n 1, 1) := by decide +kernel
theorem dX3_hasStep_1 : decode cX3_hasStep 1 = .ok (.ifCond .lt 34, 3) := by decide +kernel
theorem dX3_hasStep_4 : decode cX3_hasStep 4 = .ok (.aload_n 0, 1) := by decide +kernel
theorem dX3_hasStep_5 : decode cX3_hasStep 5 = .ok (.iload_n 1, 1) := by decide +kernel
theorem dX3_hasStep_6 : decode cX3_hasStep 6 = .ok (.bipush 10, 2) := by decide +kernel
theorem dX3_hasStep_8 : decode cX3_hasStep 8 = .ok (.idiv, 1) := by decide +kernel
theorem dX3_hasStep_9 : decode cX3_hasStep 9 = .ok (.invokevirtual 58, 3) := by decide +kernel
theorem dX3_hasStep_12 : decode cX3_hasStep 12 = .ok (.ifCond .eq 23, 3) := by decide +kernel
theorem dX3_hasStep_15 : decode cX3_hasStep 15 = .ok (.iload_n 1, 1) := by decide +kernel
theorem dX3_hasStep_16 : decode cX3_hasStep 16 = .ok (.bipush 10, 2) := by decide +kernel
theorem dX3_hasStep_18 : decode cX3_hasStep 18 = .ok (.irem, 1) := by decide +kernel
theorem dX3_hasStep_19 : decode cX3_hasStep 19 = .ok (.aload_n 0, 1) := by decide +kernel
theorem dX3_hasStep_20 : decode cX3_hasStep 20 = .ok (.getfield 31, 3) := by decide +kernel
theorem dX3_hasStep_23 : decode cX3_hasStep 23 = .ok (.iload_n 1, 1) := by decide +kernel
theorem dX3_hasStep_24 : decode cX3_hasStep 24 = .ok (.bipush 10, 2) := by decide +kernel
theorem dX3_hasStep_26 : decode cX3_hasStep 26 = .ok (.idiv, 1) := by decide +kernel
theorem dX3_hasStep_27 : decode cX3_hasStep 27 = .ok (.iaload, 1) := by decide +kernel
theorem dX3_hasStep_28 : decode cX3_hasStep 28 = .ok (.if_icmp .ge 7, 3) := by decide +kernel
theorem dX3_hasStep_31 : decode cX3_hasStep 31 = .ok (.iconst 1, 1) := by decide +kernel
theorem dX3_hasStep_32 : decode cX3_hasStep 32 = .ok (.goto 4, 3) := by decide +kernel
theorem dX3_hasStep_35 : decode cX3_hasStep 35 = .ok (.iconst 0, 1) := by decide +kernel
theorem dX3_hasStep_36 : decode cX3_hasStep 36 = .ok (.ireturn, 1) := by decide +kernel
theorem dX3_hasNeighbours_0 : decode cX3_hasNeighbours 0 = .ok (.aload_n 0, 1) := by decide +kernel
theorem dX3_hasNeighbours_1 : decode cX3_hasNeighbours 1 = .ok (.iload_n 1, 1) := by decide +kernel
theorem dX3_hasNeighbours_2 : decode cX3_hasNeighbours 2 = .ok (.invokevirtual 62, 3) := by decide +kernel
theorem dX3_hasNeighbours_5 : decode cX3_hasNeighbours 5 = .ok (.ifCond .eq 23, 3) := by decide +kernel
theorem dX3_hasNeighbours_8 : decode cX3_hasNeighbours 8 = .ok (.iload_n 2, 1) := by decide +kernel
theorem dX3_hasNeighbours_9 : decode cX3_hasNeighbours 9 = .ok (.ifCond .lt 19, 3) := by decide +kernel
theorem dX3_hasNeighbours_12 : decode cX3_hasNeighbours 12 = .ok (.iload_n 2, 1) := by decide +kernel
theorem dX3_hasNeighbours_13 : decode cX3_hasNeighbours 13 = .ok (.aload_n 0, 1) := by decide +kernel
theorem dX3_hasNeighbours_14 : decode cX3_hasNeighbours 14 = .ok (.getfield 52, 3) := by decide +kernel
theorem dX3_hasNeighbours_17 : decode cX3_hasNeighbours 17 = .ok (.iload_n 1, 1) := by decide +kernel
theorem dX3_hasNeighbours_18 : decode cX3_hasNeighbours 18 = .ok (.iaload, 1) := by decide +kernel
theorem dX3_hasNeighbours_19 : decode cX3_hasNeighbours 19 = .ok (.iconst 1, 1) := by decide +kernel
theorem dX3_hasNeighbours_20 : decode cX3_hasNeighbours 20 = .ok (.isub, 1) := by decide +kernel
theorem dX3_hasNeighbours_21 : decode cX3_hasNeighbours 21 = .ok (.if_icmp .ge 7, 3) := by decide +kernel
theorem dX3_hasNeighbours_24 : decode cX3_hasNeighbours 24 = .ok (.iconst 1, 1) := by decide +kernel
theorem dX3_hasNeighbours_25 : decode cX3_hasNeighbours 25 = .ok (.goto 4, 3) := by decide +kernel
theorem dX3_hasNeighbours_28 : decode cX3_hasNeighbours 28 = .ok (.iconst 0, 1) := by decide +kernel
theorem dX3_hasNeighbours_29 : decode cX3_hasNeighbours 29 = .ok (.ireturn, 1) := by decide +kernel
theorem dX3_addJob_0 : decode cX3_addJob 0 = .ok (.aload_n 0, 1) := by decide +kernel
theorem dX3_addJob_1 : decode cX3_addJob 1 = .ok (.getfield 21, 3) := by decide +kernel
theorem dX3_addJob_4 : decode cX3_addJob 4 = .ok (.aload_n 0, 1) := by decide +kernel
theorem dX3_addJob_5 : decode cX3_addJob 5 = .ok (.getfield 9, 3) := by decide +kernel
theorem dX3_addJob_8 : decode cX3_addJob 8 = .ok (.iload_n 1, 1) := by decide +kernel
theorem dX3_addJob_9 : decode cX3_addJob 9 = .ok (.iastore, 1) := by decide +kernel
theorem dX3_addJob_10 : decode cX3_addJob 10 = .ok (.aload_n 0, 1) := by decide +kernel
theorem dX3_addJob_11 : decode cX3_addJob 11 = .ok (.getfield 25, 3) := by decide +kernel
theorem dX3_addJob_14 : decode cX3_addJob 14 = .ok (.aload_n 0, 1) := by decide +kernel
theorem dX3_addJob_15 : decode cX3_addJob 15 = .ok (.getfield 9, 3) := by decide +kernel
theorem dX3_addJob_18 : decode cX3_addJob 18 = .ok (.iload_n 2, 1) := by decide +kernel
theorem dX3_addJob_19 : decode cX3_addJob 19 = .ok (.iastore, 1) := by decide +kernel
theorem dX3_addJob_20 : decode cX3_addJob 20 = .ok (.aload_n 0, 1) := by decide +kernel
theorem dX3_addJob_21 : decode cX3_addJob 21 = .ok (.getfield 28, 3) := by decide +kernel
theorem dX3_addJob_24 : decode cX3_addJob 24 = .ok (.aload_n 0, 1) := by decide +kernel
theorem dX3_addJob_25 : decode cX3_addJob 25 = .ok (.getfield 9, 3) := by decide +kernel
theorem dX3_addJob_28 : decode cX3_addJob 28 = .ok (.iload_n 3, 1) := by decide +kernel
theorem dX3_addJob_29 : decode cX3_addJob 29 = .ok (.iastore, 1) := by decide +kernel
theorem dX3_addJob_30 : decode cX3_addJob 30 = .ok (.aload_n 0, 1) := by decide +kernel
theorem dX3_addJob_31 : decode cX3_addJob 31 = .ok (.dup, 1) := by decide +kernel
theorem dX3_addJob_32 : decode cX3_addJob 32 = .ok (.getfield 9, 3) := by decide +kernel
theorem dX3_addJob_35 : decode cX3_addJob 35 = .ok (.dup_x1, 1) := by decide +kernel
theorem dX3_addJob_36 : decode cX3_addJob 36 = .ok (.iconst 1, 1) := by decide +kernel
theorem dX3_addJob_37 : decode cX3_addJob 37 = .ok (.iadd, 1) := by decide +kernel
theorem dX3_addJob_38 : decode cX3_addJob 38 = .ok (.putfield 9, 3) := by decide +kernel
theorem dX3_addJob_41 : decode cX3_addJob 41 = .ok (.ireturn, 1) := by decide +kernel
theorem dX3_addStep_0 : decode cX3_addStep 0 = .ok (.bipush 10, 2) := by decide +kernel
theorem dX3_addStep_2 : decode cX3_addStep 2 = .ok (.iload_n 1, 1) := by decide +kernel
theorem dX3_addStep_3 : decode cX3_addStep 3 = .ok (.imul, 1) := by decide +kernel
theorem dX3_addStep_4 : decode cX3_addStep 4 = .ok (.aload_n 0, 1) := by decide +kernel
theorem dX3_addStep_5 : decode cX3_addStep 5 = .ok (.getfield 31, 3) := by decide +kernel
theorem dX3_addStep_8 : decode cX3_addStep 8 = .ok (.iload_n 1, 1) := by decide +kernel
theorem dX3_addStep_9 : decode cX3_addStep 9 = .ok (.iaload, 1) := by decide +kernel
theorem dX3_addStep_10 : decode cX3_addStep 10 = .ok (.iadd, 1) := by decide +kernel
theorem dX3_addStep_11 : decode cX3_addStep 11 = .ok (.istore 4, 2) := by decide +kernel
theorem dX3_addStep_13 : decode cX3_addStep 13 = .ok (.aload_n 0, 1) := by decide +kernel
theorem dX3_addStep_14 : decode cX3_addStep 14 = .ok (.getfield 34, 3) := by decide +kernel
theorem dX3_addStep_17 : decode cX3_addStep 17 = .ok (.iload 4, 2) := by decide +kernel
theorem dX3_addStep_19 : decode cX3_addStep 19 = .ok (.iload_n 2, 1) := by decide +kernel
theorem dX3_addStep_20 : decode cX3_addStep 20 = .ok (.iastore, 1) := by decide +kernel
theorem dX3_addStep_21 : decode cX3_addStep 21 = .ok (.aload_n 0, 1) := by decide +kernel
theorem dX3_addStep_22 : decode cX3_addStep 22 = .ok (.getfield 37, 3) := by decide +kernel
theorem dX3_addStep_25 : decode cX3_addStep 25 = .ok (.iload 4, 2) := by decide +kernel
theorem dX3_addStep_27 : decode cX3_addStep 27 = .ok (.iload_n 3, 1) := by decide +kernel
theorem dX3_addStep_28 : decode cX3_addStep 28 = .ok (.iastore, 1) := by decide +kernel
theorem dX3_addStep_29 : decode cX3_addStep 29 = .ok (.aload_n 0, 1) := by decide +kernel
theorem dX3_addStep_30 : decode cX3_addStep 30 = .ok (.dup, 1) := by decide +kernel
theorem dX3_addStep_31 : decode cX3_addStep 31 = .ok (.getfield 15, 3) := by decide +kernel
theorem dX3_addStep_34 : decode cX3_addStep 34 = .ok (.iconst 1, 1) := by decide +kernel
theorem dX3_addStep_35 : decode cX3_addStep 35 = .ok (.iadd, 1) := by decide +kernel
theorem dX3_addStep_36 : decode cX3_addStep 36 = .ok (.putfield 15, 3) := by decide +kernel
theorem dX3_addStep_39 : decode cX3_addStep 39 = .ok (.aload_n 0, 1) := by decide +kernel
theorem dX3_addStep_40 : decode cX3_addStep 40 = .ok (.getfield 31, 3) := by decide +kernel
theorem dX3_addStep_43 : decode cX3_addStep 43 = .ok (.iload_n 1, 1) := by decide +kernel
theorem dX3_addStep_44 : decode cX3_addStep 44 = .ok (.dup2, 1) := by decide +kernel
theorem dX3_addStep_45 : decode cX3_addStep 45 = .ok (.iaload, 1) := by decide +kernel
theorem dX3_addStep_46 : decode cX3_addStep 46 = .ok (.iconst 1, 1) := by decide +kernel
theorem dX3_addStep_47 : decode cX3_addStep 47 = .ok (.iadd, 1) := by decide +kernel
theorem dX3_addStep_48 : decode cX3_addStep 48 = .ok (.dup_x2, 1) := by decide +kernel
theorem dX3_addStep_49 : decode cX3_addStep 49 = .ok (.iastore, 1) := by decide +kernel
theorem dX3_addStep_50 : decode cX3_addStep 50 = .ok (.ireturn, 1) := by decide +kernel
theorem dX3_changeBetween_0 : decode cX3_changeBetween 0 = .ok (.aload_n 0, 1) := by decide +kernel
theorem dX3_changeBetween_1 : decode cX3_changeBetween 1 = .ok (.getfield 55, 3) := by decide +kernel
theorem dX3_changeBetween_4 : decode cX3_changeBetween 4 = .ok (.iload_n 1, 1) := by decide +kernel
theorem dX3_changeBetween_5 : decode cX3_changeBetween 5 = .ok (.bipush 8, 2) := by decide +kernel
theorem dX3_changeBetween_7 : decode cX3_changeBetween 7 = .ok (.imul, 1) := by decide +kernel
theorem dX3_changeBetween_8 : decode cX3_changeBetween 8 = .ok (.iload_n 2, 1) := by decide +kernel
theorem dX3_changeBetween_9 : decode cX3_changeBetween 9 = .ok (.iadd, 1) := by decide +kernel
theorem dX3_changeBetween_10 : decode cX3_changeBetween 10 = .ok (.bipush 8, 2) := by decide +kernel
theorem dX3_changeBetween_12 : decode cX3_changeBetween 12 = .ok (.imul, 1) := by decide +kernel
theorem dX3_changeBetween_13 : decode cX3_changeBetween 13 = .ok (.iload_n 3, 1) := by decide +kernel
theorem dX3_changeBetween_14 : decode cX3_changeBetween 14 = .ok (.iadd, 1) := by decide +kernel
theorem dX3_changeBetween_15 : decode cX3_changeBetween 15 = .ok (.iaload, 1) := by decide +kernel
theorem dX3_changeBetween_16 : decode cX3_changeBetween 16 = .ok (.ireturn, 1) := by decide +kernel
theorem dX3_setChange_0 : decode cX3_setChange 0 = .ok (.aload_n 0, 1) := by decide +kernel
theorem dX3_setChange_1 : decode cX3_setChange 1 = .ok (.getfield 55, 3) := by decide +kernel
theorem dX3_setChange_4 : decode cX3_setChange 4 = .ok (.iload_n 1, 1) := by decide +kernel
theorem dX3_setChange_5 : decode cX3_setChange 5 = .ok (.bipush 8, 2) := by decide +kernel
theorem dX3_setChange_7 : decode cX3_setChange 7 = .ok (.imul, 1) := by decide +kernel
theorem dX3_setChange_8 : decode cX3_setChange 8 = .ok (.iload_n 2, 1) := by decide +kernel
theorem dX3_setChange_9 : decode cX3_setChange 9 = .ok (.iadd, 1) := by decide +kernel
theorem dX3_setChange_10 : decode cX3_setChange 10 = .ok (.bipush 8, 2) := by decide +kernel
theorem dX3_setChange_12 : decode cX3_setChange 12 = .ok (.imul, 1) := by decide +kernel
theorem dX3_setChange_13 : decode cX3_setChange 13 = .ok (.iload_n 3, 1) := by decide +kernel
theorem dX3_setChange_14 : decode cX3_setChange 14 = .ok (.iadd, 1) := by decide +kernel
theorem dX3_setChange_15 : decode cX3_setChange 15 = .ok (.iload 4, 2) := by decide +kernel
theorem dX3_setChange_17 : decode cX3_setChange 17 = .ok (.iastore, 1) := by decide +kernel
theorem dX3_setChange_18 : decode cX3_setChange 18 = .ok (.return_, 1) := by decide +kernel
theorem dX3_insert_0 : decode cX3_insert 0 = .ok (.aload_n 0, 1) := by decide +kernel
theorem dX3_insert_1 : decode cX3_insert 1 = .ok (.getfield 34, 3) := by decide +kernel
theorem dX3_insert_4 : decode cX3_insert 4 = .ok (.iload_n 1, 1) := by decide +kernel
theorem dX3_insert_5 : decode cX3_insert 5 = .ok (.iaload, 1) := by decide +kernel
theorem dX3_insert_6 : decode cX3_insert 6 = .ok (.istore_n 3, 1) := by decide +kernel
theorem dX3_insert_7 : decode cX3_insert 7 = .ok (.aload_n 0, 1) := by decide +kernel
theorem dX3_insert_8 : decode cX3_insert 8 = .ok (.getfield 49, 3) := by decide +kernel
theorem dX3_insert_11 : decode cX3_insert 11 = .ok (.iload_n 3, 1) := by decide +kernel
theorem dX3_insert_12 : decode cX3_insert 12 = .ok (.aaload, 1) := by decide +kernel
theorem dX3_insert_13 : decode cX3_insert 13 = .ok (.astore 4, 2) := by decide +kernel
theorem dX3_insert_15 : decode cX3_insert 15 = .ok (.aload_n 0, 1) := by decide +kernel
theorem dX3_insert_16 : decode cX3_insert 16 = .ok (.getfield 52, 3) := by decide +kernel
theorem dX3_insert_19 : decode cX3_insert 19 = .ok (.iload_n 3, 1) := by decide +kernel
theorem dX3_insert_20 : decode cX3_insert 20 = .ok (.iaload, 1) := by decide +kernel
theorem dX3_insert_21 : decode cX3_insert 21 = .ok (.istore 5, 2) := by decide +kernel
theorem dX3_insert_23 : decode cX3_insert 23 = .ok (.iload 5, 2) := by decide +kernel
theorem dX3_insert_25 : decode cX3_insert 25 = .ok (.iload_n 2, 1) := by decide +kernel
theorem dX3_insert_26 : decode cX3_insert 26 = .ok (.if_icmp .le 21, 3) := by decide +kernel
theorem dX3_insert_29 : decode cX3_insert 29 = .ok (.aload 4, 2) := by decide +kernel
theorem dX3_insert_31 : decode cX3_insert 31 = .ok (.iload 5, 2) := by decide +kernel
theorem dX3_insert_33 : decode cX3_insert 33 = .ok (.aload 4, 2) := by decide +kernel
theorem dX3_insert_35 : decode cX3_insert 35 = .ok (.iload 5, 2) := by decide +kernel
theorem dX3_insert_37 : decode cX3_insert 37 = .ok (.iconst 1, 1) := by decide +kernel
theorem dX3_insert_38 : decode cX3_insert 38 = .ok (.isub, 1) := by decide +kernel
theorem dX3_insert_39 : decode cX3_insert 39 = .ok (.iaload, 1) := by decide +kernel
theorem dX3_insert_40 : decode cX3_insert 40 = .ok (.iastore, 1) := by decide +kernel
theorem dX3_insert_41 : decode cX3_insert 41 = .ok (.iinc 5 (-1), 3) := by decide +kernel
theorem dX3_insert_44 : decode cX3_insert 44 = .ok (.goto (-21), 3) := by decide +kernel
theorem dX3_insert_47 : decode cX3_insert 47 = .ok (.aload 4, 2) := by decide +kernel
theorem dX3_insert_49 : decode cX3_insert 49 = .ok (.iload_n 2, 1) := by decide +kernel
theorem dX3_insert_50 : decode cX3_insert 50 = .ok (.iload_n 1, 1) := by decide +kernel
theorem dX3_insert_51 : decode cX3_insert 51 = .ok (.iastore, 1) := by decide +kernel
theorem dX3_insert_52 : decode cX3_insert 52 = .ok (.aload_n 0, 1) := by decide +kernel
theorem dX3_insert_53 : decode cX3_insert 53 = .ok (.getfield 52, 3) := by decide +kernel
theorem dX3_insert_56 : decode cX3_insert 56 = .ok (.iload_n 3, 1) := by decide +kernel
theorem dX3_insert_57 : decode cX3_insert 57 = .ok (.dup2, 1) := by decide +kernel
theorem dX3_insert_58 : decode cX3_insert 58 = .ok (.iaload, 1) := by decide +kernel
theorem dX3_insert_59 : decode cX3_insert 59 = .ok (.iconst 1, 1) := by decide +kernel
theorem dX3_insert_60 : decode cX3_insert 60 = .ok (.iadd, 1) := by decide +kernel
theorem dX3_insert_61 : decode cX3_insert 61 = .ok (.iastore, 1) := by decide +kernel
theorem dX3_insert_62 : decode cX3_insert 62 = .ok (.aload_n 0, 1) := by decide +kernel
theorem dX3_insert_63 : decode cX3_insert 63 = .ok (.getfield 40, 3) := by decide +kernel
theorem dX3_insert_66 : decode cX3_insert 66 = .ok (.iload_n 1, 1) := by decide +kernel
theorem dX3_insert_67 : decode cX3_insert 67 = .ok (.iconst 1, 1) := by decide +kernel
theorem dX3_insert_68 : decode cX3_insert 68 = .ok (.bastore, 1) := by decide +kernel
theorem dX3_insert_69 : decode cX3_insert 69 = .ok (.aload_n 0, 1) := by decide +kernel
theorem dX3_insert_70 : decode cX3_insert 70 = .ok (.dup, 1) := by decide +kernel
theorem dX3_insert_71 : decode cX3_insert 71 = .ok (.getfield 18, 3) := by decide +kernel
theorem dX3_insert_74 : decode cX3_insert 74 = .ok (.iconst 1, 1) := by decide +kernel
theorem dX3_insert_75 : decode cX3_insert 75 = .ok (.iadd, 1) := by decide +kernel
theorem dX3_insert_76 : decode cX3_insert 76 = .ok (.putfield 18, 3) := by decide +kernel
theorem dX3_insert_79 : decode cX3_insert 79 = .ok (.return_, 1) := by decide +kernel
theorem dX3_remove_0 : decode cX3_remove 0 = .ok (.aload_n 0, 1) := by decide +kernel
theorem dX3_remove_1 : decode cX3_remove 1 = .ok (.getfield 34, 3) := by decide +kernel
theorem dX3_remove_4 : decode cX3_remove 4 = .ok (.iload_n 1, 1) := by decide +kernel
theorem dX3_remove_5 : decode cX3_remove 5 = .ok (.iaload, 1) := by decide +kernel
theorem dX3_remove_6 : decode cX3_remove 6 = .ok (.istore_n 2, 1) := by decide +kernel
theorem dX3_remove_7 : decode cX3_remove 7 = .ok (.aload_n 0, 1) := by decide +kernel
theorem dX3_remove_8 : decode cX3_remove 8 = .ok (.getfield 49, 3) := by decide +kernel
theorem dX3_remove_11 : decode cX3_remove 11 = .ok (.iload_n 2, 1) := by decide +kernel
theorem dX3_remove_12 : decode cX3_remove 12 = .ok (.aaload, 1) := by decide +kernel
theorem dX3_remove_13 : decode cX3_remove 13 = .ok (.astore_n 3, 1) := by decide +kernel
theorem dX3_remove_14 : decode cX3_remove 14 = .ok (.aload_n 0, 1) := by decide +kernel
theorem dX3_remove_15 : decode cX3_remove 15 = .ok (.getfield 52, 3) := by decide +kernel
theorem dX3_remove_18 : decode cX3_remove 18 = .ok (.iload_n 2, 1) := by decide +kernel
theorem dX3_remove_19 : decode cX3_remove 19 = .ok (.iaload, 1) := by decide +kernel
theorem dX3_remove_20 : decode cX3_remove 20 = .ok (.iconst 1, 1) := by decide +kernel
theorem dX3_remove_21 : decode cX3_remove 21 = .ok (.isub, 1) := by decide +kernel
theorem dX3_remove_22 : decode cX3_remove 22 = .ok (.istore 4, 2) := by decide +kernel
theorem dX3_remove_24 : decode cX3_remove 24 = .ok (.iconst 0, 1) := by decide +kernel
theorem dX3_remove_25 : decode cX3_remove 25 = .ok (.istore 5, 2) := by decide +kernel
theorem dX3_remove_27 : decode cX3_remove 27 = .ok (.iload 5, 2) := by decide +kernel
theorem dX3_remove_29 : decode cX3_remove 29 = .ok (.iload 4, 2) := by decide +kernel
theorem dX3_remove_31 : decode cX3_remove 31 = .ok (.if_icmp .ge 17, 3) := by decide +kernel
theorem dX3_remove_34 : decode cX3_remove 34 = .ok (.aload_n 3, 1) := by decide +kernel
theorem dX3_remove_35 : decode cX3_remove 35 = .ok (.iload 5, 2) := by decide +kernel
theorem dX3_remove_37 : decode cX3_remove 37 = .ok (.iaload, 1) := by decide +kernel
theorem dX3_remove_38 : decode cX3_remove 38 = .ok (.iload_n 1, 1) := by decide +kernel
theorem dX3_remove_39 : decode cX3_remove 39 = .ok (.if_icmp .eq 9, 3) := by decide +kernel
theorem dX3_remove_42 : decode cX3_remove 42 = .ok (.iinc 5 1, 3) := by decide +kernel
theorem dX3_remove_45 : decode cX3_remove 45 = .ok (.goto (-18), 3) := by decide +kernel
theorem dX3_remove_48 : decode cX3_remove 48 = .ok (.iload 5, 2) := by decide +kernel
theorem dX3_remove_50 : decode cX3_remove 50 = .ok (.istore 6, 2) := by decide +kernel
theorem dX3_remove_52 : decode cX3_remove 52 = .ok (.iload 6, 2) := by decide +kernel
theorem dX3_remove_54 : decode cX3_remove 54 = .ok (.iload 4, 2) := by decide +kernel
theorem dX3_remove_56 : decode cX3_remove 56 = .ok (.if_icmp .ge 19, 3) := by decide +kernel
theorem dX3_remove_59 : decode cX3_remove 59 = .ok (.aload_n 3, 1) := by decide +kernel
theorem dX3_remove_60 : decode cX3_remove 60 = .ok (.iload 6, 2) := by decide +kernel
theorem dX3_remove_62 : decode cX3_remove 62 = .ok (.aload_n 3, 1) := by decide +kernel
theorem dX3_remove_63 : decode cX3_remove 63 = .ok (.iload 6, 2) := by decide +kernel
theorem dX3_remove_65 : decode cX3_remove 65 = .ok (.iconst 1, 1) := by decide +kernel
theorem dX3_remove_66 : decode cX3_remove 66 = .ok (.iadd, 1) := by decide +kernel
theorem dX3_remove_67 : decode cX3_remove 67 = .ok (.iaload, 1) := by decide +kernel
theorem dX3_remove_68 : decode cX3_remove 68 = .ok (.iastore, 1) := by decide +kernel
theorem dX3_remove_69 : decode cX3_remove 69 = .ok (.iinc 6 1, 3) := by decide +kernel
theorem dX3_remove_72 : decode cX3_remove 72 = .ok (.goto (-20), 3) := by decide +kernel
theorem dX3_remove_75 : decode cX3_remove 75 = .ok (.aload_n 0, 1) := by decide +kernel
theorem dX3_remove_76 : decode cX3_remove 76 = .ok (.getfield 52, 3) := by decide +kernel
theorem dX3_remove_79 : decode cX3_remove 79 = .ok (.iload_n 2, 1) := by decide +kernel
theorem dX3_remove_80 : decode cX3_remove 80 = .ok (.iload 4, 2) := by decide +kernel
theorem dX3_remove_82 : decode cX3_remove 82 = .ok (.iastore, 1) := by decide +kernel
theorem dX3_remove_83 : decode cX3_remove 83 = .ok (.aload_n 0, 1) := by decide +kernel
theorem dX3_remove_84 : decode cX3_remove 84 = .ok (.getfield 40, 3) := by decide +kernel
theorem dX3_remove_87 : decode cX3_remove 87 = .ok (.iload_n 1, 1) := by decide +kernel
theorem dX3_remove_88 : decode cX3_remove 88 = .ok (.iconst 0, 1) := by decide +kernel
theorem dX3_remove_89 : decode cX3_remove 89 = .ok (.bastore, 1) := by decide +kernel
theorem dX3_remove_90 : decode cX3_remove 90 = .ok (.aload_n 0, 1) := by decide +kernel
theorem dX3_remove_91 : decode cX3_remove 91 = .ok (.dup, 1) := by decide +kernel
theorem dX3_remove_92 : decode cX3_remove 92 = .ok (.getfield 18, 3) := by decide +kernel
theorem dX3_remove_95 : decode cX3_remove 95 = .ok (.iconst 1, 1) := by decide +kernel
theorem dX3_remove_96 : decode cX3_remove 96 = .ok (.isub, 1) := by decide +kernel
theorem dX3_remove_97 : decode cX3_remove 97 = .ok (.putfield 18, 3) := by decide +kernel
theorem dX3_remove_100 : decode cX3_remove 100 = .ok (.iload 5, 2) := by decide +kernel
theorem dX3_remove_102 : decode cX3_remove 102 = .ok (.ireturn, 1) := by decide +kernel
theorem dX3_exchange_0 : decode cX3_exchange 0 = .ok (.aload_n 0, 1) := by decide +kernel
theorem dX3_exchange_1 : decode cX3_exchange 1 = .ok (.getfield 49, 3) := by decide +kernel
theorem dX3_exchange_4 : decode cX3_exchange 4 = .ok (.iload_n 1, 1) := by decide +kernel
theorem dX3_exchange_5 : decode cX3_exchange 5 = .ok (.aaload, 1) := by decide +kernel
theorem dX3_exchange_6 : decode cX3_exchange 6 = .ok (.astore_n 3, 1) := by decide +kernel
theorem dX3_exchange_7 : decode cX3_exchange 7 = .ok (.aload_n 3, 1) := by decide +kernel
theorem dX3_exchange_8 : decode cX3_exchange 8 = .ok (.iload_n 2, 1) := by decide +kernel
theorem dX3_exchange_9 : decode cX3_exchange 9 = .ok (.iaload, 1) := by decide +kernel
theorem dX3_exchange_10 : decode cX3_exchange 10 = .ok (.istore 4, 2) := by decide +kernel
theorem dX3_exchange_12 : decode cX3_exchange 12 = .ok (.aload_n 3, 1) := by decide +kernel
theorem dX3_exchange_13 : decode cX3_exchange 13 = .ok (.iload_n 2, 1) := by decide +kernel
theorem dX3_exchange_14 : decode cX3_exchange 14 = .ok (.aload_n 3, 1) := by decide +kernel
theorem dX3_exchange_15 : decode cX3_exchange 15 = .ok (.iload_n 2, 1) := by decide +kernel
theorem dX3_exchange_16 : decode cX3_exchange 16 = .ok (.iconst 1, 1) := by decide +kernel
theorem dX3_exchange_17 : decode cX3_exchange 17 = .ok (.iadd, 1) := by decide +kernel
theorem dX3_exchange_18 : decode cX3_exchange 18 = .ok (.iaload, 1) := by decide +kernel
theorem dX3_exchange_19 : decode cX3_exchange 19 = .ok (.iastore, 1) := by decide +kernel
theorem dX3_exchange_20 : decode cX3_exchange 20 = .ok (.aload_n 3, 1) := by decide +kernel
theorem dX3_exchange_21 : decode cX3_exchange 21 = .ok (.iload_n 2, 1) := by decide +kernel
theorem dX3_exchange_22 : decode cX3_exchange 22 = .ok (.iconst 1, 1) := by decide +kernel
theorem dX3_exchange_23 : decode cX3_exchange 23 = .ok (.iadd, 1) := by decide +kernel
theorem dX3_exchange_24 : decode cX3_exchange 24 = .ok (.iload 4, 2) := by decide +kernel
theorem dX3_exchange_26 : decode cX3_exchange 26 = .ok (.iastore, 1) := by decide +kernel
theorem dX3_exchange_27 : decode cX3_exchange 27 = .ok (.return_, 1) := by decide +kernel
theorem dX3_emptyOrders_0 : decode cX3_emptyOrders 0 = .ok (.aload_n 0, 1) := by decide +kernel
theorem dX3_emptyOrders_1 : decode cX3_emptyOrders 1 = .ok (.getfield 52, 3) := by decide +kernel
theorem dX3_emptyOrders_4 : decode cX3_emptyOrders 4 = .ok (.iconst 0, 1) := by decide +kernel
theorem dX3_emptyOrders_5 : decode cX3_emptyOrders 5 = .ok (.invokestatic 65, 3) := by decide +kernel
theorem dX3_emptyOrders_8 : decode cX3_emptyOrders 8 = .ok (.iconst 0, 1) := by decide +kernel
theorem dX3_emptyOrders_9 : decode cX3_emptyOrders 9 = .ok (.istore_n 1, 1) := by decide +kernel
theorem dX3_emptyOrders_10 : decode cX3_emptyOrders 10 = .ok (.iload_n 1, 1) := by decide +kernel
theorem dX3_emptyOrders_11 : decode cX3_emptyOrders 11 = .ok (.bipush 80, 2) := by decide +kernel
theorem dX3_emptyOrders_13 : decode cX3_emptyOrders 13 = .ok (.if_icmp .ge 16, 3) := by decide +kernel
theorem dX3_emptyOrders_16 : decode cX3_emptyOrders 16 = .ok (.aload_n 0, 1) := by decide +kernel
theorem dX3_emptyOrders_17 : decode cX3_emptyOrders 17 = .ok (.getfield 40, 3) := by decide +kernel
theorem dX3_emptyOrders_20 : decode cX3_emptyOrders 20 = .ok (.iload_n 1, 1) := by decide +kernel
theorem dX3_emptyOrders_21 : decode cX3_emptyOrders 21 = .ok (.iconst 0, 1) := by decide +kernel
theorem dX3_emptyOrders_22 : decode cX3_emptyOrders 22 = .ok (.bastore, 1) := by decide +kernel
theorem dX3_emptyOrders_23 : decode cX3_emptyOrders 23 = .ok (.iinc 1 1, 3) := by decide +kernel
theorem dX3_emptyOrders_26 : decode cX3_emptyOrders 26 = .ok (.goto (-16), 3) := by decide +kernel
theorem dX3_emptyOrders_29 : decode cX3_emptyOrders 29 = .ok (.aload_n 0, 1) := by decide +kernel
theorem dX3_emptyOrders_30 : decode cX3_emptyOrders 30 = .ok (.iconst 0, 1) := by decide +kernel
theorem dX3_emptyOrders_31 : decode cX3_emptyOrders 31 = .ok (.putfield 18, 3) := by decide +kernel
theorem dX3_emptyOrders_34 : decode cX3_emptyOrders 34 = .ok (.return_, 1) := by decide +kernel
theorem dX3_headOf_0 : decode cX3_headOf 0 = .ok (.iload_n 1, 1) := by decide +kernel
theorem dX3_headOf_1 : decode cX3_headOf 1 = .ok (.bipush 10, 2) := by decide +kernel
theorem dX3_headOf_3 : decode cX3_headOf 3 = .ok (.idiv, 1) := by decide +kernel
theorem dX3_headOf_4 : decode cX3_headOf 4 = .ok (.istore_n 2, 1) := by decide +kernel
theorem dX3_headOf_5 : decode cX3_headOf 5 = .ok (.aload_n 0, 1) := by decide +kernel
theorem dX3_headOf_6 : decode cX3_headOf 6 = .ok (.getfield 21, 3) := by decide +kernel
theorem dX3_headOf_9 : decode cX3_headOf 9 = .ok (.iload_n 2, 1) := by decide +kernel
theorem dX3_headOf_10 : decode cX3_headOf 10 = .ok (.iaload, 1) := by decide +kernel
theorem dX3_headOf_11 : decode cX3_headOf 11 = .ok (.aload_n 0, 1) := by decide +kernel
theorem dX3_headOf_12 : decode cX3_headOf 12 = .ok (.iload_n 2, 1) := by decide +kernel
theorem dX3_headOf_13 : decode cX3_headOf 13 = .ok (.iconst 0, 1) := by decide +kernel
theorem dX3_headOf_14 : decode cX3_headOf 14 = .ok (.iload_n 1, 1) := by decide +kernel
theorem dX3_headOf_15 : decode cX3_headOf 15 = .ok (.bipush 10, 2) := by decide +kernel
theorem dX3_headOf_17 : decode cX3_headOf 17 = .ok (.irem, 1) := by decide +kernel
theorem dX3_headOf_18 : decode cX3_headOf 18 = .ok (.invokevirtual 71, 3) := by decide +kernel
theorem dX3_headOf_21 : decode cX3_headOf 21 = .ok (.iadd, 1) := by decide +kernel
theorem dX3_headOf_22 : decode cX3_headOf 22 = .ok (.ireturn, 1) := by decide +kernel
theorem dX3_tailOf_0 : decode cX3_tailOf 0 = .ok (.iload_n 1, 1) := by decide +kernel
theorem dX3_tailOf_1 : decode cX3_tailOf 1 = .ok (.bipush 10, 2) := by decide +kernel
theorem dX3_tailOf_3 : decode cX3_tailOf 3 = .ok (.idiv, 1) := by decide +kernel
theorem dX3_tailOf_4 : decode cX3_tailOf 4 = .ok (.istore_n 2, 1) := by decide +kernel
theorem dX3_tailOf_5 : decode cX3_tailOf 5 = .ok (.aload_n 0, 1) := by decide +kernel
theorem dX3_tailOf_6 : decode cX3_tailOf 6 = .ok (.iload_n 2, 1) := by decide +kernel
theorem dX3_tailOf_7 : decode cX3_tailOf 7 = .ok (.iload_n 1, 1) := by decide +kernel
theorem dX3_tailOf_8 : decode cX3_tailOf 8 = .ok (.bipush 10, 2) := by decide +kernel
theorem dX3_tailOf_10 : decode cX3_tailOf 10 = .ok (.irem, 1) := by decide +kernel
theorem dX3_tailOf_11 : decode cX3_tailOf 11 = .ok (.iconst 1, 1) := by decide +kernel
theorem dX3_tailOf_12 : decode cX3_tailOf 12 = .ok (.iadd, 1) := by decide +kernel
theorem dX3_tailOf_13 : decode cX3_tailOf 13 = .ok (.aload_n 0, 1) := by decide +kernel
theorem dX3_tailOf_14 : decode cX3_tailOf 14 = .ok (.getfield 31, 3) := by decide +kernel
theorem dX3_tailOf_17 : decode cX3_tailOf 17 = .ok (.iload_n 2, 1) := by decide +kernel
theorem dX3_tailOf_18 : decode cX3_tailOf 18 = .ok (.iaload, 1) := by decide +kernel
theorem dX3_tailOf_19 : decode cX3_tailOf 19 = .ok (.invokevirtual 71, 3) := by decide +kernel
theorem dX3_tailOf_22 : decode cX3_tailOf 22 = .ok (.ireturn, 1) := by decide +kernel
theorem dX3_timeOf_0 : decode cX3_timeOf 0 = .ok (.iconst 0, 1) := by decide +kernel
theorem dX3_timeOf_1 : decode cX3_timeOf 1 = .ok (.istore 4, 2) := by decide +kernel
theorem dX3_timeOf_3 : decode cX3_timeOf 3 = .ok (.iload_n 2, 1) := by decide +kernel
theorem dX3_timeOf_4 : decode cX3_timeOf 4 = .ok (.istore 5, 2) := by decide +kernel
theorem dX3_timeOf_6 : decode cX3_timeOf 6 = .ok (.iload 5, 2) := by decide +kernel
theorem dX3_timeOf_8 : decode cX3_timeOf 8 = .ok (.iload_n 3, 1) := by decide +kernel
theorem dX3_timeOf_9 : decode cX3_timeOf 9 = .ok (.if_icmp .ge 26, 3) := by decide +kernel
theorem dX3_timeOf_12 : decode cX3_timeOf 12 = .ok (.iload 4, 2) := by decide +kernel
theorem dX3_timeOf_14 : decode cX3_timeOf 14 = .ok (.aload_n 0, 1) := by decide +kernel
theorem dX3_timeOf_15 : decode cX3_timeOf 15 = .ok (.getfield 37, 3) := by decide +kernel
theorem dX3_timeOf_18 : decode cX3_timeOf 18 = .ok (.bipush 10, 2) := by decide +kernel
theorem dX3_timeOf_20 : decode cX3_timeOf 20 = .ok (.iload_n 1, 1) := by decide +kernel
theorem dX3_timeOf_21 : decode cX3_timeOf 21 = .ok (.imul, 1) := by decide +kernel
theorem dX3_timeOf_22 : decode cX3_timeOf 22 = .ok (.iload 5, 2) := by decide +kernel
theorem dX3_timeOf_24 : decode cX3_timeOf 24 = .ok (.iadd, 1) := by decide +kernel
theorem dX3_timeOf_25 : decode cX3_timeOf 25 = .ok (.iaload, 1) := by decide +kernel
theorem dX3_timeOf_26 : decode cX3_timeOf 26 = .ok (.iadd, 1) := by decide +kernel
theorem dX3_timeOf_27 : decode cX3_timeOf 27 = .ok (.istore 4, 2) := by decide +kernel
theorem dX3_timeOf_29 : decode cX3_timeOf 29 = .ok (.iinc 5 1, 3) := by decide +kernel
theorem dX3_timeOf_32 : decode cX3_timeOf 32 = .ok (.goto (-26), 3) := by decide +kernel
theorem dX3_timeOf_35 : decode cX3_timeOf 35 = .ok (.iload 4, 2) := by decide +kernel
theorem dX3_timeOf_37 : decode cX3_timeOf 37 = .ok (.ireturn, 1) := by decide +kernel
theorem dX4_init_0 : decode cX4_init 0 = .ok (.aload_n 0, 1) := by decide +kernel
theorem dX4_init_1 : decode cX4_init 1 = .ok (.invokespecial 5, 3) := by decide +kernel
theorem dX4_init_4 : decode cX4_init 4 = .ok (.aload_n 0, 1) := by decide +kernel
theorem dX4_init_5 : decode cX4_init 5 = .ok (.new 11, 3) := by decide +kernel
theorem dX4_init_8 : decode cX4_init 8 = .ok (.dup, 1) := by decide +kernel
theorem dX4_init_9 : decode cX4_init 9 = .ok (.iconst 1, 1) := by decide +kernel
theorem dX4_init_10 : decode cX4_init 10 = .ok (.iconst 5, 1) := by decide +kernel
theorem dX4_init_11 : decode cX4_init 11 = .ok (.iload_n 1, 1) := by decide +kernel
theorem dX4_init_12 : decode cX4_init 12 = .ok (.invokestatic 13, 3) := by decide +kernel
theorem dX4_init_15 : decode cX4_init 15 = .ok (.invokestatic 19, 3) := by decide +kernel
theorem dX4_init_18 : decode cX4_init 18 = .ok (.invokespecial 22, 3) := by decide +kernel
theorem dX4_init_21 : decode cX4_init 21 = .ok (.putfield 25, 3) := by decide +kernel
theorem dX4_init_24 : decode cX4_init 24 = .ok (.aload_n 0, 1) := by decide +kernel
theorem dX4_init_25 : decode cX4_init 25 = .ok (.new 29, 3) := by decide +kernel
theorem dX4_init_28 : decode cX4_init 28 = .ok (.dup, 1) := by decide +kernel
theorem dX4_init_29 : decode cX4_init 29 = .ok (.aload_n 0, 1) := by decide +kernel
theorem dX4_init_30 : decode cX4_init 30 = .ok (.getfield 25, 3) := by decide +kernel
theorem dX4_init_33 : decode cX4_init 33 = .ok (.invokespecial 31, 3) := by decide +kernel
theorem dX4_init_36 : decode cX4_init 36 = .ok (.putfield 34, 3) := by decide +kernel
theorem dX4_init_39 : decode cX4_init 39 = .ok (.aload_n 0, 1) := by decide +kernel
theorem dX4_init_40 : decode cX4_init 40 = .ok (.new 29, 3) := by decide +kernel
theorem dX4_init_43 : decode cX4_init 43 = .ok (.dup, 1) := by decide +kernel
theorem dX4_init_44 : decode cX4_init 44 = .ok (.aload_n 0, 1) := by decide +kernel
theorem dX4_init_45 : decode cX4_init 45 = .ok (.getfield 25, 3) := by decide +kernel
theorem dX4_init_48 : decode cX4_init 48 = .ok (.invokespecial 31, 3) := by decide +kernel
theorem dX4_init_51 : decode cX4_init 51 = .ok (.putfield 38, 3) := by decide +kernel
theorem dX4_init_54 : decode cX4_init 54 = .ok (.aload_n 0, 1) := by decide +kernel
theorem dX4_init_55 : decode cX4_init 55 = .ok (.new 41, 3) := by decide +kernel
theorem dX4_init_58 : decode cX4_init 58 = .ok (.dup, 1) := by decide +kernel
theorem dX4_init_59 : decode cX4_init 59 = .ok (.aload_n 0, 1) := by decide +kernel
theorem dX4_init_60 : decode cX4_init 60 = .ok (.getfield 25, 3) := by decide +kernel
theorem dX4_init_63 : decode cX4_init 63 = .ok (.invokespecial 43, 3) := by decide +kernel
theorem dX4_init_66 : decode cX4_init 66 = .ok (.putfield 44, 3) := by decide +kernel
theorem dX4_init_69 : decode cX4_init 69 = .ok (.aload_n 0, 1) := by decide +kernel
theorem dX4_init_70 : decode cX4_init 70 = .ok (.new 48, 3) := by decide +kernel
theorem dX4_init_73 : decode cX4_init 73 = .ok (.dup, 1) := by decide +kernel
theorem dX4_init_74 : decode cX4_init 74 = .ok (.aload_n 0, 1) := by decide +kernel
theorem dX4_init_75 : decode cX4_init 75 = .ok (.getfield 25, 3) := by decide +kernel
theorem dX4_init_78 : decode cX4_init 78 = .ok (.invokespecial 50, 3) := by decide +kernel
theorem dX4_init_81 : decode cX4_init 81 = .ok (.putfield 51, 3) := by decide +kernel
theorem dX4_init_84 : decode cX4_init 84 = .ok (.return_, 1) := by decide +kernel
theorem dX4_job_0 : decode cX4_job 0 = .ok (.iload_n 1, 1) := by decide +kernel
theorem dX4_job_1 : decode cX4_job 1 = .ok (.sipush 1000, 3) := by decide +kernel
theorem dX4_job_4 : decode cX4_job 4 = .ok (.invokestatic 55, 3) := by decide +kernel
theorem dX4_job_7 : decode cX4_job 7 = .ok (.ifCond .eq 22, 3) := by decide +kernel
theorem dX4_job_10 : decode cX4_job 10 = .ok (.iload_n 2, 1) := by decide +kernel
theorem dX4_job_11 : decode cX4_job 11 = .ok (.sipush 1000, 3) := by decide +kernel
theorem dX4_job_14 : decode cX4_job 14 = .ok (.invokestatic 55, 3) := by decide +kernel
theorem dX4_job_17 : decode cX4_job 17 = .ok (.ifCond .eq 12, 3) := by decide +kernel
theorem dX4_job_20 : decode cX4_job 20 = .ok (.iload_n 3, 1) := by decide +kernel
theorem dX4_job_21 : decode cX4_job 21 = .ok (.bipush 20, 2) := by decide +kernel
theorem dX4_job_23 : decode cX4_job 23 = .ok (.invokestatic 55, 3) := by decide +kernel
theorem dX4_job_26 : decode cX4_job 26 = .ok (.ifCond .ne 6, 3) := by decide +kernel
theorem dX4_job_29 : decode cX4_job 29 = .ok (.bipush (-2), 2) := by decide +kernel
theorem dX4_job_31 : decode cX4_job 31 = .ok (.ireturn, 1) := by decide +kernel
theorem dX4_job_32 : decode cX4_job 32 = .ok (.aload_n 0, 1) := by decide +kernel
theorem dX4_job_33 : decode cX4_job 33 = .ok (.getfield 25, 3) := by decide +kernel
theorem dX4_job_36 : decode cX4_job 36 = .ok (.getfield 59, 3) := by decide +kernel
theorem dX4_job_39 : decode cX4_job 39 = .ok (.bipush 8, 2) := by decide +kernel
theorem dX4_job_41 : decode cX4_job 41 = .ok (.if_icmp .lt 6, 3) := by decide +kernel
theorem dX4_job_44 : decode cX4_job 44 = .ok (.bipush (-4), 2) := by decide +kernel
theorem dX4_job_46 : decode cX4_job 46 = .ok (.ireturn, 1) := by decide +kernel
theorem dX4_job_47 : decode cX4_job 47 = .ok (.aload_n 0, 1) := by decide +kernel
theorem dX4_job_48 : decode cX4_job 48 = .ok (.getfield 25, 3) := by decide +kernel
theorem dX4_job_51 : decode cX4_job 51 = .ok (.iload_n 1, 1) := by decide +kernel
theorem dX4_job_52 : decode cX4_job 52 = .ok (.iload_n 2, 1) := by decide +kernel
theorem dX4_job_53 : decode cX4_job 53 = .ok (.iload_n 3, 1) := by decide +kernel
theorem dX4_job_54 : decode cX4_job 54 = .ok (.invokevirtual 63, 3) := by decide +kernel
theorem dX4_job_57 : decode cX4_job 57 = .ok (.ireturn, 1) := by decide +kernel
theorem dX4_step_0 : decode cX4_step 0 = .ok (.aload_n 0, 1) := by decide +kernel
theorem dX4_step_1 : decode cX4_step 1 = .ok (.getfield 25, 3) := by decide +kernel
theorem dX4_step_4 : decode cX4_step 4 = .ok (.iload_n 1, 1) := by decide +kernel
theorem dX4_step_5 : decode cX4_step 5 = .ok (.invokevirtual 67, 3) := by decide +kernel
theorem dX4_step_8 : decode cX4_step 8 = .ok (.ifCond .ne 5, 3) := by decide +kernel
theorem dX4_step_11 : decode cX4_step 11 = .ok (.iconst (-1), 1) := by decide +kernel
theorem dX4_step_12 : decode cX4_step 12 = .ok (.ireturn, 1) := by decide +kernel
theorem dX4_step_13 : decode cX4_step 13 = .ok (.aload_n 0, 1) := by decide +kernel
theorem dX4_step_14 : decode cX4_step 14 = .ok (.getfield 25, 3) := by decide +kernel
theorem dX4_step_17 : decode cX4_step 17 = .ok (.iload_n 2, 1) := by decide +kernel
theorem dX4_step_18 : decode cX4_step 18 = .ok (.invokevirtual 71, 3) := by decide +kernel
theorem dX4_step_21 : decode cX4_step 21 = .ok (.ifCond .eq 12, 3) := by decide +kernel
theorem dX4_step_24 : decode cX4_step 24 = .ok (.iload_n 3, 1) := by decide +kernel
theorem dX4_step_25 : decode cX4_step 25 = .ok (.bipush 50, 2) := by decide +kernel
theorem dX4_step_27 : decode cX4_step 27 = .ok (.invokestatic 55, 3) := by decide +kernel
theorem dX4_step_30 : decode cX4_step 30 = .ok (.ifCond .ne 6, 3) := by decide +kernel
theorem dX4_step_33 : decode cX4_step 33 = .ok (.bipush (-2), 2) := by decide +kernel
theorem dX4_step_35 : decode cX4_step 35 = .ok (.ireturn, 1) := by decide +kernel
theorem dX4_step_36 : decode cX4_step 36 = .ok (.aload_n 0, 1) := by decide +kernel
theorem dX4_step_37 : decode cX4_step 37 = .ok (.getfield 25, 3) := by decide +kernel
theorem dX4_step_40 : decode cX4_step 40 = .ok (.getfield 74, 3) := by decide +kernel
theorem dX4_step_43 : decode cX4_step 43 = .ok (.iload_n 1, 1) := by decide +kernel
theorem dX4_step_44 : decode cX4_step 44 = .ok (.iaload, 1) := by decide +kernel
theorem dX4_step_45 : decode cX4_step 45 = .ok (.bipush 6, 2) := by decide +kernel
theorem dX4_step_47 : decode cX4_step 47 = .ok (.if_icmp .lt 6, 3) := by decide +kernel
theorem dX4_step_50 : decode cX4_step 50 = .ok (.bipush (-4), 2) := by decide +kernel
theorem dX4_step_52 : decode cX4_step 52 = .ok (.ireturn, 1) := by decide +kernel
theorem dX4_step_53 : decode cX4_step 53 = .ok (.aload_n 0, 1) := by decide +kernel
theorem dX4_step_54 : decode cX4_step 54 = .ok (.getfield 51, 3) := by decide +kernel
theorem dX4_step_57 : decode cX4_step 57 = .ok (.invokevirtual 78, 3) := by decide +kernel
theorem dX4_step_60 : decode cX4_step 60 = .ok (.aload_n 0, 1) := by decide +kernel
theorem dX4_step_61 : decode cX4_step 61 = .ok (.getfield 25, 3) := by decide +kernel
theorem dX4_step_64 : decode cX4_step 64 = .ok (.iload_n 1, 1) := by decide +kernel
theorem dX4_step_65 : decode cX4_step 65 = .ok (.iload_n 2, 1) := by decide +kernel
theorem dX4_step_66 : decode cX4_step 66 = .ok (.iload_n 3, 1) := by decide +kernel
theorem dX4_step_67 : decode cX4_step 67 = .ok (.invokevirtual 81, 3) := by decide +kernel
theorem dX4_step_70 : decode cX4_step 70 = .ok (.ireturn, 1) := by decide +kernel
theorem dX4_change_0 : decode cX4_change 0 = .ok (.aload_n 0, 1) := by decide +kernel
theorem dX4_change_1 : decode cX4_change 1 = .ok (.getfield 25, 3) := by decide +kernel
theorem dX4_change_4 : decode cX4_change 4 = .ok (.iload_n 1, 1) := by decide +kernel
theorem dX4_change_5 : decode cX4_change 5 = .ok (.invokevirtual 71, 3) := by decide +kernel
theorem dX4_change_8 : decode cX4_change 8 = .ok (.ifCond .eq 30, 3) := by decide +kernel
theorem dX4_change_11 : decode cX4_change 11 = .ok (.aload_n 0, 1) := by decide +kernel
theorem dX4_change_12 : decode cX4_change 12 = .ok (.getfield 25, 3) := by decide +kernel
theorem dX4_change_15 : decode cX4_change 15 = .ok (.iload_n 2, 1) := by decide +kernel
theorem dX4_change_16 : decode cX4_change 16 = .ok (.invokevirtual 67, 3) := by decide +kernel
theorem dX4_change_19 : decode cX4_change 19 = .ok (.ifCond .eq 19, 3) := by decide +kernel
theorem dX4_change_22 : decode cX4_change 22 = .ok (.aload_n 0, 1) := by decide +kernel
theorem dX4_change_23 : decode cX4_change 23 = .ok (.getfield 25, 3) := by decide +kernel
theorem dX4_change_26 : decode cX4_change 26 = .ok (.iload_n 3, 1) := by decide +kernel
theorem dX4_change_27 : decode cX4_change 27 = .ok (.invokevirtual 67, 3) := by decide +kernel
theorem dX4_change_30 : decode cX4_change 30 = .ok (.ifCond .eq 8, 3) := by decide +kernel
theorem dX4_change_33 : decode cX4_change 33 = .ok (.iload_n 2, 1) := by decide +kernel
theorem dX4_change_34 : decode cX4_change 34 = .ok (.iload_n 3, 1) := by decide +kernel
theorem dX4_change_35 : decode cX4_change 35 = .ok (.if_icmp .ne 5, 3) := by decide +kernel
theorem dX4_change_38 : decode cX4_change 38 = .ok (.iconst (-1), 1) := by decide +kernel
theorem dX4_change_39 : decode cX4_change 39 = .ok (.ireturn, 1) := by decide +kernel
theorem dX4_change_40 : decode cX4_change 40 = .ok (.iload 4, 2) := by decide +kernel
theorem dX4_change_42 : decode cX4_change 42 = .ok (.bipush 50, 2) := by decide +kernel
theorem dX4_change_44 : decode cX4_change 44 = .ok (.invokestatic 55, 3) := by decide +kernel
theorem dX4_change_47 : decode cX4_change 47 = .ok (.ifCond .ne 6, 3) := by decide +kernel
theorem dX4_change_50 : decode cX4_change 50 = .ok (.bipush (-2), 2) := by decide +kernel
theorem dX4_change_52 : decode cX4_change 52 = .ok (.ireturn, 1) := by decide +kernel
theorem dX4_change_53 : decode cX4_change 53 = .ok (.aload_n 0, 1) := by decide +kernel
theorem dX4_change_54 : decode cX4_change 54 = .ok (.getfield 25, 3) := by decide +kernel
theorem dX4_change_57 : decode cX4_change 57 = .ok (.iload_n 1, 1) := by decide +kernel
theorem dX4_change_58 : decode cX4_change 58 = .ok (.iload_n 2, 1) := by decide +kernel
theorem dX4_change_59 : decode cX4_change 59 = .ok (.iload_n 3, 1) := by decide +kernel
theorem dX4_change_60 : decode cX4_change 60 = .ok (.invokevirtual 84, 3) := by decide +kernel
theorem dX4_change_63 : decode cX4_change 63 = .ok (.istore 5, 2) := by decide +kernel
theorem dX4_change_65 : decode cX4_change 65 = .ok (.aload_n 0, 1) := by decide +kernel
theorem dX4_change_66 : decode cX4_change 66 = .ok (.getfield 25, 3) := by decide +kernel
theorem dX4_change_69 : decode cX4_change 69 = .ok (.iload_n 1, 1) := by decide +kernel
theorem dX4_change_70 : decode cX4_change 70 = .ok (.iload_n 2, 1) := by decide +kernel
theorem dX4_change_71 : decode cX4_change 71 = .ok (.iload_n 3, 1) := by decide +kernel
theorem dX4_change_72 : decode cX4_change 72 = .ok (.iload 4, 2) := by decide +kernel
theorem dX4_change_74 : decode cX4_change 74 = .ok (.invokevirtual 87, 3) := by decide +kernel
theorem dX4_change_77 : decode cX4_change 77 = .ok (.iload 5, 2) := by decide +kernel
theorem dX4_change_79 : decode cX4_change 79 = .ok (.ireturn, 1) := by decide +kernel
theorem dX4_put_0 : decode cX4_put 0 = .ok (.aload_n 0, 1) := by decide +kernel
theorem dX4_put_1 : decode cX4_put 1 = .ok (.getfield 25, 3) := by decide +kernel
theorem dX4_put_4 : decode cX4_put 4 = .ok (.iload_n 1, 1) := by decide +kernel
theorem dX4_put_5 : decode cX4_put 5 = .ok (.invokevirtual 91, 3) := by decide +kernel
theorem dX4_put_8 : decode cX4_put 8 = .ok (.ifCond .ne 5, 3) := by decide +kernel
theorem dX4_put_11 : decode cX4_put 11 = .ok (.iconst (-1), 1) := by decide +kernel
theorem dX4_put_12 : decode cX4_put 12 = .ok (.ireturn, 1) := by decide +kernel
theorem dX4_put_13 : decode cX4_put 13 = .ok (.aload_n 0, 1) := by decide +kernel
theorem dX4_put_14 : decode cX4_put 14 = .ok (.getfield 25, 3) := by decide +kernel
theorem dX4_put_17 : decode cX4_put 17 = .ok (.getfield 94, 3) := by decide +kernel
theorem dX4_put_20 : decode cX4_put 20 = .ok (.iload_n 1, 1) := by decide +kernel
theorem dX4_put_21 : decode cX4_put 21 = .ok (.iaload, 1) := by decide +kernel
theorem dX4_put_22 : decode cX4_put 22 = .ok (.istore_n 3, 1) := by decide +kernel
theorem dX4_put_23 : decode cX4_put 23 = .ok (.iload_n 2, 1) := by decide +kernel
theorem dX4_put_24 : decode cX4_put 24 = .ok (.aload_n 0, 1) := by decide +kernel
theorem dX4_put_25 : decode cX4_put 25 = .ok (.getfield 25, 3) := by decide +kernel
theorem dX4_put_28 : decode cX4_put 28 = .ok (.getfield 97, 3) := by decide +kernel
theorem dX4_put_31 : decode cX4_put 31 = .ok (.iload_n 3, 1) := by decide +kernel
theorem dX4_put_32 : decode cX4_put 32 = .ok (.iaload, 1) := by decide +kernel
theorem dX4_put_33 : decode cX4_put 33 = .ok (.invokestatic 55, 3) := by decide +kernel
theorem dX4_put_36 : decode cX4_put 36 = .ok (.ifCond .ne 6, 3) := by decide +kernel
theorem dX4_put_39 : decode cX4_put 39 = .ok (.bipush (-2), 2) := by decide +kernel
theorem dX4_put_41 : decode cX4_put 41 = .ok (.ireturn, 1) := by decide +kernel
theorem dX4_put_42 : decode cX4_put 42 = .ok (.aload_n 0, 1) := by decide +kernel
theorem dX4_put_43 : decode cX4_put 43 = .ok (.getfield 25, 3) := by decide +kernel
theorem dX4_put_46 : decode cX4_put 46 = .ok (.getfield 100, 3) := by decide +kernel
theorem dX4_put_49 : decode cX4_put 49 = .ok (.iload_n 1, 1) := by decide +kernel
theorem dX4_put_50 : decode cX4_put 50 = .ok (.baload, 1) := by decide +kernel
theorem dX4_put_51 : decode cX4_put 51 = .ok (.ifCond .eq 6, 3) := by decide +kernel
theorem dX4_put_54 : decode cX4_put 54 = .ok (.bipush (-3), 2) := by decide +kernel
theorem dX4_put_56 : decode cX4_put 56 = .ok (.ireturn, 1) := by decide +kernel
theorem dX4_put_57 : decode cX4_put 57 = .ok (.aload_n 0, 1) := by decide +kernel
theorem dX4_put_58 : decode cX4_put 58 = .ok (.getfield 25, 3) := by decide +kernel
theorem dX4_put_61 : decode cX4_put 61 = .ok (.iload_n 1, 1) := by decide +kernel
theorem dX4_put_62 : decode cX4_put 62 = .ok (.iload_n 2, 1) := by decide +kernel
theorem dX4_put_63 : decode cX4_put 63 = .ok (.invokevirtual 104, 3) := by decide +kernel
theorem dX4_put_66 : decode cX4_put 66 = .ok (.aload_n 0, 1) := by decide +kernel
theorem dX4_put_67 : decode cX4_put 67 = .ok (.getfield 25, 3) := by decide +kernel
theorem dX4_put_70 : decode cX4_put 70 = .ok (.getfield 97, 3) := by decide +kernel
theorem dX4_put_73 : decode cX4_put 73 = .ok (.iload_n 3, 1) := by decide +kernel
theorem dX4_put_74 : decode cX4_put 74 = .ok (.iaload, 1) := by decide +kernel
theorem dX4_put_75 : decode cX4_put 75 = .ok (.ireturn, 1) := by decide +kernel
theorem dX4_take_0 : decode cX4_take 0 = .ok (.aload_n 0, 1) := by decide +kernel
theorem dX4_take_1 : decode cX4_take 1 = .ok (.getfield 25, 3) := by decide +kernel
theorem dX4_take_4 : decode cX4_take 4 = .ok (.iload_n 1, 1) := by decide +kernel
theorem dX4_take_5 : decode cX4_take 5 = .ok (.invokevirtual 91, 3) := by decide +kernel
theorem dX4_take_8 : decode cX4_take 8 = .ok (.ifCond .ne 5, 3) := by decide +kernel
theorem dX4_take_11 : decode cX4_take 11 = .ok (.iconst (-1), 1) := by decide +kernel
theorem dX4_take_12 : decode cX4_take 12 = .ok (.ireturn, 1) := by decide +kernel
theorem dX4_take_13 : decode cX4_take 13 = .ok (.aload_n 0, 1) := by decide +kernel
theorem dX4_take_14 : decode cX4_take 14 = .ok (.getfield 25, 3) := by decide +kernel
theorem dX4_take_17 : decode cX4_take 17 = .ok (.getfield 100, 3) := by decide +kernel
theorem dX4_take_20 : decode cX4_take 20 = .ok (.iload_n 1, 1) := by decide +kernel
theorem dX4_take_21 : decode cX4_take 21 = .ok (.baload, 1) := by decide +kernel
theorem dX4_take_22 : decode cX4_take 22 = .ok (.ifCond .ne 6, 3) := by decide +kernel
theorem dX4_take_25 : decode cX4_take 25 = .ok (.bipush (-3), 2) := by decide +kernel
theorem dX4_take_27 : decode cX4_take 27 = .ok (.ireturn, 1) := by decide +kernel
theorem dX4_take_28 : decode cX4_take 28 = .ok (.aload_n 0, 1) := by decide +kernel
theorem dX4_take_29 : decode cX4_take 29 = .ok (.getfield 25, 3) := by decide +kernel
theorem dX4_take_32 : decode cX4_take 32 = .ok (.iload_n 1, 1) := by decide +kernel
theorem dX4_take_33 : decode cX4_take 33 = .ok (.invokevirtual 108, 3) := by decide +kernel
theorem dX4_take_36 : decode cX4_take 36 = .ok (.ireturn, 1) := by decide +kernel
theorem dX4_swap_0 : decode cX4_swap 0 = .ok (.aload_n 0, 1) := by decide +kernel
theorem dX4_swap_1 : decode cX4_swap 1 = .ok (.getfield 25, 3) := by decide +kernel
theorem dX4_swap_4 : decode cX4_swap 4 = .ok (.iload_n 1, 1) := by decide +kernel
theorem dX4_swap_5 : decode cX4_swap 5 = .ok (.iload_n 2, 1) := by decide +kernel
theorem dX4_swap_6 : decode cX4_swap 6 = .ok (.invokevirtual 112, 3) := by decide +kernel
theorem dX4_swap_9 : decode cX4_swap 9 = .ok (.ifCond .ne 5, 3) := by decide +kernel
theorem dX4_swap_12 : decode cX4_swap 12 = .ok (.iconst (-1), 1) := by decide +kernel
theorem dX4_swap_13 : decode cX4_swap 13 = .ok (.ireturn, 1) := by decide +kernel
theorem dX4_swap_14 : decode cX4_swap 14 = .ok (.aload_n 0, 1) := by decide +kernel
theorem dX4_swap_15 : decode cX4_swap 15 = .ok (.getfield 25, 3) := by decide +kernel
theorem dX4_swap_18 : decode cX4_swap 18 = .ok (.iload_n 1, 1) := by decide +kernel
theorem dX4_swap_19 : decode cX4_swap 19 = .ok (.iload_n 2, 1) := by decide +kernel
theorem dX4_swap_20 : decode cX4_swap 20 = .ok (.invokevirtual 115, 3) := by decide +kernel
theorem dX4_swap_23 : decode cX4_swap 23 = .ok (.iconst 1, 1) := by decide +kernel
theorem dX4_swap_24 : decode cX4_swap 24 = .ok (.ireturn, 1) := by decide +kernel
theorem dX4_at_0 : decode cX4_at 0 = .ok (.aload_n 0, 1) := by decide +kernel
theorem dX4_at_1 : decode cX4_at 1 = .ok (.getfield 25, 3) := by decide +kernel
theorem dX4_at_4 : decode cX4_at 4 = .ok (.iload_n 1, 1) := by decide +kernel
theorem dX4_at_5 : decode cX4_at 5 = .ok (.invokevirtual 71, 3) := by decide +kernel
theorem dX4_at_8 : decode cX4_at 8 = .ok (.ifCond .ne 5, 3) := by decide +kernel
theorem dX4_at_11 : decode cX4_at 11 = .ok (.iconst (-1), 1) := by decide +kernel
theorem dX4_at_12 : decode cX4_at 12 = .ok (.ireturn, 1) := by decide +kernel
theorem dX4_at_13 : decode cX4_at 13 = .ok (.aload_n 0, 1) := by decide +kernel
theorem dX4_at_14 : decode cX4_at 14 = .ok (.getfield 25, 3) := by decide +kernel
theorem dX4_at_17 : decode cX4_at 17 = .ok (.getfield 97, 3) := by decide +kernel
theorem dX4_at_20 : decode cX4_at 20 = .ok (.iload_n 1, 1) := by decide +kernel
theorem dX4_at_21 : decode cX4_at 21 = .ok (.iaload, 1) := by decide +kernel
theorem dX4_at_22 : decode cX4_at 22 = .ok (.istore_n 3, 1) := by decide +kernel
theorem dX4_at_23 : decode cX4_at 23 = .ok (.iload_n 2, 1) := by decide +kernel
theorem dX4_at_24 : decode cX4_at 24 = .ok (.iconst (-1), 1) := by decide +kernel
theorem dX4_at_25 : decode cX4_at 25 = .ok (.if_icmp .ne 5, 3) := by decide +kernel
theorem dX4_at_28 : decode cX4_at 28 = .ok (.iload_n 3, 1) := by decide +kernel
theorem dX4_at_29 : decode cX4_at 29 = .ok (.ireturn, 1) := by decide +kernel
theorem dX4_at_30 : decode cX4_at 30 = .ok (.iload_n 2, 1) := by decide +kernel
theorem dX4_at_31 : decode cX4_at 31 = .ok (.ifCond .lt 22, 3) := by decide +kernel
theorem dX4_at_34 : decode cX4_at 34 = .ok (.iload_n 2, 1) := by decide +kernel
theorem dX4_at_35 : decode cX4_at 35 = .ok (.iload_n 3, 1) := by decide +kernel
theorem dX4_at_36 : decode cX4_at 36 = .ok (.if_icmp .ge 17, 3) := by decide +kernel
theorem dX4_at_39 : decode cX4_at 39 = .ok (.aload_n 0, 1) := by decide +kernel
theorem dX4_at_40 : decode cX4_at 40 = .ok (.getfield 25, 3) := by decide +kernel
theorem dX4_at_43 : decode cX4_at 43 = .ok (.getfield 118, 3) := by decide +kernel
theorem dX4_at_46 : decode cX4_at 46 = .ok (.iload_n 1, 1) := by decide +kernel
theorem dX4_at_47 : decode cX4_at 47 = .ok (.aaload, 1) := by decide +kernel
theorem dX4_at_48 : decode cX4_at 48 = .ok (.iload_n 2, 1) := by decide +kernel
theorem dX4_at_49 : decode cX4_at 49 = .ok (.iaload, 1) := by decide +kernel
theorem dX4_at_50 : decode cX4_at 50 = .ok (.goto 4, 3) := by decide +kernel
theorem dX4_at_53 : decode cX4_at 53 = .ok (.iconst (-1), 1) := by decide +kernel
theorem dX4_at_54 : decode cX4_at 54 = .ok (.ireturn, 1) := by decide +kernel
theorem dX4_fill_0 : decode cX4_fill 0 = .ok (.iload_n 1, 1) := by decide +kernel
theorem dX4_fill_1 : decode cX4_fill 1 = .ok (.iconst 3, 1) := by decide +kernel
theorem dX4_fill_2 : decode cX4_fill 2 = .ok (.invokestatic 55, 3) := by decide +kernel
theorem dX4_fill_5 : decode cX4_fill 5 = .ok (.ifCond .ne 6, 3) := by decide +kernel
theorem dX4_fill_8 : decode cX4_fill 8 = .ok (.bipush (-2), 2) := by decide +kernel
theorem dX4_fill_10 : decode cX4_fill 10 = .ok (.ireturn, 1) := by decide +kernel
theorem dX4_fill_11 : decode cX4_fill 11 = .ok (.aload_n 0, 1) := by decide +kernel
theorem dX4_fill_12 : decode cX4_fill 12 = .ok (.getfield 44, 3) := by decide +kernel
theorem dX4_fill_15 : decode cX4_fill 15 = .ok (.iload_n 1, 1) := by decide +kernel
theorem dX4_fill_16 : decode cX4_fill 16 = .ok (.invokevirtual 122, 3) := by decide +kernel
theorem dX4_fill_19 : decode cX4_fill 19 = .ok (.aload_n 0, 1) := by decide +kernel
theorem dX4_fill_20 : decode cX4_fill 20 = .ok (.getfield 25, 3) := by decide +kernel
theorem dX4_fill_23 : decode cX4_fill 23 = .ok (.getfield 125, 3) := by decide +kernel
theorem dX4_fill_26 : decode cX4_fill 26 = .ok (.ireturn, 1) := by decide +kernel
theorem dX4_state_0 : decode cX4_state 0 = .ok (.aload_n 0, 1) := by decide +kernel
theorem dX4_state_1 : decode cX4_state 1 = .ok (.getfield 34, 3) := by decide +kernel
theorem dX4_state_4 : decode cX4_state 4 = .ok (.invokevirtual 128, 3) := by decide +kernel
theorem dX4_state_7 : decode cX4_state 7 = .ok (.ireturn, 1) := by decide +kernel
theorem dX4_when_0 : decode cX4_when 0 = .ok (.aload_n 0, 1) := by decide +kernel
theorem dX4_when_1 : decode cX4_when 1 = .ok (.getfield 25, 3) := by decide +kernel
theorem dX4_when_4 : decode cX4_when 4 = .ok (.iload_n 1, 1) := by decide +kernel
theorem dX4_when_5 : decode cX4_when 5 = .ok (.invokevirtual 91, 3) := by decide +kernel
theorem dX4_when_8 : decode cX4_when 8 = .ok (.ifCond .ne 5, 3) := by decide +kernel
theorem dX4_when_11 : decode cX4_when 11 = .ok (.iconst (-1), 1) := by decide +kernel
theorem dX4_when_12 : decode cX4_when 12 = .ok (.ireturn, 1) := by decide +kernel
theorem dX4_when_13 : decode cX4_when 13 = .ok (.iload_n 2, 1) := by decide +kernel
theorem dX4_when_14 : decode cX4_when 14 = .ok (.iconst 2, 1) := by decide +kernel
theorem dX4_when_15 : decode cX4_when 15 = .ok (.invokestatic 55, 3) := by decide +kernel
theorem dX4_when_18 : decode cX4_when 18 = .ok (.ifCond .ne 6, 3) := by decide +kernel
theorem dX4_when_21 : decode cX4_when 21 = .ok (.bipush (-2), 2) := by decide +kernel
theorem dX4_when_23 : decode cX4_when 23 = .ok (.ireturn, 1) := by decide +kernel
theorem dX4_when_24 : decode cX4_when 24 = .ok (.aload_n 0, 1) := by decide +kernel
theorem dX4_when_25 : decode cX4_when 25 = .ok (.getfield 34, 3) := by decide +kernel
theorem dX4_when_28 : decode cX4_when 28 = .ok (.invokevirtual 128, 3) := by decide +kernel
theorem dX4_when_31 : decode cX4_when 31 = .ok (.ifCond .eq 6, 3) := by decide +kernel
theorem dX4_when_34 : decode cX4_when 34 = .ok (.bipush (-3), 2) := by decide +kernel
theorem dX4_when_36 : decode cX4_when 36 = .ok (.ireturn, 1) := by decide +kernel
theorem dX4_when_37 : decode cX4_when 37 = .ok (.iload_n 2, 1) := by decide +kernel
theorem dX4_when_38 : decode cX4_when 38 = .ok (.ifCond .ne 13, 3) := by decide +kernel
theorem dX4_when_41 : decode cX4_when 41 = .ok (.aload_n 0, 1) := by decide +kernel
theorem dX4_when_42 : decode cX4_when 42 = .ok (.getfield 34, 3) := by decide +kernel
theorem dX4_when_45 : decode cX4_when 45 = .ok (.getfield 132, 3) := by decide +kernel
theorem dX4_when_48 : decode cX4_when 48 = .ok (.iload_n 1, 1) := by decide +kernel
theorem dX4_when_49 : decode cX4_when 49 = .ok (.iaload, 1) := by decide +kernel
theorem dX4_when_50 : decode cX4_when 50 = .ok (.ireturn, 1) := by decide +kernel
theorem dX4_when_51 : decode cX4_when 51 = .ok (.iload_n 2, 1) := by decide +kernel
theorem dX4_when_52 : decode cX4_when 52 = .ok (.iconst 1, 1) := by decide +kernel
theorem dX4_when_53 : decode cX4_when 53 = .ok (.if_icmp .ne 12, 3) := by decide +kernel
theorem dX4_when_56 : decode cX4_when 56 = .ok (.aload_n 0, 1) := by decide +kernel
theorem dX4_when_57 : decode cX4_when 57 = .ok (.getfield 34, 3) := by decide +kernel
theorem dX4_when_60 : decode cX4_when 60 = .ok (.iload_n 1, 1) := by decide +kernel
theorem dX4_when_61 : decode cX4_when 61 = .ok (.invokevirtual 135, 3) := by decide +kernel
theorem dX4_when_64 : decode cX4_when 64 = .ok (.ireturn, 1) := by decide +kernel
theorem dX4_when_65 : decode cX4_when 65 = .ok (.aload_n 0, 1) := by decide +kernel
theorem dX4_when_66 : decode cX4_when 66 = .ok (.getfield 34, 3) := by decide +kernel
theorem dX4_when_69 : decode cX4_when 69 = .ok (.invokevirtual 138, 3) := by decide +kernel
theorem dX4_when_72 : decode cX4_when 72 = .ok (.aload_n 0, 1) := by decide +kernel
theorem dX4_when_73 : decode cX4_when 73 = .ok (.getfield 34, 3) := by decide +kernel
theorem dX4_when_76 : decode cX4_when 76 = .ok (.iload_n 1, 1) := by decide +kernel
theorem dX4_when_77 : decode cX4_when 77 = .ok (.invokevirtual 141, 3) := by decide +kernel
theorem dX4_when_80 : decode cX4_when 80 = .ok (.ireturn, 1) := by decide +kernel
theorem dX4_span_0 : decode cX4_span 0 = .ok (.aload_n 0, 1) := by decide +kernel
theorem dX4_span_1 : decode cX4_span 1 = .ok (.getfield 34, 3) := by decide +kernel
theorem dX4_span_4 : decode cX4_span 4 = .ok (.invokevirtual 128, 3) := by decide +kernel
theorem dX4_span_7 : decode cX4_span 7 = .ok (.ifCond .ne 13, 3) := by decide +kernel
theorem dX4_span_10 : decode cX4_span 10 = .ok (.aload_n 0, 1) := by decide +kernel
theorem dX4_span_11 : decode cX4_span 11 = .ok (.getfield 34, 3) := by decide +kernel
theorem dX4_span_14 : decode cX4_span 14 = .ok (.getfield 144, 3) := by decide +kernel
theorem dX4_span_17 : decode cX4_span 17 = .ok (.goto 5, 3) := by decide +kernel
theorem dX4_span_20 : decode cX4_span 20 = .ok (.bipush (-3), 2) := by decide +kernel
theorem dX4_span_22 : decode cX4_span 22 = .ok (.ireturn, 1) := by decide +kernel
theorem dX4_late_0 : decode cX4_late 0 = .ok (.aload_n 0, 1) := by decide +kernel
theorem dX4_late_1 : decode cX4_late 1 = .ok (.getfield 34, 3) := by decide +kernel
theorem dX4_late_4 : decode cX4_late 4 = .ok (.invokevirtual 128, 3) := by decide +kernel
theorem dX4_late_7 : decode cX4_late 7 = .ok (.ifCond .eq 7, 3) := by decide +kernel
theorem dX4_late_10 : decode cX4_late 10 = .ok (.ldc2_w 147, 3) := by decide +kernel
theorem dX4_late_13 : decode cX4_late 13 = .ok (.lreturn, 1) := by decide +kernel
theorem dX4_late_14 : decode cX4_late 14 = .ok (.lconst 0, 1) := by decide +kernel
theorem dX4_late_15 : decode cX4_late 15 = .ok (.lstore_n 1, 1) := by decide +kernel
theorem dX4_late_16 : decode cX4_late 16 = .ok (.iconst 0, 1) := by decide +kernel
theorem dX4_late_17 : decode cX4_late 17 = .ok (.istore_n 3, 1) := by decide +kernel
theorem dX4_late_18 : decode cX4_late 18 = .ok (.iload_n 3, 1) := by decide +kernel
theorem dX4_late_19 : decode cX4_late 19 = .ok (.aload_n 0, 1) := by decide +kernel
theorem dX4_late_20 : decode cX4_late 20 = .ok (.getfield 25, 3) := by decide +kernel
theorem dX4_late_23 : decode cX4_late 23 = .ok (.getfield 59, 3) := by decide +kernel
theorem dX4_late_26 : decode cX4_late 26 = .ok (.if_icmp .ge 50, 3) := by decide +kernel
theorem dX4_late_29 : decode cX4_late 29 = .ok (.iconst 0, 1) := by decide +kernel
theorem dX4_late_30 : decode cX4_late 30 = .ok (.aload_n 0, 1) := by decide +kernel
theorem dX4_late_31 : decode cX4_late 31 = .ok (.getfield 34, 3) := by decide +kernel
theorem dX4_late_34 : decode cX4_late 34 = .ok (.iload_n 3, 1) := by decide +kernel
theorem dX4_late_35 : decode cX4_late 35 = .ok (.invokevirtual 149, 3) := by decide +kernel
theorem dX4_late_38 : decode cX4_late 38 = .ok (.aload_n 0, 1) := by decide +kernel
theorem dX4_late_39 : decode cX4_late 39 = .ok (.getfield 25, 3) := by decide +kernel
theorem dX4_late_42 : decode cX4_late 42 = .ok (.getfield 152, 3) := by decide +kernel
theorem dX4_late_45 : decode cX4_late 45 = .ok (.iload_n 3, 1) := by decide +kernel
theorem dX4_late_46 : decode cX4_late 46 = .ok (.iaload, 1) := by decide +kernel
theorem dX4_late_47 : decode cX4_late 47 = .ok (.isub, 1) := by decide +kernel
theorem dX4_late_48 : decode cX4_late 48 = .ok (.invokestatic 19, 3) := by decide +kernel
theorem dX4_late_51 : decode cX4_late 51 = .ok (.i2l, 1) := by decide +kernel
theorem dX4_late_52 : decode cX4_late 52 = .ok (.lstore 4, 2) := by decide +kernel
theorem dX4_late_54 : decode cX4_late 54 = .ok (.lload_n 1, 1) := by decide +kernel
theorem dX4_late_55 : decode cX4_late 55 = .ok (.aload_n 0, 1) := by decide +kernel
theorem dX4_late_56 : decode cX4_late 56 = .ok (.getfield 25, 3) := by decide +kernel
theorem dX4_late_59 : decode cX4_late 59 = .ok (.getfield 155, 3) := by decide +kernel
theorem dX4_late_62 : decode cX4_late 62 = .ok (.iload_n 3, 1) := by decide +kernel
theorem dX4_late_63 : decode cX4_late 63 = .ok (.iaload, 1) := by decide +kernel
theorem dX4_late_64 : decode cX4_late 64 = .ok (.i2l, 1) := by decide +kernel
theorem dX4_late_65 : decode cX4_late 65 = .ok (.lload 4, 2) := by decide +kernel
theorem dX4_late_67 : decode cX4_late 67 = .ok (.lmul, 1) := by decide +kernel
theorem dX4_late_68 : decode cX4_late 68 = .ok (.ladd, 1) := by decide +kernel
theorem dX4_late_69 : decode cX4_late 69 = .ok (.lstore_n 1, 1) := by decide +kernel
theorem dX4_late_70 : decode cX4_late 70 = .ok (.iinc 3 1, 3) := by decide +kernel
theorem dX4_late_73 : decode cX4_late 73 = .ok (.goto (-55), 3) := by decide +kernel
theorem dX4_late_76 : decode cX4_late 76 = .ok (.lload_n 1, 1) := by decide +kernel
theorem dX4_late_77 : decode cX4_late 77 = .ok (.lreturn, 1) := by decide +kernel
theorem dX4_swapped_0 : decode cX4_swapped 0 = .ok (.aload_n 0, 1) := by decide +kernel
theorem dX4_swapped_1 : decode cX4_swapped 1 = .ok (.getfield 25, 3) := by decide +kernel
theorem dX4_swapped_4 : decode cX4_swapped 4 = .ok (.iload_n 1, 1) := by decide +kernel
theorem dX4_swapped_5 : decode cX4_swapped 5 = .ok (.iload_n 2, 1) := by decide +kernel
theorem dX4_swapped_6 : decode cX4_swapped 6 = .ok (.invokevirtual 112, 3) := by decide +kernel
theorem dX4_swapped_9 : decode cX4_swapped 9 = .ok (.ifCond .ne 5, 3) := by decide +kernel
theorem dX4_swapped_12 : decode cX4_swapped 12 = .ok (.iconst (-1), 1) := by decide +kernel
theorem dX4_swapped_13 : decode cX4_swapped 13 = .ok (.ireturn, 1) := by decide +kernel
theorem dX4_swapped_14 : decode cX4_swapped 14 = .ok (.aload_n 0, 1) := by decide +kernel
theorem dX4_swapped_15 : decode cX4_swapped 15 = .ok (.getfield 34, 3) := by decide +kernel
theorem dX4_swapped_18 : decode cX4_swapped 18 = .ok (.invokevirtual 128, 3) := by decide +kernel
theorem dX4_swapped_21 : decode cX4_swapped 21 = .ok (.ifCond .eq 6, 3) := by decide +kernel
theorem dX4_swapped_24 : decode cX4_swapped 24 = .ok (.bipush (-3), 2) := by decide +kernel
theorem dX4_swapped_26 : decode cX4_swapped 26 = .ok (.ireturn, 1) := by decide +kernel
theorem dX4_swapped_27 : decode cX4_swapped 27 = .ok (.aload_n 0, 1) := by decide +kernel
theorem dX4_swapped_28 : decode cX4_swapped 28 = .ok (.iload_n 1, 1) := by decide +kernel
theorem dX4_swapped_29 : decode cX4_swapped 29 = .ok (.iload_n 2, 1) := by decide +kernel
theorem dX4_swapped_30 : decode cX4_swapped 30 = .ok (.invokevirtual 158, 3) := by decide +kernel
theorem dX4_swapped_33 : decode cX4_swapped 33 = .ok (.ireturn, 1) := by decide +kernel
theorem dX4_better_0 : decode cX4_better 0 = .ok (.aload_n 0, 1) := by decide +kernel
theorem dX4_better_1 : decode cX4_better 1 = .ok (.getfield 34, 3) := by decide +kernel
theorem dX4_better_4 : decode cX4_better 4 = .ok (.invokevirtual 128, 3) := by decide +kernel
theorem dX4_better_7 : decode cX4_better 7 = .ok (.ifCond .eq 6, 3) := by decide +kernel
theorem dX4_better_10 : decode cX4_better 10 = .ok (.bipush (-3), 2) := by decide +kernel
theorem dX4_better_12 : decode cX4_better 12 = .ok (.ireturn, 1) := by decide +kernel
theorem dX4_better_13 : decode cX4_better 13 = .ok (.aload_n 0, 1) := by decide +kernel
theorem dX4_better_14 : decode cX4_better 14 = .ok (.getfield 34, 3) := by decide +kernel
theorem dX4_better_17 : decode cX4_better 17 = .ok (.invokevirtual 138, 3) := by decide +kernel
theorem dX4_better_20 : decode cX4_better 20 = .ok (.bipush (-3), 2) := by decide +kernel
theorem dX4_better_22 : decode cX4_better 22 = .ok (.istore_n 1, 1) := by decide +kernel
theorem dX4_better_23 : decode cX4_better 23 = .ok (.aload_n 0, 1) := by decide +kernel
theorem dX4_better_24 : decode cX4_better 24 = .ok (.getfield 34, 3) := by decide +kernel
theorem dX4_better_27 : decode cX4_better 27 = .ok (.getfield 144, 3) := by decide +kernel
theorem dX4_better_30 : decode cX4_better 30 = .ok (.istore_n 2, 1) := by decide +kernel
theorem dX4_better_31 : decode cX4_better 31 = .ok (.iconst 0, 1) := by decide +kernel
theorem dX4_better_32 : decode cX4_better 32 = .ok (.istore_n 3, 1) := by decide +kernel
theorem dX4_better_33 : decode cX4_better 33 = .ok (.iload_n 3, 1) := by decide +kernel
theorem dX4_better_34 : decode cX4_better 34 = .ok (.aload_n 0, 1) := by decide +kernel
theorem dX4_better_35 : decode cX4_better 35 = .ok (.getfield 25, 3) := by decide +kernel
theorem dX4_better_38 : decode cX4_better 38 = .ok (.getfield 161, 3) := by decide +kernel
theorem dX4_better_41 : decode cX4_better 41 = .ok (.if_icmp .ge 80, 3) := by decide +kernel
theorem dX4_better_44 : decode cX4_better 44 = .ok (.iconst 0, 1) := by decide +kernel
theorem dX4_better_45 : decode cX4_better 45 = .ok (.istore 4, 2) := by decide +kernel
theorem dX4_better_47 : decode cX4_better 47 = .ok (.iload 4, 2) := by decide +kernel
theorem dX4_better_49 : decode cX4_better 49 = .ok (.iconst 1, 1) := by decide +kernel
theorem dX4_better_50 : decode cX4_better 50 = .ok (.iadd, 1) := by decide +kernel
theorem dX4_better_51 : decode cX4_better 51 = .ok (.aload_n 0, 1) := by decide +kernel
theorem dX4_better_52 : decode cX4_better 52 = .ok (.getfield 25, 3) := by decide +kernel
theorem dX4_better_55 : decode cX4_better 55 = .ok (.getfield 97, 3) := by decide +kernel
theorem dX4_better_58 : decode cX4_better 58 = .ok (.iload_n 3, 1) := by decide +kernel
theorem dX4_better_59 : decode cX4_better 59 = .ok (.iaload, 1) := by decide +kernel
theorem dX4_better_60 : decode cX4_better 60 = .ok (.if_icmp .ge 55, 3) := by decide +kernel
theorem dX4_better_63 : decode cX4_better 63 = .ok (.aload_n 0, 1) := by decide +kernel
theorem dX4_better_64 : decode cX4_better 64 = .ok (.iload_n 3, 1) := by decide +kernel
theorem dX4_better_65 : decode cX4_better 65 = .ok (.iload 4, 2) := by decide +kernel
theorem dX4_better_67 : decode cX4_better 67 = .ok (.invokevirtual 164, 3) := by decide +kernel
theorem dX4_better_70 : decode cX4_better 70 = .ok (.ifCond .ne 6, 3) := by decide +kernel
theorem dX4_better_73 : decode cX4_better 73 = .ok (.goto 36, 3) := by decide +kernel
theorem dX4_better_76 : decode cX4_better 76 = .ok (.aload_n 0, 1) := by decide +kernel
theorem dX4_better_77 : decode cX4_better 77 = .ok (.iload_n 3, 1) := by decide +kernel
theorem dX4_better_78 : decode cX4_better 78 = .ok (.iload 4, 2) := by decide +kernel
theorem dX4_better_80 : decode cX4_better 80 = .ok (.invokevirtual 158, 3) := by decide +kernel
theorem dX4_better_83 : decode cX4_better 83 = .ok (.istore 5, 2) := by decide +kernel
theorem dX4_better_85 : decode cX4_better 85 = .ok (.iload 5, 2) := by decide +kernel
theorem dX4_better_87 : decode cX4_better 87 = .ok (.bipush (-3), 2) := by decide +kernel
theorem dX4_better_89 : decode cX4_better 89 = .ok (.if_icmp .eq 20, 3) := by decide +kernel
theorem dX4_better_92 : decode cX4_better 92 = .ok (.iload 5, 2) := by decide +kernel
theorem dX4_better_94 : decode cX4_better 94 = .ok (.iload_n 2, 1) := by decide +kernel
theorem dX4_better_95 : decode cX4_better 95 = .ok (.if_icmp .ge 14, 3) := by decide +kernel
theorem dX4_better_98 : decode cX4_better 98 = .ok (.iload 5, 2) := by decide +kernel
theorem dX4_better_100 : decode cX4_better 100 = .ok (.istore_n 2, 1) := by decide +kernel
theorem dX4_better_101 : decode cX4_better 101 = .ok (.bipush 100, 2) := by decide +kernel
theorem dX4_better_103 : decode cX4_better 103 = .ok (.iload_n 3, 1) := by decide +kernel
theorem dX4_better_104 : decode cX4_better 104 = .ok (.imul, 1) := by decide +kernel
theorem dX4_better_105 : decode cX4_better 105 = .ok (.iload 4, 2) := by decide +kernel
theorem dX4_better_107 : decode cX4_better 107 = .ok (.iadd, 1) := by decide +kernel
theorem dX4_better_108 : decode cX4_better 108 = .ok (.istore_n 1, 1) := by decide +kernel
theorem dX4_better_109 : decode cX4_better 109 = .ok (.iinc 4 1, 3) := by decide +kernel
theorem dX4_better_112 : decode cX4_better 112 = .ok (.goto (-65), 3) := by decide +kernel
theorem dX4_better_115 : decode cX4_better 115 = .ok (.iinc 3 1, 3) := by decide +kernel
theorem dX4_better_118 : decode cX4_better 118 = .ok (.goto (-85), 3) := by decide +kernel
theorem dX4_better_121 : decode cX4_better 121 = .ok (.iload_n 1, 1) := by decide +kernel
theorem dX4_better_122 : decode cX4_better 122 = .ok (.ireturn, 1) := by decide +kernel
theorem dX4_part_0 : decode cX4_part 0 = .ok (.aload_n 0, 1) := by decide +kernel
theorem dX4_part_1 : decode cX4_part 1 = .ok (.getfield 25, 3) := by decide +kernel
theorem dX4_part_4 : decode cX4_part 4 = .ok (.iload_n 1, 1) := by decide +kernel
theorem dX4_part_5 : decode cX4_part 5 = .ok (.invokevirtual 91, 3) := by decide +kernel
theorem dX4_part_8 : decode cX4_part 8 = .ok (.ifCond .ne 5, 3) := by decide +kernel
theorem dX4_part_11 : decode cX4_part 11 = .ok (.iconst (-1), 1) := by decide +kernel
theorem dX4_part_12 : decode cX4_part 12 = .ok (.ireturn, 1) := by decide +kernel
theorem dX4_part_13 : decode cX4_part 13 = .ok (.iload_n 2, 1) := by decide +kernel
theorem dX4_part_14 : decode cX4_part 14 = .ok (.iconst 1, 1) := by decide +kernel
theorem dX4_part_15 : decode cX4_part 15 = .ok (.invokestatic 55, 3) := by decide +kernel
theorem dX4_part_18 : decode cX4_part 18 = .ok (.ifCond .ne 6, 3) := by decide +kernel
theorem dX4_part_21 : decode cX4_part 21 = .ok (.bipush (-2), 2) := by decide +kernel
theorem dX4_part_23 : decode cX4_part 23 = .ok (.ireturn, 1) := by decide +kernel
theorem dX4_part_24 : decode cX4_part 24 = .ok (.iload_n 2, 1) := by decide +kernel
theorem dX4_part_25 : decode cX4_part 25 = .ok (.ifCond .ne 14, 3) := by decide +kernel
theorem dX4_part_28 : decode cX4_part 28 = .ok (.aload_n 0, 1) := by decide +kernel
theorem dX4_part_29 : decode cX4_part 29 = .ok (.getfield 25, 3) := by decide +kernel
theorem dX4_part_32 : decode cX4_part 32 = .ok (.iload_n 1, 1) := by decide +kernel
theorem dX4_part_33 : decode cX4_part 33 = .ok (.invokevirtual 167, 3) := by decide +kernel
theorem dX4_part_36 : decode cX4_part 36 = .ok (.goto 11, 3) := by decide +kernel
theorem dX4_part_39 : decode cX4_part 39 = .ok (.aload_n 0, 1) := by decide +kernel
theorem dX4_part_40 : decode cX4_part 40 = .ok (.getfield 25, 3) := by decide +kernel
theorem dX4_part_43 : decode cX4_part 43 = .ok (.iload_n 1, 1) := by decide +kernel
theorem dX4_part_44 : decode cX4_part 44 = .ok (.invokevirtual 170, 3) := by decide +kernel
theorem dX4_part_47 : decode cX4_part 47 = .ok (.ireturn, 1) := by decide +kernel
theorem dX4_bound_0 : decode cX4_bound 0 = .ok (.aload_n 0, 1) := by decide +kernel
theorem dX4_bound_1 : decode cX4_bound 1 = .ok (.getfield 25, 3) := by decide +kernel
theorem dX4_bound_4 : decode cX4_bound 4 = .ok (.iload_n 1, 1) := by decide +kernel
theorem dX4_bound_5 : decode cX4_bound 5 = .ok (.invokevirtual 71, 3) := by decide +kernel
theorem dX4_bound_8 : decode cX4_bound 8 = .ok (.ifCond .ne 5, 3) := by decide +kernel
theorem dX4_bound_11 : decode cX4_bound 11 = .ok (.iconst (-1), 1) := by decide +kernel
theorem dX4_bound_12 : decode cX4_bound 12 = .ok (.ireturn, 1) := by decide +kernel
theorem dX4_bound_13 : decode cX4_bound 13 = .ok (.aload_n 0, 1) := by decide +kernel
theorem dX4_bound_14 : decode cX4_bound 14 = .ok (.getfield 51, 3) := by decide +kernel
theorem dX4_bound_17 : decode cX4_bound 17 = .ok (.iload_n 1, 1) := by decide +kernel
theorem dX4_bound_18 : decode cX4_bound 18 = .ok (.invokevirtual 173, 3) := by decide +kernel
theorem dX4_bound_21 : decode cX4_bound 21 = .ok (.ifCond .eq 14, 3) := by decide +kernel
theorem dX4_bound_24 : decode cX4_bound 24 = .ok (.aload_n 0, 1) := by decide +kernel
theorem dX4_bound_25 : decode cX4_bound 25 = .ok (.getfield 51, 3) := by decide +kernel
theorem dX4_bound_28 : decode cX4_bound 28 = .ok (.iload_n 1, 1) := by decide +kernel
theorem dX4_bound_29 : decode cX4_bound 29 = .ok (.invokevirtual 176, 3) := by decide +kernel
theorem dX4_bound_32 : decode cX4_bound 32 = .ok (.goto 5, 3) := by decide +kernel
theorem dX4_bound_35 : decode cX4_bound 35 = .ok (.bipush (-3), 2) := by decide +kernel
theorem dX4_bound_37 : decode cX4_bound 37 = .ok (.ireturn, 1) := by decide +kernel
theorem dX4_low_0 : decode cX4_low 0 = .ok (.aload_n 0, 1) := by decide +kernel
theorem dX4_low_1 : decode cX4_low 1 = .ok (.getfield 51, 3) := by decide +kernel
theorem dX4_low_4 : decode cX4_low 4 = .ok (.invokevirtual 179, 3) := by decide +kernel
theorem dX4_low_7 : decode cX4_low 7 = .ok (.ireturn, 1) := by decide +kernel
theorem dX4_share_0 : decode cX4_share 0 = .ok (.aload_n 0, 1) := by decide +kernel
theorem dX4_share_1 : decode cX4_share 1 = .ok (.getfield 34, 3) := by decide +kernel
theorem dX4_share_4 : decode cX4_share 4 = .ok (.invokevirtual 128, 3) := by decide +kernel
theorem dX4_share_7 : decode cX4_share 7 = .ok (.ifCond .eq 7, 3) := by decide +kernel
theorem dX4_share_10 : decode cX4_share 10 = .ok (.ldc2_w 147, 3) := by decide +kernel
theorem dX4_share_13 : decode cX4_share 13 = .ok (.lreturn, 1) := by decide +kernel
theorem dX4_share_14 : decode cX4_share 14 = .ok (.aload_n 0, 1) := by decide +kernel
theorem dX4_share_15 : decode cX4_share 15 = .ok (.getfield 51, 3) := by decide +kernel
theorem dX4_share_18 : decode cX4_share 18 = .ok (.invokevirtual 179, 3) := by decide +kernel
theorem dX4_share_21 : decode cX4_share 21 = .ok (.i2l, 1) := by decide +kernel
theorem dX4_share_22 : decode cX4_share 22 = .ok (.lstore_n 1, 1) := by decide +kernel
theorem dX4_share_23 : decode cX4_share 23 = .ok (.lload_n 1, 1) := by decide +kernel
theorem dX4_share_24 : decode cX4_share 24 = .ok (.lconst 0, 1) := by decide +kernel
theorem dX4_share_25 : decode cX4_share 25 = .ok (.lcmp, 1) := by decide +kernel
theorem dX4_share_26 : decode cX4_share 26 = .ok (.ifCond .ne 13, 3) := by decide +kernel
theorem dX4_share_29 : decode cX4_share 29 = .ok (.new 182, 3) := by decide +kernel
theorem dX4_share_32 : decode cX4_share 32 = .ok (.dup, 1) := by decide +kernel
theorem dX4_share_33 : decode cX4_share 33 = .ok (.ldc 184, 2) := by decide +kernel
theorem dX4_share_35 : decode cX4_share 35 = .ok (.invokespecial 186, 3) := by decide +kernel
theorem dX4_share_38 : decode cX4_share 38 = .ok (.athrow, 1) := by decide +kernel
theorem dX4_share_39 : decode cX4_share 39 = .ok (.ldc2_w 189, 3) := by decide +kernel
theorem dX4_share_42 : decode cX4_share 42 = .ok (.aload_n 0, 1) := by decide +kernel
theorem dX4_share_43 : decode cX4_share 43 = .ok (.getfield 34, 3) := by decide +kernel
theorem dX4_share_46 : decode cX4_share 46 = .ok (.getfield 144, 3) := by decide +kernel
theorem dX4_share_49 : decode cX4_share 49 = .ok (.i2l, 1) := by decide +kernel
theorem dX4_share_50 : decode cX4_share 50 = .ok (.lmul, 1) := by decide +kernel
theorem dX4_share_51 : decode cX4_share 51 = .ok (.lload_n 1, 1) := by decide +kernel
theorem dX4_share_52 : decode cX4_share 52 = .ok (.ldiv, 1) := by decide +kernel
theorem dX4_share_53 : decode cX4_share 53 = .ok (.lreturn, 1) := by decide +kernel
theorem dX4_isWithin_0 : decode cX4_isWithin 0 = .ok (.iload_n 0, 1) := by decide +kernel
theorem dX4_isWithin_1 : decode cX4_isWithin 1 = .ok (.ifCond .lt 12, 3) := by decide +kernel
theorem dX4_isWithin_4 : decode cX4_isWithin 4 = .ok (.iload_n 0, 1) := by decide +kernel
theorem dX4_isWithin_5 : decode cX4_isWithin 5 = .ok (.iload_n 1, 1) := by decide +kernel
theorem dX4_isWithin_6 : decode cX4_isWithin 6 = .ok (.if_icmp .gt 7, 3) := by decide +kernel
theorem dX4_isWithin_9 : decode cX4_isWithin 9 = .ok (.iconst 1, 1) := by decide +kernel
theorem dX4_isWithin_10 : decode cX4_isWithin 10 = .ok (.goto 4, 3) := by decide +kernel
theorem dX4_isWithin_13 : decode cX4_isWithin 13 = .ok (.iconst 0, 1) := by decide +kernel
theorem dX4_isWithin_14 : decode cX4_isWithin 14 = .ok (.ireturn, 1) := by decide +kernel
theorem dX4_areCritical_0 : decode cX4_areCritical 0 = .ok (.aload_n 0, 1) := by decide +kernel
theorem dX4_areCritical_1 : decode cX4_areCritical 1 = .ok (.getfield 25, 3) := by decide +kernel
theorem dX4_areCritical_4 : decode cX4_areCritical 4 = .ok (.getfield 118, 3) := by decide +kernel
theorem dX4_areCritical_7 : decode cX4_areCritical 7 = .ok (.iload_n 1, 1) := by decide +kernel
theorem dX4_areCritical_8 : decode cX4_areCritical 8 = .ok (.aaload, 1) := by decide +kernel
theorem dX4_areCritical_9 : decode cX4_areCritical 9 = .ok (.astore_n 3, 1) := by decide +kernel
theorem dX4_areCritical_10 : decode cX4_areCritical 10 = .ok (.aload_n 0, 1) := by decide +kernel
theorem dX4_areCritical_11 : decode cX4_areCritical 11 = .ok (.getfield 34, 3) := by decide +kernel
theorem dX4_areCritical_14 : decode cX4_areCritical 14 = .ok (.aload_n 3, 1) := by decide +kernel
theorem dX4_areCritical_15 : decode cX4_areCritical 15 = .ok (.iload_n 2, 1) := by decide +kernel
theorem dX4_areCritical_16 : decode cX4_areCritical 16 = .ok (.iaload, 1) := by decide +kernel
theorem dX4_areCritical_17 : decode cX4_areCritical 17 = .ok (.invokevirtual 141, 3) := by decide +kernel
theorem dX4_areCritical_20 : decode cX4_areCritical 20 = .ok (.ifCond .ne 22, 3) := by decide +kernel
theorem dX4_areCritical_23 : decode cX4_areCritical 23 = .ok (.aload_n 0, 1) := by decide +kernel
theorem dX4_areCritical_24 : decode cX4_areCritical 24 = .ok (.getfield 34, 3) := by decide +kernel
theorem dX4_areCritical_27 : decode cX4_areCritical 27 = .ok (.aload_n 3, 1) := by decide +kernel
theorem dX4_areCritical_28 : decode cX4_areCritical 28 = .ok (.iload_n 2, 1) := by decide +kernel
theorem dX4_areCritical_29 : decode cX4_areCritical 29 = .ok (.iconst 1, 1) := by decide +kernel
theorem dX4_areCritical_30 : decode cX4_areCritical 30 = .ok (.iadd, 1) := by decide +kernel
theorem dX4_areCritical_31 : decode cX4_areCritical 31 = .ok (.iaload, 1) := by decide +kernel
theorem dX4_areCritical_32 : decode cX4_areCritical 32 = .ok (.invokevirtual 141, 3) := by decide +kernel
theorem dX4_areCritical_35 : decode cX4_areCritical 35 = .ok (.ifCond .ne 7, 3) := by decide +kernel
theorem dX4_areCritical_38 : decode cX4_areCritical 38 = .ok (.iconst 1, 1) := by decide +kernel
theorem dX4_areCritical_39 : decode cX4_areCritical 39 = .ok (.goto 4, 3) := by decide +kernel
theorem dX4_areCritical_42 : decode cX4_areCritical 42 = .ok (.iconst 0, 1) := by decide +kernel
theorem dX4_areCritical_43 : decode cX4_areCritical 43 = .ok (.ireturn, 1) := by decide +kernel
theorem dX4_spanOfTrial_0 : decode cX4_spanOfTrial 0 = .ok (.aload_n 0, 1) := by decide +kernel
theorem dX4_spanOfTrial_1 : decode cX4_spanOfTrial 1 = .ok (.getfield 25, 3) := by decide +kernel
theorem dX4_spanOfTrial_4 : decode cX4_spanOfTrial 4 = .ok (.iload_n 1, 1) := by decide +kernel
theorem dX4_spanOfTrial_5 : decode cX4_spanOfTrial 5 = .ok (.iload_n 2, 1) := by decide +kernel
theorem dX4_spanOfTrial_6 : decode cX4_spanOfTrial 6 = .ok (.invokevirtual 115, 3) := by decide +kernel
theorem dX4_spanOfTrial_9 : decode cX4_spanOfTrial 9 = .ok (.aload_n 0, 1) := by decide +kernel
theorem dX4_spanOfTrial_10 : decode cX4_spanOfTrial 10 = .ok (.getfield 38, 3) := by decide +kernel
theorem dX4_spanOfTrial_13 : decode cX4_spanOfTrial 13 = .ok (.invokevirtual 128, 3) := by decide +kernel
theorem dX4_spanOfTrial_16 : decode cX4_spanOfTrial 16 = .ok (.ifCond .ne 13, 3) := by decide +kernel
theorem dX4_spanOfTrial_19 : decode cX4_spanOfTrial 19 = .ok (.aload_n 0, 1) := by decide +kernel
theorem dX4_spanOfTrial_20 : decode cX4_spanOfTrial 20 = .ok (.getfield 38, 3) := by decide +kernel
theorem dX4_spanOfTrial_23 : decode cX4_spanOfTrial 23 = .ok (.getfield 144, 3) := by decide +kernel
theorem dX4_spanOfTrial_26 : decode cX4_spanOfTrial 26 = .ok (.goto 5, 3) := by decide +kernel
theorem dX4_spanOfTrial_29 : decode cX4_spanOfTrial 29 = .ok (.bipush (-3), 2) := by decide +kernel
theorem dX4_spanOfTrial_31 : decode cX4_spanOfTrial 31 = .ok (.istore_n 3, 1) := by decide +kernel
theorem dX4_spanOfTrial_32 : decode cX4_spanOfTrial 32 = .ok (.aload_n 0, 1) := by decide +kernel
theorem dX4_spanOfTrial_33 : decode cX4_spanOfTrial 33 = .ok (.getfield 25, 3) := by decide +kernel
theorem dX4_spanOfTrial_36 : decode cX4_spanOfTrial 36 = .ok (.iload_n 1, 1) := by decide +kernel
theorem dX4_spanOfTrial_37 : decode cX4_spanOfTrial 37 = .ok (.iload_n 2, 1) := by decide +kernel
theorem dX4_spanOfTrial_38 : decode cX4_spanOfTrial 38 = .ok (.invokevirtual 115, 3) := by decide +kernel
theorem dX4_spanOfTrial_41 : decode cX4_spanOfTrial 41 = .ok (.iload_n 3, 1) := by decide +kernel
theorem dX4_spanOfTrial_42 : decode cX4_spanOfTrial 42 = .ok (.ireturn, 1) := by decide +kernel
theorem dX5_init_0 : decode cX5_init 0 = .ok (.aload_n 0, 1) := by decide +kernel
theorem dX5_init_1 : decode cX5_init 1 = .ok (.invokespecial 1, 3) := by decide +kernel
theorem dX5_init_4 : decode cX5_init 4 = .ok (.aload_n 0, 1) := by decide +kernel
theorem dX5_init_5 : decode cX5_init 5 = .ok (.bipush 8, 2) := by decide +kernel
theorem dX5_init_7 : decode cX5_init 7 = .ok (.newarray .int, 2) := by decide +kernel
theorem dX5_init_9 : decode cX5_init 9 = .ok (.putfield 7, 3) := by decide +kernel
theorem dX5_init_12 : decode cX5_init 12 = .ok (.aload_n 0, 1) := by decide +kernel
theorem dX5_init_13 : decode cX5_init 13 = .ok (.bipush 8, 2) := by decide +kernel
theorem dX5_init_15 : decode cX5_init 15 = .ok (.newarray .int, 2) := by decide +kernel
theorem dX5_init_17 : decode cX5_init 17 = .ok (.putfield 13, 3) := by decide +kernel
theorem dX5_init_20 : decode cX5_init 20 = .ok (.aload_n 0, 1) := by decide +kernel
theorem dX5_init_21 : decode cX5_init 21 = .ok (.bipush 8, 2) := by decide +kernel
theorem dX5_init_23 : decode cX5_init 23 = .ok (.newarray .int, 2) := by decide +kernel
theorem dX5_init_25 : decode cX5_init 25 = .ok (.putfield 16, 3) := by decide +kernel
theorem dX5_init_28 : decode cX5_init 28 = .ok (.aload_n 0, 1) := by decide +kernel
theorem dX5_init_29 : decode cX5_init 29 = .ok (.bipush 8, 2) := by decide +kernel
theorem dX5_init_31 : decode cX5_init 31 = .ok (.newarray .int, 2) := by decide +kernel
theorem dX5_init_33 : decode cX5_init 33 = .ok (.putfield 19, 3) := by decide +kernel
theorem dX5_init_36 : decode cX5_init 36 = .ok (.aload_n 0, 1) := by decide +kernel
theorem dX5_init_37 : decode cX5_init 37 = .ok (.bipush 48, 2) := by decide +kernel
theorem dX5_init_39 : decode cX5_init 39 = .ok (.newarray .int, 2) := by decide +kernel
theorem dX5_init_41 : decode cX5_init 41 = .ok (.putfield 22, 3) := by decide +kernel
theorem dX5_init_44 : decode cX5_init 44 = .ok (.aload_n 0, 1) := by decide +kernel
theorem dX5_init_45 : decode cX5_init 45 = .ok (.bipush 48, 2) := by decide +kernel
theorem dX5_init_47 : decode cX5_init 47 = .ok (.newarray .int, 2) := by decide +kernel
theorem dX5_init_49 : decode cX5_init 49 = .ok (.putfield 25, 3) := by decide +kernel
theorem dX5_init_52 : decode cX5_init 52 = .ok (.aload_n 0, 1) := by decide +kernel
theorem dX5_init_53 : decode cX5_init 53 = .ok (.bipush 48, 2) := by decide +kernel
theorem dX5_init_55 : decode cX5_init 55 = .ok (.newarray .boolean, 2) := by decide +kernel
theorem dX5_init_57 : decode cX5_init 57 = .ok (.putfield 28, 3) := by decide +kernel
theorem dX5_init_60 : decode cX5_init 60 = .ok (.aload_n 0, 1) := by decide +kernel
theorem dX5_init_61 : decode cX5_init 61 = .ok (.sipush 320, 3) := by decide +kernel
theorem dX5_init_64 : decode cX5_init 64 = .ok (.newarray .int, 2) := by decide +kernel
theorem dX5_init_66 : decode cX5_init 66 = .ok (.putfield 32, 3) := by decide +kernel
theorem dX5_init_69 : decode cX5_init 69 = .ok (.aload_n 0, 1) := by decide +kernel
theorem dX5_init_70 : decode cX5_init 70 = .ok (.iconst 5, 1) := by decide +kernel
theorem dX5_init_71 : decode cX5_init 71 = .ok (.newarray .int, 2) := by decide +kernel
theorem dX5_init_73 : decode cX5_init 73 = .ok (.putfield 35, 3) := by decide +kernel
theorem dX5_init_76 : decode cX5_init 76 = .ok (.aload_n 0, 1) := by decide +kernel
theorem dX5_init_77 : decode cX5_init 77 = .ok (.sipush 240, 3) := by decide +kernel
theorem dX5_init_80 : decode cX5_init 80 = .ok (.newarray .int, 2) := by decide +kernel
theorem dX5_init_82 : decode cX5_init 82 = .ok (.putfield 38, 3) := by decide +kernel
theorem dX5_init_85 : decode cX5_init 85 = .ok (.aload_n 0, 1) := by decide +kernel
theorem dX5_init_86 : decode cX5_init 86 = .ok (.bipush 48, 2) := by decide +kernel
theorem dX5_init_88 : decode cX5_init 88 = .ok (.newarray .int, 2) := by decide +kernel
theorem dX5_init_90 : decode cX5_init 90 = .ok (.putfield 41, 3) := by decide +kernel
theorem dX5_init_93 : decode cX5_init 93 = .ok (.aload_n 0, 1) := by decide +kernel
theorem dX5_init_94 : decode cX5_init 94 = .ok (.bipush 8, 2) := by decide +kernel
theorem dX5_init_96 : decode cX5_init 96 = .ok (.newarray .int, 2) := by decide +kernel
theorem dX5_init_98 : decode cX5_init 98 = .ok (.putfield 44, 3) := by decide +kernel
theorem dX5_init_101 : decode cX5_init 101 = .ok (.aload_n 0, 1) := by decide +kernel
theorem dX5_init_102 : decode cX5_init 102 = .ok (.bipush 48, 2) := by decide +kernel
theorem dX5_init_104 : decode cX5_init 104 = .ok (.newarray .boolean, 2) := by decide +kernel
theorem dX5_init_106 : decode cX5_init 106 = .ok (.putfield 47, 3) := by decide +kernel
theorem dX5_init_109 : decode cX5_init 109 = .ok (.aload_n 0, 1) := by decide +kernel
theorem dX5_init_110 : decode cX5_init 110 = .ok (.bipush 48, 2) := by decide +kernel
theorem dX5_init_112 : decode cX5_init 112 = .ok (.newarray .int, 2) := by decide +kernel
theorem dX5_init_114 : decode cX5_init 114 = .ok (.putfield 50, 3) := by decide +kernel
theorem dX5_init_117 : decode cX5_init 117 = .ok (.aload_n 0, 1) := by decide +kernel
theorem dX5_init_118 : decode cX5_init 118 = .ok (.bipush 48, 2) := by decide +kernel
theorem dX5_init_120 : decode cX5_init 120 = .ok (.newarray .int, 2) := by decide +kernel
theorem dX5_init_122 : decode cX5_init 122 = .ok (.putfield 53, 3) := by decide +kernel
theorem dX5_init_125 : decode cX5_init 125 = .ok (.aload_n 0, 1) := by decide +kernel
theorem dX5_init_126 : decode cX5_init 126 = .ok (.bipush 48, 2) := by decide +kernel
theorem dX5_init_128 : decode cX5_init 128 = .ok (.newarray .int, 2) := by decide +kernel
theorem dX5_init_130 : decode cX5_init 130 = .ok (.putfield 56, 3) := by decide +kernel
theorem dX5_init_133 : decode cX5_init 133 = .ok (.aload_n 0, 1) := by decide +kernel
theorem dX5_init_134 : decode cX5_init 134 = .ok (.bipush 48, 2) := by decide +kernel
theorem dX5_init_136 : decode cX5_init 136 = .ok (.newarray .int, 2) := by decide +kernel
theorem dX5_init_138 : decode cX5_init 138 = .ok (.putfield 59, 3) := by decide +kernel
theorem dX5_init_141 : decode cX5_init 141 = .ok (.aload_n 0, 1) := by decide +kernel
theorem dX5_init_142 : decode cX5_init 142 = .ok (.sipush 256, 3) := by decide +kernel
theorem dX5_init_145 : decode cX5_init 145 = .ok (.newarray .int, 2) := by decide +kernel
theorem dX5_init_147 : decode cX5_init 147 = .ok (.putfield 62, 3) := by decide +kernel
theorem dX5_init_150 : decode cX5_init 150 = .ok (.aload_n 0, 1) := by decide +kernel
theorem dX5_init_151 : decode cX5_init 151 = .ok (.iload_n 1, 1) := by decide +kernel
theorem dX5_init_152 : decode cX5_init 152 = .ok (.iconst 1, 1) := by decide +kernel
theorem dX5_init_153 : decode cX5_init 153 = .ok (.if_icmp .ge 7, 3) := by decide +kernel
theorem dX5_init_156 : decode cX5_init 156 = .ok (.iconst 1, 1) := by decide +kernel
theorem dX5_init_157 : decode cX5_init 157 = .ok (.goto 13, 3) := by decide +kernel
theorem dX5_init_160 : decode cX5_init 160 = .ok (.iload_n 1, 1) := by decide +kernel
theorem dX5_init_161 : decode cX5_init 161 = .ok (.iconst 5, 1) := by decide +kernel
theorem dX5_init_162 : decode cX5_init 162 = .ok (.if_icmp .le 7, 3) := by decide +kernel
theorem dX5_init_165 : decode cX5_init 165 = .ok (.iconst 5, 1) := by decide +kernel
theorem dX5_init_166 : decode cX5_init 166 = .ok (.goto 4, 3) := by decide +kernel
theorem dX5_init_169 : decode cX5_init 169 = .ok (.iload_n 1, 1) := by decide +kernel
theorem dX5_init_170 : decode cX5_init 170 = .ok (.putfield 65, 3) := by decide +kernel
theorem dX5_init_173 : decode cX5_init 173 = .ok (.return_, 1) := by decide +kernel
theorem dX5_thrown_0 : decode cX5_thrown 0 = .ok (.aload_n 0, 1) := by decide +kernel
theorem dX5_thrown_1 : decode cX5_thrown 1 = .ok (.getfield 69, 3) := by decide +kernel
theorem dX5_thrown_4 : decode cX5_thrown 4 = .ok (.ireturn, 1) := by decide +kernel
theorem dX5_in_0 : decode cX5_in 0 = .ok (.iload_n 0, 1) := by decide +kernel
theorem dX5_in_1 : decode cX5_in 1 = .ok (.iload_n 1, 1) := by decide +kernel
theorem dX5_in_2 : decode cX5_in 2 = .ok (.if_icmp .lt 12, 3) := by decide +kernel
theorem dX5_in_5 : decode cX5_in 5 = .ok (.iload_n 0, 1) := by decide +kernel
theorem dX5_in_6 : decode cX5_in 6 = .ok (.iload_n 2, 1) := by decide +kernel
theorem dX5_in_7 : decode cX5_in 7 = .ok (.if_icmp .gt 7, 3) := by decide +kernel
theorem dX5_in_10 : decode cX5_in 10 = .ok (.iconst 1, 1) := by decide +kernel
theorem dX5_in_11 : decode cX5_in 11 = .ok (.goto 4, 3) := by decide +kernel
theorem dX5_in_14 : decode cX5_in 14 = .ok (.iconst 0, 1) := by decide +kernel
theorem dX5_in_15 : decode cX5_in 15 = .ok (.ireturn, 1) := by decide +kernel
theorem dX5_isJob_0 : decode cX5_isJob 0 = .ok (.iload_n 1, 1) := by decide +kernel
theorem dX5_isJob_1 : decode cX5_isJob 1 = .ok (.iconst 0, 1) := by decide +kernel
theorem dX5_isJob_2 : decode cX5_isJob 2 = .ok (.aload_n 0, 1) := by decide +kernel
theorem dX5_isJob_3 : decode cX5_isJob 3 = .ok (.getfield 72, 3) := by decide +kernel
theorem dX5_isJob_6 : decode cX5_isJob 6 = .ok (.iconst 1, 1) := by decide +kernel
theorem dX5_isJob_7 : decode cX5_isJob 7 = .ok (.isub, 1) := by decide +kernel
theorem dX5_isJob_8 : decode cX5_isJob 8 = .ok (.invokestatic 75, 3) := by decide +kernel
theorem dX5_isJob_11 : decode cX5_isJob 11 = .ok (.ireturn, 1) := by decide +kernel
theorem dX5_isMachine_0 : decode cX5_isMachine 0 = .ok (.iload_n 1, 1) := by decide +kernel
theorem dX5_isMachine_1 : decode cX5_isMachine 1 = .ok (.iconst 0, 1) := by decide +kernel
theorem dX5_isMachine_2 : decode cX5_isMachine 2 = .ok (.aload_n 0, 1) := by decide +kernel
theorem dX5_isMachine_3 : decode cX5_isMachine 3 = .ok (.getfield 65, 3) := by decide +kernel
theorem dX5_isMachine_6 : decode cX5_isMachine 6 = .ok (.iconst 1, 1) := by decide +kernel
theorem dX5_isMachine_7 : decode cX5_isMachine 7 = .ok (.isub, 1) := by decide +kernel
theorem dX5_isMachine_8 : decode cX5_isMachine 8 = .ok (.invokestatic 75, 3) := by decide +kernel
theorem dX5_isMachine_11 : decode cX5_isMachine 11 = .ok (.ireturn, 1) := by decide +kernel
theorem dX5_isStep_0 : decode cX5_isStep 0 = .ok (.iload_n 1, 1) := by decide +kernel
theorem dX5_isStep_1 : decode cX5_isStep 1 = .ok (.ifCond .lt 34, 3) := by decide +kernel
theorem dX5_isStep_4 : decode cX5_isStep 4 = .ok (.aload_n 0, 1) := by decide +kernel
theorem dX5_isStep_5 : decode cX5_isStep 5 = .ok (.iload_n 1, 1) := by decide +kernel
theorem dX5_isStep_6 : decode cX5_isStep 6 = .ok (.bipush 10, 2) := by decide +kernel
theorem dX5_isStep_8 : decode cX5_isStep 8 = .ok (.idiv, 1) := by decide +kernel
theorem dX5_isStep_9 : decode cX5_isStep 9 = .ok (.invokevirtual 79, 3) := by decide +kernel
theorem dX5_isStep_12 : decode cX5_isStep 12 = .ok (.ifCond .eq 23, 3) := by decide +kernel
theorem dX5_isStep_15 : decode cX5_isStep 15 = .ok (.iload_n 1, 1) := by decide +kernel
theorem dX5_isStep_16 : decode cX5_isStep 16 = .ok (.bipush 10, 2) := by decide +kernel
theorem dX5_isStep_18 : decode cX5_isStep 18 = .ok (.irem, 1) := by decide +kernel
theorem dX5_isStep_19 : decode cX5_isStep 19 = .ok (.aload_n 0, 1) := by decide +kernel
theorem dX5_isStep_20 : decode cX5_isStep 20 = .ok (.getfield 19, 3) := by decide +kernel
theorem dX5_isStep_23 : decode cX5_isStep 23 = .ok (.iload_n 1, 1) := by decide +kernel
theorem dX5_isStep_24 : decode cX5_isStep 24 = .ok (.bipush 10, 2) := by decide +kernel
theorem dX5_isStep_26 : decode cX5_isStep 26 = .ok (.idiv, 1) := by decide +kernel
theorem dX5_isStep_27 : decode cX5_isStep 27 = .ok (.iaload, 1) := by decide +kernel
theorem dX5_isStep_28 : decode cX5_isStep 28 = .ok (.if_icmp .ge 7, 3) := by decide +kernel
theorem dX5_isStep_31 : decode cX5_isStep 31 = .ok (.iconst 1, 1) := by decide +kernel
theorem dX5_isStep_32 : decode cX5_isStep 32 = .ok (.goto 4, 3) := by decide +kernel
theorem dX5_isStep_35 : decode cX5_isStep 35 = .ok (.iconst 0, 1) := by decide +kernel
theorem dX5_isStep_36 : decode cX5_isStep 36 = .ok (.ireturn, 1) := by decide +kernel
theorem dX5_placeOf_0 : decode cX5_placeOf 0 = .ok (.bipush 6, 2) := by decide +kernel
theorem dX5_placeOf_2 : decode cX5_placeOf 2 = .ok (.iload_n 0, 1) := by decide +kernel
theorem dX5_placeOf_3 : decode cX5_placeOf 3 = .ok (.bipush 10, 2) := by decide +kernel
theorem dX5_placeOf_5 : decode cX5_placeOf 5 = .ok (.idiv, 1) := by decide +kernel
theorem dX5_placeOf_6 : decode cX5_placeOf 6 = .ok (.imul, 1) := by decide +kernel
theorem dX5_placeOf_7 : decode cX5_placeOf 7 = .ok (.iload_n 0, 1) := by decide +kernel
theorem dX5_placeOf_8 : decode cX5_placeOf 8 = .ok (.bipush 10, 2) := by decide +kernel
theorem dX5_placeOf_10 : decode cX5_placeOf 10 = .ok (.irem, 1) := by decide +kernel
theorem dX5_placeOf_11 : decode cX5_placeOf 11 = .ok (.iadd, 1) := by decide +kernel
theorem dX5_placeOf_12 : decode cX5_placeOf 12 = .ok (.ireturn, 1) := by decide +kernel
theorem dX5_job_0 : decode cX5_job 0 = .ok (.aload_n 0, 1) := by decide +kernel
theorem dX5_job_1 : decode cX5_job 1 = .ok (.iconst 0, 1) := by decide +kernel
theorem dX5_job_2 : decode cX5_job 2 = .ok (.putfield 69, 3) := by decide +kernel
theorem dX5_job_5 : decode cX5_job 5 = .ok (.iload_n 1, 1) := by decide +kernel
theorem dX5_job_6 : decode cX5_job 6 = .ok (.iconst 0, 1) := by decide +kernel
theorem dX5_job_7 : decode cX5_job 7 = .ok (.sipush 1000, 3) := by decide +kernel
theorem dX5_job_10 : decode cX5_job 10 = .ok (.invokestatic 75, 3) := by decide +kernel
theorem dX5_job_13 : decode cX5_job 13 = .ok (.ifCond .eq 24, 3) := by decide +kernel
theorem dX5_job_16 : decode cX5_job 16 = .ok (.iload_n 2, 1) := by decide +kernel
theorem dX5_job_17 : decode cX5_job 17 = .ok (.iconst 0, 1) := by decide +kernel
theorem dX5_job_18 : decode cX5_job 18 = .ok (.sipush 1000, 3) := by decide +kernel
theorem dX5_job_21 : decode cX5_job 21 = .ok (.invokestatic 75, 3) := by decide +kernel
theorem dX5_job_24 : decode cX5_job 24 = .ok (.ifCond .eq 13, 3) := by decide +kernel
theorem dX5_job_27 : decode cX5_job 27 = .ok (.iload_n 3, 1) := by decide +kernel
theorem dX5_job_28 : decode cX5_job 28 = .ok (.iconst 0, 1) := by decide +kernel
theorem dX5_job_29 : decode cX5_job 29 = .ok (.bipush 20, 2) := by decide +kernel
theorem dX5_job_31 : decode cX5_job 31 = .ok (.invokestatic 75, 3) := by decide +kernel
theorem dX5_job_34 : decode cX5_job 34 = .ok (.ifCond .ne 6, 3) := by decide +kernel
theorem dX5_job_37 : decode cX5_job 37 = .ok (.bipush (-2), 2) := by decide +kernel
theorem dX5_job_39 : decode cX5_job 39 = .ok (.ireturn, 1) := by decide +kernel
theorem dX5_job_40 : decode cX5_job 40 = .ok (.aload_n 0, 1) := by decide +kernel
theorem dX5_job_41 : decode cX5_job 41 = .ok (.getfield 72, 3) := by decide +kernel
theorem dX5_job_44 : decode cX5_job 44 = .ok (.bipush 8, 2) := by decide +kernel
theorem dX5_job_46 : decode cX5_job 46 = .ok (.if_icmp .ne 6, 3) := by decide +kernel
theorem dX5_job_49 : decode cX5_job 49 = .ok (.bipush (-4), 2) := by decide +kernel
theorem dX5_job_51 : decode cX5_job 51 = .ok (.ireturn, 1) := by decide +kernel
theorem dX5_job_52 : decode cX5_job 52 = .ok (.aload_n 0, 1) := by decide +kernel
theorem dX5_job_53 : decode cX5_job 53 = .ok (.getfield 7, 3) := by decide +kernel
theorem dX5_job_56 : decode cX5_job 56 = .ok (.aload_n 0, 1) := by decide +kernel
theorem dX5_job_57 : decode cX5_job 57 = .ok (.getfield 72, 3) := by decide +kernel
theorem dX5_job_60 : decode cX5_job 60 = .ok (.iload_n 1, 1) := by decide +kernel
theorem dX5_job_61 : decode cX5_job 61 = .ok (.iastore, 1) := by decide +kernel
theorem dX5_job_62 : decode cX5_job 62 = .ok (.aload_n 0, 1) := by decide +kernel
theorem dX5_job_63 : decode cX5_job 63 = .ok (.getfield 13, 3) := by decide +kernel
theorem dX5_job_66 : decode cX5_job 66 = .ok (.aload_n 0, 1) := by decide +kernel
theorem dX5_job_67 : decode cX5_job 67 = .ok (.getfield 72, 3) := by decide +kernel
theorem dX5_job_70 : decode cX5_job 70 = .ok (.iload_n 2, 1) := by decide +kernel
theorem dX5_job_71 : decode cX5_job 71 = .ok (.iastore, 1) := by decide +kernel
theorem dX5_job_72 : decode cX5_job 72 = .ok (.aload_n 0, 1) := by decide +kernel
theorem dX5_job_73 : decode cX5_job 73 = .ok (.getfield 16, 3) := by decide +kernel
theorem dX5_job_76 : decode cX5_job 76 = .ok (.aload_n 0, 1) := by decide +kernel
theorem dX5_job_77 : decode cX5_job 77 = .ok (.getfield 72, 3) := by decide +kernel
theorem dX5_job_80 : decode cX5_job 80 = .ok (.iload_n 3, 1) := by decide +kernel
theorem dX5_job_81 : decode cX5_job 81 = .ok (.iastore, 1) := by decide +kernel
theorem dX5_job_82 : decode cX5_job 82 = .ok (.aload_n 0, 1) := by decide +kernel
theorem dX5_job_83 : decode cX5_job 83 = .ok (.dup, 1) := by decide +kernel
theorem dX5_job_84 : decode cX5_job 84 = .ok (.getfield 72, 3) := by decide +kernel
theorem dX5_job_87 : decode cX5_job 87 = .ok (.iconst 1, 1) := by decide +kernel
theorem dX5_job_88 : decode cX5_job 88 = .ok (.iadd, 1) := by decide +kernel
theorem dX5_job_89 : decode cX5_job 89 = .ok (.putfield 72, 3) := by decide +kernel
theorem dX5_job_92 : decode cX5_job 92 = .ok (.aload_n 0, 1) := by decide +kernel
theorem dX5_job_93 : decode cX5_job 93 = .ok (.getfield 72, 3) := by decide +kernel
theorem dX5_job_96 : decode cX5_job 96 = .ok (.iconst 1, 1) := by decide +kernel
theorem dX5_job_97 : decode cX5_job 97 = .ok (.isub, 1) := by decide +kernel
theorem dX5_job_98 : decode cX5_job 98 = .ok (.ireturn, 1) := by decide +kernel
theorem dX5_step_0 : decode cX5_step 0 = .ok (.aload_n 0, 1) := by decide +kernel
theorem dX5_step_1 : decode cX5_step 1 = .ok (.iconst 0, 1) := by decide +kernel
theorem dX5_step_2 : decode cX5_step 2 = .ok (.putfield 69, 3) := by decide +kernel
theorem dX5_step_5 : decode cX5_step 5 = .ok (.aload_n 0, 1) := by decide +kernel
theorem dX5_step_6 : decode cX5_step 6 = .ok (.iload_n 1, 1) := by decide +kernel
theorem dX5_step_7 : decode cX5_step 7 = .ok (.invokevirtual 79, 3) := by decide +kernel
theorem dX5_step_10 : decode cX5_step 10 = .ok (.ifCond .ne 5, 3) := by decide +kernel
theorem dX5_step_13 : decode cX5_step 13 = .ok (.iconst (-1), 1) := by decide +kernel
theorem dX5_step_14 : decode cX5_step 14 = .ok (.ireturn, 1) := by decide +kernel
theorem dX5_step_15 : decode cX5_step 15 = .ok (.aload_n 0, 1) := by decide +kernel
theorem dX5_step_16 : decode cX5_step 16 = .ok (.iload_n 2, 1) := by decide +kernel
theorem dX5_step_17 : decode cX5_step 17 = .ok (.invokevirtual 83, 3) := by decide +kernel
theorem dX5_step_20 : decode cX5_step 20 = .ok (.ifCond .eq 13, 3) := by decide +kernel
theorem dX5_step_23 : decode cX5_step 23 = .ok (.iload_n 3, 1) := by decide +kernel
theorem dX5_step_24 : decode cX5_step 24 = .ok (.iconst 0, 1) := by decide +kernel
theorem dX5_step_25 : decode cX5_step 25 = .ok (.bipush 50, 2) := by decide +kernel
theorem dX5_step_27 : decode cX5_step 27 = .ok (.invokestatic 75, 3) := by decide +kernel
theorem dX5_step_30 : decode cX5_step 30 = .ok (.ifCond .ne 6, 3) := by decide +kernel
theorem dX5_step_33 : decode cX5_step 33 = .ok (.bipush (-2), 2) := by decide +kernel
theorem dX5_step_35 : decode cX5_step 35 = .ok (.ireturn, 1) := by decide +kernel
theorem dX5_step_36 : decode cX5_step 36 = .ok (.aload_n 0, 1) := by decide +kernel
theorem dX5_step_37 : decode cX5_step 37 = .ok (.getfield 19, 3) := by decide +kernel
theorem dX5_step_40 : decode cX5_step 40 = .ok (.iload_n 1, 1) := by decide +kernel
theorem dX5_step_41 : decode cX5_step 41 = .ok (.iaload, 1) := by decide +kernel
theorem dX5_step_42 : decode cX5_step 42 = .ok (.bipush 6, 2) := by decide +kernel
theorem dX5_step_44 : decode cX5_step 44 = .ok (.if_icmp .ne 6, 3) := by decide +kernel
theorem dX5_step_47 : decode cX5_step 47 = .ok (.bipush (-4), 2) := by decide +kernel
theorem dX5_step_49 : decode cX5_step 49 = .ok (.ireturn, 1) := by decide +kernel
theorem dX5_step_50 : decode cX5_step 50 = .ok (.bipush 6, 2) := by decide +kernel
theorem dX5_step_52 : decode cX5_step 52 = .ok (.iload_n 1, 1) := by decide +kernel
theorem dX5_step_53 : decode cX5_step 53 = .ok (.imul, 1) := by decide +kernel
theorem dX5_step_54 : decode cX5_step 54 = .ok (.aload_n 0, 1) := by decide +kernel
theorem dX5_step_55 : decode cX5_step 55 = .ok (.getfield 19, 3) := by decide +kernel
theorem dX5_step_58 : decode cX5_step 58 = .ok (.iload_n 1, 1) := by decide +kernel
theorem dX5_step_59 : decode cX5_step 59 = .ok (.iaload, 1) := by decide +kernel
theorem dX5_step_60 : decode cX5_step 60 = .ok (.iadd, 1) := by decide +kernel
theorem dX5_step_61 : decode cX5_step 61 = .ok (.istore 4, 2) := by decide +kernel
theorem dX5_step_63 : decode cX5_step 63 = .ok (.aload_n 0, 1) := by decide +kernel
theorem dX5_step_64 : decode cX5_step 64 = .ok (.getfield 22, 3) := by decide +kernel
theorem dX5_step_67 : decode cX5_step 67 = .ok (.iload 4, 2) := by decide +kernel
theorem dX5_step_69 : decode cX5_step 69 = .ok (.iload_n 2, 1) := by decide +kernel
theorem dX5_step_70 : decode cX5_step 70 = .ok (.iastore, 1) := by decide +kernel
theorem dX5_step_71 : decode cX5_step 71 = .ok (.aload_n 0, 1) := by decide +kernel
theorem dX5_step_72 : decode cX5_step 72 = .ok (.getfield 25, 3) := by decide +kernel
theorem dX5_step_75 : decode cX5_step 75 = .ok (.iload 4, 2) := by decide +kernel
theorem dX5_step_77 : decode cX5_step 77 = .ok (.iload_n 3, 1) := by decide +kernel
theorem dX5_step_78 : decode cX5_step 78 = .ok (.iastore, 1) := by decide +kernel
theorem dX5_step_79 : decode cX5_step 79 = .ok (.aload_n 0, 1) := by decide +kernel
theorem dX5_step_80 : decode cX5_step 80 = .ok (.getfield 28, 3) := by decide +kernel
theorem dX5_step_83 : decode cX5_step 83 = .ok (.iload 4, 2) := by decide +kernel
theorem dX5_step_85 : decode cX5_step 85 = .ok (.iconst 0, 1) := by decide +kernel
theorem dX5_step_86 : decode cX5_step 86 = .ok (.bastore, 1) := by decide +kernel
theorem dX5_step_87 : decode cX5_step 87 = .ok (.aload_n 0, 1) := by decide +kernel
theorem dX5_step_88 : decode cX5_step 88 = .ok (.getfield 19, 3) := by decide +kernel
theorem dX5_step_91 : decode cX5_step 91 = .ok (.iload_n 1, 1) := by decide +kernel
theorem dX5_step_92 : decode cX5_step 92 = .ok (.dup2, 1) := by decide +kernel
theorem dX5_step_93 : decode cX5_step 93 = .ok (.iaload, 1) := by decide +kernel
theorem dX5_step_94 : decode cX5_step 94 = .ok (.iconst 1, 1) := by decide +kernel
theorem dX5_step_95 : decode cX5_step 95 = .ok (.iadd, 1) := by decide +kernel
theorem dX5_step_96 : decode cX5_step 96 = .ok (.iastore, 1) := by decide +kernel
theorem dX5_step_97 : decode cX5_step 97 = .ok (.aload_n 0, 1) := by decide +kernel
theorem dX5_step_98 : decode cX5_step 98 = .ok (.getfield 19, 3) := by decide +kernel
theorem dX5_step_101 : decode cX5_step 101 = .ok (.iload_n 1, 1) := by decide +kernel
theorem dX5_step_102 : decode cX5_step 102 = .ok (.iaload, 1) := by decide +kernel
theorem dX5_step_103 : decode cX5_step 103 = .ok (.ireturn, 1) := by decide +kernel
theorem dX5_change_0 : decode cX5_change 0 = .ok (.aload_n 0, 1) := by decide +kernel
theorem dX5_change_1 : decode cX5_change 1 = .ok (.iconst 0, 1) := by decide +kernel
theorem dX5_change_2 : decode cX5_change 2 = .ok (.putfield 69, 3) := by decide +kernel
theorem dX5_change_5 : decode cX5_change 5 = .ok (.aload_n 0, 1) := by decide +kernel
theorem dX5_change_6 : decode cX5_change 6 = .ok (.iload_n 1, 1) := by decide +kernel
theorem dX5_change_7 : decode cX5_change 7 = .ok (.invokevirtual 83, 3) := by decide +kernel
theorem dX5_change_10 : decode cX5_change 10 = .ok (.ifCond .eq 24, 3) := by decide +kernel
theorem dX5_change_13 : decode cX5_change 13 = .ok (.aload_n 0, 1) := by decide +kernel
theorem dX5_change_14 : decode cX5_change 14 = .ok (.iload_n 2, 1) := by decide +kernel
theorem dX5_change_15 : decode cX5_change 15 = .ok (.invokevirtual 79, 3) := by decide +kernel
theorem dX5_change_18 : decode cX5_change 18 = .ok (.ifCond .eq 16, 3) := by decide +kernel
theorem dX5_change_21 : decode cX5_change 21 = .ok (.aload_n 0, 1) := by decide +kernel
theorem dX5_change_22 : decode cX5_change 22 = .ok (.iload_n 3, 1) := by decide +kernel
theorem dX5_change_23 : decode cX5_change 23 = .ok (.invokevirtual 79, 3) := by decide +kernel
theorem dX5_change_26 : decode cX5_change 26 = .ok (.ifCond .eq 8, 3) := by decide +kernel
theorem dX5_change_29 : decode cX5_change 29 = .ok (.iload_n 2, 1) := by decide +kernel
theorem dX5_change_30 : decode cX5_change 30 = .ok (.iload_n 3, 1) := by decide +kernel
theorem dX5_change_31 : decode cX5_change 31 = .ok (.if_icmp .ne 5, 3) := by decide +kernel
theorem dX5_change_34 : decode cX5_change 34 = .ok (.iconst (-1), 1) := by decide +kernel
theorem dX5_change_35 : decode cX5_change 35 = .ok (.ireturn, 1) := by decide +kernel
theorem dX5_change_36 : decode cX5_change 36 = .ok (.iload 4, 2) := by decide +kernel
theorem dX5_change_38 : decode cX5_change 38 = .ok (.iconst 0, 1) := by decide +kernel
theorem dX5_change_39 : decode cX5_change 39 = .ok (.bipush 50, 2) := by decide +kernel
theorem dX5_change_41 : decode cX5_change 41 = .ok (.invokestatic 75, 3) := by decide +kernel
theorem dX5_change_44 : decode cX5_change 44 = .ok (.ifCond .ne 6, 3) := by decide +kernel
theorem dX5_change_47 : decode cX5_change 47 = .ok (.bipush (-2), 2) := by decide +kernel
theorem dX5_change_49 : decode cX5_change 49 = .ok (.ireturn, 1) := by decide +kernel
theorem dX5_change_50 : decode cX5_change 50 = .ok (.aload_n 0, 1) := by decide +kernel
theorem dX5_change_51 : decode cX5_change 51 = .ok (.getfield 32, 3) := by decide +kernel
theorem dX5_change_54 : decode cX5_change 54 = .ok (.bipush 64, 2) := by decide +kernel
theorem dX5_change_56 : decode cX5_change 56 = .ok (.iload_n 1, 1) := by decide +kernel
theorem dX5_change_57 : decode cX5_change 57 = .ok (.imul, 1) := by decide +kernel
theorem dX5_change_58 : decode cX5_change 58 = .ok (.bipush 8, 2) := by decide +kernel
theorem dX5_change_60 : decode cX5_change 60 = .ok (.iload_n 2, 1) := by decide +kernel
theorem dX5_change_61 : decode cX5_change 61 = .ok (.imul, 1) := by decide +kernel
theorem dX5_change_62 : decode cX5_change 62 = .ok (.iadd, 1) := by decide +kernel
theorem dX5_change_63 : decode cX5_change 63 = .ok (.iload_n 3, 1) := by decide +kernel
theorem dX5_change_64 : decode cX5_change 64 = .ok (.iadd, 1) := by decide +kernel
theorem dX5_change_65 : decode cX5_change 65 = .ok (.iaload, 1) := by decide +kernel
theorem dX5_change_66 : decode cX5_change 66 = .ok (.istore 5, 2) := by decide +kernel
theorem dX5_change_68 : decode cX5_change 68 = .ok (.aload_n 0, 1) := by decide +kernel
theorem dX5_change_69 : decode cX5_change 69 = .ok (.getfield 32, 3) := by decide +kernel
theorem dX5_change_72 : decode cX5_change 72 = .ok (.bipush 64, 2) := by decide +kernel
theorem dX5_change_74 : decode cX5_change 74 = .ok (.iload_n 1, 1) := by decide +kernel
theorem dX5_change_75 : decode cX5_change 75 = .ok (.imul, 1) := by decide +kernel
theorem dX5_change_76 : decode cX5_change 76 = .ok (.bipush 8, 2) := by decide +kernel
theorem dX5_change_78 : decode cX5_change 78 = .ok (.iload_n 2, 1) := by decide +kernel
theorem dX5_change_79 : decode cX5_change 79 = .ok (.imul, 1) := by decide +kernel
theorem dX5_change_80 : decode cX5_change 80 = .ok (.iadd, 1) := by decide +kernel
theorem dX5_change_81 : decode cX5_change 81 = .ok (.iload_n 3, 1) := by decide +kernel
theorem dX5_change_82 : decode cX5_change 82 = .ok (.iadd, 1) := by decide +kernel
theorem dX5_change_83 : decode cX5_change 83 = .ok (.iload 4, 2) := by decide +kernel
theorem dX5_change_85 : decode cX5_change 85 = .ok (.iastore, 1) := by decide +kernel
theorem dX5_change_86 : decode cX5_change 86 = .ok (.iload 5, 2) := by decide +kernel
theorem dX5_change_88 : decode cX5_change 88 = .ok (.ireturn, 1) := by decide +kernel
theorem dX5_put_0 : decode cX5_put 0 = .ok (.aload_n 0, 1) := by decide +kernel
theorem dX5_put_1 : decode cX5_put 1 = .ok (.iconst 0, 1) := by decide +kernel
theorem dX5_put_2 : decode cX5_put 2 = .ok (.putfield 69, 3) := by decide +kernel
theorem dX5_put_5 : decode cX5_put 5 = .ok (.aload_n 0, 1) := by decide +kernel
theorem dX5_put_6 : decode cX5_put 6 = .ok (.iload_n 1, 1) := by decide +kernel
theorem dX5_put_7 : decode cX5_put 7 = .ok (.invokevirtual 86, 3) := by decide +kernel
theorem dX5_put_10 : decode cX5_put 10 = .ok (.ifCond .ne 5, 3) := by decide +kernel
theorem dX5_put_13 : decode cX5_put 13 = .ok (.iconst (-1), 1) := by decide +kernel
theorem dX5_put_14 : decode cX5_put 14 = .ok (.ireturn, 1) := by decide +kernel
theorem dX5_put_15 : decode cX5_put 15 = .ok (.iload_n 1, 1) := by decide +kernel
theorem dX5_put_16 : decode cX5_put 16 = .ok (.invokestatic 89, 3) := by decide +kernel
theorem dX5_put_19 : decode cX5_put 19 = .ok (.istore_n 3, 1) := by decide +kernel
theorem dX5_put_20 : decode cX5_put 20 = .ok (.aload_n 0, 1) := by decide +kernel
theorem dX5_put_21 : decode cX5_put 21 = .ok (.getfield 22, 3) := by decide +kernel
theorem dX5_put_24 : decode cX5_put 24 = .ok (.iload_n 3, 1) := by decide +kernel
theorem dX5_put_25 : decode cX5_put 25 = .ok (.iaload, 1) := by decide +kernel
theorem dX5_put_26 : decode cX5_put 26 = .ok (.istore 4, 2) := by decide +kernel
theorem dX5_put_28 : decode cX5_put 28 = .ok (.iload_n 2, 1) := by decide +kernel
theorem dX5_put_29 : decode cX5_put 29 = .ok (.iconst 0, 1) := by decide +kernel
theorem dX5_put_30 : decode cX5_put 30 = .ok (.aload_n 0, 1) := by decide +kernel
theorem dX5_put_31 : decode cX5_put 31 = .ok (.getfield 35, 3) := by decide +kernel
theorem dX5_put_34 : decode cX5_put 34 = .ok (.iload 4, 2) := by decide +kernel
theorem dX5_put_36 : decode cX5_put 36 = .ok (.iaload, 1) := by decide +kernel
theorem dX5_put_37 : decode cX5_put 37 = .ok (.invokestatic 75, 3) := by decide +kernel
theorem dX5_put_40 : decode cX5_put 40 = .ok (.ifCond .ne 6, 3) := by decide +kernel
theorem dX5_put_43 : decode cX5_put 43 = .ok (.bipush (-2), 2) := by decide +kernel
theorem dX5_put_45 : decode cX5_put 45 = .ok (.ireturn, 1) := by decide +kernel
theorem dX5_put_46 : decode cX5_put 46 = .ok (.aload_n 0, 1) := by decide +kernel
theorem dX5_put_47 : decode cX5_put 47 = .ok (.getfield 28, 3) := by decide +kernel
theorem dX5_put_50 : decode cX5_put 50 = .ok (.iload_n 3, 1) := by decide +kernel
theorem dX5_put_51 : decode cX5_put 51 = .ok (.baload, 1) := by decide +kernel
theorem dX5_put_52 : decode cX5_put 52 = .ok (.ifCond .eq 6, 3) := by decide +kernel
theorem dX5_put_55 : decode cX5_put 55 = .ok (.bipush (-3), 2) := by decide +kernel
theorem dX5_put_57 : decode cX5_put 57 = .ok (.ireturn, 1) := by decide +kernel
theorem dX5_put_58 : decode cX5_put 58 = .ok (.aload_n 0, 1) := by decide +kernel
theorem dX5_put_59 : decode cX5_put 59 = .ok (.getfield 35, 3) := by decide +kernel
theorem dX5_put_62 : decode cX5_put 62 = .ok (.iload 4, 2) := by decide +kernel
theorem dX5_put_64 : decode cX5_put 64 = .ok (.iaload, 1) := by decide +kernel
theorem dX5_put_65 : decode cX5_put 65 = .ok (.istore 5, 2) := by decide +kernel
theorem dX5_put_67 : decode cX5_put 67 = .ok (.iload 5, 2) := by decide +kernel
theorem dX5_put_69 : decode cX5_put 69 = .ok (.iload_n 2, 1) := by decide +kernel
theorem dX5_put_70 : decode cX5_put 70 = .ok (.if_icmp .le 37, 3) := by decide +kernel
theorem dX5_put_73 : decode cX5_put 73 = .ok (.aload_n 0, 1) := by decide +kernel
theorem dX5_put_74 : decode cX5_put 74 = .ok (.getfield 38, 3) := by decide +kernel
theorem dX5_put_77 : decode cX5_put 77 = .ok (.bipush 48, 2) := by decide +kernel
theorem dX5_put_79 : decode cX5_put 79 = .ok (.iload 4, 2) := by decide +kernel
theorem dX5_put_81 : decode cX5_put 81 = .ok (.imul, 1) := by decide +kernel
theorem dX5_put_82 : decode cX5_put 82 = .ok (.iload 5, 2) := by decide +kernel
theorem dX5_put_84 : decode cX5_put 84 = .ok (.iadd, 1) := by decide +kernel
theorem dX5_put_85 : decode cX5_put 85 = .ok (.aload_n 0, 1) := by decide +kernel
theorem dX5_put_86 : decode cX5_put 86 = .ok (.getfield 38, 3) := by decide +kernel
theorem dX5_put_89 : decode cX5_put 89 = .ok (.bipush 48, 2) := by decide +kernel
theorem dX5_put_91 : decode cX5_put 91 = .ok (.iload 4, 2) := by decide +kernel
theorem dX5_put_93 : decode cX5_put 93 = .ok (.imul, 1) := by decide +kernel
theorem dX5_put_94 : decode cX5_put 94 = .ok (.iload 5, 2) := by decide +kernel
theorem dX5_put_96 : decode cX5_put 96 = .ok (.iadd, 1) := by decide +kernel
theorem dX5_put_97 : decode cX5_put 97 = .ok (.iconst 1, 1) := by decide +kernel
theorem dX5_put_98 : decode cX5_put 98 = .ok (.isub, 1) := by decide +kernel
theorem dX5_put_99 : decode cX5_put 99 = .ok (.iaload, 1) := by decide +kernel
theorem dX5_put_100 : decode cX5_put 100 = .ok (.iastore, 1) := by decide +kernel
theorem dX5_put_101 : decode cX5_put 101 = .ok (.iinc 5 (-1), 3) := by decide +kernel
theorem dX5_put_104 : decode cX5_put 104 = .ok (.goto (-37), 3) := by decide +kernel
theorem dX5_put_107 : decode cX5_put 107 = .ok (.aload_n 0, 1) := by decide +kernel
theorem dX5_put_108 : decode cX5_put 108 = .ok (.getfield 38, 3) := by decide +kernel
theorem dX5_put_111 : decode cX5_put 111 = .ok (.bipush 48, 2) := by decide +kernel
theorem dX5_put_113 : decode cX5_put 113 = .ok (.iload 4, 2) := by decide +kernel
theorem dX5_put_115 : decode cX5_put 115 = .ok (.imul, 1) := by decide +kernel
theorem dX5_put_116 : decode cX5_put 116 = .ok (.iload_n 2, 1) := by decide +kernel
theorem dX5_put_117 : decode cX5_put 117 = .ok (.iadd, 1) := by decide +kernel
theorem dX5_put_118 : decode cX5_put 118 = .ok (.iload_n 3, 1) := by decide +kernel
theorem dX5_put_119 : decode cX5_put 119 = .ok (.iastore, 1) := by decide +kernel
theorem dX5_put_120 : decode cX5_put 120 = .ok (.aload_n 0, 1) := by decide +kernel
theorem dX5_put_121 : decode cX5_put 121 = .ok (.getfield 35, 3) := by decide +kernel
theorem dX5_put_124 : decode cX5_put 124 = .ok (.iload 4, 2) := by decide +kernel
theorem dX5_put_126 : decode cX5_put 126 = .ok (.dup2, 1) := by decide +kernel
theorem dX5_put_127 : decode cX5_put 127 = .ok (.iaload, 1) := by decide +kernel
theorem dX5_put_128 : decode cX5_put 128 = .ok (.iconst 1, 1) := by decide +kernel
theorem dX5_put_129 : decode cX5_put 129 = .ok (.iadd, 1) := by decide +kernel
theorem dX5_put_130 : decode cX5_put 130 = .ok (.iastore, 1) := by decide +kernel
theorem dX5_put_131 : decode cX5_put 131 = .ok (.aload_n 0, 1) := by decide +kernel
theorem dX5_put_132 : decode cX5_put 132 = .ok (.getfield 28, 3) := by decide +kernel
theorem dX5_put_135 : decode cX5_put 135 = .ok (.iload_n 3, 1) := by decide +kernel
theorem dX5_put_136 : decode cX5_put 136 = .ok (.iconst 1, 1) := by decide +kernel
theorem dX5_put_137 : decode cX5_put 137 = .ok (.bastore, 1) := by decide +kernel
theorem dX5_put_138 : decode cX5_put 138 = .ok (.aload_n 0, 1) := by decide +kernel
theorem dX5_put_139 : decode cX5_put 139 = .ok (.getfield 35, 3) := by decide +kernel
theorem dX5_put_142 : decode cX5_put 142 = .ok (.iload 4, 2) := by decide +kernel
theorem dX5_put_144 : decode cX5_put 144 = .ok (.iaload, 1) := by decide +kernel
theorem dX5_put_145 : decode cX5_put 145 = .ok (.ireturn, 1) := by decide +kernel
theorem dX5_whereIs_0 : decode cX5_whereIs 0 = .ok (.aload_n 0, 1) := by decide +kernel
theorem dX5_whereIs_1 : decode cX5_whereIs 1 = .ok (.getfield 22, 3) := by decide +kernel
theorem dX5_whereIs_4 : decode cX5_whereIs 4 = .ok (.iload_n 1, 1) := by decide +kernel
theorem dX5_whereIs_5 : decode cX5_whereIs 5 = .ok (.iaload, 1) := by decide +kernel
theorem dX5_whereIs_6 : decode cX5_whereIs 6 = .ok (.istore_n 2, 1) := by decide +kernel
theorem dX5_whereIs_7 : decode cX5_whereIs 7 = .ok (.iconst 0, 1) := by decide +kernel
theorem dX5_whereIs_8 : decode cX5_whereIs 8 = .ok (.istore_n 3, 1) := by decide +kernel
theorem dX5_whereIs_9 : decode cX5_whereIs 9 = .ok (.aload_n 0, 1) := by decide +kernel
theorem dX5_whereIs_10 : decode cX5_whereIs 10 = .ok (.getfield 38, 3) := by decide +kernel
theorem dX5_whereIs_13 : decode cX5_whereIs 13 = .ok (.bipush 48, 2) := by decide +kernel
theorem dX5_whereIs_15 : decode cX5_whereIs 15 = .ok (.iload_n 2, 1) := by decide +kernel
theorem dX5_whereIs_16 : decode cX5_whereIs 16 = .ok (.imul, 1) := by decide +kernel
theorem dX5_whereIs_17 : decode cX5_whereIs 17 = .ok (.iload_n 3, 1) := by decide +kernel
theorem dX5_whereIs_18 : decode cX5_whereIs 18 = .ok (.iadd, 1) := by decide +kernel
theorem dX5_whereIs_19 : decode cX5_whereIs 19 = .ok (.iaload, 1) := by decide +kernel
theorem dX5_whereIs_20 : decode cX5_whereIs 20 = .ok (.iload_n 1, 1) := by decide +kernel
theorem dX5_whereIs_21 : decode cX5_whereIs 21 = .ok (.if_icmp .eq 9, 3) := by decide +kernel
theorem dX5_whereIs_24 : decode cX5_whereIs 24 = .ok (.iinc 3 1, 3) := by decide +kernel
theorem dX5_whereIs_27 : decode cX5_whereIs 27 = .ok (.goto (-18), 3) := by decide +kernel
theorem dX5_whereIs_30 : decode cX5_whereIs 30 = .ok (.iload_n 3, 1) := by decide +kernel
theorem dX5_whereIs_31 : decode cX5_whereIs 31 = .ok (.ireturn, 1) := by decide +kernel
theorem dX5_take_0 : decode cX5_take 0 = .ok (.aload_n 0, 1) := by decide +kernel
theorem dX5_take_1 : decode cX5_take 1 = .ok (.iconst 0, 1) := by decide +kernel
theorem dX5_take_2 : decode cX5_take 2 = .ok (.putfield 69, 3) := by decide +kernel
theorem dX5_take_5 : decode cX5_take 5 = .ok (.aload_n 0, 1) := by decide +kernel
theorem dX5_take_6 : decode cX5_take 6 = .ok (.iload_n 1, 1) := by decide +kernel
theorem dX5_take_7 : decode cX5_take 7 = .ok (.invokevirtual 86, 3) := by decide +kernel
theorem dX5_take_10 : decode cX5_take 10 = .ok (.ifCond .ne 5, 3) := by decide +kernel
theorem dX5_take_13 : decode cX5_take 13 = .ok (.iconst (-1), 1) := by decide +kernel
theorem dX5_take_14 : decode cX5_take 14 = .ok (.ireturn, 1) := by decide +kernel
theorem dX5_take_15 : decode cX5_take 15 = .ok (.iload_n 1, 1) := by decide +kernel
theorem dX5_take_16 : decode cX5_take 16 = .ok (.invokestatic 89, 3) := by decide +kernel
theorem dX5_take_19 : decode cX5_take 19 = .ok (.istore_n 2, 1) := by decide +kernel
theorem dX5_take_20 : decode cX5_take 20 = .ok (.aload_n 0, 1) := by decide +kernel
theorem dX5_take_21 : decode cX5_take 21 = .ok (.getfield 22, 3) := by decide +kernel
theorem dX5_take_24 : decode cX5_take 24 = .ok (.iload_n 2, 1) := by decide +kernel
theorem dX5_take_25 : decode cX5_take 25 = .ok (.iaload, 1) := by decide +kernel
theorem dX5_take_26 : decode cX5_take 26 = .ok (.istore_n 3, 1) := by decide +kernel
theorem dX5_take_27 : decode cX5_take 27 = .ok (.aload_n 0, 1) := by decide +kernel
theorem dX5_take_28 : decode cX5_take 28 = .ok (.getfield 28, 3) := by decide +kernel
theorem dX5_take_31 : decode cX5_take 31 = .ok (.iload_n 2, 1) := by decide +kernel
theorem dX5_take_32 : decode cX5_take 32 = .ok (.baload, 1) := by decide +kernel
theorem dX5_take_33 : decode cX5_take 33 = .ok (.ifCond .ne 6, 3) := by decide +kernel
theorem dX5_take_36 : decode cX5_take 36 = .ok (.bipush (-3), 2) := by decide +kernel
theorem dX5_take_38 : decode cX5_take 38 = .ok (.ireturn, 1) := by decide +kernel
theorem dX5_take_39 : decode cX5_take 39 = .ok (.aload_n 0, 1) := by decide +kernel
theorem dX5_take_40 : decode cX5_take 40 = .ok (.iload_n 2, 1) := by decide +kernel
theorem dX5_take_41 : decode cX5_take 41 = .ok (.invokevirtual 93, 3) := by decide +kernel
theorem dX5_take_44 : decode cX5_take 44 = .ok (.istore 4, 2) := by decide +kernel
theorem dX5_take_46 : decode cX5_take 46 = .ok (.aload_n 0, 1) := by decide +kernel
theorem dX5_take_47 : decode cX5_take 47 = .ok (.getfield 35, 3) := by decide +kernel
theorem dX5_take_50 : decode cX5_take 50 = .ok (.iload_n 3, 1) := by decide +kernel
theorem dX5_take_51 : decode cX5_take 51 = .ok (.dup2, 1) := by decide +kernel
theorem dX5_take_52 : decode cX5_take 52 = .ok (.iaload, 1) := by decide +kernel
theorem dX5_take_53 : decode cX5_take 53 = .ok (.iconst 1, 1) := by decide +kernel
theorem dX5_take_54 : decode cX5_take 54 = .ok (.isub, 1) := by decide +kernel
theorem dX5_take_55 : decode cX5_take 55 = .ok (.iastore, 1) := by decide +kernel
theorem dX5_take_56 : decode cX5_take 56 = .ok (.iload 4, 2) := by decide +kernel
theorem dX5_take_58 : decode cX5_take 58 = .ok (.istore 5, 2) := by decide +kernel
theorem dX5_take_60 : decode cX5_take 60 = .ok (.iload 5, 2) := by decide +kernel
theorem dX5_take_62 : decode cX5_take 62 = .ok (.aload_n 0, 1) := by decide +kernel
theorem dX5_take_63 : decode cX5_take 63 = .ok (.getfield 35, 3) := by decide +kernel
theorem dX5_take_66 : decode cX5_take 66 = .ok (.iload_n 3, 1) := by decide +kernel
theorem dX5_take_67 : decode cX5_take 67 = .ok (.iaload, 1) := by decide +kernel
theorem dX5_take_68 : decode cX5_take 68 = .ok (.if_icmp .ge 35, 3) := by decide +kernel
theorem dX5_take_71 : decode cX5_take 71 = .ok (.aload_n 0, 1) := by decide +kernel
theorem dX5_take_72 : decode cX5_take 72 = .ok (.getfield 38, 3) := by decide +kernel
theorem dX5_take_75 : decode cX5_take 75 = .ok (.bipush 48, 2) := by decide +kernel
theorem dX5_take_77 : decode cX5_take 77 = .ok (.iload_n 3, 1) := by decide +kernel
theorem dX5_take_78 : decode cX5_take 78 = .ok (.imul, 1) := by decide +kernel
theorem dX5_take_79 : decode cX5_take 79 = .ok (.iload 5, 2) := by decide +kernel
theorem dX5_take_81 : decode cX5_take 81 = .ok (.iadd, 1) := by decide +kernel
theorem dX5_take_82 : decode cX5_take 82 = .ok (.aload_n 0, 1) := by decide +kernel
theorem dX5_take_83 : decode cX5_take 83 = .ok (.getfield 38, 3) := by decide +kernel
theorem dX5_take_86 : decode cX5_take 86 = .ok (.bipush 48, 2) := by decide +kernel
theorem dX5_take_88 : decode cX5_take 88 = .ok (.iload_n 3, 1) := by decide +kernel
theorem dX5_take_89 : decode cX5_take 89 = .ok (.imul, 1) := by decide +kernel
theorem dX5_take_90 : decode cX5_take 90 = .ok (.iload 5, 2) := by decide +kernel
theorem dX5_take_92 : decode cX5_take 92 = .ok (.iadd, 1) := by decide +kernel
theorem dX5_take_93 : decode cX5_take 93 = .ok (.iconst 1, 1) := by decide +kernel
theorem dX5_take_94 : decode cX5_take 94 = .ok (.iadd, 1) := by decide +kernel
theorem dX5_take_95 : decode cX5_take 95 = .ok (.iaload, 1) := by decide +kernel
theorem dX5_take_96 : decode cX5_take 96 = .ok (.iastore, 1) := by decide +kernel
theorem dX5_take_97 : decode cX5_take 97 = .ok (.iinc 5 1, 3) := by decide +kernel
theorem dX5_take_100 : decode cX5_take 100 = .ok (.goto (-40), 3) := by decide +kernel
theorem dX5_take_103 : decode cX5_take 103 = .ok (.aload_n 0, 1) := by decide +kernel
theorem dX5_take_104 : decode cX5_take 104 = .ok (.getfield 28, 3) := by decide +kernel
theorem dX5_take_107 : decode cX5_take 107 = .ok (.iload_n 2, 1) := by decide +kernel
theorem dX5_take_108 : decode cX5_take 108 = .ok (.iconst 0, 1) := by decide +kernel
theorem dX5_take_109 : decode cX5_take 109 = .ok (.bastore, 1) := by decide +kernel
theorem dX5_take_110 : decode cX5_take 110 = .ok (.iload 4, 2) := by decide +kernel
theorem dX5_take_112 : decode cX5_take 112 = .ok (.ireturn, 1) := by decide +kernel
theorem dX5_arePlaces_0 : decode cX5_arePlaces 0 = .ok (.aload_n 0, 1) := by decide +kernel
theorem dX5_arePlaces_1 : decode cX5_arePlaces 1 = .ok (.iload_n 1, 1) := by decide +kernel
theorem dX5_arePlaces_2 : decode cX5_arePlaces 2 = .ok (.invokevirtual 83, 3) := by decide +kernel
theorem dX5_arePlaces_5 : decode cX5_arePlaces 5 = .ok (.ifCond .eq 23, 3) := by decide +kernel
theorem dX5_arePlaces_8 : decode cX5_arePlaces 8 = .ok (.iload_n 2, 1) := by decide +kernel
theorem dX5_arePlaces_9 : decode cX5_arePlaces 9 = .ok (.iconst 0, 1) := by decide +kernel
theorem dX5_arePlaces_10 : decode cX5_arePlaces 10 = .ok (.aload_n 0, 1) := by decide +kernel
theorem dX5_arePlaces_11 : decode cX5_arePlaces 11 = .ok (.getfield 35, 3) := by decide +kernel
theorem dX5_arePlaces_14 : decode cX5_arePlaces 14 = .ok (.iload_n 1, 1) := by decide +kernel
theorem dX5_arePlaces_15 : decode cX5_arePlaces 15 = .ok (.iaload, 1) := by decide +kernel
theorem dX5_arePlaces_16 : decode cX5_arePlaces 16 = .ok (.iconst 2, 1) := by decide +kernel
theorem dX5_arePlaces_17 : decode cX5_arePlaces 17 = .ok (.isub, 1) := by decide +kernel
theorem dX5_arePlaces_18 : decode cX5_arePlaces 18 = .ok (.invokestatic 75, 3) := by decide +kernel
theorem dX5_arePlaces_21 : decode cX5_arePlaces 21 = .ok (.ifCond .eq 7, 3) := by decide +kernel
theorem dX5_arePlaces_24 : decode cX5_arePlaces 24 = .ok (.iconst 1, 1) := by decide +kernel
theorem dX5_arePlaces_25 : decode cX5_arePlaces 25 = .ok (.goto 4, 3) := by decide +kernel
theorem dX5_arePlaces_28 : decode cX5_arePlaces 28 = .ok (.iconst 0, 1) := by decide +kernel
theorem dX5_arePlaces_29 : decode cX5_arePlaces 29 = .ok (.ireturn, 1) := by decide +kernel
theorem dX5_exchange_0 : decode cX5_exchange 0 = .ok (.bipush 48, 2) := by decide +kernel
theorem dX5_exchange_2 : decode cX5_exchange 2 = .ok (.iload_n 1, 1) := by decide +kernel
theorem dX5_exchange_3 : decode cX5_exchange 3 = .ok (.imul, 1) := by decide +kernel
theorem dX5_exchange_4 : decode cX5_exchange 4 = .ok (.iload_n 2, 1) := by decide +kernel
theorem dX5_exchange_5 : decode cX5_exchange 5 = .ok (.iadd, 1) := by decide +kernel
theorem dX5_exchange_6 : decode cX5_exchange 6 = .ok (.istore_n 3, 1) := by decide +kernel
theorem dX5_exchange_7 : decode cX5_exchange 7 = .ok (.aload_n 0, 1) := by decide +kernel
theorem dX5_exchange_8 : decode cX5_exchange 8 = .ok (.getfield 38, 3) := by decide +kernel
theorem dX5_exchange_11 : decode cX5_exchange 11 = .ok (.iload_n 3, 1) := by decide +kernel
theorem dX5_exchange_12 : decode cX5_exchange 12 = .ok (.iaload, 1) := by decide +kernel
theorem dX5_exchange_13 : decode cX5_exchange 13 = .ok (.istore 4, 2) := by decide +kernel
theorem dX5_exchange_15 : decode cX5_exchange 15 = .ok (.aload_n 0, 1) := by decide +kernel
theorem dX5_exchange_16 : decode cX5_exchange 16 = .ok (.getfield 38, 3) := by decide +kernel
theorem dX5_exchange_19 : decode cX5_exchange 19 = .ok (.iload_n 3, 1) := by decide +kernel
theorem dX5_exchange_20 : decode cX5_exchange 20 = .ok (.aload_n 0, 1) := by decide +kernel
theorem dX5_exchange_21 : decode cX5_exchange 21 = .ok (.getfield 38, 3) := by decide +kernel
theorem dX5_exchange_24 : decode cX5_exchange 24 = .ok (.iload_n 3, 1) := by decide +kernel
theorem dX5_exchange_25 : decode cX5_exchange 25 = .ok (.iconst 1, 1) := by decide +kernel
theorem dX5_exchange_26 : decode cX5_exchange 26 = .ok (.iadd, 1) := by decide +kernel
theorem dX5_exchange_27 : decode cX5_exchange 27 = .ok (.iaload, 1) := by decide +kernel
theorem dX5_exchange_28 : decode cX5_exchange 28 = .ok (.iastore, 1) := by decide +kernel
theorem dX5_exchange_29 : decode cX5_exchange 29 = .ok (.aload_n 0, 1) := by decide +kernel
theorem dX5_exchange_30 : decode cX5_exchange 30 = .ok (.getfield 38, 3) := by decide +kernel
theorem dX5_exchange_33 : decode cX5_exchange 33 = .ok (.iload_n 3, 1) := by decide +kernel
theorem dX5_exchange_34 : decode cX5_exchange 34 = .ok (.iconst 1, 1) := by decide +kernel
theorem dX5_exchange_35 : decode cX5_exchange 35 = .ok (.iadd, 1) := by decide +kernel
theorem dX5_exchange_36 : decode cX5_exchange 36 = .ok (.iload 4, 2) := by decide +kernel
theorem dX5_exchange_38 : decode cX5_exchange 38 = .ok (.iastore, 1) := by decide +kernel
theorem dX5_exchange_39 : decode cX5_exchange 39 = .ok (.return_, 1) := by decide +kernel
theorem dX5_swap_0 : decode cX5_swap 0 = .ok (.aload_n 0, 1) := by decide +kernel
theorem dX5_swap_1 : decode cX5_swap 1 = .ok (.iconst 0, 1) := by decide +kernel
theorem dX5_swap_2 : decode cX5_swap 2 = .ok (.putfield 69, 3) := by decide +kernel
theorem dX5_swap_5 : decode cX5_swap 5 = .ok (.aload_n 0, 1) := by decide +kernel
theorem dX5_swap_6 : decode cX5_swap 6 = .ok (.iload_n 1, 1) := by decide +kernel
theorem dX5_swap_7 : decode cX5_swap 7 = .ok (.iload_n 2, 1) := by decide +kernel
theorem dX5_swap_8 : decode cX5_swap 8 = .ok (.invokevirtual 96, 3) := by decide +kernel
theorem dX5_swap_11 : decode cX5_swap 11 = .ok (.ifCond .ne 5, 3) := by decide +kernel
theorem dX5_swap_14 : decode cX5_swap 14 = .ok (.iconst (-1), 1) := by decide +kernel
theorem dX5_swap_15 : decode cX5_swap 15 = .ok (.ireturn, 1) := by decide +kernel
theorem dX5_swap_16 : decode cX5_swap 16 = .ok (.aload_n 0, 1) := by decide +kernel
theorem dX5_swap_17 : decode cX5_swap 17 = .ok (.iload_n 1, 1) := by decide +kernel
theorem dX5_swap_18 : decode cX5_swap 18 = .ok (.iload_n 2, 1) := by decide +kernel
theorem dX5_swap_19 : decode cX5_swap 19 = .ok (.invokevirtual 100, 3) := by decide +kernel
theorem dX5_swap_22 : decode cX5_swap 22 = .ok (.iconst 1, 1) := by decide +kernel
theorem dX5_swap_23 : decode cX5_swap 23 = .ok (.ireturn, 1) := by decide +kernel
theorem dX5_told_0 : decode cX5_told 0 = .ok (.bipush 10, 2) := by decide +kernel
theorem dX5_told_2 : decode cX5_told 2 = .ok (.iload_n 0, 1) := by decide +kernel
theorem dX5_told_3 : decode cX5_told 3 = .ok (.bipush 6, 2) := by decide +kernel
theorem dX5_told_5 : decode cX5_told 5 = .ok (.idiv, 1) := by decide +kernel
theorem dX5_told_6 : decode cX5_told 6 = .ok (.imul, 1) := by decide +kernel
theorem dX5_told_7 : decode cX5_told 7 = .ok (.iload_n 0, 1) := by decide +kernel
theorem dX5_told_8 : decode cX5_told 8 = .ok (.bipush 6, 2) := by decide +kernel
theorem dX5_told_10 : decode cX5_told 10 = .ok (.irem, 1) := by decide +kernel
theorem dX5_told_11 : decode cX5_told 11 = .ok (.iadd, 1) := by decide +kernel
theorem dX5_told_12 : decode cX5_told 12 = .ok (.ireturn, 1) := by decide +kernel
theorem dX5_at_0 : decode cX5_at 0 = .ok (.aload_n 0, 1) := by decide +kernel
theorem dX5_at_1 : decode cX5_at 1 = .ok (.iconst 0, 1) := by decide +kernel
theorem dX5_at_2 : decode cX5_at 2 = .ok (.putfield 69, 3) := by decide +kernel
theorem dX5_at_5 : decode cX5_at 5 = .ok (.aload_n 0, 1) := by decide +kernel
theorem dX5_at_6 : decode cX5_at 6 = .ok (.iload_n 1, 1) := by decide +kernel
theorem dX5_at_7 : decode cX5_at 7 = .ok (.invokevirtual 83, 3) := by decide +kernel
theorem dX5_at_10 : decode cX5_at 10 = .ok (.ifCond .eq 19, 3) := by decide +kernel
theorem dX5_at_13 : decode cX5_at 13 = .ok (.iload_n 2, 1) := by decide +kernel
theorem dX5_at_14 : decode cX5_at 14 = .ok (.iconst (-1), 1) := by decide +kernel
theorem dX5_at_15 : decode cX5_at 15 = .ok (.aload_n 0, 1) := by decide +kernel
theorem dX5_at_16 : decode cX5_at 16 = .ok (.getfield 35, 3) := by decide +kernel
theorem dX5_at_19 : decode cX5_at 19 = .ok (.iload_n 1, 1) := by decide +kernel
theorem dX5_at_20 : decode cX5_at 20 = .ok (.iaload, 1) := by decide +kernel
theorem dX5_at_21 : decode cX5_at 21 = .ok (.iconst 1, 1) := by decide +kernel
theorem dX5_at_22 : decode cX5_at 22 = .ok (.isub, 1) := by decide +kernel
theorem dX5_at_23 : decode cX5_at 23 = .ok (.invokestatic 75, 3) := by decide +kernel
theorem dX5_at_26 : decode cX5_at 26 = .ok (.ifCond .ne 5, 3) := by decide +kernel
theorem dX5_at_29 : decode cX5_at 29 = .ok (.iconst (-1), 1) := by decide +kernel
theorem dX5_at_30 : decode cX5_at 30 = .ok (.ireturn, 1) := by decide +kernel
theorem dX5_at_31 : decode cX5_at 31 = .ok (.iload_n 2, 1) := by decide +kernel
theorem dX5_at_32 : decode cX5_at 32 = .ok (.ifCond .ge 12, 3) := by decide +kernel
theorem dX5_at_35 : decode cX5_at 35 = .ok (.aload_n 0, 1) := by decide +kernel
theorem dX5_at_36 : decode cX5_at 36 = .ok (.getfield 35, 3) := by decide +kernel
theorem dX5_at_39 : decode cX5_at 39 = .ok (.iload_n 1, 1) := by decide +kernel
theorem dX5_at_40 : decode cX5_at 40 = .ok (.iaload, 1) := by decide +kernel
theorem dX5_at_41 : decode cX5_at 41 = .ok (.goto 17, 3) := by decide +kernel
theorem dX5_at_44 : decode cX5_at 44 = .ok (.aload_n 0, 1) := by decide +kernel
theorem dX5_at_45 : decode cX5_at 45 = .ok (.getfield 38, 3) := by decide +kernel
theorem dX5_at_48 : decode cX5_at 48 = .ok (.bipush 48, 2) := by decide +kernel
theorem dX5_at_50 : decode cX5_at 50 = .ok (.iload_n 1, 1) := by decide +kernel
theorem dX5_at_51 : decode cX5_at 51 = .ok (.imul, 1) := by decide +kernel
theorem dX5_at_52 : decode cX5_at 52 = .ok (.iload_n 2, 1) := by decide +kernel
theorem dX5_at_53 : decode cX5_at 53 = .ok (.iadd, 1) := by decide +kernel
theorem dX5_at_54 : decode cX5_at 54 = .ok (.iaload, 1) := by decide +kernel
theorem dX5_at_55 : decode cX5_at 55 = .ok (.invokestatic 104, 3) := by decide +kernel
theorem dX5_at_58 : decode cX5_at 58 = .ok (.ireturn, 1) := by decide +kernel
theorem dX5_beginOfNext_0 : decode cX5_beginOfNext 0 = .ok (.bipush 6, 2) := by decide +kernel
theorem dX5_beginOfNext_2 : decode cX5_beginOfNext 2 = .ok (.iload_n 1, 1) := by decide +kernel
theorem dX5_beginOfNext_3 : decode cX5_beginOfNext 3 = .ok (.imul, 1) := by decide +kernel
theorem dX5_beginOfNext_4 : decode cX5_beginOfNext 4 = .ok (.aload_n 0, 1) := by decide +kernel
theorem dX5_beginOfNext_5 : decode cX5_beginOfNext 5 = .ok (.getfield 44, 3) := by decide +kernel
theorem dX5_beginOfNext_8 : decode cX5_beginOfNext 8 = .ok (.iload_n 1, 1) := by decide +kernel
theorem dX5_beginOfNext_9 : decode cX5_beginOfNext 9 = .ok (.iaload, 1) := by decide +kernel
theorem dX5_beginOfNext_10 : decode cX5_beginOfNext 10 = .ok (.iadd, 1) := by decide +kernel
theorem dX5_beginOfNext_11 : decode cX5_beginOfNext 11 = .ok (.istore_n 2, 1) := by decide +kernel
theorem dX5_beginOfNext_12 : decode cX5_beginOfNext 12 = .ok (.aload_n 0, 1) := by decide +kernel
theorem dX5_beginOfNext_13 : decode cX5_beginOfNext 13 = .ok (.getfield 22, 3) := by decide +kernel
theorem dX5_beginOfNext_16 : decode cX5_beginOfNext 16 = .ok (.iload_n 2, 1) := by decide +kernel
theorem dX5_beginOfNext_17 : decode cX5_beginOfNext 17 = .ok (.iaload, 1) := by decide +kernel
theorem dX5_beginOfNext_18 : decode cX5_beginOfNext 18 = .ok (.istore_n 3, 1) := by decide +kernel
theorem dX5_beginOfNext_19 : decode cX5_beginOfNext 19 = .ok (.aload_n 0, 1) := by decide +kernel
theorem dX5_beginOfNext_20 : decode cX5_beginOfNext 20 = .ok (.getfield 44, 3) := by decide +kernel
theorem dX5_beginOfNext_23 : decode cX5_beginOfNext 23 = .ok (.iload_n 1, 1) := by decide +kernel
theorem dX5_beginOfNext_24 : decode cX5_beginOfNext 24 = .ok (.iaload, 1) := by decide +kernel
theorem dX5_beginOfNext_25 : decode cX5_beginOfNext 25 = .ok (.ifCond .ne 12, 3) := by decide +kernel
theorem dX5_beginOfNext_28 : decode cX5_beginOfNext 28 = .ok (.aload_n 0, 1) := by decide +kernel
theorem dX5_beginOfNext_29 : decode cX5_beginOfNext 29 = .ok (.getfield 7, 3) := by decide +kernel
theorem dX5_beginOfNext_32 : decode cX5_beginOfNext 32 = .ok (.iload_n 1, 1) := by decide +kernel
theorem dX5_beginOfNext_33 : decode cX5_beginOfNext 33 = .ok (.iaload, 1) := by decide +kernel
theorem dX5_beginOfNext_34 : decode cX5_beginOfNext 34 = .ok (.goto 11, 3) := by decide +kernel
theorem dX5_beginOfNext_37 : decode cX5_beginOfNext 37 = .ok (.aload_n 0, 1) := by decide +kernel
theorem dX5_beginOfNext_38 : decode cX5_beginOfNext 38 = .ok (.getfield 41, 3) := by decide +kernel
theorem dX5_beginOfNext_41 : decode cX5_beginOfNext 41 = .ok (.iload_n 2, 1) := by decide +kernel
theorem dX5_beginOfNext_42 : decode cX5_beginOfNext 42 = .ok (.iconst 1, 1) := by decide +kernel
theorem dX5_beginOfNext_43 : decode cX5_beginOfNext 43 = .ok (.isub, 1) := by decide +kernel
theorem dX5_beginOfNext_44 : decode cX5_beginOfNext 44 = .ok (.iaload, 1) := by decide +kernel
theorem dX5_beginOfNext_45 : decode cX5_beginOfNext 45 = .ok (.istore 4, 2) := by decide +kernel
theorem dX5_beginOfNext_47 : decode cX5_beginOfNext 47 = .ok (.aload_n 0, 1) := by decide +kernel
theorem dX5_beginOfNext_48 : decode cX5_beginOfNext 48 = .ok (.getfield 35, 3) := by decide +kernel
theorem dX5_beginOfNext_51 : decode cX5_beginOfNext 51 = .ok (.iload_n 3, 1) := by decide +kernel
theorem dX5_beginOfNext_52 : decode cX5_beginOfNext 52 = .ok (.iaload, 1) := by decide +kernel
theorem dX5_beginOfNext_53 : decode cX5_beginOfNext 53 = .ok (.ifCond .le 69, 3) := by decide +kernel
theorem dX5_beginOfNext_56 : decode cX5_beginOfNext 56 = .ok (.aload_n 0, 1) := by decide +kernel
theorem dX5_beginOfNext_57 : decode cX5_beginOfNext 57 = .ok (.getfield 38, 3) := by decide +kernel
theorem dX5_beginOfNext_60 : decode cX5_beginOfNext 60 = .ok (.bipush 48, 2) := by decide +kernel
theorem dX5_beginOfNext_62 : decode cX5_beginOfNext 62 = .ok (.iload_n 3, 1) := by decide +kernel
theorem dX5_beginOfNext_63 : decode cX5_beginOfNext 63 = .ok (.imul, 1) := by decide +kernel
theorem dX5_beginOfNext_64 : decode cX5_beginOfNext 64 = .ok (.aload_n 0, 1) := by decide +kernel
theorem dX5_beginOfNext_65 : decode cX5_beginOfNext 65 = .ok (.getfield 35, 3) := by decide +kernel
theorem dX5_beginOfNext_68 : decode cX5_beginOfNext 68 = .ok (.iload_n 3, 1) := by decide +kernel
theorem dX5_beginOfNext_69 : decode cX5_beginOfNext 69 = .ok (.iaload, 1) := by decide +kernel
theorem dX5_beginOfNext_70 : decode cX5_beginOfNext 70 = .ok (.iadd, 1) := by decide +kernel
theorem dX5_beginOfNext_71 : decode cX5_beginOfNext 71 = .ok (.iconst 1, 1) := by decide +kernel
theorem dX5_beginOfNext_72 : decode cX5_beginOfNext 72 = .ok (.isub, 1) := by decide +kernel
theorem dX5_beginOfNext_73 : decode cX5_beginOfNext 73 = .ok (.iaload, 1) := by decide +kernel
theorem dX5_beginOfNext_74 : decode cX5_beginOfNext 74 = .ok (.istore 5, 2) := by decide +kernel
theorem dX5_beginOfNext_76 : decode cX5_beginOfNext 76 = .ok (.aload_n 0, 1) := by decide +kernel
theorem dX5_beginOfNext_77 : decode cX5_beginOfNext 77 = .ok (.getfield 41, 3) := by decide +kernel
theorem dX5_beginOfNext_80 : decode cX5_beginOfNext 80 = .ok (.iload 5, 2) := by decide +kernel
theorem dX5_beginOfNext_82 : decode cX5_beginOfNext 82 = .ok (.iaload, 1) := by decide +kernel
theorem dX5_beginOfNext_83 : decode cX5_beginOfNext 83 = .ok (.aload_n 0, 1) := by decide +kernel
theorem dX5_beginOfNext_84 : decode cX5_beginOfNext 84 = .ok (.getfield 32, 3) := by decide +kernel
theorem dX5_beginOfNext_87 : decode cX5_beginOfNext 87 = .ok (.bipush 64, 2) := by decide +kernel
theorem dX5_beginOfNext_89 : decode cX5_beginOfNext 89 = .ok (.iload_n 3, 1) := by decide +kernel
theorem dX5_beginOfNext_90 : decode cX5_beginOfNext 90 = .ok (.imul, 1) := by decide +kernel
theorem dX5_beginOfNext_91 : decode cX5_beginOfNext 91 = .ok (.bipush 8, 2) := by decide +kernel
theorem dX5_beginOfNext_93 : decode cX5_beginOfNext 93 = .ok (.iload 5, 2) := by decide +kernel
theorem dX5_beginOfNext_95 : decode cX5_beginOfNext 95 = .ok (.bipush 6, 2) := by decide +kernel
theorem dX5_beginOfNext_97 : decode cX5_beginOfNext 97 = .ok (.idiv, 1) := by decide +kernel
theorem dX5_beginOfNext_98 : decode cX5_beginOfNext 98 = .ok (.imul, 1) := by decide +kernel
theorem dX5_beginOfNext_99 : decode cX5_beginOfNext 99 = .ok (.iadd, 1) := by decide +kernel
theorem dX5_beginOfNext_100 : decode cX5_beginOfNext 100 = .ok (.iload_n 1, 1) := by decide +kernel
theorem dX5_beginOfNext_101 : decode cX5_beginOfNext 101 = .ok (.iadd, 1) := by decide +kernel
theorem dX5_beginOfNext_102 : decode cX5_beginOfNext 102 = .ok (.iaload, 1) := by decide +kernel
theorem dX5_beginOfNext_103 : decode cX5_beginOfNext 103 = .ok (.iadd, 1) := by decide +kernel
theorem dX5_beginOfNext_104 : decode cX5_beginOfNext 104 = .ok (.istore 6, 2) := by decide +kernel
theorem dX5_beginOfNext_106 : decode cX5_beginOfNext 106 = .ok (.iload 6, 2) := by decide +kernel
theorem dX5_beginOfNext_108 : decode cX5_beginOfNext 108 = .ok (.iload 4, 2) := by decide +kernel
theorem dX5_beginOfNext_110 : decode cX5_beginOfNext 110 = .ok (.if_icmp .le 8, 3) := by decide +kernel
theorem dX5_beginOfNext_113 : decode cX5_beginOfNext 113 = .ok (.iload 6, 2) := by decide +kernel
theorem dX5_beginOfNext_115 : decode cX5_beginOfNext 115 = .ok (.goto 5, 3) := by decide +kernel
theorem dX5_beginOfNext_118 : decode cX5_beginOfNext 118 = .ok (.iload 4, 2) := by decide +kernel
theorem dX5_beginOfNext_120 : decode cX5_beginOfNext 120 = .ok (.istore 4, 2) := by decide +kernel
theorem dX5_beginOfNext_122 : decode cX5_beginOfNext 122 = .ok (.iload 4, 2) := by decide +kernel
theorem dX5_beginOfNext_124 : decode cX5_beginOfNext 124 = .ok (.ireturn, 1) := by decide +kernel
theorem dX5_leftOf_0 : decode cX5_leftOf 0 = .ok (.iconst 0, 1) := by decide +kernel
theorem dX5_leftOf_1 : decode cX5_leftOf 1 = .ok (.istore_n 2, 1) := by decide +kernel
theorem dX5_leftOf_2 : decode cX5_leftOf 2 = .ok (.iload_n 1, 1) := by decide +kernel
theorem dX5_leftOf_3 : decode cX5_leftOf 3 = .ok (.istore_n 3, 1) := by decide +kernel
theorem dX5_leftOf_4 : decode cX5_leftOf 4 = .ok (.iload_n 3, 1) := by decide +kernel
theorem dX5_leftOf_5 : decode cX5_leftOf 5 = .ok (.bipush 6, 2) := by decide +kernel
theorem dX5_leftOf_7 : decode cX5_leftOf 7 = .ok (.iload_n 1, 1) := by decide +kernel
theorem dX5_leftOf_8 : decode cX5_leftOf 8 = .ok (.bipush 6, 2) := by decide +kernel
theorem dX5_leftOf_10 : decode cX5_leftOf 10 = .ok (.idiv, 1) := by decide +kernel
theorem dX5_leftOf_11 : decode cX5_leftOf 11 = .ok (.imul, 1) := by decide +kernel
theorem dX5_leftOf_12 : decode cX5_leftOf 12 = .ok (.aload_n 0, 1) := by decide +kernel
theorem dX5_leftOf_13 : decode cX5_leftOf 13 = .ok (.getfield 19, 3) := by decide +kernel
theorem dX5_leftOf_16 : decode cX5_leftOf 16 = .ok (.iload_n 1, 1) := by decide +kernel
theorem dX5_leftOf_17 : decode cX5_leftOf 17 = .ok (.bipush 6, 2) := by decide +kernel
theorem dX5_leftOf_19 : decode cX5_leftOf 19 = .ok (.idiv, 1) := by decide +kernel
theorem dX5_leftOf_20 : decode cX5_leftOf 20 = .ok (.iaload, 1) := by decide +kernel
theorem dX5_leftOf_21 : decode cX5_leftOf 21 = .ok (.iadd, 1) := by decide +kernel
theorem dX5_leftOf_22 : decode cX5_leftOf 22 = .ok (.if_icmp .ge 18, 3) := by decide +kernel
theorem dX5_leftOf_25 : decode cX5_leftOf 25 = .ok (.iload_n 2, 1) := by decide +kernel
theorem dX5_leftOf_26 : decode cX5_leftOf 26 = .ok (.aload_n 0, 1) := by decide +kernel
theorem dX5_leftOf_27 : decode cX5_leftOf 27 = .ok (.getfield 25, 3) := by decide +kernel
theorem dX5_leftOf_30 : decode cX5_leftOf 30 = .ok (.iload_n 3, 1) := by decide +kernel
theorem dX5_leftOf_31 : decode cX5_leftOf 31 = .ok (.iaload, 1) := by decide +kernel
theorem dX5_leftOf_32 : decode cX5_leftOf 32 = .ok (.iadd, 1) := by decide +kernel
theorem dX5_leftOf_33 : decode cX5_leftOf 33 = .ok (.istore_n 2, 1) := by decide +kernel
theorem dX5_leftOf_34 : decode cX5_leftOf 34 = .ok (.iinc 3 1, 3) := by decide +kernel
theorem dX5_leftOf_37 : decode cX5_leftOf 37 = .ok (.goto (-33), 3) := by decide +kernel
theorem dX5_leftOf_40 : decode cX5_leftOf 40 = .ok (.iload_n 2, 1) := by decide +kernel
theorem dX5_leftOf_41 : decode cX5_leftOf 41 = .ok (.ireturn, 1) := by decide +kernel
theorem dX5_fill_0 : decode cX5_fill 0 = .ok (.aload_n 0, 1) := by decide +kernel
theorem dX5_fill_1 : decode cX5_fill 1 = .ok (.iconst 0, 1) := by decide +kernel
theorem dX5_fill_2 : decode cX5_fill 2 = .ok (.putfield 69, 3) := by decide +kernel
theorem dX5_fill_5 : decode cX5_fill 5 = .ok (.iload_n 1, 1) := by decide +kernel
theorem dX5_fill_6 : decode cX5_fill 6 = .ok (.iconst 0, 1) := by decide +kernel
theorem dX5_fill_7 : decode cX5_fill 7 = .ok (.iconst 3, 1) := by decide +kernel
theorem dX5_fill_8 : decode cX5_fill 8 = .ok (.invokestatic 75, 3) := by decide +kernel
theorem dX5_fill_11 : decode cX5_fill 11 = .ok (.ifCond .ne 6, 3) := by decide +kernel
theorem dX5_fill_14 : decode cX5_fill 14 = .ok (.bipush (-2), 2) := by decide +kernel
theorem dX5_fill_16 : decode cX5_fill 16 = .ok (.ireturn, 1) := by decide +kernel
theorem dX5_fill_17 : decode cX5_fill 17 = .ok (.iconst 0, 1) := by decide +kernel
theorem dX5_fill_18 : decode cX5_fill 18 = .ok (.istore_n 2, 1) := by decide +kernel
theorem dX5_fill_19 : decode cX5_fill 19 = .ok (.iconst 0, 1) := by decide +kernel
theorem dX5_fill_20 : decode cX5_fill 20 = .ok (.istore_n 3, 1) := by decide +kernel
theorem dX5_fill_21 : decode cX5_fill 21 = .ok (.iload_n 3, 1) := by decide +kernel
theorem dX5_fill_22 : decode cX5_fill 22 = .ok (.iconst 5, 1) := by decide +kernel
theorem dX5_fill_23 : decode cX5_fill 23 = .ok (.if_icmp .ge 16, 3) := by decide +kernel
theorem dX5_fill_26 : decode cX5_fill 26 = .ok (.aload_n 0, 1) := by decide +kernel
theorem dX5_fill_27 : decode cX5_fill 27 = .ok (.getfield 35, 3) := by decide +kernel
theorem dX5_fill_30 : decode cX5_fill 30 = .ok (.iload_n 3, 1) := by decide +kernel
theorem dX5_fill_31 : decode cX5_fill 31 = .ok (.iconst 0, 1) := by decide +kernel
theorem dX5_fill_32 : decode cX5_fill 32 = .ok (.iastore, 1) := by decide +kernel
theorem dX5_fill_33 : decode cX5_fill 33 = .ok (.iinc 3 1, 3) := by decide +kernel
theorem dX5_fill_36 : decode cX5_fill 36 = .ok (.goto (-15), 3) := by decide +kernel
theorem dX5_fill_39 : decode cX5_fill 39 = .ok (.iconst 0, 1) := by decide +kernel
theorem dX5_fill_40 : decode cX5_fill 40 = .ok (.istore_n 3, 1) := by decide +kernel
theorem dX5_fill_41 : decode cX5_fill 41 = .ok (.iload_n 3, 1) := by decide +kernel
theorem dX5_fill_42 : decode cX5_fill 42 = .ok (.bipush 8, 2) := by decide +kernel
theorem dX5_fill_44 : decode cX5_fill 44 = .ok (.if_icmp .ge 37, 3) := by decide +kernel
theorem dX5_fill_47 : decode cX5_fill 47 = .ok (.aload_n 0, 1) := by decide +kernel
theorem dX5_fill_48 : decode cX5_fill 48 = .ok (.getfield 44, 3) := by decide +kernel
theorem dX5_fill_51 : decode cX5_fill 51 = .ok (.iload_n 3, 1) := by decide +kernel
theorem dX5_fill_52 : decode cX5_fill 52 = .ok (.iconst 0, 1) := by decide +kernel
theorem dX5_fill_53 : decode cX5_fill 53 = .ok (.iastore, 1) := by decide +kernel
theorem dX5_fill_54 : decode cX5_fill 54 = .ok (.iload_n 2, 1) := by decide +kernel
theorem dX5_fill_55 : decode cX5_fill 55 = .ok (.iload_n 3, 1) := by decide +kernel
theorem dX5_fill_56 : decode cX5_fill 56 = .ok (.aload_n 0, 1) := by decide +kernel
theorem dX5_fill_57 : decode cX5_fill 57 = .ok (.getfield 72, 3) := by decide +kernel
theorem dX5_fill_60 : decode cX5_fill 60 = .ok (.if_icmp .ge 12, 3) := by decide +kernel
theorem dX5_fill_63 : decode cX5_fill 63 = .ok (.aload_n 0, 1) := by decide +kernel
theorem dX5_fill_64 : decode cX5_fill 64 = .ok (.getfield 19, 3) := by decide +kernel
theorem dX5_fill_67 : decode cX5_fill 67 = .ok (.iload_n 3, 1) := by decide +kernel
theorem dX5_fill_68 : decode cX5_fill 68 = .ok (.iaload, 1) := by decide +kernel
theorem dX5_fill_69 : decode cX5_fill 69 = .ok (.goto 4, 3) := by decide +kernel
theorem dX5_fill_72 : decode cX5_fill 72 = .ok (.iconst 0, 1) := by decide +kernel
theorem dX5_fill_73 : decode cX5_fill 73 = .ok (.iadd, 1) := by decide +kernel
theorem dX5_fill_74 : decode cX5_fill 74 = .ok (.istore_n 2, 1) := by decide +kernel
theorem dX5_fill_75 : decode cX5_fill 75 = .ok (.iinc 3 1, 3) := by decide +kernel
theorem dX5_fill_78 : decode cX5_fill 78 = .ok (.goto (-37), 3) := by decide +kernel
theorem dX5_fill_81 : decode cX5_fill 81 = .ok (.iconst 0, 1) := by decide +kernel
theorem dX5_fill_82 : decode cX5_fill 82 = .ok (.istore_n 3, 1) := by decide +kernel
theorem dX5_fill_83 : decode cX5_fill 83 = .ok (.iload_n 3, 1) := by decide +kernel
theorem dX5_fill_84 : decode cX5_fill 84 = .ok (.bipush 48, 2) := by decide +kernel
theorem dX5_fill_86 : decode cX5_fill 86 = .ok (.if_icmp .ge 16, 3) := by decide +kernel
theorem dX5_fill_89 : decode cX5_fill 89 = .ok (.aload_n 0, 1) := by decide +kernel
theorem dX5_fill_90 : decode cX5_fill 90 = .ok (.getfield 28, 3) := by decide +kernel
theorem dX5_fill_93 : decode cX5_fill 93 = .ok (.iload_n 3, 1) := by decide +kernel
theorem dX5_fill_94 : decode cX5_fill 94 = .ok (.iconst 0, 1) := by decide +kernel
theorem dX5_fill_95 : decode cX5_fill 95 = .ok (.bastore, 1) := by decide +kernel
theorem dX5_fill_96 : decode cX5_fill 96 = .ok (.iinc 3 1, 3) := by decide +kernel
theorem dX5_fill_99 : decode cX5_fill 99 = .ok (.goto (-16), 3) := by decide +kernel
theorem dX5_fill_102 : decode cX5_fill 102 = .ok (.iconst 0, 1) := by decide +kernel
theorem dX5_fill_103 : decode cX5_fill 103 = .ok (.istore_n 3, 1) := by decide +kernel
theorem dX5_fill_104 : decode cX5_fill 104 = .ok (.iload_n 3, 1) := by decide +kernel
theorem dX5_fill_105 : decode cX5_fill 105 = .ok (.iload_n 2, 1) := by decide +kernel
theorem dX5_fill_106 : decode cX5_fill 106 = .ok (.if_icmp .ge 361, 3) := by decide +kernel
theorem dX5_fill_109 : decode cX5_fill 109 = .ok (.iconst (-1), 1) := by decide +kernel
theorem dX5_fill_110 : decode cX5_fill 110 = .ok (.istore 4, 2) := by decide +kernel
theorem dX5_fill_112 : decode cX5_fill 112 = .ok (.iconst 0, 1) := by decide +kernel
theorem dX5_fill_113 : decode cX5_fill 113 = .ok (.istore 5, 2) := by decide +kernel
theorem dX5_fill_115 : decode cX5_fill 115 = .ok (.iconst 0, 1) := by decide +kernel
theorem dX5_fill_116 : decode cX5_fill 116 = .ok (.istore 6, 2) := by decide +kernel
theorem dX5_fill_118 : decode cX5_fill 118 = .ok (.iload 6, 2) := by decide +kernel
theorem dX5_fill_120 : decode cX5_fill 120 = .ok (.aload_n 0, 1) := by decide +kernel
theorem dX5_fill_121 : decode cX5_fill 121 = .ok (.getfield 72, 3) := by decide +kernel
theorem dX5_fill_124 : decode cX5_fill 124 = .ok (.if_icmp .ge 73, 3) := by decide +kernel
theorem dX5_fill_127 : decode cX5_fill 127 = .ok (.aload_n 0, 1) := by decide +kernel
theorem dX5_fill_128 : decode cX5_fill 128 = .ok (.getfield 44, 3) := by decide +kernel
theorem dX5_fill_131 : decode cX5_fill 131 = .ok (.iload 6, 2) := by decide +kernel
theorem dX5_fill_133 : decode cX5_fill 133 = .ok (.iaload, 1) := by decide +kernel
theorem dX5_fill_134 : decode cX5_fill 134 = .ok (.aload_n 0, 1) := by decide +kernel
theorem dX5_fill_135 : decode cX5_fill 135 = .ok (.getfield 19, 3) := by decide +kernel
theorem dX5_fill_138 : decode cX5_fill 138 = .ok (.iload 6, 2) := by decide +kernel
theorem dX5_fill_140 : decode cX5_fill 140 = .ok (.iaload, 1) := by decide +kernel
theorem dX5_fill_141 : decode cX5_fill 141 = .ok (.if_icmp .ge 50, 3) := by decide +kernel
theorem dX5_fill_144 : decode cX5_fill 144 = .ok (.aload_n 0, 1) := by decide +kernel
theorem dX5_fill_145 : decode cX5_fill 145 = .ok (.iload 6, 2) := by decide +kernel
theorem dX5_fill_147 : decode cX5_fill 147 = .ok (.invokevirtual 107, 3) := by decide +kernel
theorem dX5_fill_150 : decode cX5_fill 150 = .ok (.aload_n 0, 1) := by decide +kernel
theorem dX5_fill_151 : decode cX5_fill 151 = .ok (.getfield 25, 3) := by decide +kernel
theorem dX5_fill_154 : decode cX5_fill 154 = .ok (.bipush 6, 2) := by decide +kernel
theorem dX5_fill_156 : decode cX5_fill 156 = .ok (.iload 6, 2) := by decide +kernel
theorem dX5_fill_158 : decode cX5_fill 158 = .ok (.imul, 1) := by decide +kernel
theorem dX5_fill_159 : decode cX5_fill 159 = .ok (.aload_n 0, 1) := by decide +kernel
theorem dX5_fill_160 : decode cX5_fill 160 = .ok (.getfield 44, 3) := by decide +kernel
theorem dX5_fill_163 : decode cX5_fill 163 = .ok (.iload 6, 2) := by decide +kernel
theorem dX5_fill_165 : decode cX5_fill 165 = .ok (.iaload, 1) := by decide +kernel
theorem dX5_fill_166 : decode cX5_fill 166 = .ok (.iadd, 1) := by decide +kernel
theorem dX5_fill_167 : decode cX5_fill 167 = .ok (.iaload, 1) := by decide +kernel
theorem dX5_fill_168 : decode cX5_fill 168 = .ok (.iadd, 1) := by decide +kernel
theorem dX5_fill_169 : decode cX5_fill 169 = .ok (.istore 7, 2) := by decide +kernel
theorem dX5_fill_171 : decode cX5_fill 171 = .ok (.iload 4, 2) := by decide +kernel
theorem dX5_fill_173 : decode cX5_fill 173 = .ok (.ifCond .lt 10, 3) := by decide +kernel
theorem dX5_fill_176 : decode cX5_fill 176 = .ok (.iload 7, 2) := by decide +kernel
theorem dX5_fill_178 : decode cX5_fill 178 = .ok (.iload 5, 2) := by decide +kernel
theorem dX5_fill_180 : decode cX5_fill 180 = .ok (.if_icmp .ge 11, 3) := by decide +kernel
theorem dX5_fill_183 : decode cX5_fill 183 = .ok (.iload 6, 2) := by decide +kernel
theorem dX5_fill_185 : decode cX5_fill 185 = .ok (.istore 4, 2) := by decide +kernel
theorem dX5_fill_187 : decode cX5_fill 187 = .ok (.iload 7, 2) := by decide +kernel
theorem dX5_fill_189 : decode cX5_fill 189 = .ok (.istore 5, 2) := by decide +kernel
theorem dX5_fill_191 : decode cX5_fill 191 = .ok (.iinc 6 1, 3) := by decide +kernel
theorem dX5_fill_194 : decode cX5_fill 194 = .ok (.goto (-76), 3) := by decide +kernel
theorem dX5_fill_197 : decode cX5_fill 197 = .ok (.aload_n 0, 1) := by decide +kernel
theorem dX5_fill_198 : decode cX5_fill 198 = .ok (.getfield 22, 3) := by decide +kernel
theorem dX5_fill_201 : decode cX5_fill 201 = .ok (.bipush 6, 2) := by decide +kernel
theorem dX5_fill_203 : decode cX5_fill 203 = .ok (.iload 4, 2) := by decide +kernel
theorem dX5_fill_205 : decode cX5_fill 205 = .ok (.imul, 1) := by decide +kernel
theorem dX5_fill_206 : decode cX5_fill 206 = .ok (.aload_n 0, 1) := by decide +kernel
theorem dX5_fill_207 : decode cX5_fill 207 = .ok (.getfield 44, 3) := by decide +kernel
theorem dX5_fill_210 : decode cX5_fill 210 = .ok (.iload 4, 2) := by decide +kernel
theorem dX5_fill_212 : decode cX5_fill 212 = .ok (.iaload, 1) := by decide +kernel
theorem dX5_fill_213 : decode cX5_fill 213 = .ok (.iadd, 1) := by decide +kernel
theorem dX5_fill_214 : decode cX5_fill 214 = .ok (.iaload, 1) := by decide +kernel
theorem dX5_fill_215 : decode cX5_fill 215 = .ok (.istore 6, 2) := by decide +kernel
theorem dX5_fill_217 : decode cX5_fill 217 = .ok (.iconst (-1), 1) := by decide +kernel
theorem dX5_fill_218 : decode cX5_fill 218 = .ok (.istore 7, 2) := by decide +kernel
theorem dX5_fill_220 : decode cX5_fill 220 = .ok (.iconst 0, 1) := by decide +kernel
theorem dX5_fill_221 : decode cX5_fill 221 = .ok (.istore 8, 2) := by decide +kernel
theorem dX5_fill_223 : decode cX5_fill 223 = .ok (.iconst 0, 1) := by decide +kernel
theorem dX5_fill_224 : decode cX5_fill 224 = .ok (.istore 9, 2) := by decide +kernel
theorem dX5_fill_226 : decode cX5_fill 226 = .ok (.iload 9, 2) := by decide +kernel
theorem dX5_fill_228 : decode cX5_fill 228 = .ok (.aload_n 0, 1) := by decide +kernel
theorem dX5_fill_229 : decode cX5_fill 229 = .ok (.getfield 72, 3) := by decide +kernel
theorem dX5_fill_232 : decode cX5_fill 232 = .ok (.if_icmp .ge 143, 3) := by decide +kernel
theorem dX5_fill_235 : decode cX5_fill 235 = .ok (.bipush 6, 2) := by decide +kernel
theorem dX5_fill_237 : decode cX5_fill 237 = .ok (.iload 9, 2) := by decide +kernel
theorem dX5_fill_239 : decode cX5_fill 239 = .ok (.imul, 1) := by decide +kernel
theorem dX5_fill_240 : decode cX5_fill 240 = .ok (.aload_n 0, 1) := by decide +kernel
theorem dX5_fill_241 : decode cX5_fill 241 = .ok (.getfield 44, 3) := by decide +kernel
theorem dX5_fill_244 : decode cX5_fill 244 = .ok (.iload 9, 2) := by decide +kernel
theorem dX5_fill_246 : decode cX5_fill 246 = .ok (.iaload, 1) := by decide +kernel
theorem dX5_fill_247 : decode cX5_fill 247 = .ok (.iadd, 1) := by decide +kernel
theorem dX5_fill_248 : decode cX5_fill 248 = .ok (.istore 10, 2) := by decide +kernel
theorem dX5_fill_250 : decode cX5_fill 250 = .ok (.aload_n 0, 1) := by decide +kernel
theorem dX5_fill_251 : decode cX5_fill 251 = .ok (.getfield 44, 3) := by decide +kernel
theorem dX5_fill_254 : decode cX5_fill 254 = .ok (.iload 9, 2) := by decide +kernel
theorem dX5_fill_256 : decode cX5_fill 256 = .ok (.iaload, 1) := by decide +kernel
theorem dX5_fill_257 : decode cX5_fill 257 = .ok (.aload_n 0, 1) := by decide +kernel
theorem dX5_fill_258 : decode cX5_fill 258 = .ok (.getfield 19, 3) := by decide +kernel
theorem dX5_fill_261 : decode cX5_fill 261 = .ok (.iload 9, 2) := by decide +kernel
theorem dX5_fill_263 : decode cX5_fill 263 = .ok (.iaload, 1) := by decide +kernel
theorem dX5_fill_264 : decode cX5_fill 264 = .ok (.if_icmp .ge 105, 3) := by decide +kernel
theorem dX5_fill_267 : decode cX5_fill 267 = .ok (.aload_n 0, 1) := by decide +kernel
theorem dX5_fill_268 : decode cX5_fill 268 = .ok (.getfield 22, 3) := by decide +kernel
theorem dX5_fill_271 : decode cX5_fill 271 = .ok (.iload 10, 2) := by decide +kernel
theorem dX5_fill_273 : decode cX5_fill 273 = .ok (.iaload, 1) := by decide +kernel
theorem dX5_fill_274 : decode cX5_fill 274 = .ok (.iload 6, 2) := by decide +kernel
theorem dX5_fill_276 : decode cX5_fill 276 = .ok (.if_icmp .ne 93, 3) := by decide +kernel
theorem dX5_fill_279 : decode cX5_fill 279 = .ok (.iload 9, 2) := by decide +kernel
theorem dX5_fill_281 : decode cX5_fill 281 = .ok (.iload 4, 2) := by decide +kernel
theorem dX5_fill_283 : decode cX5_fill 283 = .ok (.if_icmp .eq 14, 3) := by decide +kernel
theorem dX5_fill_286 : decode cX5_fill 286 = .ok (.aload_n 0, 1) := by decide +kernel
theorem dX5_fill_287 : decode cX5_fill 287 = .ok (.iload 9, 2) := by decide +kernel
theorem dX5_fill_289 : decode cX5_fill 289 = .ok (.invokevirtual 107, 3) := by decide +kernel
theorem dX5_fill_292 : decode cX5_fill 292 = .ok (.iload 5, 2) := by decide +kernel
theorem dX5_fill_294 : decode cX5_fill 294 = .ok (.if_icmp .ge 75, 3) := by decide +kernel
theorem dX5_fill_297 : decode cX5_fill 297 = .ok (.iload_n 1, 1) := by decide +kernel
theorem dX5_fill_298 : decode cX5_fill 298 = .ok (.ifCond .ne 13, 3) := by decide +kernel
theorem dX5_fill_301 : decode cX5_fill 301 = .ok (.aload_n 0, 1) := by decide +kernel
theorem dX5_fill_302 : decode cX5_fill 302 = .ok (.getfield 25, 3) := by decide +kernel
theorem dX5_fill_305 : decode cX5_fill 305 = .ok (.iload 10, 2) := by decide +kernel
theorem dX5_fill_307 : decode cX5_fill 307 = .ok (.iaload, 1) := by decide +kernel
theorem dX5_fill_308 : decode cX5_fill 308 = .ok (.goto 39, 3) := by decide +kernel
theorem dX5_fill_311 : decode cX5_fill 311 = .ok (.iload_n 1, 1) := by decide +kernel
theorem dX5_fill_312 : decode cX5_fill 312 = .ok (.iconst 1, 1) := by decide +kernel
theorem dX5_fill_313 : decode cX5_fill 313 = .ok (.if_icmp .ne 13, 3) := by decide +kernel
theorem dX5_fill_316 : decode cX5_fill 316 = .ok (.aload_n 0, 1) := by decide +kernel
theorem dX5_fill_317 : decode cX5_fill 317 = .ok (.getfield 13, 3) := by decide +kernel
theorem dX5_fill_320 : decode cX5_fill 320 = .ok (.iload 9, 2) := by decide +kernel
theorem dX5_fill_322 : decode cX5_fill 322 = .ok (.iaload, 1) := by decide +kernel
theorem dX5_fill_323 : decode cX5_fill 323 = .ok (.goto 24, 3) := by decide +kernel
theorem dX5_fill_326 : decode cX5_fill 326 = .ok (.iload_n 1, 1) := by decide +kernel
theorem dX5_fill_327 : decode cX5_fill 327 = .ok (.iconst 2, 1) := by decide +kernel
theorem dX5_fill_328 : decode cX5_fill 328 = .ok (.if_icmp .ne 13, 3) := by decide +kernel
theorem dX5_fill_331 : decode cX5_fill 331 = .ok (.aload_n 0, 1) := by decide +kernel
theorem dX5_fill_332 : decode cX5_fill 332 = .ok (.iload 10, 2) := by decide +kernel
theorem dX5_fill_334 : decode cX5_fill 334 = .ok (.invokevirtual 110, 3) := by decide +kernel
theorem dX5_fill_337 : decode cX5_fill 337 = .ok (.ineg, 1) := by decide +kernel
theorem dX5_fill_338 : decode cX5_fill 338 = .ok (.goto 9, 3) := by decide +kernel
theorem dX5_fill_341 : decode cX5_fill 341 = .ok (.aload_n 0, 1) := by decide +kernel
theorem dX5_fill_342 : decode cX5_fill 342 = .ok (.iload 9, 2) := by decide +kernel
theorem dX5_fill_344 : decode cX5_fill 344 = .ok (.invokevirtual 107, 3) := by decide +kernel
theorem dX5_fill_347 : decode cX5_fill 347 = .ok (.istore 11, 2) := by decide +kernel
theorem dX5_fill_349 : decode cX5_fill 349 = .ok (.iload 7, 2) := by decide +kernel
theorem dX5_fill_351 : decode cX5_fill 351 = .ok (.ifCond .lt 10, 3) := by decide +kernel
theorem dX5_fill_354 : decode cX5_fill 354 = .ok (.iload 11, 2) := by decide +kernel
theorem dX5_fill_356 : decode cX5_fill 356 = .ok (.iload 8, 2) := by decide +kernel
theorem dX5_fill_358 : decode cX5_fill 358 = .ok (.if_icmp .ge 11, 3) := by decide +kernel
theorem dX5_fill_361 : decode cX5_fill 361 = .ok (.iload 9, 2) := by decide +kernel
theorem dX5_fill_363 : decode cX5_fill 363 = .ok (.istore 7, 2) := by decide +kernel
theorem dX5_fill_365 : decode cX5_fill 365 = .ok (.iload 11, 2) := by decide +kernel
theorem dX5_fill_367 : decode cX5_fill 367 = .ok (.istore 8, 2) := by decide +kernel
theorem dX5_fill_369 : decode cX5_fill 369 = .ok (.iinc 9 1, 3) := by decide +kernel
theorem dX5_fill_372 : decode cX5_fill 372 = .ok (.goto (-146), 3) := by decide +kernel
theorem dX5_fill_375 : decode cX5_fill 375 = .ok (.bipush 6, 2) := by decide +kernel
theorem dX5_fill_377 : decode cX5_fill 377 = .ok (.iload 7, 2) := by decide +kernel
theorem dX5_fill_379 : decode cX5_fill 379 = .ok (.imul, 1) := by decide +kernel
theorem dX5_fill_380 : decode cX5_fill 380 = .ok (.aload_n 0, 1) := by decide +kernel
theorem dX5_fill_381 : decode cX5_fill 381 = .ok (.getfield 44, 3) := by decide +kernel
theorem dX5_fill_384 : decode cX5_fill 384 = .ok (.iload 7, 2) := by decide +kernel
theorem dX5_fill_386 : decode cX5_fill 386 = .ok (.iaload, 1) := by decide +kernel
theorem dX5_fill_387 : decode cX5_fill 387 = .ok (.iadd, 1) := by decide +kernel
theorem dX5_fill_388 : decode cX5_fill 388 = .ok (.istore 9, 2) := by decide +kernel
theorem dX5_fill_390 : decode cX5_fill 390 = .ok (.aload_n 0, 1) := by decide +kernel
theorem dX5_fill_391 : decode cX5_fill 391 = .ok (.getfield 41, 3) := by decide +kernel
theorem dX5_fill_394 : decode cX5_fill 394 = .ok (.iload 9, 2) := by decide +kernel
theorem dX5_fill_396 : decode cX5_fill 396 = .ok (.aload_n 0, 1) := by decide +kernel
theorem dX5_fill_397 : decode cX5_fill 397 = .ok (.iload 7, 2) := by decide +kernel
theorem dX5_fill_399 : decode cX5_fill 399 = .ok (.invokevirtual 107, 3) := by decide +kernel
theorem dX5_fill_402 : decode cX5_fill 402 = .ok (.aload_n 0, 1) := by decide +kernel
theorem dX5_fill_403 : decode cX5_fill 403 = .ok (.getfield 25, 3) := by decide +kernel
theorem dX5_fill_406 : decode cX5_fill 406 = .ok (.iload 9, 2) := by decide +kernel
theorem dX5_fill_408 : decode cX5_fill 408 = .ok (.iaload, 1) := by decide +kernel
theorem dX5_fill_409 : decode cX5_fill 409 = .ok (.iadd, 1) := by decide +kernel
theorem dX5_fill_410 : decode cX5_fill 410 = .ok (.iastore, 1) := by decide +kernel
theorem dX5_fill_411 : decode cX5_fill 411 = .ok (.aload_n 0, 1) := by decide +kernel
theorem dX5_fill_412 : decode cX5_fill 412 = .ok (.getfield 38, 3) := by decide +kernel
theorem dX5_fill_415 : decode cX5_fill 415 = .ok (.bipush 48, 2) := by decide +kernel
theorem dX5_fill_417 : decode cX5_fill 417 = .ok (.iload 6, 2) := by decide +kernel
theorem dX5_fill_419 : decode cX5_fill 419 = .ok (.imul, 1) := by decide +kernel
theorem dX5_fill_420 : decode cX5_fill 420 = .ok (.aload_n 0, 1) := by decide +kernel
theorem dX5_fill_421 : decode cX5_fill 421 = .ok (.getfield 35, 3) := by decide +kernel
theorem dX5_fill_424 : decode cX5_fill 424 = .ok (.iload 6, 2) := by decide +kernel
theorem dX5_fill_426 : decode cX5_fill 426 = .ok (.iaload, 1) := by decide +kernel
theorem dX5_fill_427 : decode cX5_fill 427 = .ok (.iadd, 1) := by decide +kernel
theorem dX5_fill_428 : decode cX5_fill 428 = .ok (.iload 9, 2) := by decide +kernel
theorem dX5_fill_430 : decode cX5_fill 430 = .ok (.iastore, 1) := by decide +kernel
theorem dX5_fill_431 : decode cX5_fill 431 = .ok (.aload_n 0, 1) := by decide +kernel
theorem dX5_fill_432 : decode cX5_fill 432 = .ok (.getfield 35, 3) := by decide +kernel
theorem dX5_fill_435 : decode cX5_fill 435 = .ok (.iload 6, 2) := by decide +kernel
theorem dX5_fill_437 : decode cX5_fill 437 = .ok (.dup2, 1) := by decide +kernel
theorem dX5_fill_438 : decode cX5_fill 438 = .ok (.iaload, 1) := by decide +kernel
theorem dX5_fill_439 : decode cX5_fill 439 = .ok (.iconst 1, 1) := by decide +kernel
theorem dX5_fill_440 : decode cX5_fill 440 = .ok (.iadd, 1) := by decide +kernel
theorem dX5_fill_441 : decode cX5_fill 441 = .ok (.iastore, 1) := by decide +kernel
theorem dX5_fill_442 : decode cX5_fill 442 = .ok (.aload_n 0, 1) := by decide +kernel
theorem dX5_fill_443 : decode cX5_fill 443 = .ok (.getfield 28, 3) := by decide +kernel
theorem dX5_fill_446 : decode cX5_fill 446 = .ok (.iload 9, 2) := by decide +kernel
theorem dX5_fill_448 : decode cX5_fill 448 = .ok (.iconst 1, 1) := by decide +kernel
theorem dX5_fill_449 : decode cX5_fill 449 = .ok (.bastore, 1) := by decide +kernel
theorem dX5_fill_450 : decode cX5_fill 450 = .ok (.aload_n 0, 1) := by decide +kernel
theorem dX5_fill_451 : decode cX5_fill 451 = .ok (.getfield 44, 3) := by decide +kernel
theorem dX5_fill_454 : decode cX5_fill 454 = .ok (.iload 7, 2) := by decide +kernel
theorem dX5_fill_456 : decode cX5_fill 456 = .ok (.dup2, 1) := by decide +kernel
theorem dX5_fill_457 : decode cX5_fill 457 = .ok (.iaload, 1) := by decide +kernel
theorem dX5_fill_458 : decode cX5_fill 458 = .ok (.iconst 1, 1) := by decide +kernel
theorem dX5_fill_459 : decode cX5_fill 459 = .ok (.iadd, 1) := by decide +kernel
theorem dX5_fill_460 : decode cX5_fill 460 = .ok (.iastore, 1) := by decide +kernel
theorem dX5_fill_461 : decode cX5_fill 461 = .ok (.iinc 3 1, 3) := by decide +kernel
theorem dX5_fill_464 : decode cX5_fill 464 = .ok (.goto (-360), 3) := by decide +kernel
theorem dX5_fill_467 : decode cX5_fill 467 = .ok (.iload_n 2, 1) := by decide +kernel
theorem dX5_fill_468 : decode cX5_fill 468 = .ok (.ireturn, 1) := by decide +kernel
theorem dX5_before_0 : decode cX5_before 0 = .ok (.aload_n 0, 1) := by decide +kernel
theorem dX5_before_1 : decode cX5_before 1 = .ok (.iload_n 1, 1) := by decide +kernel
theorem dX5_before_2 : decode cX5_before 2 = .ok (.invokevirtual 93, 3) := by decide +kernel
theorem dX5_before_5 : decode cX5_before 5 = .ok (.istore_n 2, 1) := by decide +kernel
theorem dX5_before_6 : decode cX5_before 6 = .ok (.iload_n 2, 1) := by decide +kernel
theorem dX5_before_7 : decode cX5_before 7 = .ok (.ifCond .ne 7, 3) := by decide +kernel
theorem dX5_before_10 : decode cX5_before 10 = .ok (.iconst (-1), 1) := by decide +kernel
theorem dX5_before_11 : decode cX5_before 11 = .ok (.goto 21, 3) := by decide +kernel
theorem dX5_before_14 : decode cX5_before 14 = .ok (.aload_n 0, 1) := by decide +kernel
theorem dX5_before_15 : decode cX5_before 15 = .ok (.getfield 38, 3) := by decide +kernel
theorem dX5_before_18 : decode cX5_before 18 = .ok (.bipush 48, 2) := by decide +kernel
theorem dX5_before_20 : decode cX5_before 20 = .ok (.aload_n 0, 1) := by decide +kernel
theorem dX5_before_21 : decode cX5_before 21 = .ok (.getfield 22, 3) := by decide +kernel
theorem dX5_before_24 : decode cX5_before 24 = .ok (.iload_n 1, 1) := by decide +kernel
theorem dX5_before_25 : decode cX5_before 25 = .ok (.iaload, 1) := by decide +kernel
theorem dX5_before_26 : decode cX5_before 26 = .ok (.imul, 1) := by decide +kernel
theorem dX5_before_27 : decode cX5_before 27 = .ok (.iload_n 2, 1) := by decide +kernel
theorem dX5_before_28 : decode cX5_before 28 = .ok (.iadd, 1) := by decide +kernel
theorem dX5_before_29 : decode cX5_before 29 = .ok (.iconst 1, 1) := by decide +kernel
theorem dX5_before_30 : decode cX5_before 30 = .ok (.isub, 1) := by decide +kernel
theorem dX5_before_31 : decode cX5_before 31 = .ok (.iaload, 1) := by decide +kernel
theorem dX5_before_32 : decode cX5_before 32 = .ok (.ireturn, 1) := by decide +kernel
theorem dX5_changeOf_0 : decode cX5_changeOf 0 = .ok (.aload_n 0, 1) := by decide +kernel
theorem dX5_changeOf_1 : decode cX5_changeOf 1 = .ok (.getfield 32, 3) := by decide +kernel
theorem dX5_changeOf_4 : decode cX5_changeOf 4 = .ok (.bipush 64, 2) := by decide +kernel
theorem dX5_changeOf_6 : decode cX5_changeOf 6 = .ok (.aload_n 0, 1) := by decide +kernel
theorem dX5_changeOf_7 : decode cX5_changeOf 7 = .ok (.getfield 22, 3) := by decide +kernel
theorem dX5_changeOf_10 : decode cX5_changeOf 10 = .ok (.iload_n 1, 1) := by decide +kernel
theorem dX5_changeOf_11 : decode cX5_changeOf 11 = .ok (.iaload, 1) := by decide +kernel
theorem dX5_changeOf_12 : decode cX5_changeOf 12 = .ok (.imul, 1) := by decide +kernel
theorem dX5_changeOf_13 : decode cX5_changeOf 13 = .ok (.bipush 8, 2) := by decide +kernel
theorem dX5_changeOf_15 : decode cX5_changeOf 15 = .ok (.iload_n 1, 1) := by decide +kernel
theorem dX5_changeOf_16 : decode cX5_changeOf 16 = .ok (.bipush 6, 2) := by decide +kernel
theorem dX5_changeOf_18 : decode cX5_changeOf 18 = .ok (.idiv, 1) := by decide +kernel
theorem dX5_changeOf_19 : decode cX5_changeOf 19 = .ok (.imul, 1) := by decide +kernel
theorem dX5_changeOf_20 : decode cX5_changeOf 20 = .ok (.iadd, 1) := by decide +kernel
theorem dX5_changeOf_21 : decode cX5_changeOf 21 = .ok (.iload_n 2, 1) := by decide +kernel
theorem dX5_changeOf_22 : decode cX5_changeOf 22 = .ok (.bipush 6, 2) := by decide +kernel
theorem dX5_changeOf_24 : decode cX5_changeOf 24 = .ok (.idiv, 1) := by decide +kernel
theorem dX5_changeOf_25 : decode cX5_changeOf 25 = .ok (.iadd, 1) := by decide +kernel
theorem dX5_changeOf_26 : decode cX5_changeOf 26 = .ok (.iaload, 1) := by decide +kernel
theorem dX5_changeOf_27 : decode cX5_changeOf 27 = .ok (.ireturn, 1) := by decide +kernel
theorem dX5_plan_0 : decode cX5_plan 0 = .ok (.iconst 0, 1) := by decide +kernel
theorem dX5_plan_1 : decode cX5_plan 1 = .ok (.istore_n 1, 1) := by decide +kernel
theorem dX5_plan_2 : decode cX5_plan 2 = .ok (.aload_n 0, 1) := by decide +kernel
theorem dX5_plan_3 : decode cX5_plan 3 = .ok (.iconst 0, 1) := by decide +kernel
theorem dX5_plan_4 : decode cX5_plan 4 = .ok (.putfield 113, 3) := by decide +kernel
theorem dX5_plan_7 : decode cX5_plan 7 = .ok (.aload_n 0, 1) := by decide +kernel
theorem dX5_plan_8 : decode cX5_plan 8 = .ok (.iconst 0, 1) := by decide +kernel
theorem dX5_plan_9 : decode cX5_plan 9 = .ok (.putfield 116, 3) := by decide +kernel
theorem dX5_plan_12 : decode cX5_plan 12 = .ok (.iconst 0, 1) := by decide +kernel
theorem dX5_plan_13 : decode cX5_plan 13 = .ok (.istore_n 2, 1) := by decide +kernel
theorem dX5_plan_14 : decode cX5_plan 14 = .ok (.iload_n 2, 1) := by decide +kernel
theorem dX5_plan_15 : decode cX5_plan 15 = .ok (.aload_n 0, 1) := by decide +kernel
theorem dX5_plan_16 : decode cX5_plan 16 = .ok (.getfield 72, 3) := by decide +kernel
theorem dX5_plan_19 : decode cX5_plan 19 = .ok (.if_icmp .ge 68, 3) := by decide +kernel
theorem dX5_plan_22 : decode cX5_plan 22 = .ok (.iconst 0, 1) := by decide +kernel
theorem dX5_plan_23 : decode cX5_plan 23 = .ok (.istore_n 3, 1) := by decide +kernel
theorem dX5_plan_24 : decode cX5_plan 24 = .ok (.iload_n 3, 1) := by decide +kernel
theorem dX5_plan_25 : decode cX5_plan 25 = .ok (.aload_n 0, 1) := by decide +kernel
theorem dX5_plan_26 : decode cX5_plan 26 = .ok (.getfield 19, 3) := by decide +kernel
theorem dX5_plan_29 : decode cX5_plan 29 = .ok (.iload_n 2, 1) := by decide +kernel
theorem dX5_plan_30 : decode cX5_plan 30 = .ok (.iaload, 1) := by decide +kernel
theorem dX5_plan_31 : decode cX5_plan 31 = .ok (.if_icmp .ge 50, 3) := by decide +kernel
theorem dX5_plan_34 : decode cX5_plan 34 = .ok (.bipush 6, 2) := by decide +kernel
theorem dX5_plan_36 : decode cX5_plan 36 = .ok (.iload_n 2, 1) := by decide +kernel
theorem dX5_plan_37 : decode cX5_plan 37 = .ok (.imul, 1) := by decide +kernel
theorem dX5_plan_38 : decode cX5_plan 38 = .ok (.iload_n 3, 1) := by decide +kernel
theorem dX5_plan_39 : decode cX5_plan 39 = .ok (.iadd, 1) := by decide +kernel
theorem dX5_plan_40 : decode cX5_plan 40 = .ok (.istore 4, 2) := by decide +kernel
theorem dX5_plan_42 : decode cX5_plan 42 = .ok (.aload_n 0, 1) := by decide +kernel
theorem dX5_plan_43 : decode cX5_plan 43 = .ok (.getfield 47, 3) := by decide +kernel
theorem dX5_plan_46 : decode cX5_plan 46 = .ok (.iload 4, 2) := by decide +kernel
theorem dX5_plan_48 : decode cX5_plan 48 = .ok (.iconst 0, 1) := by decide +kernel
theorem dX5_plan_49 : decode cX5_plan 49 = .ok (.bastore, 1) := by decide +kernel
theorem dX5_plan_50 : decode cX5_plan 50 = .ok (.aload_n 0, 1) := by decide +kernel
theorem dX5_plan_51 : decode cX5_plan 51 = .ok (.aload_n 0, 1) := by decide +kernel
theorem dX5_plan_52 : decode cX5_plan 52 = .ok (.getfield 28, 3) := by decide +kernel
theorem dX5_plan_55 : decode cX5_plan 55 = .ok (.iload 4, 2) := by decide +kernel
theorem dX5_plan_57 : decode cX5_plan 57 = .ok (.baload, 1) := by decide +kernel
theorem dX5_plan_58 : decode cX5_plan 58 = .ok (.ifCond .eq 10, 3) := by decide +kernel
theorem dX5_plan_61 : decode cX5_plan 61 = .ok (.aload_n 0, 1) := by decide +kernel
theorem dX5_plan_62 : decode cX5_plan 62 = .ok (.getfield 113, 3) := by decide +kernel
theorem dX5_plan_65 : decode cX5_plan 65 = .ok (.goto 4, 3) := by decide +kernel
theorem dX5_plan_68 : decode cX5_plan 68 = .ok (.iconst 1, 1) := by decide +kernel
theorem dX5_plan_69 : decode cX5_plan 69 = .ok (.putfield 113, 3) := by decide +kernel
theorem dX5_plan_72 : decode cX5_plan 72 = .ok (.iinc 1 1, 3) := by decide +kernel
theorem dX5_plan_75 : decode cX5_plan 75 = .ok (.iinc 3 1, 3) := by decide +kernel
theorem dX5_plan_78 : decode cX5_plan 78 = .ok (.goto (-54), 3) := by decide +kernel
theorem dX5_plan_81 : decode cX5_plan 81 = .ok (.iinc 2 1, 3) := by decide +kernel
theorem dX5_plan_84 : decode cX5_plan 84 = .ok (.goto (-70), 3) := by decide +kernel
theorem dX5_plan_87 : decode cX5_plan 87 = .ok (.iconst 0, 1) := by decide +kernel
theorem dX5_plan_88 : decode cX5_plan 88 = .ok (.istore_n 2, 1) := by decide +kernel
theorem dX5_plan_89 : decode cX5_plan 89 = .ok (.aload_n 0, 1) := by decide +kernel
theorem dX5_plan_90 : decode cX5_plan 90 = .ok (.getfield 113, 3) := by decide +kernel
theorem dX5_plan_93 : decode cX5_plan 93 = .ok (.ifCond .ne 7, 3) := by decide +kernel
theorem dX5_plan_96 : decode cX5_plan 96 = .ok (.iconst 1, 1) := by decide +kernel
theorem dX5_plan_97 : decode cX5_plan 97 = .ok (.goto 4, 3) := by decide +kernel
theorem dX5_plan_100 : decode cX5_plan 100 = .ok (.iconst 0, 1) := by decide +kernel
theorem dX5_plan_101 : decode cX5_plan 101 = .ok (.istore_n 3, 1) := by decide +kernel
theorem dX5_plan_102 : decode cX5_plan 102 = .ok (.iload_n 3, 1) := by decide +kernel
theorem dX5_plan_103 : decode cX5_plan 103 = .ok (.ifCond .eq 265, 3) := by decide +kernel
theorem dX5_plan_106 : decode cX5_plan 106 = .ok (.iconst 0, 1) := by decide +kernel
theorem dX5_plan_107 : decode cX5_plan 107 = .ok (.istore_n 3, 1) := by decide +kernel
theorem dX5_plan_108 : decode cX5_plan 108 = .ok (.iconst 0, 1) := by decide +kernel
theorem dX5_plan_109 : decode cX5_plan 109 = .ok (.istore 4, 2) := by decide +kernel
theorem dX5_plan_111 : decode cX5_plan 111 = .ok (.iload 4, 2) := by decide +kernel
theorem dX5_plan_113 : decode cX5_plan 113 = .ok (.aload_n 0, 1) := by decide +kernel
theorem dX5_plan_114 : decode cX5_plan 114 = .ok (.getfield 72, 3) := by decide +kernel
theorem dX5_plan_117 : decode cX5_plan 117 = .ok (.if_icmp .ge 248, 3) := by decide +kernel
theorem dX5_plan_120 : decode cX5_plan 120 = .ok (.iconst 0, 1) := by decide +kernel
theorem dX5_plan_121 : decode cX5_plan 121 = .ok (.istore 5, 2) := by decide +kernel
theorem dX5_plan_123 : decode cX5_plan 123 = .ok (.iload 5, 2) := by decide +kernel
theorem dX5_plan_125 : decode cX5_plan 125 = .ok (.aload_n 0, 1) := by decide +kernel
theorem dX5_plan_126 : decode cX5_plan 126 = .ok (.getfield 19, 3) := by decide +kernel
theorem dX5_plan_129 : decode cX5_plan 129 = .ok (.iload 4, 2) := by decide +kernel
theorem dX5_plan_131 : decode cX5_plan 131 = .ok (.iaload, 1) := by decide +kernel
theorem dX5_plan_132 : decode cX5_plan 132 = .ok (.if_icmp .ge 227, 3) := by decide +kernel
theorem dX5_plan_135 : decode cX5_plan 135 = .ok (.bipush 6, 2) := by decide +kernel
theorem dX5_plan_137 : decode cX5_plan 137 = .ok (.iload 4, 2) := by decide +kernel
theorem dX5_plan_139 : decode cX5_plan 139 = .ok (.imul, 1) := by decide +kernel
theorem dX5_plan_140 : decode cX5_plan 140 = .ok (.iload 5, 2) := by decide +kernel
theorem dX5_plan_142 : decode cX5_plan 142 = .ok (.iadd, 1) := by decide +kernel
theorem dX5_plan_143 : decode cX5_plan 143 = .ok (.istore 6, 2) := by decide +kernel
theorem dX5_plan_145 : decode cX5_plan 145 = .ok (.aload_n 0, 1) := by decide +kernel
theorem dX5_plan_146 : decode cX5_plan 146 = .ok (.getfield 47, 3) := by decide +kernel
theorem dX5_plan_149 : decode cX5_plan 149 = .ok (.iload 6, 2) := by decide +kernel
theorem dX5_plan_151 : decode cX5_plan 151 = .ok (.baload, 1) := by decide +kernel
theorem dX5_plan_152 : decode cX5_plan 152 = .ok (.ifCond .ne 201, 3) := by decide +kernel
theorem dX5_plan_155 : decode cX5_plan 155 = .ok (.iload 5, 2) := by decide +kernel
theorem dX5_plan_157 : decode cX5_plan 157 = .ok (.ifCond .le 18, 3) := by decide +kernel
theorem dX5_plan_160 : decode cX5_plan 160 = .ok (.aload_n 0, 1) := by decide +kernel
theorem dX5_plan_161 : decode cX5_plan 161 = .ok (.getfield 47, 3) := by decide +kernel
theorem dX5_plan_164 : decode cX5_plan 164 = .ok (.iload 6, 2) := by decide +kernel
theorem dX5_plan_166 : decode cX5_plan 166 = .ok (.iconst 1, 1) := by decide +kernel
theorem dX5_plan_167 : decode cX5_plan 167 = .ok (.isub, 1) := by decide +kernel
theorem dX5_plan_168 : decode cX5_plan 168 = .ok (.baload, 1) := by decide +kernel
theorem dX5_plan_169 : decode cX5_plan 169 = .ok (.ifCond .ne 6, 3) := by decide +kernel
theorem dX5_plan_172 : decode cX5_plan 172 = .ok (.goto 181, 3) := by decide +kernel
theorem dX5_plan_175 : decode cX5_plan 175 = .ok (.aload_n 0, 1) := by decide +kernel
theorem dX5_plan_176 : decode cX5_plan 176 = .ok (.iload 6, 2) := by decide +kernel
theorem dX5_plan_178 : decode cX5_plan 178 = .ok (.invokevirtual 119, 3) := by decide +kernel
theorem dX5_plan_181 : decode cX5_plan 181 = .ok (.istore 7, 2) := by decide +kernel
theorem dX5_plan_183 : decode cX5_plan 183 = .ok (.iload 7, 2) := by decide +kernel
theorem dX5_plan_185 : decode cX5_plan 185 = .ok (.ifCond .lt 16, 3) := by decide +kernel
theorem dX5_plan_188 : decode cX5_plan 188 = .ok (.aload_n 0, 1) := by decide +kernel
theorem dX5_plan_189 : decode cX5_plan 189 = .ok (.getfield 47, 3) := by decide +kernel
theorem dX5_plan_192 : decode cX5_plan 192 = .ok (.iload 7, 2) := by decide +kernel
theorem dX5_plan_194 : decode cX5_plan 194 = .ok (.baload, 1) := by decide +kernel
theorem dX5_plan_195 : decode cX5_plan 195 = .ok (.ifCond .ne 6, 3) := by decide +kernel
theorem dX5_plan_198 : decode cX5_plan 198 = .ok (.goto 155, 3) := by decide +kernel
theorem dX5_plan_201 : decode cX5_plan 201 = .ok (.iload 5, 2) := by decide +kernel
theorem dX5_plan_203 : decode cX5_plan 203 = .ok (.ifCond .ne 13, 3) := by decide +kernel
theorem dX5_plan_206 : decode cX5_plan 206 = .ok (.aload_n 0, 1) := by decide +kernel
theorem dX5_plan_207 : decode cX5_plan 207 = .ok (.getfield 7, 3) := by decide +kernel
theorem dX5_plan_210 : decode cX5_plan 210 = .ok (.iload 4, 2) := by decide +kernel
theorem dX5_plan_212 : decode cX5_plan 212 = .ok (.iaload, 1) := by decide +kernel
theorem dX5_plan_213 : decode cX5_plan 213 = .ok (.goto 22, 3) := by decide +kernel
theorem dX5_plan_216 : decode cX5_plan 216 = .ok (.aload_n 0, 1) := by decide +kernel
theorem dX5_plan_217 : decode cX5_plan 217 = .ok (.getfield 50, 3) := by decide +kernel
theorem dX5_plan_220 : decode cX5_plan 220 = .ok (.iload 6, 2) := by decide +kernel
theorem dX5_plan_222 : decode cX5_plan 222 = .ok (.iconst 1, 1) := by decide +kernel
theorem dX5_plan_223 : decode cX5_plan 223 = .ok (.isub, 1) := by decide +kernel
theorem dX5_plan_224 : decode cX5_plan 224 = .ok (.iaload, 1) := by decide +kernel
theorem dX5_plan_225 : decode cX5_plan 225 = .ok (.aload_n 0, 1) := by decide +kernel
theorem dX5_plan_226 : decode cX5_plan 226 = .ok (.getfield 25, 3) := by decide +kernel
theorem dX5_plan_229 : decode cX5_plan 229 = .ok (.iload 6, 2) := by decide +kernel
theorem dX5_plan_231 : decode cX5_plan 231 = .ok (.iconst 1, 1) := by decide +kernel
theorem dX5_plan_232 : decode cX5_plan 232 = .ok (.isub, 1) := by decide +kernel
theorem dX5_plan_233 : decode cX5_plan 233 = .ok (.iaload, 1) := by decide +kernel
theorem dX5_plan_234 : decode cX5_plan 234 = .ok (.iadd, 1) := by decide +kernel
theorem dX5_plan_235 : decode cX5_plan 235 = .ok (.istore 8, 2) := by decide +kernel
theorem dX5_plan_237 : decode cX5_plan 237 = .ok (.iload 7, 2) := by decide +kernel
theorem dX5_plan_239 : decode cX5_plan 239 = .ok (.ifCond .ge 7, 3) := by decide +kernel
theorem dX5_plan_242 : decode cX5_plan 242 = .ok (.iconst 0, 1) := by decide +kernel
theorem dX5_plan_243 : decode cX5_plan 243 = .ok (.goto 27, 3) := by decide +kernel
theorem dX5_plan_246 : decode cX5_plan 246 = .ok (.aload_n 0, 1) := by decide +kernel
theorem dX5_plan_247 : decode cX5_plan 247 = .ok (.getfield 50, 3) := by decide +kernel
theorem dX5_plan_250 : decode cX5_plan 250 = .ok (.iload 7, 2) := by decide +kernel
theorem dX5_plan_252 : decode cX5_plan 252 = .ok (.iaload, 1) := by decide +kernel
theorem dX5_plan_253 : decode cX5_plan 253 = .ok (.aload_n 0, 1) := by decide +kernel
theorem dX5_plan_254 : decode cX5_plan 254 = .ok (.getfield 25, 3) := by decide +kernel
theorem dX5_plan_257 : decode cX5_plan 257 = .ok (.iload 7, 2) := by decide +kernel
theorem dX5_plan_259 : decode cX5_plan 259 = .ok (.iaload, 1) := by decide +kernel
theorem dX5_plan_260 : decode cX5_plan 260 = .ok (.iadd, 1) := by decide +kernel
theorem dX5_plan_261 : decode cX5_plan 261 = .ok (.aload_n 0, 1) := by decide +kernel
theorem dX5_plan_262 : decode cX5_plan 262 = .ok (.iload 7, 2) := by decide +kernel
theorem dX5_plan_264 : decode cX5_plan 264 = .ok (.iload 6, 2) := by decide +kernel
theorem dX5_plan_266 : decode cX5_plan 266 = .ok (.invokevirtual 122, 3) := by decide +kernel
theorem dX5_plan_269 : decode cX5_plan 269 = .ok (.iadd, 1) := by decide +kernel
theorem dX5_plan_270 : decode cX5_plan 270 = .ok (.istore 9, 2) := by decide +kernel
theorem dX5_plan_272 : decode cX5_plan 272 = .ok (.aload_n 0, 1) := by decide +kernel
theorem dX5_plan_273 : decode cX5_plan 273 = .ok (.getfield 50, 3) := by decide +kernel
theorem dX5_plan_276 : decode cX5_plan 276 = .ok (.iload 6, 2) := by decide +kernel
theorem dX5_plan_278 : decode cX5_plan 278 = .ok (.iload 9, 2) := by decide +kernel
theorem dX5_plan_280 : decode cX5_plan 280 = .ok (.iload 8, 2) := by decide +kernel
theorem dX5_plan_282 : decode cX5_plan 282 = .ok (.if_icmp .le 8, 3) := by decide +kernel
theorem dX5_plan_285 : decode cX5_plan 285 = .ok (.iload 9, 2) := by decide +kernel
theorem dX5_plan_287 : decode cX5_plan 287 = .ok (.goto 5, 3) := by decide +kernel
theorem dX5_plan_290 : decode cX5_plan 290 = .ok (.iload 8, 2) := by decide +kernel
theorem dX5_plan_292 : decode cX5_plan 292 = .ok (.iastore, 1) := by decide +kernel
theorem dX5_plan_293 : decode cX5_plan 293 = .ok (.aload_n 0, 1) := by decide +kernel
theorem dX5_plan_294 : decode cX5_plan 294 = .ok (.getfield 47, 3) := by decide +kernel
theorem dX5_plan_297 : decode cX5_plan 297 = .ok (.iload 6, 2) := by decide +kernel
theorem dX5_plan_299 : decode cX5_plan 299 = .ok (.iconst 1, 1) := by decide +kernel
theorem dX5_plan_300 : decode cX5_plan 300 = .ok (.bastore, 1) := by decide +kernel
theorem dX5_plan_301 : decode cX5_plan 301 = .ok (.aload_n 0, 1) := by decide +kernel
theorem dX5_plan_302 : decode cX5_plan 302 = .ok (.getfield 56, 3) := by decide +kernel
theorem dX5_plan_305 : decode cX5_plan 305 = .ok (.iload_n 2, 1) := by decide +kernel
theorem dX5_plan_306 : decode cX5_plan 306 = .ok (.iload 6, 2) := by decide +kernel
theorem dX5_plan_308 : decode cX5_plan 308 = .ok (.iastore, 1) := by decide +kernel
theorem dX5_plan_309 : decode cX5_plan 309 = .ok (.iinc 2 1, 3) := by decide +kernel
theorem dX5_plan_312 : decode cX5_plan 312 = .ok (.iconst 1, 1) := by decide +kernel
theorem dX5_plan_313 : decode cX5_plan 313 = .ok (.istore_n 3, 1) := by decide +kernel
theorem dX5_plan_314 : decode cX5_plan 314 = .ok (.aload_n 0, 1) := by decide +kernel
theorem dX5_plan_315 : decode cX5_plan 315 = .ok (.getfield 50, 3) := by decide +kernel
theorem dX5_plan_318 : decode cX5_plan 318 = .ok (.iload 6, 2) := by decide +kernel
theorem dX5_plan_320 : decode cX5_plan 320 = .ok (.iaload, 1) := by decide +kernel
theorem dX5_plan_321 : decode cX5_plan 321 = .ok (.aload_n 0, 1) := by decide +kernel
theorem dX5_plan_322 : decode cX5_plan 322 = .ok (.getfield 25, 3) := by decide +kernel
theorem dX5_plan_325 : decode cX5_plan 325 = .ok (.iload 6, 2) := by decide +kernel
theorem dX5_plan_327 : decode cX5_plan 327 = .ok (.iaload, 1) := by decide +kernel
theorem dX5_plan_328 : decode cX5_plan 328 = .ok (.iadd, 1) := by decide +kernel
theorem dX5_plan_329 : decode cX5_plan 329 = .ok (.istore 10, 2) := by decide +kernel
theorem dX5_plan_331 : decode cX5_plan 331 = .ok (.aload_n 0, 1) := by decide +kernel
theorem dX5_plan_332 : decode cX5_plan 332 = .ok (.iload 10, 2) := by decide +kernel
theorem dX5_plan_334 : decode cX5_plan 334 = .ok (.aload_n 0, 1) := by decide +kernel
theorem dX5_plan_335 : decode cX5_plan 335 = .ok (.getfield 116, 3) := by decide +kernel
theorem dX5_plan_338 : decode cX5_plan 338 = .ok (.if_icmp .le 8, 3) := by decide +kernel
theorem dX5_plan_341 : decode cX5_plan 341 = .ok (.iload 10, 2) := by decide +kernel
theorem dX5_plan_343 : decode cX5_plan 343 = .ok (.goto 7, 3) := by decide +kernel
theorem dX5_plan_346 : decode cX5_plan 346 = .ok (.aload_n 0, 1) := by decide +kernel
theorem dX5_plan_347 : decode cX5_plan 347 = .ok (.getfield 116, 3) := by decide +kernel
theorem dX5_plan_350 : decode cX5_plan 350 = .ok (.putfield 116, 3) := by decide +kernel
theorem dX5_plan_353 : decode cX5_plan 353 = .ok (.iinc 5 1, 3) := by decide +kernel
theorem dX5_plan_356 : decode cX5_plan 356 = .ok (.goto (-233), 3) := by decide +kernel
theorem dX5_plan_359 : decode cX5_plan 359 = .ok (.iinc 4 1, 3) := by decide +kernel
theorem dX5_plan_362 : decode cX5_plan 362 = .ok (.goto (-251), 3) := by decide +kernel
theorem dX5_plan_365 : decode cX5_plan 365 = .ok (.goto (-263), 3) := by decide +kernel
theorem dX5_plan_368 : decode cX5_plan 368 = .ok (.aload_n 0, 1) := by decide +kernel
theorem dX5_plan_369 : decode cX5_plan 369 = .ok (.getfield 113, 3) := by decide +kernel
theorem dX5_plan_372 : decode cX5_plan 372 = .ok (.ifCond .ne 13, 3) := by decide +kernel
theorem dX5_plan_375 : decode cX5_plan 375 = .ok (.iload_n 2, 1) := by decide +kernel
theorem dX5_plan_376 : decode cX5_plan 376 = .ok (.iload_n 1, 1) := by decide +kernel
theorem dX5_plan_377 : decode cX5_plan 377 = .ok (.if_icmp .ge 8, 3) := by decide +kernel
theorem dX5_plan_380 : decode cX5_plan 380 = .ok (.aload_n 0, 1) := by decide +kernel
theorem dX5_plan_381 : decode cX5_plan 381 = .ok (.iconst 2, 1) := by decide +kernel
theorem dX5_plan_382 : decode cX5_plan 382 = .ok (.putfield 113, 3) := by decide +kernel
theorem dX5_plan_385 : decode cX5_plan 385 = .ok (.aload_n 0, 1) := by decide +kernel
theorem dX5_plan_386 : decode cX5_plan 386 = .ok (.getfield 113, 3) := by decide +kernel
theorem dX5_plan_389 : decode cX5_plan 389 = .ok (.ifCond .ne 30, 3) := by decide +kernel
theorem dX5_plan_392 : decode cX5_plan 392 = .ok (.iload_n 1, 1) := by decide +kernel
theorem dX5_plan_393 : decode cX5_plan 393 = .ok (.iconst 1, 1) := by decide +kernel
theorem dX5_plan_394 : decode cX5_plan 394 = .ok (.isub, 1) := by decide +kernel
theorem dX5_plan_395 : decode cX5_plan 395 = .ok (.istore 4, 2) := by decide +kernel
theorem dX5_plan_397 : decode cX5_plan 397 = .ok (.iload 4, 2) := by decide +kernel
theorem dX5_plan_399 : decode cX5_plan 399 = .ok (.ifCond .lt 20, 3) := by decide +kernel
theorem dX5_plan_402 : decode cX5_plan 402 = .ok (.aload_n 0, 1) := by decide +kernel
theorem dX5_plan_403 : decode cX5_plan 403 = .ok (.aload_n 0, 1) := by decide +kernel
theorem dX5_plan_404 : decode cX5_plan 404 = .ok (.getfield 56, 3) := by decide +kernel
theorem dX5_plan_407 : decode cX5_plan 407 = .ok (.iload 4, 2) := by decide +kernel
theorem dX5_plan_409 : decode cX5_plan 409 = .ok (.iaload, 1) := by decide +kernel
theorem dX5_plan_410 : decode cX5_plan 410 = .ok (.invokevirtual 126, 3) := by decide +kernel
theorem dX5_plan_413 : decode cX5_plan 413 = .ok (.iinc 4 (-1), 3) := by decide +kernel
theorem dX5_plan_416 : decode cX5_plan 416 = .ok (.goto (-19), 3) := by decide +kernel
theorem dX5_plan_419 : decode cX5_plan 419 = .ok (.return_, 1) := by decide +kernel
theorem dX5_ahead_0 : decode cX5_ahead 0 = .ok (.iload_n 1, 1) := by decide +kernel
theorem dX5_ahead_1 : decode cX5_ahead 1 = .ok (.bipush 6, 2) := by decide +kernel
theorem dX5_ahead_3 : decode cX5_ahead 3 = .ok (.idiv, 1) := by decide +kernel
theorem dX5_ahead_4 : decode cX5_ahead 4 = .ok (.istore_n 2, 1) := by decide +kernel
theorem dX5_ahead_5 : decode cX5_ahead 5 = .ok (.aload_n 0, 1) := by decide +kernel
theorem dX5_ahead_6 : decode cX5_ahead 6 = .ok (.getfield 22, 3) := by decide +kernel
theorem dX5_ahead_9 : decode cX5_ahead 9 = .ok (.iload_n 1, 1) := by decide +kernel
theorem dX5_ahead_10 : decode cX5_ahead 10 = .ok (.iaload, 1) := by decide +kernel
theorem dX5_ahead_11 : decode cX5_ahead 11 = .ok (.istore_n 3, 1) := by decide +kernel
theorem dX5_ahead_12 : decode cX5_ahead 12 = .ok (.iload_n 1, 1) := by decide +kernel
theorem dX5_ahead_13 : decode cX5_ahead 13 = .ok (.bipush 6, 2) := by decide +kernel
theorem dX5_ahead_15 : decode cX5_ahead 15 = .ok (.irem, 1) := by decide +kernel
theorem dX5_ahead_16 : decode cX5_ahead 16 = .ok (.iconst 1, 1) := by decide +kernel
theorem dX5_ahead_17 : decode cX5_ahead 17 = .ok (.iadd, 1) := by decide +kernel
theorem dX5_ahead_18 : decode cX5_ahead 18 = .ok (.aload_n 0, 1) := by decide +kernel
theorem dX5_ahead_19 : decode cX5_ahead 19 = .ok (.getfield 19, 3) := by decide +kernel
theorem dX5_ahead_22 : decode cX5_ahead 22 = .ok (.iload_n 2, 1) := by decide +kernel
theorem dX5_ahead_23 : decode cX5_ahead 23 = .ok (.iaload, 1) := by decide +kernel
theorem dX5_ahead_24 : decode cX5_ahead 24 = .ok (.if_icmp .ge 14, 3) := by decide +kernel
theorem dX5_ahead_27 : decode cX5_ahead 27 = .ok (.aload_n 0, 1) := by decide +kernel
theorem dX5_ahead_28 : decode cX5_ahead 28 = .ok (.getfield 53, 3) := by decide +kernel
theorem dX5_ahead_31 : decode cX5_ahead 31 = .ok (.iload_n 1, 1) := by decide +kernel
theorem dX5_ahead_32 : decode cX5_ahead 32 = .ok (.iconst 1, 1) := by decide +kernel
theorem dX5_ahead_33 : decode cX5_ahead 33 = .ok (.iadd, 1) := by decide +kernel
theorem dX5_ahead_34 : decode cX5_ahead 34 = .ok (.iaload, 1) := by decide +kernel
theorem dX5_ahead_35 : decode cX5_ahead 35 = .ok (.goto 4, 3) := by decide +kernel
theorem dX5_ahead_38 : decode cX5_ahead 38 = .ok (.iconst 0, 1) := by decide +kernel
theorem dX5_ahead_39 : decode cX5_ahead 39 = .ok (.istore 4, 2) := by decide +kernel
theorem dX5_ahead_41 : decode cX5_ahead 41 = .ok (.aload_n 0, 1) := by decide +kernel
theorem dX5_ahead_42 : decode cX5_ahead 42 = .ok (.iload_n 1, 1) := by decide +kernel
theorem dX5_ahead_43 : decode cX5_ahead 43 = .ok (.invokevirtual 93, 3) := by decide +kernel
theorem dX5_ahead_46 : decode cX5_ahead 46 = .ok (.istore 5, 2) := by decide +kernel
theorem dX5_ahead_48 : decode cX5_ahead 48 = .ok (.iload 5, 2) := by decide +kernel
theorem dX5_ahead_50 : decode cX5_ahead 50 = .ok (.iconst 1, 1) := by decide +kernel
theorem dX5_ahead_51 : decode cX5_ahead 51 = .ok (.iadd, 1) := by decide +kernel
theorem dX5_ahead_52 : decode cX5_ahead 52 = .ok (.aload_n 0, 1) := by decide +kernel
theorem dX5_ahead_53 : decode cX5_ahead 53 = .ok (.getfield 35, 3) := by decide +kernel
theorem dX5_ahead_56 : decode cX5_ahead 56 = .ok (.iload_n 3, 1) := by decide +kernel
theorem dX5_ahead_57 : decode cX5_ahead 57 = .ok (.iaload, 1) := by decide +kernel
theorem dX5_ahead_58 : decode cX5_ahead 58 = .ok (.if_icmp .ge 52, 3) := by decide +kernel
theorem dX5_ahead_61 : decode cX5_ahead 61 = .ok (.aload_n 0, 1) := by decide +kernel
theorem dX5_ahead_62 : decode cX5_ahead 62 = .ok (.getfield 38, 3) := by decide +kernel
theorem dX5_ahead_65 : decode cX5_ahead 65 = .ok (.bipush 48, 2) := by decide +kernel
theorem dX5_ahead_67 : decode cX5_ahead 67 = .ok (.iload_n 3, 1) := by decide +kernel
theorem dX5_ahead_68 : decode cX5_ahead 68 = .ok (.imul, 1) := by decide +kernel
theorem dX5_ahead_69 : decode cX5_ahead 69 = .ok (.iload 5, 2) := by decide +kernel
theorem dX5_ahead_71 : decode cX5_ahead 71 = .ok (.iadd, 1) := by decide +kernel
theorem dX5_ahead_72 : decode cX5_ahead 72 = .ok (.iconst 1, 1) := by decide +kernel
theorem dX5_ahead_73 : decode cX5_ahead 73 = .ok (.iadd, 1) := by decide +kernel
theorem dX5_ahead_74 : decode cX5_ahead 74 = .ok (.iaload, 1) := by decide +kernel
theorem dX5_ahead_75 : decode cX5_ahead 75 = .ok (.istore 6, 2) := by decide +kernel
theorem dX5_ahead_77 : decode cX5_ahead 77 = .ok (.aload_n 0, 1) := by decide +kernel
theorem dX5_ahead_78 : decode cX5_ahead 78 = .ok (.iload_n 1, 1) := by decide +kernel
theorem dX5_ahead_79 : decode cX5_ahead 79 = .ok (.iload 6, 2) := by decide +kernel
theorem dX5_ahead_81 : decode cX5_ahead 81 = .ok (.invokevirtual 122, 3) := by decide +kernel
theorem dX5_ahead_84 : decode cX5_ahead 84 = .ok (.aload_n 0, 1) := by decide +kernel
theorem dX5_ahead_85 : decode cX5_ahead 85 = .ok (.getfield 53, 3) := by decide +kernel
theorem dX5_ahead_88 : decode cX5_ahead 88 = .ok (.iload 6, 2) := by decide +kernel
theorem dX5_ahead_90 : decode cX5_ahead 90 = .ok (.iaload, 1) := by decide +kernel
theorem dX5_ahead_91 : decode cX5_ahead 91 = .ok (.iadd, 1) := by decide +kernel
theorem dX5_ahead_92 : decode cX5_ahead 92 = .ok (.istore 7, 2) := by decide +kernel
theorem dX5_ahead_94 : decode cX5_ahead 94 = .ok (.iload 7, 2) := by decide +kernel
theorem dX5_ahead_96 : decode cX5_ahead 96 = .ok (.iload 4, 2) := by decide +kernel
theorem dX5_ahead_98 : decode cX5_ahead 98 = .ok (.if_icmp .le 8, 3) := by decide +kernel
theorem dX5_ahead_101 : decode cX5_ahead 101 = .ok (.iload 7, 2) := by decide +kernel
theorem dX5_ahead_103 : decode cX5_ahead 103 = .ok (.goto 5, 3) := by decide +kernel
theorem dX5_ahead_106 : decode cX5_ahead 106 = .ok (.iload 4, 2) := by decide +kernel
theorem dX5_ahead_108 : decode cX5_ahead 108 = .ok (.istore 4, 2) := by decide +kernel
theorem dX5_ahead_110 : decode cX5_ahead 110 = .ok (.aload_n 0, 1) := by decide +kernel
theorem dX5_ahead_111 : decode cX5_ahead 111 = .ok (.getfield 53, 3) := by decide +kernel
theorem dX5_ahead_114 : decode cX5_ahead 114 = .ok (.iload_n 1, 1) := by decide +kernel
theorem dX5_ahead_115 : decode cX5_ahead 115 = .ok (.aload_n 0, 1) := by decide +kernel
theorem dX5_ahead_116 : decode cX5_ahead 116 = .ok (.getfield 25, 3) := by decide +kernel
theorem dX5_ahead_119 : decode cX5_ahead 119 = .ok (.iload_n 1, 1) := by decide +kernel
theorem dX5_ahead_120 : decode cX5_ahead 120 = .ok (.iaload, 1) := by decide +kernel
theorem dX5_ahead_121 : decode cX5_ahead 121 = .ok (.iload 4, 2) := by decide +kernel
theorem dX5_ahead_123 : decode cX5_ahead 123 = .ok (.iadd, 1) := by decide +kernel
theorem dX5_ahead_124 : decode cX5_ahead 124 = .ok (.iastore, 1) := by decide +kernel
theorem dX5_ahead_125 : decode cX5_ahead 125 = .ok (.return_, 1) := by decide +kernel
theorem dX5_state_0 : decode cX5_state 0 = .ok (.aload_n 0, 1) := by decide +kernel
theorem dX5_state_1 : decode cX5_state 1 = .ok (.iconst 0, 1) := by decide +kernel
theorem dX5_state_2 : decode cX5_state 2 = .ok (.putfield 69, 3) := by decide +kernel
theorem dX5_state_5 : decode cX5_state 5 = .ok (.aload_n 0, 1) := by decide +kernel
theorem dX5_state_6 : decode cX5_state 6 = .ok (.invokevirtual 130, 3) := by decide +kernel
theorem dX5_state_9 : decode cX5_state 9 = .ok (.aload_n 0, 1) := by decide +kernel
theorem dX5_state_10 : decode cX5_state 10 = .ok (.getfield 113, 3) := by decide +kernel
theorem dX5_state_13 : decode cX5_state 13 = .ok (.ireturn, 1) := by decide +kernel
theorem dX5_slack_0 : decode cX5_slack 0 = .ok (.aload_n 0, 1) := by decide +kernel
theorem dX5_slack_1 : decode cX5_slack 1 = .ok (.getfield 116, 3) := by decide +kernel
theorem dX5_slack_4 : decode cX5_slack 4 = .ok (.aload_n 0, 1) := by decide +kernel
theorem dX5_slack_5 : decode cX5_slack 5 = .ok (.getfield 50, 3) := by decide +kernel
theorem dX5_slack_8 : decode cX5_slack 8 = .ok (.iload_n 1, 1) := by decide +kernel
theorem dX5_slack_9 : decode cX5_slack 9 = .ok (.iaload, 1) := by decide +kernel
theorem dX5_slack_10 : decode cX5_slack 10 = .ok (.isub, 1) := by decide +kernel
theorem dX5_slack_11 : decode cX5_slack 11 = .ok (.aload_n 0, 1) := by decide +kernel
theorem dX5_slack_12 : decode cX5_slack 12 = .ok (.getfield 53, 3) := by decide +kernel
theorem dX5_slack_15 : decode cX5_slack 15 = .ok (.iload_n 1, 1) := by decide +kernel
theorem dX5_slack_16 : decode cX5_slack 16 = .ok (.iaload, 1) := by decide +kernel
theorem dX5_slack_17 : decode cX5_slack 17 = .ok (.isub, 1) := by decide +kernel
theorem dX5_slack_18 : decode cX5_slack 18 = .ok (.ireturn, 1) := by decide +kernel
theorem dX5_when_0 : decode cX5_when 0 = .ok (.aload_n 0, 1) := by decide +kernel
theorem dX5_when_1 : decode cX5_when 1 = .ok (.iconst 0, 1) := by decide +kernel
theorem dX5_when_2 : decode cX5_when 2 = .ok (.putfield 69, 3) := by decide +kernel
theorem dX5_when_5 : decode cX5_when 5 = .ok (.aload_n 0, 1) := by decide +kernel
theorem dX5_when_6 : decode cX5_when 6 = .ok (.iload_n 1, 1) := by decide +kernel
theorem dX5_when_7 : decode cX5_when 7 = .ok (.invokevirtual 86, 3) := by decide +kernel
theorem dX5_when_10 : decode cX5_when 10 = .ok (.ifCond .ne 5, 3) := by decide +kernel
theorem dX5_when_13 : decode cX5_when 13 = .ok (.iconst (-1), 1) := by decide +kernel
theorem dX5_when_14 : decode cX5_when 14 = .ok (.ireturn, 1) := by decide +kernel
theorem dX5_when_15 : decode cX5_when 15 = .ok (.iload_n 2, 1) := by decide +kernel
theorem dX5_when_16 : decode cX5_when 16 = .ok (.iconst 0, 1) := by decide +kernel
theorem dX5_when_17 : decode cX5_when 17 = .ok (.iconst 2, 1) := by decide +kernel
theorem dX5_when_18 : decode cX5_when 18 = .ok (.invokestatic 75, 3) := by decide +kernel
theorem dX5_when_21 : decode cX5_when 21 = .ok (.ifCond .ne 6, 3) := by decide +kernel
theorem dX5_when_24 : decode cX5_when 24 = .ok (.bipush (-2), 2) := by decide +kernel
theorem dX5_when_26 : decode cX5_when 26 = .ok (.ireturn, 1) := by decide +kernel
theorem dX5_when_27 : decode cX5_when 27 = .ok (.aload_n 0, 1) := by decide +kernel
theorem dX5_when_28 : decode cX5_when 28 = .ok (.invokevirtual 130, 3) := by decide +kernel
theorem dX5_when_31 : decode cX5_when 31 = .ok (.aload_n 0, 1) := by decide +kernel
theorem dX5_when_32 : decode cX5_when 32 = .ok (.getfield 113, 3) := by decide +kernel
theorem dX5_when_35 : decode cX5_when 35 = .ok (.ifCond .eq 6, 3) := by decide +kernel
theorem dX5_when_38 : decode cX5_when 38 = .ok (.bipush (-3), 2) := by decide +kernel
theorem dX5_when_40 : decode cX5_when 40 = .ok (.ireturn, 1) := by decide +kernel
theorem dX5_when_41 : decode cX5_when 41 = .ok (.iload_n 1, 1) := by decide +kernel
theorem dX5_when_42 : decode cX5_when 42 = .ok (.invokestatic 89, 3) := by decide +kernel
theorem dX5_when_45 : decode cX5_when 45 = .ok (.istore_n 3, 1) := by decide +kernel
theorem dX5_when_46 : decode cX5_when 46 = .ok (.iload_n 2, 1) := by decide +kernel
theorem dX5_when_47 : decode cX5_when 47 = .ok (.ifCond .ne 12, 3) := by decide +kernel
theorem dX5_when_50 : decode cX5_when 50 = .ok (.aload_n 0, 1) := by decide +kernel
theorem dX5_when_51 : decode cX5_when 51 = .ok (.getfield 50, 3) := by decide +kernel
theorem dX5_when_54 : decode cX5_when 54 = .ok (.iload_n 3, 1) := by decide +kernel
theorem dX5_when_55 : decode cX5_when 55 = .ok (.iaload, 1) := by decide +kernel
theorem dX5_when_56 : decode cX5_when 56 = .ok (.goto 29, 3) := by decide +kernel
theorem dX5_when_59 : decode cX5_when 59 = .ok (.iload_n 2, 1) := by decide +kernel
theorem dX5_when_60 : decode cX5_when 60 = .ok (.iconst 1, 1) := by decide +kernel
theorem dX5_when_61 : decode cX5_when 61 = .ok (.if_icmp .ne 19, 3) := by decide +kernel
theorem dX5_when_64 : decode cX5_when 64 = .ok (.aload_n 0, 1) := by decide +kernel
theorem dX5_when_65 : decode cX5_when 65 = .ok (.getfield 50, 3) := by decide +kernel
theorem dX5_when_68 : decode cX5_when 68 = .ok (.iload_n 3, 1) := by decide +kernel
theorem dX5_when_69 : decode cX5_when 69 = .ok (.iaload, 1) := by decide +kernel
theorem dX5_when_70 : decode cX5_when 70 = .ok (.aload_n 0, 1) := by decide +kernel
theorem dX5_when_71 : decode cX5_when 71 = .ok (.getfield 25, 3) := by decide +kernel
theorem dX5_when_74 : decode cX5_when 74 = .ok (.iload_n 3, 1) := by decide +kernel
theorem dX5_when_75 : decode cX5_when 75 = .ok (.iaload, 1) := by decide +kernel
theorem dX5_when_76 : decode cX5_when 76 = .ok (.iadd, 1) := by decide +kernel
theorem dX5_when_77 : decode cX5_when 77 = .ok (.goto 8, 3) := by decide +kernel
theorem dX5_when_80 : decode cX5_when 80 = .ok (.aload_n 0, 1) := by decide +kernel
theorem dX5_when_81 : decode cX5_when 81 = .ok (.iload_n 3, 1) := by decide +kernel
theorem dX5_when_82 : decode cX5_when 82 = .ok (.invokevirtual 133, 3) := by decide +kernel
theorem dX5_when_85 : decode cX5_when 85 = .ok (.ireturn, 1) := by decide +kernel
theorem dX5_span_0 : decode cX5_span 0 = .ok (.aload_n 0, 1) := by decide +kernel
theorem dX5_span_1 : decode cX5_span 1 = .ok (.iconst 0, 1) := by decide +kernel
theorem dX5_span_2 : decode cX5_span 2 = .ok (.putfield 69, 3) := by decide +kernel
theorem dX5_span_5 : decode cX5_span 5 = .ok (.aload_n 0, 1) := by decide +kernel
theorem dX5_span_6 : decode cX5_span 6 = .ok (.invokevirtual 130, 3) := by decide +kernel
theorem dX5_span_9 : decode cX5_span 9 = .ok (.aload_n 0, 1) := by decide +kernel
theorem dX5_span_10 : decode cX5_span 10 = .ok (.getfield 113, 3) := by decide +kernel
theorem dX5_span_13 : decode cX5_span 13 = .ok (.ifCond .ne 10, 3) := by decide +kernel
theorem dX5_span_16 : decode cX5_span 16 = .ok (.aload_n 0, 1) := by decide +kernel
theorem dX5_span_17 : decode cX5_span 17 = .ok (.getfield 116, 3) := by decide +kernel
theorem dX5_span_20 : decode cX5_span 20 = .ok (.goto 5, 3) := by decide +kernel
theorem dX5_span_23 : decode cX5_span 23 = .ok (.bipush (-3), 2) := by decide +kernel
theorem dX5_span_25 : decode cX5_span 25 = .ok (.ireturn, 1) := by decide +kernel
theorem dX5_late_0 : decode cX5_late 0 = .ok (.aload_n 0, 1) := by decide +kernel
theorem dX5_late_1 : decode cX5_late 1 = .ok (.iconst 0, 1) := by decide +kernel
theorem dX5_late_2 : decode cX5_late 2 = .ok (.putfield 69, 3) := by decide +kernel
theorem dX5_late_5 : decode cX5_late 5 = .ok (.aload_n 0, 1) := by decide +kernel
theorem dX5_late_6 : decode cX5_late 6 = .ok (.invokevirtual 130, 3) := by decide +kernel
theorem dX5_late_9 : decode cX5_late 9 = .ok (.aload_n 0, 1) := by decide +kernel
theorem dX5_late_10 : decode cX5_late 10 = .ok (.getfield 113, 3) := by decide +kernel
theorem dX5_late_13 : decode cX5_late 13 = .ok (.ifCond .eq 7, 3) := by decide +kernel
theorem dX5_late_16 : decode cX5_late 16 = .ok (.ldc2_w 136, 3) := by decide +kernel
theorem dX5_late_19 : decode cX5_late 19 = .ok (.lreturn, 1) := by decide +kernel
theorem dX5_late_20 : decode cX5_late 20 = .ok (.lconst 0, 1) := by decide +kernel
theorem dX5_late_21 : decode cX5_late 21 = .ok (.lstore_n 1, 1) := by decide +kernel
theorem dX5_late_22 : decode cX5_late 22 = .ok (.iconst 0, 1) := by decide +kernel
theorem dX5_late_23 : decode cX5_late 23 = .ok (.istore_n 3, 1) := by decide +kernel
theorem dX5_late_24 : decode cX5_late 24 = .ok (.iload_n 3, 1) := by decide +kernel
theorem dX5_late_25 : decode cX5_late 25 = .ok (.aload_n 0, 1) := by decide +kernel
theorem dX5_late_26 : decode cX5_late 26 = .ok (.getfield 72, 3) := by decide +kernel
theorem dX5_late_29 : decode cX5_late 29 = .ok (.if_icmp .ge 95, 3) := by decide +kernel
theorem dX5_late_32 : decode cX5_late 32 = .ok (.bipush 6, 2) := by decide +kernel
theorem dX5_late_34 : decode cX5_late 34 = .ok (.iload_n 3, 1) := by decide +kernel
theorem dX5_late_35 : decode cX5_late 35 = .ok (.imul, 1) := by decide +kernel
theorem dX5_late_36 : decode cX5_late 36 = .ok (.aload_n 0, 1) := by decide +kernel
theorem dX5_late_37 : decode cX5_late 37 = .ok (.getfield 19, 3) := by decide +kernel
theorem dX5_late_40 : decode cX5_late 40 = .ok (.iload_n 3, 1) := by decide +kernel
theorem dX5_late_41 : decode cX5_late 41 = .ok (.iaload, 1) := by decide +kernel
theorem dX5_late_42 : decode cX5_late 42 = .ok (.iadd, 1) := by decide +kernel
theorem dX5_late_43 : decode cX5_late 43 = .ok (.iconst 1, 1) := by decide +kernel
theorem dX5_late_44 : decode cX5_late 44 = .ok (.isub, 1) := by decide +kernel
theorem dX5_late_45 : decode cX5_late 45 = .ok (.istore 4, 2) := by decide +kernel
theorem dX5_late_47 : decode cX5_late 47 = .ok (.aload_n 0, 1) := by decide +kernel
theorem dX5_late_48 : decode cX5_late 48 = .ok (.getfield 19, 3) := by decide +kernel
theorem dX5_late_51 : decode cX5_late 51 = .ok (.iload_n 3, 1) := by decide +kernel
theorem dX5_late_52 : decode cX5_late 52 = .ok (.iaload, 1) := by decide +kernel
theorem dX5_late_53 : decode cX5_late 53 = .ok (.ifCond .ne 12, 3) := by decide +kernel
theorem dX5_late_56 : decode cX5_late 56 = .ok (.aload_n 0, 1) := by decide +kernel
theorem dX5_late_57 : decode cX5_late 57 = .ok (.getfield 7, 3) := by decide +kernel
theorem dX5_late_60 : decode cX5_late 60 = .ok (.iload_n 3, 1) := by decide +kernel
theorem dX5_late_61 : decode cX5_late 61 = .ok (.iaload, 1) := by decide +kernel
theorem dX5_late_62 : decode cX5_late 62 = .ok (.goto 18, 3) := by decide +kernel
theorem dX5_late_65 : decode cX5_late 65 = .ok (.aload_n 0, 1) := by decide +kernel
theorem dX5_late_66 : decode cX5_late 66 = .ok (.getfield 50, 3) := by decide +kernel
theorem dX5_late_69 : decode cX5_late 69 = .ok (.iload 4, 2) := by decide +kernel
theorem dX5_late_71 : decode cX5_late 71 = .ok (.iaload, 1) := by decide +kernel
theorem dX5_late_72 : decode cX5_late 72 = .ok (.aload_n 0, 1) := by decide +kernel
theorem dX5_late_73 : decode cX5_late 73 = .ok (.getfield 25, 3) := by decide +kernel
theorem dX5_late_76 : decode cX5_late 76 = .ok (.iload 4, 2) := by decide +kernel
theorem dX5_late_78 : decode cX5_late 78 = .ok (.iaload, 1) := by decide +kernel
theorem dX5_late_79 : decode cX5_late 79 = .ok (.iadd, 1) := by decide +kernel
theorem dX5_late_80 : decode cX5_late 80 = .ok (.istore 5, 2) := by decide +kernel
theorem dX5_late_82 : decode cX5_late 82 = .ok (.lload_n 1, 1) := by decide +kernel
theorem dX5_late_83 : decode cX5_late 83 = .ok (.iload 5, 2) := by decide +kernel
theorem dX5_late_85 : decode cX5_late 85 = .ok (.aload_n 0, 1) := by decide +kernel
theorem dX5_late_86 : decode cX5_late 86 = .ok (.getfield 13, 3) := by decide +kernel
theorem dX5_late_89 : decode cX5_late 89 = .ok (.iload_n 3, 1) := by decide +kernel
theorem dX5_late_90 : decode cX5_late 90 = .ok (.iaload, 1) := by decide +kernel
theorem dX5_late_91 : decode cX5_late 91 = .ok (.if_icmp .le 24, 3) := by decide +kernel
theorem dX5_late_94 : decode cX5_late 94 = .ok (.aload_n 0, 1) := by decide +kernel
theorem dX5_late_95 : decode cX5_late 95 = .ok (.getfield 16, 3) := by decide +kernel
theorem dX5_late_98 : decode cX5_late 98 = .ok (.iload_n 3, 1) := by decide +kernel
theorem dX5_late_99 : decode cX5_late 99 = .ok (.iaload, 1) := by decide +kernel
theorem dX5_late_100 : decode cX5_late 100 = .ok (.i2l, 1) := by decide +kernel
theorem dX5_late_101 : decode cX5_late 101 = .ok (.iload 5, 2) := by decide +kernel
theorem dX5_late_103 : decode cX5_late 103 = .ok (.aload_n 0, 1) := by decide +kernel
theorem dX5_late_104 : decode cX5_late 104 = .ok (.getfield 13, 3) := by decide +kernel
theorem dX5_late_107 : decode cX5_late 107 = .ok (.iload_n 3, 1) := by decide +kernel
theorem dX5_late_108 : decode cX5_late 108 = .ok (.iaload, 1) := by decide +kernel
theorem dX5_late_109 : decode cX5_late 109 = .ok (.isub, 1) := by decide +kernel
theorem dX5_late_110 : decode cX5_late 110 = .ok (.i2l, 1) := by decide +kernel
theorem dX5_late_111 : decode cX5_late 111 = .ok (.lmul, 1) := by decide +kernel
theorem dX5_late_112 : decode cX5_late 112 = .ok (.goto 4, 3) := by decide +kernel
theorem dX5_late_115 : decode cX5_late 115 = .ok (.lconst 0, 1) := by decide +kernel
theorem dX5_late_116 : decode cX5_late 116 = .ok (.ladd, 1) := by decide +kernel
theorem dX5_late_117 : decode cX5_late 117 = .ok (.lstore_n 1, 1) := by decide +kernel
theorem dX5_late_118 : decode cX5_late 118 = .ok (.iinc 3 1, 3) := by decide +kernel
theorem dX5_late_121 : decode cX5_late 121 = .ok (.goto (-97), 3) := by decide +kernel
theorem dX5_late_124 : decode cX5_late 124 = .ok (.lload_n 1, 1) := by decide +kernel
theorem dX5_late_125 : decode cX5_late 125 = .ok (.lreturn, 1) := by decide +kernel
theorem dX5_spanWith_0 : decode cX5_spanWith 0 = .ok (.aload_n 0, 1) := by decide +kernel
theorem dX5_spanWith_1 : decode cX5_spanWith 1 = .ok (.iload_n 1, 1) := by decide +kernel
theorem dX5_spanWith_2 : decode cX5_spanWith 2 = .ok (.iload_n 2, 1) := by decide +kernel
theorem dX5_spanWith_3 : decode cX5_spanWith 3 = .ok (.invokevirtual 100, 3) := by decide +kernel
theorem dX5_spanWith_6 : decode cX5_spanWith 6 = .ok (.aload_n 0, 1) := by decide +kernel
theorem dX5_spanWith_7 : decode cX5_spanWith 7 = .ok (.invokevirtual 130, 3) := by decide +kernel
theorem dX5_spanWith_10 : decode cX5_spanWith 10 = .ok (.aload_n 0, 1) := by decide +kernel
theorem dX5_spanWith_11 : decode cX5_spanWith 11 = .ok (.getfield 113, 3) := by decide +kernel
theorem dX5_spanWith_14 : decode cX5_spanWith 14 = .ok (.ifCond .ne 10, 3) := by decide +kernel
theorem dX5_spanWith_17 : decode cX5_spanWith 17 = .ok (.aload_n 0, 1) := by decide +kernel
theorem dX5_spanWith_18 : decode cX5_spanWith 18 = .ok (.getfield 116, 3) := by decide +kernel
theorem dX5_spanWith_21 : decode cX5_spanWith 21 = .ok (.goto 5, 3) := by decide +kernel
theorem dX5_spanWith_24 : decode cX5_spanWith 24 = .ok (.bipush (-3), 2) := by decide +kernel
theorem dX5_spanWith_26 : decode cX5_spanWith 26 = .ok (.istore_n 3, 1) := by decide +kernel
theorem dX5_spanWith_27 : decode cX5_spanWith 27 = .ok (.aload_n 0, 1) := by decide +kernel
theorem dX5_spanWith_28 : decode cX5_spanWith 28 = .ok (.iload_n 1, 1) := by decide +kernel
theorem dX5_spanWith_29 : decode cX5_spanWith 29 = .ok (.iload_n 2, 1) := by decide +kernel
theorem dX5_spanWith_30 : decode cX5_spanWith 30 = .ok (.invokevirtual 100, 3) := by decide +kernel
theorem dX5_spanWith_33 : decode cX5_spanWith 33 = .ok (.aload_n 0, 1) := by decide +kernel
theorem dX5_spanWith_34 : decode cX5_spanWith 34 = .ok (.invokevirtual 130, 3) := by decide +kernel
theorem dX5_spanWith_37 : decode cX5_spanWith 37 = .ok (.iload_n 3, 1) := by decide +kernel
theorem dX5_spanWith_38 : decode cX5_spanWith 38 = .ok (.ireturn, 1) := by decide +kernel
theorem dX5_swapped_0 : decode cX5_swapped 0 = .ok (.aload_n 0, 1) := by decide +kernel
theorem dX5_swapped_1 : decode cX5_swapped 1 = .ok (.iconst 0, 1) := by decide +kernel
theorem dX5_swapped_2 : decode cX5_swapped 2 = .ok (.putfield 69, 3) := by decide +kernel
theorem dX5_swapped_5 : decode cX5_swapped 5 = .ok (.aload_n 0, 1) := by decide +kernel
theorem dX5_swapped_6 : decode cX5_swapped 6 = .ok (.iload_n 1, 1) := by decide +kernel
theorem dX5_swapped_7 : decode cX5_swapped 7 = .ok (.iload_n 2, 1) := by decide +kernel
theorem dX5_swapped_8 : decode cX5_swapped 8 = .ok (.invokevirtual 96, 3) := by decide +kernel
theorem dX5_swapped_11 : decode cX5_swapped 11 = .ok (.ifCond .ne 5, 3) := by decide +kernel
theorem dX5_swapped_14 : decode cX5_swapped 14 = .ok (.iconst (-1), 1) := by decide +kernel
theorem dX5_swapped_15 : decode cX5_swapped 15 = .ok (.ireturn, 1) := by decide +kernel
theorem dX5_swapped_16 : decode cX5_swapped 16 = .ok (.aload_n 0, 1) := by decide +kernel
theorem dX5_swapped_17 : decode cX5_swapped 17 = .ok (.invokevirtual 130, 3) := by decide +kernel
theorem dX5_swapped_20 : decode cX5_swapped 20 = .ok (.aload_n 0, 1) := by decide +kernel
theorem dX5_swapped_21 : decode cX5_swapped 21 = .ok (.getfield 113, 3) := by decide +kernel
theorem dX5_swapped_24 : decode cX5_swapped 24 = .ok (.ifCond .ne 12, 3) := by decide +kernel
theorem dX5_swapped_27 : decode cX5_swapped 27 = .ok (.aload_n 0, 1) := by decide +kernel
theorem dX5_swapped_28 : decode cX5_swapped 28 = .ok (.iload_n 1, 1) := by decide +kernel
theorem dX5_swapped_29 : decode cX5_swapped 29 = .ok (.iload_n 2, 1) := by decide +kernel
theorem dX5_swapped_30 : decode cX5_swapped 30 = .ok (.invokevirtual 138, 3) := by decide +kernel
theorem dX5_swapped_33 : decode cX5_swapped 33 = .ok (.goto 5, 3) := by decide +kernel
theorem dX5_swapped_36 : decode cX5_swapped 36 = .ok (.bipush (-3), 2) := by decide +kernel
theorem dX5_swapped_38 : decode cX5_swapped 38 = .ok (.ireturn, 1) := by decide +kernel
theorem dX5_better_0 : decode cX5_better 0 = .ok (.aload_n 0, 1) := by decide +kernel
theorem dX5_better_1 : decode cX5_better 1 = .ok (.iconst 0, 1) := by decide +kernel
theorem dX5_better_2 : decode cX5_better 2 = .ok (.putfield 69, 3) := by decide +kernel
theorem dX5_better_5 : decode cX5_better 5 = .ok (.aload_n 0, 1) := by decide +kernel
theorem dX5_better_6 : decode cX5_better 6 = .ok (.invokevirtual 130, 3) := by decide +kernel
theorem dX5_better_9 : decode cX5_better 9 = .ok (.aload_n 0, 1) := by decide +kernel
theorem dX5_better_10 : decode cX5_better 10 = .ok (.getfield 113, 3) := by decide +kernel
theorem dX5_better_13 : decode cX5_better 13 = .ok (.ifCond .eq 6, 3) := by decide +kernel
theorem dX5_better_16 : decode cX5_better 16 = .ok (.bipush (-3), 2) := by decide +kernel
theorem dX5_better_18 : decode cX5_better 18 = .ok (.ireturn, 1) := by decide +kernel
theorem dX5_better_19 : decode cX5_better 19 = .ok (.bipush (-3), 2) := by decide +kernel
theorem dX5_better_21 : decode cX5_better 21 = .ok (.istore_n 1, 1) := by decide +kernel
theorem dX5_better_22 : decode cX5_better 22 = .ok (.aload_n 0, 1) := by decide +kernel
theorem dX5_better_23 : decode cX5_better 23 = .ok (.getfield 116, 3) := by decide +kernel
theorem dX5_better_26 : decode cX5_better 26 = .ok (.istore_n 2, 1) := by decide +kernel
theorem dX5_better_27 : decode cX5_better 27 = .ok (.iconst 0, 1) := by decide +kernel
theorem dX5_better_28 : decode cX5_better 28 = .ok (.istore_n 3, 1) := by decide +kernel
theorem dX5_better_29 : decode cX5_better 29 = .ok (.iload_n 3, 1) := by decide +kernel
theorem dX5_better_30 : decode cX5_better 30 = .ok (.aload_n 0, 1) := by decide +kernel
theorem dX5_better_31 : decode cX5_better 31 = .ok (.getfield 65, 3) := by decide +kernel
theorem dX5_better_34 : decode cX5_better 34 = .ok (.if_icmp .ge 102, 3) := by decide +kernel
theorem dX5_better_37 : decode cX5_better 37 = .ok (.iconst 0, 1) := by decide +kernel
theorem dX5_better_38 : decode cX5_better 38 = .ok (.istore 4, 2) := by decide +kernel
theorem dX5_better_40 : decode cX5_better 40 = .ok (.iload 4, 2) := by decide +kernel
theorem dX5_better_42 : decode cX5_better 42 = .ok (.iconst 1, 1) := by decide +kernel
theorem dX5_better_43 : decode cX5_better 43 = .ok (.iadd, 1) := by decide +kernel
theorem dX5_better_44 : decode cX5_better 44 = .ok (.aload_n 0, 1) := by decide +kernel
theorem dX5_better_45 : decode cX5_better 45 = .ok (.getfield 35, 3) := by decide +kernel
theorem dX5_better_48 : decode cX5_better 48 = .ok (.iload_n 3, 1) := by decide +kernel
theorem dX5_better_49 : decode cX5_better 49 = .ok (.iaload, 1) := by decide +kernel
theorem dX5_better_50 : decode cX5_better 50 = .ok (.if_icmp .ge 80, 3) := by decide +kernel
theorem dX5_better_53 : decode cX5_better 53 = .ok (.aload_n 0, 1) := by decide +kernel
theorem dX5_better_54 : decode cX5_better 54 = .ok (.aload_n 0, 1) := by decide +kernel
theorem dX5_better_55 : decode cX5_better 55 = .ok (.getfield 38, 3) := by decide +kernel
theorem dX5_better_58 : decode cX5_better 58 = .ok (.bipush 48, 2) := by decide +kernel
theorem dX5_better_60 : decode cX5_better 60 = .ok (.iload_n 3, 1) := by decide +kernel
theorem dX5_better_61 : decode cX5_better 61 = .ok (.imul, 1) := by decide +kernel
theorem dX5_better_62 : decode cX5_better 62 = .ok (.iload 4, 2) := by decide +kernel
theorem dX5_better_64 : decode cX5_better 64 = .ok (.iadd, 1) := by decide +kernel
theorem dX5_better_65 : decode cX5_better 65 = .ok (.iaload, 1) := by decide +kernel
theorem dX5_better_66 : decode cX5_better 66 = .ok (.invokevirtual 133, 3) := by decide +kernel
theorem dX5_better_69 : decode cX5_better 69 = .ok (.ifCond .ne 55, 3) := by decide +kernel
theorem dX5_better_72 : decode cX5_better 72 = .ok (.aload_n 0, 1) := by decide +kernel
theorem dX5_better_73 : decode cX5_better 73 = .ok (.aload_n 0, 1) := by decide +kernel
theorem dX5_better_74 : decode cX5_better 74 = .ok (.getfield 38, 3) := by decide +kernel
theorem dX5_better_77 : decode cX5_better 77 = .ok (.bipush 48, 2) := by decide +kernel
theorem dX5_better_79 : decode cX5_better 79 = .ok (.iload_n 3, 1) := by decide +kernel
theorem dX5_better_80 : decode cX5_better 80 = .ok (.imul, 1) := by decide +kernel
theorem dX5_better_81 : decode cX5_better 81 = .ok (.iload 4, 2) := by decide +kernel
theorem dX5_better_83 : decode cX5_better 83 = .ok (.iadd, 1) := by decide +kernel
theorem dX5_better_84 : decode cX5_better 84 = .ok (.iconst 1, 1) := by decide +kernel
theorem dX5_better_85 : decode cX5_better 85 = .ok (.iadd, 1) := by decide +kernel
theorem dX5_better_86 : decode cX5_better 86 = .ok (.iaload, 1) := by decide +kernel
theorem dX5_better_87 : decode cX5_better 87 = .ok (.invokevirtual 133, 3) := by decide +kernel
theorem dX5_better_90 : decode cX5_better 90 = .ok (.ifCond .ne 34, 3) := by decide +kernel
theorem dX5_better_93 : decode cX5_better 93 = .ok (.aload_n 0, 1) := by decide +kernel
theorem dX5_better_94 : decode cX5_better 94 = .ok (.iload_n 3, 1) := by decide +kernel
theorem dX5_better_95 : decode cX5_better 95 = .ok (.iload 4, 2) := by decide +kernel
theorem dX5_better_97 : decode cX5_better 97 = .ok (.invokevirtual 138, 3) := by decide +kernel
theorem dX5_better_100 : decode cX5_better 100 = .ok (.istore 5, 2) := by decide +kernel
theorem dX5_better_102 : decode cX5_better 102 = .ok (.iload 5, 2) := by decide +kernel
theorem dX5_better_104 : decode cX5_better 104 = .ok (.ifCond .lt 20, 3) := by decide +kernel
theorem dX5_better_107 : decode cX5_better 107 = .ok (.iload 5, 2) := by decide +kernel
theorem dX5_better_109 : decode cX5_better 109 = .ok (.iload_n 2, 1) := by decide +kernel
theorem dX5_better_110 : decode cX5_better 110 = .ok (.if_icmp .ge 14, 3) := by decide +kernel
theorem dX5_better_113 : decode cX5_better 113 = .ok (.iload 5, 2) := by decide +kernel
theorem dX5_better_115 : decode cX5_better 115 = .ok (.istore_n 2, 1) := by decide +kernel
theorem dX5_better_116 : decode cX5_better 116 = .ok (.bipush 100, 2) := by decide +kernel
theorem dX5_better_118 : decode cX5_better 118 = .ok (.iload_n 3, 1) := by decide +kernel
theorem dX5_better_119 : decode cX5_better 119 = .ok (.imul, 1) := by decide +kernel
theorem dX5_better_120 : decode cX5_better 120 = .ok (.iload 4, 2) := by decide +kernel
theorem dX5_better_122 : decode cX5_better 122 = .ok (.iadd, 1) := by decide +kernel
theorem dX5_better_123 : decode cX5_better 123 = .ok (.istore_n 1, 1) := by decide +kernel
theorem dX5_better_124 : decode cX5_better 124 = .ok (.iinc 4 1, 3) := by decide +kernel
theorem dX5_better_127 : decode cX5_better 127 = .ok (.goto (-87), 3) := by decide +kernel
theorem dX5_better_130 : decode cX5_better 130 = .ok (.iinc 3 1, 3) := by decide +kernel
theorem dX5_better_133 : decode cX5_better 133 = .ok (.goto (-104), 3) := by decide +kernel
theorem dX5_better_136 : decode cX5_better 136 = .ok (.iload_n 1, 1) := by decide +kernel
theorem dX5_better_137 : decode cX5_better 137 = .ok (.ireturn, 1) := by decide +kernel
theorem dX5_headOf_0 : decode cX5_headOf 0 = .ok (.aload_n 0, 1) := by decide +kernel
theorem dX5_headOf_1 : decode cX5_headOf 1 = .ok (.getfield 7, 3) := by decide +kernel
theorem dX5_headOf_4 : decode cX5_headOf 4 = .ok (.iload_n 1, 1) := by decide +kernel
theorem dX5_headOf_5 : decode cX5_headOf 5 = .ok (.bipush 6, 2) := by decide +kernel
theorem dX5_headOf_7 : decode cX5_headOf 7 = .ok (.idiv, 1) := by decide +kernel
theorem dX5_headOf_8 : decode cX5_headOf 8 = .ok (.iaload, 1) := by decide +kernel
theorem dX5_headOf_9 : decode cX5_headOf 9 = .ok (.istore_n 2, 1) := by decide +kernel
theorem dX5_headOf_10 : decode cX5_headOf 10 = .ok (.bipush 6, 2) := by decide +kernel
theorem dX5_headOf_12 : decode cX5_headOf 12 = .ok (.iload_n 1, 1) := by decide +kernel
theorem dX5_headOf_13 : decode cX5_headOf 13 = .ok (.bipush 6, 2) := by decide +kernel
theorem dX5_headOf_15 : decode cX5_headOf 15 = .ok (.idiv, 1) := by decide +kernel
theorem dX5_headOf_16 : decode cX5_headOf 16 = .ok (.imul, 1) := by decide +kernel
theorem dX5_headOf_17 : decode cX5_headOf 17 = .ok (.istore_n 3, 1) := by decide +kernel
theorem dX5_headOf_18 : decode cX5_headOf 18 = .ok (.iload_n 3, 1) := by decide +kernel
theorem dX5_headOf_19 : decode cX5_headOf 19 = .ok (.iload_n 1, 1) := by decide +kernel
theorem dX5_headOf_20 : decode cX5_headOf 20 = .ok (.if_icmp .ge 18, 3) := by decide +kernel
theorem dX5_headOf_23 : decode cX5_headOf 23 = .ok (.iload_n 2, 1) := by decide +kernel
theorem dX5_headOf_24 : decode cX5_headOf 24 = .ok (.aload_n 0, 1) := by decide +kernel
theorem dX5_headOf_25 : decode cX5_headOf 25 = .ok (.getfield 25, 3) := by decide +kernel
theorem dX5_headOf_28 : decode cX5_headOf 28 = .ok (.iload_n 3, 1) := by decide +kernel
theorem dX5_headOf_29 : decode cX5_headOf 29 = .ok (.iaload, 1) := by decide +kernel
theorem dX5_headOf_30 : decode cX5_headOf 30 = .ok (.iadd, 1) := by decide +kernel
theorem dX5_headOf_31 : decode cX5_headOf 31 = .ok (.istore_n 2, 1) := by decide +kernel
theorem dX5_headOf_32 : decode cX5_headOf 32 = .ok (.iinc 3 1, 3) := by decide +kernel
theorem dX5_headOf_35 : decode cX5_headOf 35 = .ok (.goto (-17), 3) := by decide +kernel
theorem dX5_headOf_38 : decode cX5_headOf 38 = .ok (.iload_n 2, 1) := by decide +kernel
theorem dX5_headOf_39 : decode cX5_headOf 39 = .ok (.ireturn, 1) := by decide +kernel
theorem dX5_part_0 : decode cX5_part 0 = .ok (.aload_n 0, 1) := by decide +kernel
theorem dX5_part_1 : decode cX5_part 1 = .ok (.iconst 0, 1) := by decide +kernel
theorem dX5_part_2 : decode cX5_part 2 = .ok (.putfield 69, 3) := by decide +kernel
theorem dX5_part_5 : decode cX5_part 5 = .ok (.aload_n 0, 1) := by decide +kernel
theorem dX5_part_6 : decode cX5_part 6 = .ok (.iload_n 1, 1) := by decide +kernel
theorem dX5_part_7 : decode cX5_part 7 = .ok (.invokevirtual 86, 3) := by decide +kernel
theorem dX5_part_10 : decode cX5_part 10 = .ok (.ifCond .ne 5, 3) := by decide +kernel
theorem dX5_part_13 : decode cX5_part 13 = .ok (.iconst (-1), 1) := by decide +kernel
theorem dX5_part_14 : decode cX5_part 14 = .ok (.ireturn, 1) := by decide +kernel
theorem dX5_part_15 : decode cX5_part 15 = .ok (.iload_n 1, 1) := by decide +kernel
theorem dX5_part_16 : decode cX5_part 16 = .ok (.invokestatic 89, 3) := by decide +kernel
theorem dX5_part_19 : decode cX5_part 19 = .ok (.istore_n 3, 1) := by decide +kernel
theorem dX5_part_20 : decode cX5_part 20 = .ok (.iload_n 2, 1) := by decide +kernel
theorem dX5_part_21 : decode cX5_part 21 = .ok (.ifCond .ne 11, 3) := by decide +kernel
theorem dX5_part_24 : decode cX5_part 24 = .ok (.aload_n 0, 1) := by decide +kernel
theorem dX5_part_25 : decode cX5_part 25 = .ok (.iload_n 3, 1) := by decide +kernel
theorem dX5_part_26 : decode cX5_part 26 = .ok (.invokevirtual 141, 3) := by decide +kernel
theorem dX5_part_29 : decode cX5_part 29 = .ok (.goto 25, 3) := by decide +kernel
theorem dX5_part_32 : decode cX5_part 32 = .ok (.iload_n 2, 1) := by decide +kernel
theorem dX5_part_33 : decode cX5_part 33 = .ok (.iconst 1, 1) := by decide +kernel
theorem dX5_part_34 : decode cX5_part 34 = .ok (.if_icmp .ne 18, 3) := by decide +kernel
theorem dX5_part_37 : decode cX5_part 37 = .ok (.aload_n 0, 1) := by decide +kernel
theorem dX5_part_38 : decode cX5_part 38 = .ok (.iload_n 3, 1) := by decide +kernel
theorem dX5_part_39 : decode cX5_part 39 = .ok (.invokevirtual 110, 3) := by decide +kernel
theorem dX5_part_42 : decode cX5_part 42 = .ok (.aload_n 0, 1) := by decide +kernel
theorem dX5_part_43 : decode cX5_part 43 = .ok (.getfield 25, 3) := by decide +kernel
theorem dX5_part_46 : decode cX5_part 46 = .ok (.iload_n 3, 1) := by decide +kernel
theorem dX5_part_47 : decode cX5_part 47 = .ok (.iaload, 1) := by decide +kernel
theorem dX5_part_48 : decode cX5_part 48 = .ok (.isub, 1) := by decide +kernel
theorem dX5_part_49 : decode cX5_part 49 = .ok (.goto 5, 3) := by decide +kernel
theorem dX5_part_52 : decode cX5_part 52 = .ok (.bipush (-2), 2) := by decide +kernel
theorem dX5_part_54 : decode cX5_part 54 = .ok (.ireturn, 1) := by decide +kernel
theorem dX5_fits_0 : decode cX5_fits 0 = .ok (.aload_n 0, 1) := by decide +kernel
theorem dX5_fits_1 : decode cX5_fits 1 = .ok (.getfield 62, 3) := by decide +kernel
theorem dX5_fits_4 : decode cX5_fits 4 = .ok (.iconst 0, 1) := by decide +kernel
theorem dX5_fits_5 : decode cX5_fits 5 = .ok (.iconst 0, 1) := by decide +kernel
theorem dX5_fits_6 : decode cX5_fits 6 = .ok (.iastore, 1) := by decide +kernel
theorem dX5_fits_7 : decode cX5_fits 7 = .ok (.iconst 1, 1) := by decide +kernel
theorem dX5_fits_8 : decode cX5_fits 8 = .ok (.istore_n 2, 1) := by decide +kernel
theorem dX5_fits_9 : decode cX5_fits 9 = .ok (.iload_n 2, 1) := by decide +kernel
theorem dX5_fits_10 : decode cX5_fits 10 = .ok (.iconst 1, 1) := by decide +kernel
theorem dX5_fits_11 : decode cX5_fits 11 = .ok (.aload_n 0, 1) := by decide +kernel
theorem dX5_fits_12 : decode cX5_fits 12 = .ok (.getfield 144, 3) := by decide +kernel
theorem dX5_fits_15 : decode cX5_fits 15 = .ok (.ishl, 1) := by decide +kernel
theorem dX5_fits_16 : decode cX5_fits 16 = .ok (.if_icmp .ge 156, 3) := by decide +kernel
theorem dX5_fits_19 : decode cX5_fits 19 = .ok (.aload_n 0, 1) := by decide +kernel
theorem dX5_fits_20 : decode cX5_fits 20 = .ok (.getfield 62, 3) := by decide +kernel
theorem dX5_fits_23 : decode cX5_fits 23 = .ok (.iload_n 2, 1) := by decide +kernel
theorem dX5_fits_24 : decode cX5_fits 24 = .ok (.iconst (-1), 1) := by decide +kernel
theorem dX5_fits_25 : decode cX5_fits 25 = .ok (.iastore, 1) := by decide +kernel
theorem dX5_fits_26 : decode cX5_fits 26 = .ok (.iconst 0, 1) := by decide +kernel
theorem dX5_fits_27 : decode cX5_fits 27 = .ok (.istore_n 3, 1) := by decide +kernel
theorem dX5_fits_28 : decode cX5_fits 28 = .ok (.iload_n 3, 1) := by decide +kernel
theorem dX5_fits_29 : decode cX5_fits 29 = .ok (.aload_n 0, 1) := by decide +kernel
theorem dX5_fits_30 : decode cX5_fits 30 = .ok (.getfield 144, 3) := by decide +kernel
theorem dX5_fits_33 : decode cX5_fits 33 = .ok (.if_icmp .ge 133, 3) := by decide +kernel
theorem dX5_fits_36 : decode cX5_fits 36 = .ok (.iload_n 2, 1) := by decide +kernel
theorem dX5_fits_37 : decode cX5_fits 37 = .ok (.iload_n 3, 1) := by decide +kernel
theorem dX5_fits_38 : decode cX5_fits 38 = .ok (.ishr, 1) := by decide +kernel
theorem dX5_fits_39 : decode cX5_fits 39 = .ok (.iconst 1, 1) := by decide +kernel
theorem dX5_fits_40 : decode cX5_fits 40 = .ok (.iand, 1) := by decide +kernel
theorem dX5_fits_41 : decode cX5_fits 41 = .ok (.iconst 1, 1) := by decide +kernel
theorem dX5_fits_42 : decode cX5_fits 42 = .ok (.if_icmp .ne 18, 3) := by decide +kernel
theorem dX5_fits_45 : decode cX5_fits 45 = .ok (.aload_n 0, 1) := by decide +kernel
theorem dX5_fits_46 : decode cX5_fits 46 = .ok (.getfield 62, 3) := by decide +kernel
theorem dX5_fits_49 : decode cX5_fits 49 = .ok (.iload_n 2, 1) := by decide +kernel
theorem dX5_fits_50 : decode cX5_fits 50 = .ok (.iconst 1, 1) := by decide +kernel
theorem dX5_fits_51 : decode cX5_fits 51 = .ok (.iload_n 3, 1) := by decide +kernel
theorem dX5_fits_52 : decode cX5_fits 52 = .ok (.ishl, 1) := by decide +kernel
theorem dX5_fits_53 : decode cX5_fits 53 = .ok (.iconst (-1), 1) := by decide +kernel
theorem dX5_fits_54 : decode cX5_fits 54 = .ok (.ixor, 1) := by decide +kernel
theorem dX5_fits_55 : decode cX5_fits 55 = .ok (.iand, 1) := by decide +kernel
theorem dX5_fits_56 : decode cX5_fits 56 = .ok (.iaload, 1) := by decide +kernel
theorem dX5_fits_57 : decode cX5_fits 57 = .ok (.goto 4, 3) := by decide +kernel
theorem dX5_fits_60 : decode cX5_fits 60 = .ok (.iconst (-1), 1) := by decide +kernel
theorem dX5_fits_61 : decode cX5_fits 61 = .ok (.istore 4, 2) := by decide +kernel
theorem dX5_fits_63 : decode cX5_fits 63 = .ok (.iload 4, 2) := by decide +kernel
theorem dX5_fits_65 : decode cX5_fits 65 = .ok (.ifCond .ge 6, 3) := by decide +kernel
theorem dX5_fits_68 : decode cX5_fits 68 = .ok (.goto 92, 3) := by decide +kernel
theorem dX5_fits_71 : decode cX5_fits 71 = .ok (.aload_n 0, 1) := by decide +kernel
theorem dX5_fits_72 : decode cX5_fits 72 = .ok (.getfield 59, 3) := by decide +kernel
theorem dX5_fits_75 : decode cX5_fits 75 = .ok (.iload_n 3, 1) := by decide +kernel
theorem dX5_fits_76 : decode cX5_fits 76 = .ok (.iaload, 1) := by decide +kernel
theorem dX5_fits_77 : decode cX5_fits 77 = .ok (.istore 5, 2) := by decide +kernel
theorem dX5_fits_79 : decode cX5_fits 79 = .ok (.aload_n 0, 1) := by decide +kernel
theorem dX5_fits_80 : decode cX5_fits 80 = .ok (.iload 5, 2) := by decide +kernel
theorem dX5_fits_82 : decode cX5_fits 82 = .ok (.invokevirtual 141, 3) := by decide +kernel
theorem dX5_fits_85 : decode cX5_fits 85 = .ok (.istore 6, 2) := by decide +kernel
theorem dX5_fits_87 : decode cX5_fits 87 = .ok (.iload 6, 2) := by decide +kernel
theorem dX5_fits_89 : decode cX5_fits 89 = .ok (.iload 4, 2) := by decide +kernel
theorem dX5_fits_91 : decode cX5_fits 91 = .ok (.if_icmp .le 8, 3) := by decide +kernel
theorem dX5_fits_94 : decode cX5_fits 94 = .ok (.iload 6, 2) := by decide +kernel
theorem dX5_fits_96 : decode cX5_fits 96 = .ok (.goto 5, 3) := by decide +kernel
theorem dX5_fits_99 : decode cX5_fits 99 = .ok (.iload 4, 2) := by decide +kernel
theorem dX5_fits_101 : decode cX5_fits 101 = .ok (.aload_n 0, 1) := by decide +kernel
theorem dX5_fits_102 : decode cX5_fits 102 = .ok (.getfield 25, 3) := by decide +kernel
theorem dX5_fits_105 : decode cX5_fits 105 = .ok (.iload 5, 2) := by decide +kernel
theorem dX5_fits_107 : decode cX5_fits 107 = .ok (.iaload, 1) := by decide +kernel
theorem dX5_fits_108 : decode cX5_fits 108 = .ok (.iadd, 1) := by decide +kernel
theorem dX5_fits_109 : decode cX5_fits 109 = .ok (.istore 7, 2) := by decide +kernel
theorem dX5_fits_111 : decode cX5_fits 111 = .ok (.iload 7, 2) := by decide +kernel
theorem dX5_fits_113 : decode cX5_fits 113 = .ok (.iload_n 1, 1) := by decide +kernel
theorem dX5_fits_114 : decode cX5_fits 114 = .ok (.aload_n 0, 1) := by decide +kernel
theorem dX5_fits_115 : decode cX5_fits 115 = .ok (.iload 5, 2) := by decide +kernel
theorem dX5_fits_117 : decode cX5_fits 117 = .ok (.invokevirtual 110, 3) := by decide +kernel
theorem dX5_fits_120 : decode cX5_fits 120 = .ok (.isub, 1) := by decide +kernel
theorem dX5_fits_121 : decode cX5_fits 121 = .ok (.aload_n 0, 1) := by decide +kernel
theorem dX5_fits_122 : decode cX5_fits 122 = .ok (.getfield 25, 3) := by decide +kernel
theorem dX5_fits_125 : decode cX5_fits 125 = .ok (.iload 5, 2) := by decide +kernel
theorem dX5_fits_127 : decode cX5_fits 127 = .ok (.iaload, 1) := by decide +kernel
theorem dX5_fits_128 : decode cX5_fits 128 = .ok (.iadd, 1) := by decide +kernel
theorem dX5_fits_129 : decode cX5_fits 129 = .ok (.if_icmp .gt 31, 3) := by decide +kernel
theorem dX5_fits_132 : decode cX5_fits 132 = .ok (.aload_n 0, 1) := by decide +kernel
theorem dX5_fits_133 : decode cX5_fits 133 = .ok (.getfield 62, 3) := by decide +kernel
theorem dX5_fits_136 : decode cX5_fits 136 = .ok (.iload_n 2, 1) := by decide +kernel
theorem dX5_fits_137 : decode cX5_fits 137 = .ok (.iaload, 1) := by decide +kernel
theorem dX5_fits_138 : decode cX5_fits 138 = .ok (.ifCond .lt 14, 3) := by decide +kernel
theorem dX5_fits_141 : decode cX5_fits 141 = .ok (.iload 7, 2) := by decide +kernel
theorem dX5_fits_143 : decode cX5_fits 143 = .ok (.aload_n 0, 1) := by decide +kernel
theorem dX5_fits_144 : decode cX5_fits 144 = .ok (.getfield 62, 3) := by decide +kernel
theorem dX5_fits_147 : decode cX5_fits 147 = .ok (.iload_n 2, 1) := by decide +kernel
theorem dX5_fits_148 : decode cX5_fits 148 = .ok (.iaload, 1) := by decide +kernel
theorem dX5_fits_149 : decode cX5_fits 149 = .ok (.if_icmp .ge 11, 3) := by decide +kernel
theorem dX5_fits_152 : decode cX5_fits 152 = .ok (.aload_n 0, 1) := by decide +kernel
theorem dX5_fits_153 : decode cX5_fits 153 = .ok (.getfield 62, 3) := by decide +kernel
theorem dX5_fits_156 : decode cX5_fits 156 = .ok (.iload_n 2, 1) := by decide +kernel
theorem dX5_fits_157 : decode cX5_fits 157 = .ok (.iload 7, 2) := by decide +kernel
theorem dX5_fits_159 : decode cX5_fits 159 = .ok (.iastore, 1) := by decide +kernel
theorem dX5_fits_160 : decode cX5_fits 160 = .ok (.iinc 3 1, 3) := by decide +kernel
theorem dX5_fits_163 : decode cX5_fits 163 = .ok (.goto (-135), 3) := by decide +kernel
theorem dX5_fits_166 : decode cX5_fits 166 = .ok (.iinc 2 1, 3) := by decide +kernel
theorem dX5_fits_169 : decode cX5_fits 169 = .ok (.goto (-160), 3) := by decide +kernel
theorem dX5_fits_172 : decode cX5_fits 172 = .ok (.aload_n 0, 1) := by decide +kernel
theorem dX5_fits_173 : decode cX5_fits 173 = .ok (.getfield 62, 3) := by decide +kernel
theorem dX5_fits_176 : decode cX5_fits 176 = .ok (.iconst 1, 1) := by decide +kernel
theorem dX5_fits_177 : decode cX5_fits 177 = .ok (.aload_n 0, 1) := by decide +kernel
theorem dX5_fits_178 : decode cX5_fits 178 = .ok (.getfield 144, 3) := by decide +kernel
theorem dX5_fits_181 : decode cX5_fits 181 = .ok (.ishl, 1) := by decide +kernel
theorem dX5_fits_182 : decode cX5_fits 182 = .ok (.iconst 1, 1) := by decide +kernel
theorem dX5_fits_183 : decode cX5_fits 183 = .ok (.isub, 1) := by decide +kernel
theorem dX5_fits_184 : decode cX5_fits 184 = .ok (.iaload, 1) := by decide +kernel
theorem dX5_fits_185 : decode cX5_fits 185 = .ok (.ifCond .lt 7, 3) := by decide +kernel
theorem dX5_fits_188 : decode cX5_fits 188 = .ok (.iconst 1, 1) := by decide +kernel
theorem dX5_fits_189 : decode cX5_fits 189 = .ok (.goto 4, 3) := by decide +kernel
theorem dX5_fits_192 : decode cX5_fits 192 = .ok (.iconst 0, 1) := by decide +kernel
theorem dX5_fits_193 : decode cX5_fits 193 = .ok (.ireturn, 1) := by decide +kernel
theorem dX5_boundOf_0 : decode cX5_boundOf 0 = .ok (.aload_n 0, 1) := by decide +kernel
theorem dX5_boundOf_1 : decode cX5_boundOf 1 = .ok (.iconst 0, 1) := by decide +kernel
theorem dX5_boundOf_2 : decode cX5_boundOf 2 = .ok (.putfield 144, 3) := by decide +kernel
theorem dX5_boundOf_5 : decode cX5_boundOf 5 = .ok (.iconst 0, 1) := by decide +kernel
theorem dX5_boundOf_6 : decode cX5_boundOf 6 = .ok (.istore_n 2, 1) := by decide +kernel
theorem dX5_boundOf_7 : decode cX5_boundOf 7 = .ok (.iload_n 2, 1) := by decide +kernel
theorem dX5_boundOf_8 : decode cX5_boundOf 8 = .ok (.aload_n 0, 1) := by decide +kernel
theorem dX5_boundOf_9 : decode cX5_boundOf 9 = .ok (.getfield 72, 3) := by decide +kernel
theorem dX5_boundOf_12 : decode cX5_boundOf 12 = .ok (.if_icmp .ge 67, 3) := by decide +kernel
theorem dX5_boundOf_15 : decode cX5_boundOf 15 = .ok (.iconst 0, 1) := by decide +kernel
theorem dX5_boundOf_16 : decode cX5_boundOf 16 = .ok (.istore_n 3, 1) := by decide +kernel
theorem dX5_boundOf_17 : decode cX5_boundOf 17 = .ok (.iload_n 3, 1) := by decide +kernel
theorem dX5_boundOf_18 : decode cX5_boundOf 18 = .ok (.aload_n 0, 1) := by decide +kernel
theorem dX5_boundOf_19 : decode cX5_boundOf 19 = .ok (.getfield 19, 3) := by decide +kernel
theorem dX5_boundOf_22 : decode cX5_boundOf 22 = .ok (.iload_n 2, 1) := by decide +kernel
theorem dX5_boundOf_23 : decode cX5_boundOf 23 = .ok (.iaload, 1) := by decide +kernel
theorem dX5_boundOf_24 : decode cX5_boundOf 24 = .ok (.if_icmp .ge 49, 3) := by decide +kernel
theorem dX5_boundOf_27 : decode cX5_boundOf 27 = .ok (.aload_n 0, 1) := by decide +kernel
theorem dX5_boundOf_28 : decode cX5_boundOf 28 = .ok (.getfield 22, 3) := by decide +kernel
theorem dX5_boundOf_31 : decode cX5_boundOf 31 = .ok (.bipush 6, 2) := by decide +kernel
theorem dX5_boundOf_33 : decode cX5_boundOf 33 = .ok (.iload_n 2, 1) := by decide +kernel
theorem dX5_boundOf_34 : decode cX5_boundOf 34 = .ok (.imul, 1) := by decide +kernel
theorem dX5_boundOf_35 : decode cX5_boundOf 35 = .ok (.iload_n 3, 1) := by decide +kernel
theorem dX5_boundOf_36 : decode cX5_boundOf 36 = .ok (.iadd, 1) := by decide +kernel
theorem dX5_boundOf_37 : decode cX5_boundOf 37 = .ok (.iaload, 1) := by decide +kernel
theorem dX5_boundOf_38 : decode cX5_boundOf 38 = .ok (.iload_n 1, 1) := by decide +kernel
theorem dX5_boundOf_39 : decode cX5_boundOf 39 = .ok (.if_icmp .ne 28, 3) := by decide +kernel
theorem dX5_boundOf_42 : decode cX5_boundOf 42 = .ok (.aload_n 0, 1) := by decide +kernel
theorem dX5_boundOf_43 : decode cX5_boundOf 43 = .ok (.getfield 59, 3) := by decide +kernel
theorem dX5_boundOf_46 : decode cX5_boundOf 46 = .ok (.aload_n 0, 1) := by decide +kernel
theorem dX5_boundOf_47 : decode cX5_boundOf 47 = .ok (.getfield 144, 3) := by decide +kernel
theorem dX5_boundOf_50 : decode cX5_boundOf 50 = .ok (.bipush 6, 2) := by decide +kernel
theorem dX5_boundOf_52 : decode cX5_boundOf 52 = .ok (.iload_n 2, 1) := by decide +kernel
theorem dX5_boundOf_53 : decode cX5_boundOf 53 = .ok (.imul, 1) := by decide +kernel
theorem dX5_boundOf_54 : decode cX5_boundOf 54 = .ok (.iload_n 3, 1) := by decide +kernel
theorem dX5_boundOf_55 : decode cX5_boundOf 55 = .ok (.iadd, 1) := by decide +kernel
theorem dX5_boundOf_56 : decode cX5_boundOf 56 = .ok (.iastore, 1) := by decide +kernel
theorem dX5_boundOf_57 : decode cX5_boundOf 57 = .ok (.aload_n 0, 1) := by decide +kernel
theorem dX5_boundOf_58 : decode cX5_boundOf 58 = .ok (.dup, 1) := by decide +kernel
theorem dX5_boundOf_59 : decode cX5_boundOf 59 = .ok (.getfield 144, 3) := by decide +kernel
theorem dX5_boundOf_62 : decode cX5_boundOf 62 = .ok (.iconst 1, 1) := by decide +kernel
theorem dX5_boundOf_63 : decode cX5_boundOf 63 = .ok (.iadd, 1) := by decide +kernel
theorem dX5_boundOf_64 : decode cX5_boundOf 64 = .ok (.putfield 144, 3) := by decide +kernel
theorem dX5_boundOf_67 : decode cX5_boundOf 67 = .ok (.iinc 3 1, 3) := by decide +kernel
theorem dX5_boundOf_70 : decode cX5_boundOf 70 = .ok (.goto (-53), 3) := by decide +kernel
theorem dX5_boundOf_73 : decode cX5_boundOf 73 = .ok (.iinc 2 1, 3) := by decide +kernel
theorem dX5_boundOf_76 : decode cX5_boundOf 76 = .ok (.goto (-69), 3) := by decide +kernel
theorem dX5_boundOf_79 : decode cX5_boundOf 79 = .ok (.aload_n 0, 1) := by decide +kernel
theorem dX5_boundOf_80 : decode cX5_boundOf 80 = .ok (.getfield 144, 3) := by decide +kernel
theorem dX5_boundOf_83 : decode cX5_boundOf 83 = .ok (.bipush 8, 2) := by decide +kernel
theorem dX5_boundOf_85 : decode cX5_boundOf 85 = .ok (.if_icmp .le 6, 3) := by decide +kernel
theorem dX5_boundOf_88 : decode cX5_boundOf 88 = .ok (.bipush (-3), 2) := by decide +kernel
theorem dX5_boundOf_90 : decode cX5_boundOf 90 = .ok (.ireturn, 1) := by decide +kernel
theorem dX5_boundOf_91 : decode cX5_boundOf 91 = .ok (.iconst 0, 1) := by decide +kernel
theorem dX5_boundOf_92 : decode cX5_boundOf 92 = .ok (.istore_n 2, 1) := by decide +kernel
theorem dX5_boundOf_93 : decode cX5_boundOf 93 = .ok (.aload_n 0, 1) := by decide +kernel
theorem dX5_boundOf_94 : decode cX5_boundOf 94 = .ok (.getfield 144, 3) := by decide +kernel
theorem dX5_boundOf_97 : decode cX5_boundOf 97 = .ok (.ifCond .ne 7, 3) := by decide +kernel
theorem dX5_boundOf_100 : decode cX5_boundOf 100 = .ok (.iconst 0, 1) := by decide +kernel
theorem dX5_boundOf_101 : decode cX5_boundOf 101 = .ok (.goto 6, 3) := by decide +kernel
theorem dX5_boundOf_104 : decode cX5_boundOf 104 = .ok (.sipush 4000, 3) := by decide +kernel
theorem dX5_boundOf_107 : decode cX5_boundOf 107 = .ok (.istore_n 3, 1) := by decide +kernel
theorem dX5_boundOf_108 : decode cX5_boundOf 108 = .ok (.iload_n 2, 1) := by decide +kernel
theorem dX5_boundOf_109 : decode cX5_boundOf 109 = .ok (.iload_n 3, 1) := by decide +kernel
theorem dX5_boundOf_110 : decode cX5_boundOf 110 = .ok (.if_icmp .ge 33, 3) := by decide +kernel
theorem dX5_boundOf_113 : decode cX5_boundOf 113 = .ok (.iload_n 2, 1) := by decide +kernel
theorem dX5_boundOf_114 : decode cX5_boundOf 114 = .ok (.iload_n 3, 1) := by decide +kernel
theorem dX5_boundOf_115 : decode cX5_boundOf 115 = .ok (.iadd, 1) := by decide +kernel
theorem dX5_boundOf_116 : decode cX5_boundOf 116 = .ok (.iconst 2, 1) := by decide +kernel
theorem dX5_boundOf_117 : decode cX5_boundOf 117 = .ok (.idiv, 1) := by decide +kernel
theorem dX5_boundOf_118 : decode cX5_boundOf 118 = .ok (.istore 4, 2) := by decide +kernel
theorem dX5_boundOf_120 : decode cX5_boundOf 120 = .ok (.aload_n 0, 1) := by decide +kernel
theorem dX5_boundOf_121 : decode cX5_boundOf 121 = .ok (.iload 4, 2) := by decide +kernel
theorem dX5_boundOf_123 : decode cX5_boundOf 123 = .ok (.invokevirtual 147, 3) := by decide +kernel
theorem dX5_boundOf_126 : decode cX5_boundOf 126 = .ok (.ifCond .eq 9, 3) := by decide +kernel
theorem dX5_boundOf_129 : decode cX5_boundOf 129 = .ok (.iload 4, 2) := by decide +kernel
theorem dX5_boundOf_131 : decode cX5_boundOf 131 = .ok (.istore_n 3, 1) := by decide +kernel
theorem dX5_boundOf_132 : decode cX5_boundOf 132 = .ok (.goto 8, 3) := by decide +kernel
theorem dX5_boundOf_135 : decode cX5_boundOf 135 = .ok (.iload 4, 2) := by decide +kernel
theorem dX5_boundOf_137 : decode cX5_boundOf 137 = .ok (.iconst 1, 1) := by decide +kernel
theorem dX5_boundOf_138 : decode cX5_boundOf 138 = .ok (.iadd, 1) := by decide +kernel
theorem dX5_boundOf_139 : decode cX5_boundOf 139 = .ok (.istore_n 2, 1) := by decide +kernel
theorem dX5_boundOf_140 : decode cX5_boundOf 140 = .ok (.goto (-32), 3) := by decide +kernel
theorem dX5_boundOf_143 : decode cX5_boundOf 143 = .ok (.iload_n 2, 1) := by decide +kernel
theorem dX5_boundOf_144 : decode cX5_boundOf 144 = .ok (.ireturn, 1) := by decide +kernel
theorem dX5_bound_0 : decode cX5_bound 0 = .ok (.aload_n 0, 1) := by decide +kernel
theorem dX5_bound_1 : decode cX5_bound 1 = .ok (.iconst 0, 1) := by decide +kernel
theorem dX5_bound_2 : decode cX5_bound 2 = .ok (.putfield 69, 3) := by decide +kernel
theorem dX5_bound_5 : decode cX5_bound 5 = .ok (.aload_n 0, 1) := by decide +kernel
theorem dX5_bound_6 : decode cX5_bound 6 = .ok (.iload_n 1, 1) := by decide +kernel
theorem dX5_bound_7 : decode cX5_bound 7 = .ok (.invokevirtual 83, 3) := by decide +kernel
theorem dX5_bound_10 : decode cX5_bound 10 = .ok (.ifCond .eq 11, 3) := by decide +kernel
theorem dX5_bound_13 : decode cX5_bound 13 = .ok (.aload_n 0, 1) := by decide +kernel
theorem dX5_bound_14 : decode cX5_bound 14 = .ok (.iload_n 1, 1) := by decide +kernel
theorem dX5_bound_15 : decode cX5_bound 15 = .ok (.invokevirtual 150, 3) := by decide +kernel
theorem dX5_bound_18 : decode cX5_bound 18 = .ok (.goto 4, 3) := by decide +kernel
theorem dX5_bound_21 : decode cX5_bound 21 = .ok (.iconst (-1), 1) := by decide +kernel
theorem dX5_bound_22 : decode cX5_bound 22 = .ok (.ireturn, 1) := by decide +kernel
theorem dX5_lowOf_0 : decode cX5_lowOf 0 = .ok (.iconst 0, 1) := by decide +kernel
theorem dX5_lowOf_1 : decode cX5_lowOf 1 = .ok (.istore_n 1, 1) := by decide +kernel
theorem dX5_lowOf_2 : decode cX5_lowOf 2 = .ok (.iconst 0, 1) := by decide +kernel
theorem dX5_lowOf_3 : decode cX5_lowOf 3 = .ok (.istore_n 2, 1) := by decide +kernel
theorem dX5_lowOf_4 : decode cX5_lowOf 4 = .ok (.iload_n 2, 1) := by decide +kernel
theorem dX5_lowOf_5 : decode cX5_lowOf 5 = .ok (.aload_n 0, 1) := by decide +kernel
theorem dX5_lowOf_6 : decode cX5_lowOf 6 = .ok (.getfield 65, 3) := by decide +kernel
theorem dX5_lowOf_9 : decode cX5_lowOf 9 = .ok (.if_icmp .ge 26, 3) := by decide +kernel
theorem dX5_lowOf_12 : decode cX5_lowOf 12 = .ok (.aload_n 0, 1) := by decide +kernel
theorem dX5_lowOf_13 : decode cX5_lowOf 13 = .ok (.iload_n 2, 1) := by decide +kernel
theorem dX5_lowOf_14 : decode cX5_lowOf 14 = .ok (.invokevirtual 150, 3) := by decide +kernel
theorem dX5_lowOf_17 : decode cX5_lowOf 17 = .ok (.istore_n 3, 1) := by decide +kernel
theorem dX5_lowOf_18 : decode cX5_lowOf 18 = .ok (.iload_n 3, 1) := by decide +kernel
theorem dX5_lowOf_19 : decode cX5_lowOf 19 = .ok (.iload_n 1, 1) := by decide +kernel
theorem dX5_lowOf_20 : decode cX5_lowOf 20 = .ok (.if_icmp .le 7, 3) := by decide +kernel
theorem dX5_lowOf_23 : decode cX5_lowOf 23 = .ok (.iload_n 3, 1) := by decide +kernel
theorem dX5_lowOf_24 : decode cX5_lowOf 24 = .ok (.goto 4, 3) := by decide +kernel
theorem dX5_lowOf_27 : decode cX5_lowOf 27 = .ok (.iload_n 1, 1) := by decide +kernel
theorem dX5_lowOf_28 : decode cX5_lowOf 28 = .ok (.istore_n 1, 1) := by decide +kernel
theorem dX5_lowOf_29 : decode cX5_lowOf 29 = .ok (.iinc 2 1, 3) := by decide +kernel
theorem dX5_lowOf_32 : decode cX5_lowOf 32 = .ok (.goto (-28), 3) := by decide +kernel
theorem dX5_lowOf_35 : decode cX5_lowOf 35 = .ok (.iconst 0, 1) := by decide +kernel
theorem dX5_lowOf_36 : decode cX5_lowOf 36 = .ok (.istore_n 2, 1) := by decide +kernel
theorem dX5_lowOf_37 : decode cX5_lowOf 37 = .ok (.iload_n 2, 1) := by decide +kernel
theorem dX5_lowOf_38 : decode cX5_lowOf 38 = .ok (.aload_n 0, 1) := by decide +kernel
theorem dX5_lowOf_39 : decode cX5_lowOf 39 = .ok (.getfield 72, 3) := by decide +kernel
theorem dX5_lowOf_42 : decode cX5_lowOf 42 = .ok (.if_icmp .ge 49, 3) := by decide +kernel
theorem dX5_lowOf_45 : decode cX5_lowOf 45 = .ok (.aload_n 0, 1) := by decide +kernel
theorem dX5_lowOf_46 : decode cX5_lowOf 46 = .ok (.getfield 19, 3) := by decide +kernel
theorem dX5_lowOf_49 : decode cX5_lowOf 49 = .ok (.iload_n 2, 1) := by decide +kernel
theorem dX5_lowOf_50 : decode cX5_lowOf 50 = .ok (.iaload, 1) := by decide +kernel
theorem dX5_lowOf_51 : decode cX5_lowOf 51 = .ok (.ifCond .ne 7, 3) := by decide +kernel
theorem dX5_lowOf_54 : decode cX5_lowOf 54 = .ok (.iconst 0, 1) := by decide +kernel
theorem dX5_lowOf_55 : decode cX5_lowOf 55 = .ok (.goto 18, 3) := by decide +kernel
theorem dX5_lowOf_58 : decode cX5_lowOf 58 = .ok (.aload_n 0, 1) := by decide +kernel
theorem dX5_lowOf_59 : decode cX5_lowOf 59 = .ok (.getfield 7, 3) := by decide +kernel
theorem dX5_lowOf_62 : decode cX5_lowOf 62 = .ok (.iload_n 2, 1) := by decide +kernel
theorem dX5_lowOf_63 : decode cX5_lowOf 63 = .ok (.iaload, 1) := by decide +kernel
theorem dX5_lowOf_64 : decode cX5_lowOf 64 = .ok (.aload_n 0, 1) := by decide +kernel
theorem dX5_lowOf_65 : decode cX5_lowOf 65 = .ok (.bipush 6, 2) := by decide +kernel
theorem dX5_lowOf_67 : decode cX5_lowOf 67 = .ok (.iload_n 2, 1) := by decide +kernel
theorem dX5_lowOf_68 : decode cX5_lowOf 68 = .ok (.imul, 1) := by decide +kernel
theorem dX5_lowOf_69 : decode cX5_lowOf 69 = .ok (.invokevirtual 110, 3) := by decide +kernel
theorem dX5_lowOf_72 : decode cX5_lowOf 72 = .ok (.iadd, 1) := by decide +kernel
theorem dX5_lowOf_73 : decode cX5_lowOf 73 = .ok (.istore_n 3, 1) := by decide +kernel
theorem dX5_lowOf_74 : decode cX5_lowOf 74 = .ok (.iload_n 3, 1) := by decide +kernel
theorem dX5_lowOf_75 : decode cX5_lowOf 75 = .ok (.iload_n 1, 1) := by decide +kernel
theorem dX5_lowOf_76 : decode cX5_lowOf 76 = .ok (.if_icmp .le 7, 3) := by decide +kernel
theorem dX5_lowOf_79 : decode cX5_lowOf 79 = .ok (.iload_n 3, 1) := by decide +kernel
theorem dX5_lowOf_80 : decode cX5_lowOf 80 = .ok (.goto 4, 3) := by decide +kernel
theorem dX5_lowOf_83 : decode cX5_lowOf 83 = .ok (.iload_n 1, 1) := by decide +kernel
theorem dX5_lowOf_84 : decode cX5_lowOf 84 = .ok (.istore_n 1, 1) := by decide +kernel
theorem dX5_lowOf_85 : decode cX5_lowOf 85 = .ok (.iinc 2 1, 3) := by decide +kernel
theorem dX5_lowOf_88 : decode cX5_lowOf 88 = .ok (.goto (-51), 3) := by decide +kernel
theorem dX5_lowOf_91 : decode cX5_lowOf 91 = .ok (.iload_n 1, 1) := by decide +kernel
theorem dX5_lowOf_92 : decode cX5_lowOf 92 = .ok (.ireturn, 1) := by decide +kernel
theorem dX5_low_0 : decode cX5_low 0 = .ok (.aload_n 0, 1) := by decide +kernel
theorem dX5_low_1 : decode cX5_low 1 = .ok (.iconst 0, 1) := by decide +kernel
theorem dX5_low_2 : decode cX5_low 2 = .ok (.putfield 69, 3) := by decide +kernel
theorem dX5_low_5 : decode cX5_low 5 = .ok (.aload_n 0, 1) := by decide +kernel
theorem dX5_low_6 : decode cX5_low 6 = .ok (.invokevirtual 153, 3) := by decide +kernel
theorem dX5_low_9 : decode cX5_low 9 = .ok (.ireturn, 1) := by decide +kernel
theorem dX5_share_0 : decode cX5_share 0 = .ok (.aload_n 0, 1) := by decide +kernel
theorem dX5_share_1 : decode cX5_share 1 = .ok (.iconst 0, 1) := by decide +kernel
theorem dX5_share_2 : decode cX5_share 2 = .ok (.putfield 69, 3) := by decide +kernel
theorem dX5_share_5 : decode cX5_share 5 = .ok (.aload_n 0, 1) := by decide +kernel
theorem dX5_share_6 : decode cX5_share 6 = .ok (.invokevirtual 130, 3) := by decide +kernel
theorem dX5_share_9 : decode cX5_share 9 = .ok (.aload_n 0, 1) := by decide +kernel
theorem dX5_share_10 : decode cX5_share 10 = .ok (.getfield 113, 3) := by decide +kernel
theorem dX5_share_13 : decode cX5_share 13 = .ok (.ifCond .eq 7, 3) := by decide +kernel
theorem dX5_share_16 : decode cX5_share 16 = .ok (.ldc2_w 136, 3) := by decide +kernel
theorem dX5_share_19 : decode cX5_share 19 = .ok (.lreturn, 1) := by decide +kernel
theorem dX5_share_20 : decode cX5_share 20 = .ok (.aload_n 0, 1) := by decide +kernel
theorem dX5_share_21 : decode cX5_share 21 = .ok (.invokevirtual 153, 3) := by decide +kernel
theorem dX5_share_24 : decode cX5_share 24 = .ok (.istore_n 1, 1) := by decide +kernel
theorem dX5_share_25 : decode cX5_share 25 = .ok (.iload_n 1, 1) := by decide +kernel
theorem dX5_share_26 : decode cX5_share 26 = .ok (.ifCond .ne 10, 3) := by decide +kernel
theorem dX5_share_29 : decode cX5_share 29 = .ok (.aload_n 0, 1) := by decide +kernel
theorem dX5_share_30 : decode cX5_share 30 = .ok (.iconst 1, 1) := by decide +kernel
theorem dX5_share_31 : decode cX5_share 31 = .ok (.putfield 69, 3) := by decide +kernel
theorem dX5_share_34 : decode cX5_share 34 = .ok (.lconst 0, 1) := by decide +kernel
theorem dX5_share_35 : decode cX5_share 35 = .ok (.lreturn, 1) := by decide +kernel
theorem dX5_share_36 : decode cX5_share 36 = .ok (.ldc2_w 157, 3) := by decide +kernel
theorem dX5_share_39 : decode cX5_share 39 = .ok (.aload_n 0, 1) := by decide +kernel
theorem dX5_share_40 : decode cX5_share 40 = .ok (.getfield 116, 3) := by decide +kernel
theorem dX5_share_43 : decode cX5_share 43 = .ok (.i2l, 1) := by decide +kernel
theorem dX5_share_44 : decode cX5_share 44 = .ok (.lmul, 1) := by decide +kernel
theorem dX5_share_45 : decode cX5_share 45 = .ok (.iload_n 1, 1) := by decide +kernel
theorem dX5_share_46 : decode cX5_share 46 = .ok (.i2l, 1) := by decide +kernel
theorem dX5_share_47 : decode cX5_share 47 = .ok (.ldiv, 1) := by decide +kernel
theorem dX5_share_48 : decode cX5_share 48 = .ok (.lreturn, 1) := by decide +kernel
theorem dJ9_max_7cf53_0 : decode cJ9_max_7cf53 0 = .ok (.iload_n 0, 1) := by decide +kernel
theorem dJ9_max_7cf53_1 : decode cJ9_max_7cf53 1 = .ok (.iload_n 1, 1) := by decide +kernel
theorem dJ9_max_7cf53_2 : decode cJ9_max_7cf53 2 = .ok (.if_icmp .lt 7, 3) := by decide +kernel
theorem dJ9_max_7cf53_5 : decode cJ9_max_7cf53 5 = .ok (.iload_n 0, 1) := by decide +kernel
theorem dJ9_max_7cf53_6 : decode cJ9_max_7cf53 6 = .ok (.goto 4, 3) := by decide +kernel
theorem dJ9_max_7cf53_9 : decode cJ9_max_7cf53 9 = .ok (.iload_n 1, 1) := by decide +kernel
theorem dJ9_max_7cf53_10 : decode cJ9_max_7cf53 10 = .ok (.ireturn, 1) := by decide +kernel
theorem dJ9_min_7cf53_0 : decode cJ9_min_7cf53 0 = .ok (.iload_n 0, 1) := by decide +kernel
theorem dJ9_min_7cf53_1 : decode cJ9_min_7cf53 1 = .ok (.iload_n 1, 1) := by decide +kernel
theorem dJ9_min_7cf53_2 : decode cJ9_min_7cf53 2 = .ok (.if_icmp .gt 7, 3) := by decide +kernel
theorem dJ9_min_7cf53_5 : decode cJ9_min_7cf53 5 = .ok (.iload_n 0, 1) := by decide +kernel
theorem dJ9_min_7cf53_6 : decode cJ9_min_7cf53 6 = .ok (.goto 4, 3) := by decide +kernel
theorem dJ9_min_7cf53_9 : decode cJ9_min_7cf53 9 = .ok (.iload_n 1, 1) := by decide +kernel
theorem dJ9_min_7cf53_10 : decode cJ9_min_7cf53 10 = .ok (.ireturn, 1) := by decide +kernel
theorem dJ7_fill_53178_0 : decode cJ7_fill_53178 0 = .ok (.iconst 0, 1) := by decide +kernel
theorem dJ7_fill_53178_1 : decode cJ7_fill_53178 1 = .ok (.istore_n 2, 1) := by decide +kernel
theorem dJ7_fill_53178_2 : decode cJ7_fill_53178 2 = .ok (.aload_n 0, 1) := by decide +kernel
theorem dJ7_fill_53178_3 : decode cJ7_fill_53178 3 = .ok (.arraylength, 1) := by decide +kernel
theorem dJ7_fill_53178_4 : decode cJ7_fill_53178 4 = .ok (.istore_n 3, 1) := by decide +kernel
theorem dJ7_fill_53178_5 : decode cJ7_fill_53178 5 = .ok (.iload_n 2, 1) := by decide +kernel
theorem dJ7_fill_53178_6 : decode cJ7_fill_53178 6 = .ok (.iload_n 3, 1) := by decide +kernel
theorem dJ7_fill_53178_7 : decode cJ7_fill_53178 7 = .ok (.if_icmp .ge 13, 3) := by decide +kernel
theorem dJ7_fill_53178_10 : decode cJ7_fill_53178 10 = .ok (.aload_n 0, 1) := by decide +kernel
theorem dJ7_fill_53178_11 : decode cJ7_fill_53178 11 = .ok (.iload_n 2, 1) := by decide +kernel
theorem dJ7_fill_53178_12 : decode cJ7_fill_53178 12 = .ok (.iload_n 1, 1) := by decide +kernel
theorem dJ7_fill_53178_13 : decode cJ7_fill_53178 13 = .ok (.iastore, 1) := by decide +kernel
theorem dJ7_fill_53178_14 : decode cJ7_fill_53178 14 = .ok (.iinc 2 1, 3) := by decide +kernel
theorem dJ7_fill_53178_17 : decode cJ7_fill_53178 17 = .ok (.goto (-12), 3) := by decide +kernel
theorem dJ7_fill_53178_20 : decode cJ7_fill_53178 20 = .ok (.return_, 1) := by decide +kernel
theorem dL_cell_0 : decode cL_cell 0 = .ok (.iload_n 1, 1) := by decide +kernel
theorem dL_cell_1 : decode cL_cell 1 = .ok (.aload_n 0, 1) := by decide +kernel
theorem dL_cell_2 : decode cL_cell 2 = .ok (.arraylength, 1) := by decide +kernel
theorem dL_cell_3 : decode cL_cell 3 = .ok (.if_icmp .ge 9, 3) := by decide +kernel
theorem dL_cell_6 : decode cL_cell 6 = .ok (.aload_n 0, 1) := by decide +kernel
theorem dL_cell_7 : decode cL_cell 7 = .ok (.iload_n 1, 1) := by decide +kernel
theorem dL_cell_8 : decode cL_cell 8 = .ok (.iaload, 1) := by decide +kernel
theorem dL_cell_9 : decode cL_cell 9 = .ok (.goto 4, 3) := by decide +kernel
theorem dL_cell_12 : decode cL_cell 12 = .ok (.iconst 0, 1) := by decide +kernel
theorem dL_cell_13 : decode cL_cell 13 = .ok (.ireturn, 1) := by decide +kernel
theorem dL_share_0 : decode cL_share 0 = .ok (.aload_n 1, 1) := by decide +kernel
theorem dL_share_1 : decode cL_share 1 = .ok (.iconst 0, 1) := by decide +kernel
theorem dL_share_2 : decode cL_share 2 = .ok (.aload_n 0, 1) := by decide +kernel
theorem dL_share_3 : decode cL_share 3 = .ok (.invokevirtual 7, 3) := by decide +kernel
theorem dL_share_6 : decode cL_share 6 = .ok (.lastore, 1) := by decide +kernel
theorem dL_share_7 : decode cL_share 7 = .ok (.goto 6, 3) := by decide +kernel
theorem dL_share_10 : decode cL_share 10 = .ok (.astore_n 2, 1) := by decide +kernel
theorem dL_share_11 : decode cL_share 11 = .ok (.iconst 1, 1) := by decide +kernel
theorem dL_share_12 : decode cL_share 12 = .ok (.ireturn, 1) := by decide +kernel
theorem dL_share_13 : decode cL_share 13 = .ok (.iconst 0, 1) := by decide +kernel
theorem dL_share_14 : decode cL_share 14 = .ok (.ireturn, 1) := by decide +kernel
theorem dL_law_0 : decode cL_law 0 = .ok (.new 8, 3) := by decide +kernel
theorem dL_law_3 : decode cL_law 3 = .ok (.dup, 1) := by decide +kernel
theorem dL_law_4 : decode cL_law 4 = .ok (.aload_n 0, 1) := by decide +kernel
theorem dL_law_5 : decode cL_law 5 = .ok (.iconst 0, 1) := by decide +kernel
theorem dL_law_6 : decode cL_law 6 = .ok (.invokestatic 15, 3) := by decide +kernel
theorem dL_law_9 : decode cL_law 9 = .ok (.invokespecial 21, 3) := by decide +kernel
theorem dL_law_12 : decode cL_law 12 = .ok (.astore_n 1, 1) := by decide +kernel
theorem dL_law_13 : decode cL_law 13 = .ok (.new 24, 3) := by decide +kernel
theorem dL_law_16 : decode cL_law 16 = .ok (.dup, 1) := by decide +kernel
theorem dL_law_17 : decode cL_law 17 = .ok (.aload_n 0, 1) := by decide +kernel
theorem dL_law_18 : decode cL_law 18 = .ok (.iconst 0, 1) := by decide +kernel
theorem dL_law_19 : decode cL_law 19 = .ok (.invokestatic 15, 3) := by decide +kernel
theorem dL_law_22 : decode cL_law 22 = .ok (.invokespecial 26, 3) := by decide +kernel
theorem dL_law_25 : decode cL_law 25 = .ok (.astore_n 2, 1) := by decide +kernel
theorem dL_law_26 : decode cL_law 26 = .ok (.iconst 1, 1) := by decide +kernel
theorem dL_law_27 : decode cL_law 27 = .ok (.newarray .long, 2) := by decide +kernel
theorem dL_law_29 : decode cL_law 29 = .ok (.astore_n 3, 1) := by decide +kernel
theorem dL_law_30 : decode cL_law 30 = .ok (.iconst 1, 1) := by decide +kernel
theorem dL_law_31 : decode cL_law 31 = .ok (.istore 4, 2) := by decide +kernel
theorem dL_law_33 : decode cL_law 33 = .ok (.iload 4, 2) := by decide +kernel
theorem dL_law_35 : decode cL_law 35 = .ok (.aload_n 0, 1) := by decide +kernel
theorem dL_law_36 : decode cL_law 36 = .ok (.arraylength, 1) := by decide +kernel
theorem dL_law_37 : decode cL_law 37 = .ok (.iconst 5, 1) := by decide +kernel
theorem dL_law_38 : decode cL_law 38 = .ok (.isub, 1) := by decide +kernel
theorem dL_law_39 : decode cL_law 39 = .ok (.if_icmp .gt 668, 3) := by decide +kernel
theorem dL_law_42 : decode cL_law 42 = .ok (.aload_n 0, 1) := by decide +kernel
theorem dL_law_43 : decode cL_law 43 = .ok (.iload 4, 2) := by decide +kernel
theorem dL_law_45 : decode cL_law 45 = .ok (.iaload, 1) := by decide +kernel
theorem dL_law_46 : decode cL_law 46 = .ok (.bipush 31, 2) := by decide +kernel
theorem dL_law_48 : decode cL_law 48 = .ok (.iand, 1) := by decide +kernel
theorem dL_law_49 : decode cL_law 49 = .ok (.tableswitch 652 0 17 #[87, 136, 185, 246, 283, 308, 345, 382, 407, 420, 457, 470, 484, 521, 534, 571, 596, 609], 87) := by decide +kernel
theorem dL_law_136 : decode cL_law 136 = .ok (.aload_n 1, 1) := by decide +kernel
theorem dL_law_137 : decode cL_law 137 = .ok (.aload_n 0, 1) := by decide +kernel
theorem dL_law_138 : decode cL_law 138 = .ok (.iload 4, 2) := by decide +kernel
theorem dL_law_140 : decode cL_law 140 = .ok (.iconst 1, 1) := by decide +kernel
theorem dL_law_141 : decode cL_law 141 = .ok (.iadd, 1) := by decide +kernel
theorem dL_law_142 : decode cL_law 142 = .ok (.iaload, 1) := by decide +kernel
theorem dL_law_143 : decode cL_law 143 = .ok (.aload_n 0, 1) := by decide +kernel
theorem dL_law_144 : decode cL_law 144 = .ok (.iload 4, 2) := by decide +kernel
theorem dL_law_146 : decode cL_law 146 = .ok (.iconst 2, 1) := by decide +kernel
theorem dL_law_147 : decode cL_law 147 = .ok (.iadd, 1) := by decide +kernel
theorem dL_law_148 : decode cL_law 148 = .ok (.iaload, 1) := by decide +kernel
theorem dL_law_149 : decode cL_law 149 = .ok (.aload_n 0, 1) := by decide +kernel
theorem dL_law_150 : decode cL_law 150 = .ok (.iload 4, 2) := by decide +kernel
theorem dL_law_152 : decode cL_law 152 = .ok (.iconst 3, 1) := by decide +kernel
theorem dL_law_153 : decode cL_law 153 = .ok (.iadd, 1) := by decide +kernel
theorem dL_law_154 : decode cL_law 154 = .ok (.iaload, 1) := by decide +kernel
theorem dL_law_155 : decode cL_law 155 = .ok (.invokevirtual 27, 3) := by decide +kernel
theorem dL_law_158 : decode cL_law 158 = .ok (.aload_n 2, 1) := by decide +kernel
theorem dL_law_159 : decode cL_law 159 = .ok (.aload_n 0, 1) := by decide +kernel
theorem dL_law_160 : decode cL_law 160 = .ok (.iload 4, 2) := by decide +kernel
theorem dL_law_162 : decode cL_law 162 = .ok (.iconst 1, 1) := by decide +kernel
theorem dL_law_163 : decode cL_law 163 = .ok (.iadd, 1) := by decide +kernel
theorem dL_law_164 : decode cL_law 164 = .ok (.iaload, 1) := by decide +kernel
theorem dL_law_165 : decode cL_law 165 = .ok (.aload_n 0, 1) := by decide +kernel
theorem dL_law_166 : decode cL_law 166 = .ok (.iload 4, 2) := by decide +kernel
theorem dL_law_168 : decode cL_law 168 = .ok (.iconst 2, 1) := by decide +kernel
theorem dL_law_169 : decode cL_law 169 = .ok (.iadd, 1) := by decide +kernel
theorem dL_law_170 : decode cL_law 170 = .ok (.iaload, 1) := by decide +kernel
theorem dL_law_171 : decode cL_law 171 = .ok (.aload_n 0, 1) := by decide +kernel
theorem dL_law_172 : decode cL_law 172 = .ok (.iload 4, 2) := by decide +kernel
theorem dL_law_174 : decode cL_law 174 = .ok (.iconst 3, 1) := by decide +kernel
theorem dL_law_175 : decode cL_law 175 = .ok (.iadd, 1) := by decide +kernel
theorem dL_law_176 : decode cL_law 176 = .ok (.iaload, 1) := by decide +kernel
theorem dL_law_177 : decode cL_law 177 = .ok (.invokevirtual 31, 3) := by decide +kernel
theorem dL_law_180 : decode cL_law 180 = .ok (.if_icmp .eq 521, 3) := by decide +kernel
theorem dL_law_183 : decode cL_law 183 = .ok (.iconst 0, 1) := by decide +kernel
theorem dL_law_184 : decode cL_law 184 = .ok (.ireturn, 1) := by decide +kernel
theorem dL_law_185 : decode cL_law 185 = .ok (.aload_n 1, 1) := by decide +kernel
theorem dL_law_186 : decode cL_law 186 = .ok (.aload_n 0, 1) := by decide +kernel
theorem dL_law_187 : decode cL_law 187 = .ok (.iload 4, 2) := by decide +kernel
theorem dL_law_189 : decode cL_law 189 = .ok (.iconst 1, 1) := by decide +kernel
theorem dL_law_190 : decode cL_law 190 = .ok (.iadd, 1) := by decide +kernel
theorem dL_law_191 : decode cL_law 191 = .ok (.iaload, 1) := by decide +kernel
theorem dL_law_192 : decode cL_law 192 = .ok (.aload_n 0, 1) := by decide +kernel
theorem dL_law_193 : decode cL_law 193 = .ok (.iload 4, 2) := by decide +kernel
theorem dL_law_195 : decode cL_law 195 = .ok (.iconst 2, 1) := by decide +kernel
theorem dL_law_196 : decode cL_law 196 = .ok (.iadd, 1) := by decide +kernel
theorem dL_law_197 : decode cL_law 197 = .ok (.iaload, 1) := by decide +kernel
theorem dL_law_198 : decode cL_law 198 = .ok (.aload_n 0, 1) := by decide +kernel
theorem dL_law_199 : decode cL_law 199 = .ok (.iload 4, 2) := by decide +kernel
theorem dL_law_201 : decode cL_law 201 = .ok (.iconst 3, 1) := by decide +kernel
theorem dL_law_202 : decode cL_law 202 = .ok (.iadd, 1) := by decide +kernel
theorem dL_law_203 : decode cL_law 203 = .ok (.iaload, 1) := by decide +kernel
theorem dL_law_204 : decode cL_law 204 = .ok (.invokevirtual 32, 3) := by decide +kernel
theorem dL_law_207 : decode cL_law 207 = .ok (.aload_n 2, 1) := by decide +kernel
theorem dL_law_208 : decode cL_law 208 = .ok (.aload_n 0, 1) := by decide +kernel
theorem dL_law_209 : decode cL_law 209 = .ok (.iload 4, 2) := by decide +kernel
theorem dL_law_211 : decode cL_law 211 = .ok (.iconst 1, 1) := by decide +kernel
theorem dL_law_212 : decode cL_law 212 = .ok (.iadd, 1) := by decide +kernel
theorem dL_law_213 : decode cL_law 213 = .ok (.iaload, 1) := by decide +kernel
theorem dL_law_214 : decode cL_law 214 = .ok (.aload_n 0, 1) := by decide +kernel
theorem dL_law_215 : decode cL_law 215 = .ok (.iload 4, 2) := by decide +kernel
theorem dL_law_217 : decode cL_law 217 = .ok (.iconst 2, 1) := by decide +kernel
theorem dL_law_218 : decode cL_law 218 = .ok (.iadd, 1) := by decide +kernel
theorem dL_law_219 : decode cL_law 219 = .ok (.iaload, 1) := by decide +kernel
theorem dL_law_220 : decode cL_law 220 = .ok (.aload_n 0, 1) := by decide +kernel
theorem dL_law_221 : decode cL_law 221 = .ok (.iload 4, 2) := by decide +kernel
theorem dL_law_223 : decode cL_law 223 = .ok (.iconst 3, 1) := by decide +kernel
theorem dL_law_224 : decode cL_law 224 = .ok (.iadd, 1) := by decide +kernel
theorem dL_law_225 : decode cL_law 225 = .ok (.iaload, 1) := by decide +kernel
theorem dL_law_226 : decode cL_law 226 = .ok (.invokevirtual 35, 3) := by decide +kernel
theorem dL_law_229 : decode cL_law 229 = .ok (.if_icmp .eq 472, 3) := by decide +kernel
theorem dL_law_232 : decode cL_law 232 = .ok (.iconst 0, 1) := by decide +kernel
theorem dL_law_233 : decode cL_law 233 = .ok (.ireturn, 1) := by decide +kernel
theorem dL_law_234 : decode cL_law 234 = .ok (.aload_n 1, 1) := by decide +kernel
theorem dL_law_235 : decode cL_law 235 = .ok (.aload_n 0, 1) := by decide +kernel
theorem dL_law_236 : decode cL_law 236 = .ok (.iload 4, 2) := by decide +kernel
theorem dL_law_238 : decode cL_law 238 = .ok (.iconst 1, 1) := by decide +kernel
theorem dL_law_239 : decode cL_law 239 = .ok (.iadd, 1) := by decide +kernel
theorem dL_law_240 : decode cL_law 240 = .ok (.iaload, 1) := by decide +kernel
theorem dL_law_241 : decode cL_law 241 = .ok (.aload_n 0, 1) := by decide +kernel
theorem dL_law_242 : decode cL_law 242 = .ok (.iload 4, 2) := by decide +kernel
theorem dL_law_244 : decode cL_law 244 = .ok (.iconst 2, 1) := by decide +kernel
theorem dL_law_245 : decode cL_law 245 = .ok (.iadd, 1) := by decide +kernel
theorem dL_law_246 : decode cL_law 246 = .ok (.iaload, 1) := by decide +kernel
theorem dL_law_247 : decode cL_law 247 = .ok (.aload_n 0, 1) := by decide +kernel
theorem dL_law_248 : decode cL_law 248 = .ok (.iload 4, 2) := by decide +kernel
theorem dL_law_250 : decode cL_law 250 = .ok (.iconst 3, 1) := by decide +kernel
theorem dL_law_251 : decode cL_law 251 = .ok (.iadd, 1) := by decide +kernel
theorem dL_law_252 : decode cL_law 252 = .ok (.iaload, 1) := by decide +kernel
theorem dL_law_253 : decode cL_law 253 = .ok (.aload_n 0, 1) := by decide +kernel
theorem dL_law_254 : decode cL_law 254 = .ok (.iload 4, 2) := by decide +kernel
theorem dL_law_256 : decode cL_law 256 = .ok (.iconst 4, 1) := by decide +kernel
theorem dL_law_257 : decode cL_law 257 = .ok (.iadd, 1) := by decide +kernel
theorem dL_law_258 : decode cL_law 258 = .ok (.iaload, 1) := by decide +kernel
theorem dL_law_259 : decode cL_law 259 = .ok (.invokevirtual 36, 3) := by decide +kernel
theorem dL_law_262 : decode cL_law 262 = .ok (.aload_n 2, 1) := by decide +kernel
theorem dL_law_263 : decode cL_law 263 = .ok (.aload_n 0, 1) := by decide +kernel
theorem dL_law_264 : decode cL_law 264 = .ok (.iload 4, 2) := by decide +kernel
theorem dL_law_266 : decode cL_law 266 = .ok (.iconst 1, 1) := by decide +kernel
theorem dL_law_267 : decode cL_law 267 = .ok (.iadd, 1) := by decide +kernel
theorem dL_law_268 : decode cL_law 268 = .ok (.iaload, 1) := by decide +kernel
theorem dL_law_269 : decode cL_law 269 = .ok (.aload_n 0, 1) := by decide +kernel
theorem dL_law_270 : decode cL_law 270 = .ok (.iload 4, 2) := by decide +kernel
theorem dL_law_272 : decode cL_law 272 = .ok (.iconst 2, 1) := by decide +kernel
theorem dL_law_273 : decode cL_law 273 = .ok (.iadd, 1) := by decide +kernel
theorem dL_law_274 : decode cL_law 274 = .ok (.iaload, 1) := by decide +kernel
theorem dL_law_275 : decode cL_law 275 = .ok (.aload_n 0, 1) := by decide +kernel
theorem dL_law_276 : decode cL_law 276 = .ok (.iload 4, 2) := by decide +kernel
theorem dL_law_278 : decode cL_law 278 = .ok (.iconst 3, 1) := by decide +kernel
theorem dL_law_279 : decode cL_law 279 = .ok (.iadd, 1) := by decide +kernel
theorem dL_law_280 : decode cL_law 280 = .ok (.iaload, 1) := by decide +kernel
theorem dL_law_281 : decode cL_law 281 = .ok (.aload_n 0, 1) := by decide +kernel
theorem dL_law_282 : decode cL_law 282 = .ok (.iload 4, 2) := by decide +kernel
theorem dL_law_284 : decode cL_law 284 = .ok (.iconst 4, 1) := by decide +kernel
theorem dL_law_285 : decode cL_law 285 = .ok (.iadd, 1) := by decide +kernel
theorem dL_law_286 : decode cL_law 286 = .ok (.iaload, 1) := by decide +kernel
theorem dL_law_287 : decode cL_law 287 = .ok (.invokevirtual 40, 3) := by decide +kernel
theorem dL_law_290 : decode cL_law 290 = .ok (.if_icmp .eq 411, 3) := by decide +kernel
theorem dL_law_293 : decode cL_law 293 = .ok (.iconst 0, 1) := by decide +kernel
theorem dL_law_294 : decode cL_law 294 = .ok (.ireturn, 1) := by decide +kernel
theorem dL_law_295 : decode cL_law 295 = .ok (.aload_n 1, 1) := by decide +kernel
theorem dL_law_296 : decode cL_law 296 = .ok (.aload_n 0, 1) := by decide +kernel
theorem dL_law_297 : decode cL_law 297 = .ok (.iload 4, 2) := by decide +kernel
theorem dL_law_299 : decode cL_law 299 = .ok (.iconst 1, 1) := by decide +kernel
theorem dL_law_300 : decode cL_law 300 = .ok (.iadd, 1) := by decide +kernel
theorem dL_law_301 : decode cL_law 301 = .ok (.iaload, 1) := by decide +kernel
theorem dL_law_302 : decode cL_law 302 = .ok (.aload_n 0, 1) := by decide +kernel
theorem dL_law_303 : decode cL_law 303 = .ok (.iload 4, 2) := by decide +kernel
theorem dL_law_305 : decode cL_law 305 = .ok (.iconst 2, 1) := by decide +kernel
theorem dL_law_306 : decode cL_law 306 = .ok (.iadd, 1) := by decide +kernel
theorem dL_law_307 : decode cL_law 307 = .ok (.iaload, 1) := by decide +kernel
theorem dL_law_308 : decode cL_law 308 = .ok (.invokevirtual 41, 3) := by decide +kernel
theorem dL_law_311 : decode cL_law 311 = .ok (.aload_n 2, 1) := by decide +kernel
theorem dL_law_312 : decode cL_law 312 = .ok (.aload_n 0, 1) := by decide +kernel
theorem dL_law_313 : decode cL_law 313 = .ok (.iload 4, 2) := by decide +kernel
theorem dL_law_315 : decode cL_law 315 = .ok (.iconst 1, 1) := by decide +kernel
theorem dL_law_316 : decode cL_law 316 = .ok (.iadd, 1) := by decide +kernel
theorem dL_law_317 : decode cL_law 317 = .ok (.iaload, 1) := by decide +kernel
theorem dL_law_318 : decode cL_law 318 = .ok (.aload_n 0, 1) := by decide +kernel
theorem dL_law_319 : decode cL_law 319 = .ok (.iload 4, 2) := by decide +kernel
theorem dL_law_321 : decode cL_law 321 = .ok (.iconst 2, 1) := by decide +kernel
theorem dL_law_322 : decode cL_law 322 = .ok (.iadd, 1) := by decide +kernel
theorem dL_law_323 : decode cL_law 323 = .ok (.iaload, 1) := by decide +kernel
theorem dL_law_324 : decode cL_law 324 = .ok (.invokevirtual 45, 3) := by decide +kernel
theorem dL_law_327 : decode cL_law 327 = .ok (.if_icmp .eq 374, 3) := by decide +kernel
theorem dL_law_330 : decode cL_law 330 = .ok (.iconst 0, 1) := by decide +kernel
theorem dL_law_331 : decode cL_law 331 = .ok (.ireturn, 1) := by decide +kernel
theorem dL_law_332 : decode cL_law 332 = .ok (.aload_n 1, 1) := by decide +kernel
theorem dL_law_333 : decode cL_law 333 = .ok (.aload_n 0, 1) := by decide +kernel
theorem dL_law_334 : decode cL_law 334 = .ok (.iload 4, 2) := by decide +kernel
theorem dL_law_336 : decode cL_law 336 = .ok (.iconst 1, 1) := by decide +kernel
theorem dL_law_337 : decode cL_law 337 = .ok (.iadd, 1) := by decide +kernel
theorem dL_law_338 : decode cL_law 338 = .ok (.iaload, 1) := by decide +kernel
theorem dL_law_339 : decode cL_law 339 = .ok (.invokevirtual 46, 3) := by decide +kernel
theorem dL_law_342 : decode cL_law 342 = .ok (.aload_n 2, 1) := by decide +kernel
theorem dL_law_343 : decode cL_law 343 = .ok (.aload_n 0, 1) := by decide +kernel
theorem dL_law_344 : decode cL_law 344 = .ok (.iload 4, 2) := by decide +kernel
theorem dL_law_346 : decode cL_law 346 = .ok (.iconst 1, 1) := by decide +kernel
theorem dL_law_347 : decode cL_law 347 = .ok (.iadd, 1) := by decide +kernel
theorem dL_law_348 : decode cL_law 348 = .ok (.iaload, 1) := by decide +kernel
theorem dL_law_349 : decode cL_law 349 = .ok (.invokevirtual 50, 3) := by decide +kernel
theorem dL_law_352 : decode cL_law 352 = .ok (.if_icmp .eq 349, 3) := by decide +kernel
theorem dL_law_355 : decode cL_law 355 = .ok (.iconst 0, 1) := by decide +kernel
theorem dL_law_356 : decode cL_law 356 = .ok (.ireturn, 1) := by decide +kernel
theorem dL_law_357 : decode cL_law 357 = .ok (.aload_n 1, 1) := by decide +kernel
theorem dL_law_358 : decode cL_law 358 = .ok (.aload_n 0, 1) := by decide +kernel
theorem dL_law_359 : decode cL_law 359 = .ok (.iload 4, 2) := by decide +kernel
theorem dL_law_361 : decode cL_law 361 = .ok (.iconst 1, 1) := by decide +kernel
theorem dL_law_362 : decode cL_law 362 = .ok (.iadd, 1) := by decide +kernel
theorem dL_law_363 : decode cL_law 363 = .ok (.iaload, 1) := by decide +kernel
theorem dL_law_364 : decode cL_law 364 = .ok (.aload_n 0, 1) := by decide +kernel
theorem dL_law_365 : decode cL_law 365 = .ok (.iload 4, 2) := by decide +kernel
theorem dL_law_367 : decode cL_law 367 = .ok (.iconst 2, 1) := by decide +kernel
theorem dL_law_368 : decode cL_law 368 = .ok (.iadd, 1) := by decide +kernel
theorem dL_law_369 : decode cL_law 369 = .ok (.iaload, 1) := by decide +kernel
theorem dL_law_370 : decode cL_law 370 = .ok (.invokevirtual 51, 3) := by decide +kernel
theorem dL_law_373 : decode cL_law 373 = .ok (.aload_n 2, 1) := by decide +kernel
theorem dL_law_374 : decode cL_law 374 = .ok (.aload_n 0, 1) := by decide +kernel
theorem dL_law_375 : decode cL_law 375 = .ok (.iload 4, 2) := by decide +kernel
theorem dL_law_377 : decode cL_law 377 = .ok (.iconst 1, 1) := by decide +kernel
theorem dL_law_378 : decode cL_law 378 = .ok (.iadd, 1) := by decide +kernel
theorem dL_law_379 : decode cL_law 379 = .ok (.iaload, 1) := by decide +kernel
theorem dL_law_380 : decode cL_law 380 = .ok (.aload_n 0, 1) := by decide +kernel
theorem dL_law_381 : decode cL_law 381 = .ok (.iload 4, 2) := by decide +kernel
theorem dL_law_383 : decode cL_law 383 = .ok (.iconst 2, 1) := by decide +kernel
theorem dL_law_384 : decode cL_law 384 = .ok (.iadd, 1) := by decide +kernel
theorem dL_law_385 : decode cL_law 385 = .ok (.iaload, 1) := by decide +kernel
theorem dL_law_386 : decode cL_law 386 = .ok (.invokevirtual 54, 3) := by decide +kernel
theorem dL_law_389 : decode cL_law 389 = .ok (.if_icmp .eq 312, 3) := by decide +kernel
theorem dL_law_392 : decode cL_law 392 = .ok (.iconst 0, 1) := by decide +kernel
theorem dL_law_393 : decode cL_law 393 = .ok (.ireturn, 1) := by decide +kernel
theorem dL_law_394 : decode cL_law 394 = .ok (.aload_n 1, 1) := by decide +kernel
theorem dL_law_395 : decode cL_law 395 = .ok (.aload_n 0, 1) := by decide +kernel
theorem dL_law_396 : decode cL_law 396 = .ok (.iload 4, 2) := by decide +kernel
theorem dL_law_398 : decode cL_law 398 = .ok (.iconst 1, 1) := by decide +kernel
theorem dL_law_399 : decode cL_law 399 = .ok (.iadd, 1) := by decide +kernel
theorem dL_law_400 : decode cL_law 400 = .ok (.iaload, 1) := by decide +kernel
theorem dL_law_401 : decode cL_law 401 = .ok (.aload_n 0, 1) := by decide +kernel
theorem dL_law_402 : decode cL_law 402 = .ok (.iload 4, 2) := by decide +kernel
theorem dL_law_404 : decode cL_law 404 = .ok (.iconst 2, 1) := by decide +kernel
theorem dL_law_405 : decode cL_law 405 = .ok (.iadd, 1) := by decide +kernel
theorem dL_law_406 : decode cL_law 406 = .ok (.iaload, 1) := by decide +kernel
theorem dL_law_407 : decode cL_law 407 = .ok (.invokevirtual 55, 3) := by decide +kernel
theorem dL_law_410 : decode cL_law 410 = .ok (.aload_n 2, 1) := by decide +kernel
theorem dL_law_411 : decode cL_law 411 = .ok (.aload_n 0, 1) := by decide +kernel
theorem dL_law_412 : decode cL_law 412 = .ok (.iload 4, 2) := by decide +kernel
theorem dL_law_414 : decode cL_law 414 = .ok (.iconst 1, 1) := by decide +kernel
theorem dL_law_415 : decode cL_law 415 = .ok (.iadd, 1) := by decide +kernel
theorem dL_law_416 : decode cL_law 416 = .ok (.iaload, 1) := by decide +kernel
theorem dL_law_417 : decode cL_law 417 = .ok (.aload_n 0, 1) := by decide +kernel
theorem dL_law_418 : decode cL_law 418 = .ok (.iload 4, 2) := by decide +kernel
theorem dL_law_420 : decode cL_law 420 = .ok (.iconst 2, 1) := by decide +kernel
theorem dL_law_421 : decode cL_law 421 = .ok (.iadd, 1) := by decide +kernel
theorem dL_law_422 : decode cL_law 422 = .ok (.iaload, 1) := by decide +kernel
theorem dL_law_423 : decode cL_law 423 = .ok (.invokevirtual 58, 3) := by decide +kernel
theorem dL_law_426 : decode cL_law 426 = .ok (.if_icmp .eq 275, 3) := by decide +kernel
theorem dL_law_429 : decode cL_law 429 = .ok (.iconst 0, 1) := by decide +kernel
theorem dL_law_430 : decode cL_law 430 = .ok (.ireturn, 1) := by decide +kernel
theorem dL_law_431 : decode cL_law 431 = .ok (.aload_n 1, 1) := by decide +kernel
theorem dL_law_432 : decode cL_law 432 = .ok (.aload_n 0, 1) := by decide +kernel
theorem dL_law_433 : decode cL_law 433 = .ok (.iload 4, 2) := by decide +kernel
theorem dL_law_435 : decode cL_law 435 = .ok (.iconst 1, 1) := by decide +kernel
theorem dL_law_436 : decode cL_law 436 = .ok (.iadd, 1) := by decide +kernel
theorem dL_law_437 : decode cL_law 437 = .ok (.iaload, 1) := by decide +kernel
theorem dL_law_438 : decode cL_law 438 = .ok (.invokevirtual 59, 3) := by decide +kernel
theorem dL_law_441 : decode cL_law 441 = .ok (.aload_n 2, 1) := by decide +kernel
theorem dL_law_442 : decode cL_law 442 = .ok (.aload_n 0, 1) := by decide +kernel
theorem dL_law_443 : decode cL_law 443 = .ok (.iload 4, 2) := by decide +kernel
theorem dL_law_445 : decode cL_law 445 = .ok (.iconst 1, 1) := by decide +kernel
theorem dL_law_446 : decode cL_law 446 = .ok (.iadd, 1) := by decide +kernel
theorem dL_law_447 : decode cL_law 447 = .ok (.iaload, 1) := by decide +kernel
theorem dL_law_448 : decode cL_law 448 = .ok (.invokevirtual 62, 3) := by decide +kernel
theorem dL_law_451 : decode cL_law 451 = .ok (.if_icmp .eq 250, 3) := by decide +kernel
theorem dL_law_454 : decode cL_law 454 = .ok (.iconst 0, 1) := by decide +kernel
theorem dL_law_455 : decode cL_law 455 = .ok (.ireturn, 1) := by decide +kernel
theorem dL_law_456 : decode cL_law 456 = .ok (.aload_n 1, 1) := by decide +kernel
theorem dL_law_457 : decode cL_law 457 = .ok (.invokevirtual 63, 3) := by decide +kernel
theorem dL_law_460 : decode cL_law 460 = .ok (.aload_n 2, 1) := by decide +kernel
theorem dL_law_461 : decode cL_law 461 = .ok (.invokevirtual 67, 3) := by decide +kernel
theorem dL_law_464 : decode cL_law 464 = .ok (.if_icmp .eq 237, 3) := by decide +kernel
theorem dL_law_467 : decode cL_law 467 = .ok (.iconst 0, 1) := by decide +kernel
theorem dL_law_468 : decode cL_law 468 = .ok (.ireturn, 1) := by decide +kernel
theorem dL_law_469 : decode cL_law 469 = .ok (.aload_n 1, 1) := by decide +kernel
theorem dL_law_470 : decode cL_law 470 = .ok (.aload_n 0, 1) := by decide +kernel
theorem dL_law_471 : decode cL_law 471 = .ok (.iload 4, 2) := by decide +kernel
theorem dL_law_473 : decode cL_law 473 = .ok (.iconst 1, 1) := by decide +kernel
theorem dL_law_474 : decode cL_law 474 = .ok (.iadd, 1) := by decide +kernel
theorem dL_law_475 : decode cL_law 475 = .ok (.iaload, 1) := by decide +kernel
theorem dL_law_476 : decode cL_law 476 = .ok (.aload_n 0, 1) := by decide +kernel
theorem dL_law_477 : decode cL_law 477 = .ok (.iload 4, 2) := by decide +kernel
theorem dL_law_479 : decode cL_law 479 = .ok (.iconst 2, 1) := by decide +kernel
theorem dL_law_480 : decode cL_law 480 = .ok (.iadd, 1) := by decide +kernel
theorem dL_law_481 : decode cL_law 481 = .ok (.iaload, 1) := by decide +kernel
theorem dL_law_482 : decode cL_law 482 = .ok (.invokevirtual 68, 3) := by decide +kernel
theorem dL_law_485 : decode cL_law 485 = .ok (.aload_n 2, 1) := by decide +kernel
theorem dL_law_486 : decode cL_law 486 = .ok (.aload_n 0, 1) := by decide +kernel
theorem dL_law_487 : decode cL_law 487 = .ok (.iload 4, 2) := by decide +kernel
theorem dL_law_489 : decode cL_law 489 = .ok (.iconst 1, 1) := by decide +kernel
theorem dL_law_490 : decode cL_law 490 = .ok (.iadd, 1) := by decide +kernel
theorem dL_law_491 : decode cL_law 491 = .ok (.iaload, 1) := by decide +kernel
theorem dL_law_492 : decode cL_law 492 = .ok (.aload_n 0, 1) := by decide +kernel
theorem dL_law_493 : decode cL_law 493 = .ok (.iload 4, 2) := by decide +kernel
theorem dL_law_495 : decode cL_law 495 = .ok (.iconst 2, 1) := by decide +kernel
theorem dL_law_496 : decode cL_law 496 = .ok (.iadd, 1) := by decide +kernel
theorem dL_law_497 : decode cL_law 497 = .ok (.iaload, 1) := by decide +kernel
theorem dL_law_498 : decode cL_law 498 = .ok (.invokevirtual 71, 3) := by decide +kernel
theorem dL_law_501 : decode cL_law 501 = .ok (.if_icmp .eq 200, 3) := by decide +kernel
theorem dL_law_504 : decode cL_law 504 = .ok (.iconst 0, 1) := by decide +kernel
theorem dL_law_505 : decode cL_law 505 = .ok (.ireturn, 1) := by decide +kernel
theorem dL_law_506 : decode cL_law 506 = .ok (.aload_n 1, 1) := by decide +kernel
theorem dL_law_507 : decode cL_law 507 = .ok (.invokevirtual 72, 3) := by decide +kernel
theorem dL_law_510 : decode cL_law 510 = .ok (.aload_n 2, 1) := by decide +kernel
theorem dL_law_511 : decode cL_law 511 = .ok (.invokevirtual 75, 3) := by decide +kernel
theorem dL_law_514 : decode cL_law 514 = .ok (.if_icmp .eq 187, 3) := by decide +kernel
theorem dL_law_517 : decode cL_law 517 = .ok (.iconst 0, 1) := by decide +kernel
theorem dL_law_518 : decode cL_law 518 = .ok (.ireturn, 1) := by decide +kernel
theorem dL_law_519 : decode cL_law 519 = .ok (.aload_n 1, 1) := by decide +kernel
theorem dL_law_520 : decode cL_law 520 = .ok (.invokevirtual 76, 3) := by decide +kernel
theorem dL_law_523 : decode cL_law 523 = .ok (.aload_n 2, 1) := by decide +kernel
theorem dL_law_524 : decode cL_law 524 = .ok (.invokevirtual 79, 3) := by decide +kernel
theorem dL_law_527 : decode cL_law 527 = .ok (.lcmp, 1) := by decide +kernel
theorem dL_law_528 : decode cL_law 528 = .ok (.ifCond .eq 173, 3) := by decide +kernel
theorem dL_law_531 : decode cL_law 531 = .ok (.iconst 0, 1) := by decide +kernel
theorem dL_law_532 : decode cL_law 532 = .ok (.ireturn, 1) := by decide +kernel
theorem dL_law_533 : decode cL_law 533 = .ok (.aload_n 1, 1) := by decide +kernel
theorem dL_law_534 : decode cL_law 534 = .ok (.aload_n 0, 1) := by decide +kernel
theorem dL_law_535 : decode cL_law 535 = .ok (.iload 4, 2) := by decide +kernel
theorem dL_law_537 : decode cL_law 537 = .ok (.iconst 1, 1) := by decide +kernel
theorem dL_law_538 : decode cL_law 538 = .ok (.iadd, 1) := by decide +kernel
theorem dL_law_539 : decode cL_law 539 = .ok (.iaload, 1) := by decide +kernel
theorem dL_law_540 : decode cL_law 540 = .ok (.aload_n 0, 1) := by decide +kernel
theorem dL_law_541 : decode cL_law 541 = .ok (.iload 4, 2) := by decide +kernel
theorem dL_law_543 : decode cL_law 543 = .ok (.iconst 2, 1) := by decide +kernel
theorem dL_law_544 : decode cL_law 544 = .ok (.iadd, 1) := by decide +kernel
theorem dL_law_545 : decode cL_law 545 = .ok (.iaload, 1) := by decide +kernel
theorem dL_law_546 : decode cL_law 546 = .ok (.invokevirtual 80, 3) := by decide +kernel
theorem dL_law_549 : decode cL_law 549 = .ok (.aload_n 2, 1) := by decide +kernel
theorem dL_law_550 : decode cL_law 550 = .ok (.aload_n 0, 1) := by decide +kernel
theorem dL_law_551 : decode cL_law 551 = .ok (.iload 4, 2) := by decide +kernel
theorem dL_law_553 : decode cL_law 553 = .ok (.iconst 1, 1) := by decide +kernel
theorem dL_law_554 : decode cL_law 554 = .ok (.iadd, 1) := by decide +kernel
theorem dL_law_555 : decode cL_law 555 = .ok (.iaload, 1) := by decide +kernel
theorem dL_law_556 : decode cL_law 556 = .ok (.aload_n 0, 1) := by decide +kernel
theorem dL_law_557 : decode cL_law 557 = .ok (.iload 4, 2) := by decide +kernel
theorem dL_law_559 : decode cL_law 559 = .ok (.iconst 2, 1) := by decide +kernel
theorem dL_law_560 : decode cL_law 560 = .ok (.iadd, 1) := by decide +kernel
theorem dL_law_561 : decode cL_law 561 = .ok (.iaload, 1) := by decide +kernel
theorem dL_law_562 : decode cL_law 562 = .ok (.invokevirtual 83, 3) := by decide +kernel
theorem dL_law_565 : decode cL_law 565 = .ok (.if_icmp .eq 136, 3) := by decide +kernel
theorem dL_law_568 : decode cL_law 568 = .ok (.iconst 0, 1) := by decide +kernel
theorem dL_law_569 : decode cL_law 569 = .ok (.ireturn, 1) := by decide +kernel
theorem dL_law_570 : decode cL_law 570 = .ok (.aload_n 1, 1) := by decide +kernel
theorem dL_law_571 : decode cL_law 571 = .ok (.invokevirtual 84, 3) := by decide +kernel
theorem dL_law_574 : decode cL_law 574 = .ok (.aload_n 2, 1) := by decide +kernel
theorem dL_law_575 : decode cL_law 575 = .ok (.invokevirtual 87, 3) := by decide +kernel
theorem dL_law_578 : decode cL_law 578 = .ok (.if_icmp .eq 123, 3) := by decide +kernel
theorem dL_law_581 : decode cL_law 581 = .ok (.iconst 0, 1) := by decide +kernel
theorem dL_law_582 : decode cL_law 582 = .ok (.ireturn, 1) := by decide +kernel
theorem dL_law_583 : decode cL_law 583 = .ok (.aload_n 1, 1) := by decide +kernel
theorem dL_law_584 : decode cL_law 584 = .ok (.aload_n 0, 1) := by decide +kernel
theorem dL_law_585 : decode cL_law 585 = .ok (.iload 4, 2) := by decide +kernel
theorem dL_law_587 : decode cL_law 587 = .ok (.iconst 1, 1) := by decide +kernel
theorem dL_law_588 : decode cL_law 588 = .ok (.iadd, 1) := by decide +kernel
theorem dL_law_589 : decode cL_law 589 = .ok (.iaload, 1) := by decide +kernel
theorem dL_law_590 : decode cL_law 590 = .ok (.aload_n 0, 1) := by decide +kernel
theorem dL_law_591 : decode cL_law 591 = .ok (.iload 4, 2) := by decide +kernel
theorem dL_law_593 : decode cL_law 593 = .ok (.iconst 2, 1) := by decide +kernel
theorem dL_law_594 : decode cL_law 594 = .ok (.iadd, 1) := by decide +kernel
theorem dL_law_595 : decode cL_law 595 = .ok (.iaload, 1) := by decide +kernel
theorem dL_law_596 : decode cL_law 596 = .ok (.invokevirtual 88, 3) := by decide +kernel
theorem dL_law_599 : decode cL_law 599 = .ok (.aload_n 2, 1) := by decide +kernel
theorem dL_law_600 : decode cL_law 600 = .ok (.aload_n 0, 1) := by decide +kernel
theorem dL_law_601 : decode cL_law 601 = .ok (.iload 4, 2) := by decide +kernel
theorem dL_law_603 : decode cL_law 603 = .ok (.iconst 1, 1) := by decide +kernel
theorem dL_law_604 : decode cL_law 604 = .ok (.iadd, 1) := by decide +kernel
theorem dL_law_605 : decode cL_law 605 = .ok (.iaload, 1) := by decide +kernel
theorem dL_law_606 : decode cL_law 606 = .ok (.aload_n 0, 1) := by decide +kernel
theorem dL_law_607 : decode cL_law 607 = .ok (.iload 4, 2) := by decide +kernel
theorem dL_law_609 : decode cL_law 609 = .ok (.iconst 2, 1) := by decide +kernel
theorem dL_law_610 : decode cL_law 610 = .ok (.iadd, 1) := by decide +kernel
theorem dL_law_611 : decode cL_law 611 = .ok (.iaload, 1) := by decide +kernel
theorem dL_law_612 : decode cL_law 612 = .ok (.invokevirtual 91, 3) := by decide +kernel
theorem dL_law_615 : decode cL_law 615 = .ok (.if_icmp .eq 86, 3) := by decide +kernel
theorem dL_law_618 : decode cL_law 618 = .ok (.iconst 0, 1) := by decide +kernel
theorem dL_law_619 : decode cL_law 619 = .ok (.ireturn, 1) := by decide +kernel
theorem dL_law_620 : decode cL_law 620 = .ok (.aload_n 1, 1) := by decide +kernel
theorem dL_law_621 : decode cL_law 621 = .ok (.aload_n 0, 1) := by decide +kernel
theorem dL_law_622 : decode cL_law 622 = .ok (.iload 4, 2) := by decide +kernel
theorem dL_law_624 : decode cL_law 624 = .ok (.iconst 1, 1) := by decide +kernel
theorem dL_law_625 : decode cL_law 625 = .ok (.iadd, 1) := by decide +kernel
theorem dL_law_626 : decode cL_law 626 = .ok (.iaload, 1) := by decide +kernel
theorem dL_law_627 : decode cL_law 627 = .ok (.invokevirtual 92, 3) := by decide +kernel
theorem dL_law_630 : decode cL_law 630 = .ok (.aload_n 2, 1) := by decide +kernel
theorem dL_law_631 : decode cL_law 631 = .ok (.aload_n 0, 1) := by decide +kernel
theorem dL_law_632 : decode cL_law 632 = .ok (.iload 4, 2) := by decide +kernel
theorem dL_law_634 : decode cL_law 634 = .ok (.iconst 1, 1) := by decide +kernel
theorem dL_law_635 : decode cL_law 635 = .ok (.iadd, 1) := by decide +kernel
theorem dL_law_636 : decode cL_law 636 = .ok (.iaload, 1) := by decide +kernel
theorem dL_law_637 : decode cL_law 637 = .ok (.invokevirtual 95, 3) := by decide +kernel
theorem dL_law_640 : decode cL_law 640 = .ok (.if_icmp .eq 61, 3) := by decide +kernel
theorem dL_law_643 : decode cL_law 643 = .ok (.iconst 0, 1) := by decide +kernel
theorem dL_law_644 : decode cL_law 644 = .ok (.ireturn, 1) := by decide +kernel
theorem dL_law_645 : decode cL_law 645 = .ok (.aload_n 1, 1) := by decide +kernel
theorem dL_law_646 : decode cL_law 646 = .ok (.invokevirtual 96, 3) := by decide +kernel
theorem dL_law_649 : decode cL_law 649 = .ok (.aload_n 2, 1) := by decide +kernel
theorem dL_law_650 : decode cL_law 650 = .ok (.invokevirtual 99, 3) := by decide +kernel
theorem dL_law_653 : decode cL_law 653 = .ok (.if_icmp .eq 48, 3) := by decide +kernel
theorem dL_law_656 : decode cL_law 656 = .ok (.iconst 0, 1) := by decide +kernel
theorem dL_law_657 : decode cL_law 657 = .ok (.ireturn, 1) := by decide +kernel
theorem dL_law_658 : decode cL_law 658 = .ok (.aload_n 1, 1) := by decide +kernel
theorem dL_law_659 : decode cL_law 659 = .ok (.aload_n 3, 1) := by decide +kernel
theorem dL_law_660 : decode cL_law 660 = .ok (.invokestatic 100, 3) := by decide +kernel
theorem dL_law_663 : decode cL_law 663 = .ok (.istore 5, 2) := by decide +kernel
theorem dL_law_665 : decode cL_law 665 = .ok (.aload_n 2, 1) := by decide +kernel
theorem dL_law_666 : decode cL_law 666 = .ok (.invokevirtual 103, 3) := by decide +kernel
theorem dL_law_669 : decode cL_law 669 = .ok (.lstore 6, 2) := by decide +kernel
theorem dL_law_671 : decode cL_law 671 = .ok (.aload_n 2, 1) := by decide +kernel
theorem dL_law_672 : decode cL_law 672 = .ok (.invokevirtual 104, 3) := by decide +kernel
theorem dL_law_675 : decode cL_law 675 = .ok (.iload 5, 2) := by decide +kernel
theorem dL_law_677 : decode cL_law 677 = .ok (.if_icmp .eq 5, 3) := by decide +kernel
theorem dL_law_680 : decode cL_law 680 = .ok (.iconst 0, 1) := by decide +kernel
theorem dL_law_681 : decode cL_law 681 = .ok (.ireturn, 1) := by decide +kernel
theorem dL_law_682 : decode cL_law 682 = .ok (.iload 5, 2) := by decide +kernel
theorem dL_law_684 : decode cL_law 684 = .ok (.ifCond .ne 14, 3) := by decide +kernel
theorem dL_law_687 : decode cL_law 687 = .ok (.aload_n 3, 1) := by decide +kernel
theorem dL_law_688 : decode cL_law 688 = .ok (.iconst 0, 1) := by decide +kernel
theorem dL_law_689 : decode cL_law 689 = .ok (.laload, 1) := by decide +kernel
theorem dL_law_690 : decode cL_law 690 = .ok (.lload 6, 2) := by decide +kernel
theorem dL_law_692 : decode cL_law 692 = .ok (.lcmp, 1) := by decide +kernel
theorem dL_law_693 : decode cL_law 693 = .ok (.ifCond .eq 5, 3) := by decide +kernel
theorem dL_law_696 : decode cL_law 696 = .ok (.iconst 0, 1) := by decide +kernel
theorem dL_law_697 : decode cL_law 697 = .ok (.ireturn, 1) := by decide +kernel
theorem dL_law_698 : decode cL_law 698 = .ok (.goto 3, 3) := by decide +kernel
theorem dL_law_701 : decode cL_law 701 = .ok (.iinc 4 5, 3) := by decide +kernel
theorem dL_law_704 : decode cL_law 704 = .ok (.goto (-671), 3) := by decide +kernel
theorem dL_law_707 : decode cL_law 707 = .ok (.iconst 1, 1) := by decide +kernel
theorem dL_law_708 : decode cL_law 708 = .ok (.ireturn, 1) := by decide +kernel
abbrev vwCl : List vw_C := [(RX0, TX0, 7), (RX1, TX1, 5), (RX2, TX2, 9), (RX3, TX3, 14), (RX4, TX4, 5), (RX5, TX5, 24)]
end
section
/-! values, memory, the world -/
abbrev PV : Type := Int ⊕ (Int ⊕ Int)
abbrev pI (z : Int) : PV := .inl z
abbrev pL (z : Int) : PV := .inr (.inl z)
abbrev pR (c : Int) : PV := .inr (.inr c)
abbrev Mem : Type := Int → Int → Int
abbrev GG : Type := va_G × (Int → Nat) × Nat × (Nat → ClassId)
abbrev gD (G : GG) : va_G := G.1
abbrev gA (G : GG) : Int → Nat := G.2.1
abbrev gM (G : GG) : Nat := G.2.2.1
abbrev gC (G : GG) : Nat → ClassId := G.2.2.2
def oI (z : Int) : Int32 := Int32.ofInt z
def oL (z : Int) : Int64 := Int64.ofInt z
def inR (z : Int) : Prop := -2147483648 ≤ z ∧ z ≤ 2147483647
def inL (z : Int) : Prop := -9223372036854775808 ≤ z ∧ z ≤ 9223372036854775807
theorem oI_toInt {z : Int} (h : inR z) : (oI z).toInt = z := Int32.toInt_ofInt_of_le (by have := h.1; omega) (by have := h.2; omega)
theorem oL_toInt {z : Int} (h : inL z) : (oL z).toInt = z := Int64.toInt_ofInt_of_le (by have := h.1; omega) (by have := h.2; omega)
theorem oI_add (a b : Int) : oI a + oI b = oI (a + b) := (Int32.ofInt_add a b).symm
theorem oI_sub (a b : Int) : oI a - oI b = oI (a - b) := by
  apply Int32.toInt.inj
  simp [oI, Int32.toInt_sub, Int32.toInt_ofInt, Int.bmod_sub_bmod]
theorem oI_mul (a b : Int) : oI a * oI b = oI (a * b) := (Int32.ofInt_mul a b).symm
theorem oI_neg (a : Int) : - oI a = oI (-a) := by
  apply Int32.toInt.inj
  simp [oI, Int32.toInt_neg, Int32.toInt_ofInt]
theorem oL_add (a b : Int) : oL a + oL b = oL (a + b) := (Int64.ofInt_add a b).symm
theorem oL_mul (a b : Int) : oL a * oL b = oL (a * b) := (Int64.ofInt_mul a b).symm
theorem oI_lt {a b : Int} (ha : inR a) (hb : inR b) : oI a < oI b ↔ a < b := by rw [Int32.lt_iff_toInt_lt, oI_toInt ha, oI_toInt hb]
theorem oI_le {a b : Int} (ha : inR a) (hb : inR b) : oI a ≤ oI b ↔ a ≤ b := by rw [Int32.le_iff_toInt_le, oI_toInt ha, oI_toInt hb]
theorem oI_eq {a b : Int} (ha : inR a) (hb : inR b) : oI a = oI b ↔ a = b := by
  constructor
  · intro h
    have := congrArg Int32.toInt h
    rwa [oI_toInt ha, oI_toInt hb] at this
  · intro h; rw [h]
theorem oI_of (x : Int32) : oI x.toInt = x := Int32.ofInt_toInt x
theorem inR_of (x : Int32) : inR x.toInt := ⟨x.le_toInt, by have := x.toInt_lt; omega⟩
theorem oI_div {a b : Int} (ha : inR a) (hb : inR b) (h : 0 < b) : oI a / oI b = oI (a.tdiv b) := by
  apply Int32.toInt.inj
  rw [Int32.toInt_div, oI_toInt ha, oI_toInt hb, oI, Int32.toInt_ofInt]
theorem oI_rem {a b : Int} (ha : inR a) (hb : inR b) (h : 0 < b) : oI a - oI a / oI b * oI b = oI (a.tmod b) := by
  rw [oI_div ha hb h, oI_mul, oI_sub]
  congr 1
  have := Int.tmod_def a b
  rw [this, Int.mul_comm]
theorem oI_in {i : Int} {n : Nat} (h0 : 0 ≤ i) (h1 : i < n) (hn : n < 2147483648) : vp_in (oI i) n ∧ (oI i).toNatClampNeg = i.toNat := by
  have hr : inR i := ⟨by omega, by omega⟩
  constructor
  · rw [vp_in_iff, oI_toInt hr]; exact ⟨h0, h1⟩
  · rw [← Int32.toNat_toInt, oI_toInt hr]
end
section
/-! the fixed world: 57 cells and a row of each machine -/
def fld (ad : Int → Nat) (f : Int → Int) (j : Nat) (o : Option Int) : Value := match o with
  | none => .int (oI (f j))
  | some c => .ref (ad c)
def obE (ad : Int → Nat) (ci : Nat) (fs : List (Option Int)) (f : Int → Int) : va_E := .inr (ci, (List.range fs.length).map (fun j => fld ad f j (fs.getD j none)))
def iaE (cA : ClassId) (n : Nat) (f : Int → Int) : va_E := .inl (cA, n, .inl (fun j => oI (f j)))
def laE (cA : ClassId) (n : Nat) (f : Int → Int) : va_E := .inl (cA, n, .inr (.inl (fun j => oL (f j))))
def raE (cA : ClassId) (n : Nat) (ad : Int → Nat) (_ : Int → Int) : va_E := .inl (cA, n, .inr (.inr (.inr (.inr (fun j => if j < n then some (ad (57 + j)) else none)))))
def fsPlan (t : Int) : List (Option Int) := [some 1, none, some (t + 1), some (t + 2), some (t + 3), some (t + 4), none, some (t + 5), some (t + 6)]
def fsSR : List (Option Int) := [some 1, some 12, some 19, some 26, some 31]
def fsShop : List (Option Int) := [none, none, none, none, some 2, some 3, some 4, some 5, some 6, some 7, some 8, some 9, some 10, some 11]
def fsFill : List (Option Int) := [some 1, some 27, some 28, some 29, some 30]
def fsBnd : List (Option Int) := [some 1, some 32, none, some 33, some 34, some 35, some 36]
def fsMod : List (Option Int) := [none, none, none, some 38, some 39, some 40, some 41, some 42, some 43, some 44, some 45, some 46, some 47, some 48, some 49, none, none, some 50, some 51, some 52, some 53, none, some 54, some 55]
def shl (G : GG) : List ((Int → Int) → va_E) := [
  obE (gA G) 4 fsSR,
  obE (gA G) 3 fsShop,
  iaE (gC G 0) 8, iaE (gC G 0) 8, iaE (gC G 0) 8, iaE (gC G 0) 8, iaE (gC G 0) 80, iaE (gC G 0) 80, iaE (gC G 1) 80, raE (gC G 3) (gM G) (gA G), iaE (gC G 0) (gM G), iaE (gC G 0) (64 * gM G),
  obE (gA G) 2 (fsPlan 12),
  iaE (gC G 0) 80, iaE (gC G 0) 80, iaE (gC G 0) 80, iaE (gC G 0) 48, iaE (gC G 0) 8, iaE (gC G 0) 5,
  obE (gA G) 2 (fsPlan 19),
  iaE (gC G 0) 80, iaE (gC G 0) 80, iaE (gC G 0) 80, iaE (gC G 0) 48, iaE (gC G 0) 8, iaE (gC G 0) 5,
  obE (gA G) 1 fsFill,
  iaE (gC G 0) 8, iaE (gC G 0) 8, iaE (gC G 0) 5, iaE (gC G 0) 8,
  obE (gA G) 0 fsBnd,
  iaE (gC G 0) 5, iaE (gC G 0) 8, iaE (gC G 0) 8, iaE (gC G 0) 8, iaE (gC G 0) 256,
  obE (gA G) 5 fsMod,
  iaE (gC G 0) 8, iaE (gC G 0) 8, iaE (gC G 0) 8, iaE (gC G 0) 8, iaE (gC G 0) 48, iaE (gC G 0) 48, iaE (gC G 1) 48, iaE (gC G 0) 320, iaE (gC G 0) 5, iaE (gC G 0) 240, iaE (gC G 0) 48, iaE (gC G 0) 8, iaE (gC G 1) 48, iaE (gC G 0) 48, iaE (gC G 0) 48, iaE (gC G 0) 48, iaE (gC G 0) 48, iaE (gC G 0) 256,
  laE (gC G 2) 1]
def shw (G : GG) (k : Nat) : (Int → Int) → va_E := (shl G).getD k (iaE (gC G 0) 48)
def WS (G : GG) (σ : Mem) : va_W := (List.range (57 + gM G)).map (fun (k : Nat) => (gA G (k : Int), shw G k (σ (k : Int))))
theorem WS_get (G : GG) (σ : Mem) {k : Nat} (h : k < 57 + gM G) : (WS G σ)[k]? = some (gA G k, shw G k (σ k)) := by
  simp [WS, h]
theorem WS_set (G : GG) (σ σ' : Mem) {k : Nat} (h : ∀ j : Nat, j ≠ k → σ' j = σ j) {e : va_E} (he : e = shw G k (σ' k)) : (WS G σ).set k (gA G k, e) = WS G σ' := by
  subst he
  apply List.ext_getElem?
  intro j
  by_cases hj : j < 57 + gM G
  · rw [WS_get G σ' hj]
    by_cases e : j = k
    · subst e
      rw [List.getElem?_set_self (by simp [WS]; exact hj)]
    · rw [List.getElem?_set_ne (fun q => e q.symm), WS_get G σ hj, h j e]
  · rw [List.getElem?_eq_none (by simp [WS]; omega), List.getElem?_eq_none (by simp [WS]; omega)]
def GI (G : GG) : Prop := gM G ≤ 5 ∧ ∀ i j : Nat, i < 57 + gM G → j < 57 + gM G → gA G i = gA G j → i = j
def AA (G : GG) : Nat → Prop := fun q => ∃ k : Nat, k < 57 + gM G ∧ q = gA G k
theorem WS_D {G : GG} (hG : GI G) (σ : Mem) {A : Nat → Prop} (hA : ∀ q, AA G q → A q) : va_D A (WS G σ) := by
  have key : ∀ (i : Nat) (p : Nat × va_E), (WS G σ)[i]? = some p → i < 57 + gM G ∧ p.1 = gA G i := by
    intro i p h
    by_cases hi : i < 57 + gM G
    · rw [WS_get G σ hi] at h
      cases h
      exact ⟨hi, rfl⟩
    · rw [List.getElem?_eq_none (by simp [WS]; omega)] at h
      cases h
  refine ⟨fun i j p q hp hq e => ?_, fun k q h => ?_⟩
  · obtain ⟨h1, h2⟩ := key i p hp
    obtain ⟨h3, h4⟩ := key j q hq
    exact hG.2 i j h1 h3 (by rw [← h2, ← h4, e])
  · obtain ⟨h1, h2⟩ := key k q h
    exact hA _ ⟨k, h1, h2⟩
def tyG (G : GG) : List (ClassId × FieldType) := [(gC G 0, .int), (gC G 1, .boolean), (gC G 2, .long), (gC G 3, .array .int)]
def up (σ : Mem) (c i v : Int) : Mem := fun c' i' => if c' = c ∧ i' = i then v else σ c' i'
theorem up_self (σ : Mem) (c i v : Int) : up σ c i v c i = v := by simp [up]
theorem up_other (σ : Mem) {c c' : Int} (i v : Int) (h : c' ≠ c) : up σ c i v c' = σ c' := by funext j; simp [up, h]
theorem up_ne (σ : Mem) {c c' i i' : Int} (v : Int) (h : c' ≠ c ∨ i' ≠ i) : up σ c i v c' i' = σ c' i' := by
  unfold up
  rw [if_neg]
  rintro ⟨a, b⟩
  rcases h with h | h
  · exact h a
  · exact h b
def IsIA (G : GG) (c : Int) (n : Nat) : Prop := ∃ k : Nat, c = k ∧ k < 57 + gM G ∧ shw G k = iaE (gC G 0) n ∧ n < 2147483648
def IsBA (G : GG) (c : Int) (n : Nat) : Prop := ∃ k : Nat, c = k ∧ k < 57 + gM G ∧ shw G k = iaE (gC G 1) n ∧ n < 2147483648
def IsLA (G : GG) (c : Int) (n : Nat) : Prop := ∃ k : Nat, c = k ∧ k < 57 + gM G ∧ shw G k = laE (gC G 2) n ∧ n < 2147483648
def IsRA (G : GG) (c : Int) : Prop := ∃ k : Nat, c = k ∧ k < 57 + gM G ∧ shw G k = raE (gC G 3) (gM G) (gA G) ∧ gM G < 2147483648
def IsOb (G : GG) (c : Int) (ci : Nat) (fs : List (Option Int)) : Prop := ∃ k : Nat, c = k ∧ k < 57 + gM G ∧ shw G k = obE (gA G) ci fs
/-! the machine's judgement over that world -/
abbrev XX : Type := (Program × Launch × Env × Room × State) × (MethodId × Array Value × List Frame × Method × Code) × (Nat → Prop) × Nat × Nat
def den (ad : Int → Nat) (v : PV) : Value := match v with
  | .inl z => .int (oI z)
  | .inr (.inl z) => .long (oL z)
  | .inr (.inr c) => .ref (ad c)
abbrev dens (ad : Int → Nat) (st : List PV) : List Value := st.map (den ad)
def denl (ad : Int → Nat) (lv : List (Nat × PV)) : List (Nat × Value) := lv.map (fun q => (q.1, den ad q.2))
def TB : List Cond := lw_tbl.filter goodWord
theorem TB_of {w : Cond} (i : Nat) (h : lw_tbl[i]? = some w) (g : goodWord w = true) : w ∈ TB := List.mem_filter.mpr ⟨List.mem_of_getElem? h, g⟩
def RW (G : GG) (X : XX) (nL : Nat) (Q : State → Prop) (pc : Nat) (lv : List (Nat × PV)) (st : List PV) (σ : Mem) : Prop := match X with
  | ((p, l, e, R, s), (m, args, below, meth, c), A0, ce, sl) => ∀ (H : Heap) (locs : List Loc) (ls : Array Slot), va_P (gD G) vwCl (WS G σ) H → va_S A0 s.heap H locs → lv_has ls nL (denl (gA G) lv) → W p l e R s m args below meth c H locs ce sl Q (F0 m pc ls (dens (gA G) st))
def CX (G : GG) (X : XX) (cc : ByteArray) (own : String) (nL : Nat) (ret : Option FieldType) (lev : Nat) : Prop := match X with
  | ((p, l, e, R, s), (m, args, below, meth, c), A0, ce, sl) => p.tables.exec = Jvm.exec ∧ c.code = cc ∧ c.maxLocals = nL ∧ s.vm.findClass own = some m.cls ∧ (∀ w ∈ TB, w.before args s = true) ∧ va_K (gD G) vwCl (tyG G) s ∧ GI G ∧ (∀ q, AA G q → A0 q) ∧ meth.locks = false ∧ meth.sig.returnType = ret ∧ (lev + 1 ≤ R.frames ∧ 34 * (lev + 1) ≤ R.locals ∧ ce ≤ R.cells ∧ sl ≤ R.slots)
def xL (X : XX) : Launch := X.1.2.1
theorem denl_get {ad : Int → Nat} {lv : List (Nat × PV)} {k i : Nat} {v : PV} (h : lv[k]? = some (i, v)) : (denl ad lv)[k]? = some (i, den ad v) := by
  simp [denl, h]
def isLg (v : PV) : Bool := match v with
  | .inr (.inl _) => true
  | _ => false
theorem den_cat (ad : Int → Nat) (v : PV) : ((den ad v).category == 2) = isLg v := by
  rcases v with z | z | z <;> rfl
def stoI (lv : List (Nat × PV)) (i : Nat) (v : PV) : List (Nat × PV) := (i, v) :: lv.filter (fun q => !(q.1 == i) && !(q.1 + 1 == i && isLg q.2))
def stoL (lv : List (Nat × PV)) (i : Nat) (v : PV) : List (Nat × PV) := (i, v) :: lv.filter (fun q => !(q.1 == i) && (!(q.1 == i + 1) && !(q.1 + 1 == i && isLg q.2)))
theorem denl_stoI (ad : Int → Nat) (lv : List (Nat × PV)) (i : Nat) (v : PV) : denl ad (stoI lv i v) = (i, den ad v) :: (denl ad lv).filter (fun q => !(q.1 == i) && !(q.1 + 1 == i && q.2.category == 2)) := by
  unfold denl stoI
  rw [List.map_cons, List.filter_map]
  congr 3
  funext q
  show _ = (!(q.1 == i) && !(q.1 + 1 == i && (den ad q.2).category == 2))
  rw [den_cat]
theorem denl_stoL (ad : Int → Nat) (lv : List (Nat × PV)) (i : Nat) (v : PV) : denl ad (stoL lv i v) = (i, den ad v) :: (denl ad lv).filter (fun q => !(q.1 == i) && (!(q.1 == i + 1) && !(q.1 + 1 == i && q.2.category == 2))) := by
  unfold denl stoL
  rw [List.map_cons, List.filter_map]
  congr 3
  funext q
  show _ = (!(q.1 == i) && (!(q.1 == i + 1) && !(q.1 + 1 == i && (den ad q.2).category == 2)))
  rw [den_cat]
end
section
section RWROWS
variable {G : GG} {X : XX} {cc : ByteArray} {own : String} {nL lev : Nat} {ret : Option FieldType} {Q : State → Prop} {pc : Nat} {lv : List (Nat × PV)} {st : List PV} {σ : Mem}
theorem w_iconst (C : CX G X cc own nL ret lev) {n : Int} (hd : decode cc pc = .ok (.iconst n, 1)) (kk : RW G X nL Q (pc + 1) lv (pI n :: st) σ) : RW G X nL Q pc lv (st) σ := by
  obtain ⟨⟨p, l, e, R, s⟩, ⟨m, args, below, meth, c⟩, A0, ce, sl⟩ := X
  obtain ⟨hx, hb, hml, hown, hts, hK, hG, hAA, hlocks, hr, hR⟩ := C
  intro H locs ls hP hS hl
  exact lv_iconst hx hb hd rfl (kk H locs ls hP hS hl)
theorem w_bipush (C : CX G X cc own nL ret lev) {n : Int} (hd : decode cc pc = .ok (.bipush n, 2)) (hn : (Int8.ofInt n).toInt32 = Int32.ofInt n) (kk : RW G X nL Q (pc + 2) lv (pI n :: st) σ) : RW G X nL Q pc lv (st) σ := by
  obtain ⟨⟨p, l, e, R, s⟩, ⟨m, args, below, meth, c⟩, A0, ce, sl⟩ := X
  obtain ⟨hx, hb, hml, hown, hts, hK, hG, hAA, hlocks, hr, hR⟩ := C
  intro H locs ls hP hS hl
  exact lv_bipush hx hb hd hn (kk H locs ls hP hS hl)
theorem w_sipush (C : CX G X cc own nL ret lev) {n : Int} (hd : decode cc pc = .ok (.sipush n, 3)) (hn : (Int16.ofInt n).toInt32 = Int32.ofInt n) (kk : RW G X nL Q (pc + 3) lv (pI n :: st) σ) : RW G X nL Q pc lv (st) σ := by
  obtain ⟨⟨p, l, e, R, s⟩, ⟨m, args, below, meth, c⟩, A0, ce, sl⟩ := X
  obtain ⟨hx, hb, hml, hown, hts, hK, hG, hAA, hlocks, hr, hR⟩ := C
  intro H locs ls hP hS hl
  exact lv_sipush hx hb hd hn (kk H locs ls hP hS hl)
theorem w_ldc (C : CX G X cc own nL ret lev) {i : Nat} {n : Int} (hd : decode cc pc = .ok (.ldc i, 2)) (hw : Cond.constant own i (Int32.ofInt n) ∈ TB) (kk : RW G X nL Q (pc + 2) lv (pI n :: st) σ) : RW G X nL Q pc lv (st) σ := by
  obtain ⟨⟨p, l, e, R, s⟩, ⟨m, args, below, meth, c⟩, A0, ce, sl⟩ := X
  obtain ⟨hx, hb, hml, hown, hts, hK, hG, hAA, hlocks, hr, hR⟩ := C
  intro H locs ls hP hS hl
  exact lv_ldc hx hb hown (hts _ hw) hd (kk H locs ls hP hS hl)
theorem w_ldc2 (C : CX G X cc own nL ret lev) {i : Nat} {n : Int} (hd : decode cc pc = .ok (.ldc2_w i, 3)) (hw : Cond.constantLong own i (Int64.ofInt n) ∈ TB) (kk : RW G X nL Q (pc + 3) lv (pL n :: st) σ) : RW G X nL Q pc lv (st) σ := by
  obtain ⟨⟨p, l, e, R, s⟩, ⟨m, args, below, meth, c⟩, A0, ce, sl⟩ := X
  obtain ⟨hx, hb, hml, hown, hts, hK, hG, hAA, hlocks, hr, hR⟩ := C
  intro H locs ls hP hS hl
  exact lv_ldc2 hx hb hown (hts _ hw) hd (kk H locs ls hP hS hl)
theorem w_lconst (C : CX G X cc own nL ret lev) {n : Fin 2} {z : Int} (hd : decode cc pc = .ok (.lconst n, 1)) (hn : Int64.ofNat (n : Nat) = Int64.ofInt z) (kk : RW G X nL Q (pc + 1) lv (pL z :: st) σ) : RW G X nL Q pc lv (st) σ := by
  obtain ⟨⟨p, l, e, R, s⟩, ⟨m, args, below, meth, c⟩, A0, ce, sl⟩ := X
  obtain ⟨hx, hb, hml, hown, hts, hK, hG, hAA, hlocks, hr, hR⟩ := C
  intro H locs ls hP hS hl
  exact lv_lconst hx hb hd hn (kk H locs ls hP hS hl)
theorem w_iload (C : CX G X cc own nL ret lev) {i : Nat} (k : Nat) {x : Int} (hd : decode cc pc = .ok (.iload i, 2)) (hk : lv[k]? = some (i, pI x)) (kk : RW G X nL Q (pc + 2) lv (pI x :: st) σ) : RW G X nL Q pc lv (st) σ := by
  obtain ⟨⟨p, l, e, R, s⟩, ⟨m, args, below, meth, c⟩, A0, ce, sl⟩ := X
  obtain ⟨hx, hb, hml, hown, hts, hK, hG, hAA, hlocks, hr, hR⟩ := C
  intro H locs ls hP hS hl
  exact lv_iload hx hb hd (lv_at hl k (denl_get hk)) (kk H locs ls hP hS hl)
theorem w_iload_n (C : CX G X cc own nL ret lev) {j : Fin 4} (k : Nat) {x : Int} (hd : decode cc pc = .ok (.iload_n j, 1)) (hk : lv[k]? = some ((j : Nat), pI x)) (kk : RW G X nL Q (pc + 1) lv (pI x :: st) σ) : RW G X nL Q pc lv (st) σ := by
  obtain ⟨⟨p, l, e, R, s⟩, ⟨m, args, below, meth, c⟩, A0, ce, sl⟩ := X
  obtain ⟨hx, hb, hml, hown, hts, hK, hG, hAA, hlocks, hr, hR⟩ := C
  intro H locs ls hP hS hl
  exact lv_iload_n hx hb hd rfl (lv_at hl k (denl_get hk)) (kk H locs ls hP hS hl)
theorem w_aload (C : CX G X cc own nL ret lev) {i : Nat} (k : Nat) {x : Int} (hd : decode cc pc = .ok (.aload i, 2)) (hk : lv[k]? = some (i, pR x)) (kk : RW G X nL Q (pc + 2) lv (pR x :: st) σ) : RW G X nL Q pc lv (st) σ := by
  obtain ⟨⟨p, l, e, R, s⟩, ⟨m, args, below, meth, c⟩, A0, ce, sl⟩ := X
  obtain ⟨hx, hb, hml, hown, hts, hK, hG, hAA, hlocks, hr, hR⟩ := C
  intro H locs ls hP hS hl
  exact lv_aload hx hb hd (lv_at hl k (denl_get hk)) (kk H locs ls hP hS hl)
theorem w_aload_n (C : CX G X cc own nL ret lev) {j : Fin 4} (k : Nat) {x : Int} (hd : decode cc pc = .ok (.aload_n j, 1)) (hk : lv[k]? = some ((j : Nat), pR x)) (kk : RW G X nL Q (pc + 1) lv (pR x :: st) σ) : RW G X nL Q pc lv (st) σ := by
  obtain ⟨⟨p, l, e, R, s⟩, ⟨m, args, below, meth, c⟩, A0, ce, sl⟩ := X
  obtain ⟨hx, hb, hml, hown, hts, hK, hG, hAA, hlocks, hr, hR⟩ := C
  intro H locs ls hP hS hl
  exact lv_aload_n hx hb hd rfl (lv_at hl k (denl_get hk)) (kk H locs ls hP hS hl)
theorem w_lload (C : CX G X cc own nL ret lev) {i : Nat} (k : Nat) {x : Int} (hd : decode cc pc = .ok (.lload i, 2)) (hk : lv[k]? = some (i, pL x)) (kk : RW G X nL Q (pc + 2) lv (pL x :: st) σ) : RW G X nL Q pc lv (st) σ := by
  obtain ⟨⟨p, l, e, R, s⟩, ⟨m, args, below, meth, c⟩, A0, ce, sl⟩ := X
  obtain ⟨hx, hb, hml, hown, hts, hK, hG, hAA, hlocks, hr, hR⟩ := C
  intro H locs ls hP hS hl
  exact lv_lload hx hb hd (lv_at hl k (denl_get hk)) (kk H locs ls hP hS hl)
theorem w_lload_n (C : CX G X cc own nL ret lev) {j : Fin 4} (k : Nat) {x : Int} (hd : decode cc pc = .ok (.lload_n j, 1)) (hk : lv[k]? = some ((j : Nat), pL x)) (kk : RW G X nL Q (pc + 1) lv (pL x :: st) σ) : RW G X nL Q pc lv (st) σ := by
  obtain ⟨⟨p, l, e, R, s⟩, ⟨m, args, below, meth, c⟩, A0, ce, sl⟩ := X
  obtain ⟨hx, hb, hml, hown, hts, hK, hG, hAA, hlocks, hr, hR⟩ := C
  intro H locs ls hP hS hl
  exact lv_lload_n hx hb hd rfl (lv_at hl k (denl_get hk)) (kk H locs ls hP hS hl)
theorem w_istore (C : CX G X cc own nL ret lev) {i : Nat} {x : Int} (lv' : List (Nat × PV)) (hd : decode cc pc = .ok (.istore i, 2)) (hn : i < nL) (hv : stoI lv i (pI x) = lv') (kk : RW G X nL Q (pc + 2) lv' (st) σ) : RW G X nL Q pc lv (pI x :: st) σ := by
  obtain ⟨⟨p, l, e, R, s⟩, ⟨m, args, below, meth, c⟩, A0, ce, sl⟩ := X
  obtain ⟨hx, hb, hml, hown, hts, hK, hG, hAA, hlocks, hr, hR⟩ := C
  intro H locs ls hP hS hl
  exact lv_istore hx hb hd hl hn (by rw [← hv]; exact (denl_stoI (gA G) lv i (pI x)).symm) (fun ls' hl' => kk H locs ls' hP hS hl')
theorem w_istore_n (C : CX G X cc own nL ret lev) {j : Fin 4} {x : Int} (lv' : List (Nat × PV)) (hd : decode cc pc = .ok (.istore_n j, 1)) (hn : (j : Nat) < nL) (hv : stoI lv j (pI x) = lv') (kk : RW G X nL Q (pc + 1) lv' (st) σ) : RW G X nL Q pc lv (pI x :: st) σ := by
  obtain ⟨⟨p, l, e, R, s⟩, ⟨m, args, below, meth, c⟩, A0, ce, sl⟩ := X
  obtain ⟨hx, hb, hml, hown, hts, hK, hG, hAA, hlocks, hr, hR⟩ := C
  intro H locs ls hP hS hl
  exact lv_istore_n hx hb hd rfl hl hn (by rw [← hv]; exact (denl_stoI (gA G) lv j (pI x)).symm) (fun ls' hl' => kk H locs ls' hP hS hl')
theorem w_astore (C : CX G X cc own nL ret lev) {i : Nat} {x : Int} (lv' : List (Nat × PV)) (hd : decode cc pc = .ok (.astore i, 2)) (hn : i < nL) (hv : stoI lv i (pR x) = lv') (kk : RW G X nL Q (pc + 2) lv' (st) σ) : RW G X nL Q pc lv (pR x :: st) σ := by
  obtain ⟨⟨p, l, e, R, s⟩, ⟨m, args, below, meth, c⟩, A0, ce, sl⟩ := X
  obtain ⟨hx, hb, hml, hown, hts, hK, hG, hAA, hlocks, hr, hR⟩ := C
  intro H locs ls hP hS hl
  exact lv_astore hx hb hd hl hn (by rw [← hv]; exact (denl_stoI (gA G) lv i (pR x)).symm) (fun ls' hl' => kk H locs ls' hP hS hl')
theorem w_astore_n (C : CX G X cc own nL ret lev) {j : Fin 4} {x : Int} (lv' : List (Nat × PV)) (hd : decode cc pc = .ok (.astore_n j, 1)) (hn : (j : Nat) < nL) (hv : stoI lv j (pR x) = lv') (kk : RW G X nL Q (pc + 1) lv' (st) σ) : RW G X nL Q pc lv (pR x :: st) σ := by
  obtain ⟨⟨p, l, e, R, s⟩, ⟨m, args, below, meth, c⟩, A0, ce, sl⟩ := X
  obtain ⟨hx, hb, hml, hown, hts, hK, hG, hAA, hlocks, hr, hR⟩ := C
  intro H locs ls hP hS hl
  exact lv_astore_n hx hb hd rfl hl hn (by rw [← hv]; exact (denl_stoI (gA G) lv j (pR x)).symm) (fun ls' hl' => kk H locs ls' hP hS hl')
theorem w_lstore (C : CX G X cc own nL ret lev) {i : Nat} {x : Int} (lv' : List (Nat × PV)) (hd : decode cc pc = .ok (.lstore i, 2)) (hn : i + 1 < nL) (hv : stoL lv i (pL x) = lv') (kk : RW G X nL Q (pc + 2) lv' (st) σ) : RW G X nL Q pc lv (pL x :: st) σ := by
  obtain ⟨⟨p, l, e, R, s⟩, ⟨m, args, below, meth, c⟩, A0, ce, sl⟩ := X
  obtain ⟨hx, hb, hml, hown, hts, hK, hG, hAA, hlocks, hr, hR⟩ := C
  intro H locs ls hP hS hl
  exact lv_lstore hx hb hd hl hn (by rw [← hv]; exact (denl_stoL (gA G) lv i (pL x)).symm) (fun ls' hl' => kk H locs ls' hP hS hl')
theorem w_lstore_n (C : CX G X cc own nL ret lev) {j : Fin 4} {x : Int} (lv' : List (Nat × PV)) (hd : decode cc pc = .ok (.lstore_n j, 1)) (hn : (j : Nat) + 1 < nL) (hv : stoL lv j (pL x) = lv') (kk : RW G X nL Q (pc + 1) lv' (st) σ) : RW G X nL Q pc lv (pL x :: st) σ := by
  obtain ⟨⟨p, l, e, R, s⟩, ⟨m, args, below, meth, c⟩, A0, ce, sl⟩ := X
  obtain ⟨hx, hb, hml, hown, hts, hK, hG, hAA, hlocks, hr, hR⟩ := C
  intro H locs ls hP hS hl
  exact lv_lstore_n hx hb hd rfl hl hn (by rw [← hv]; exact (denl_stoL (gA G) lv j (pL x)).symm) (fun ls' hl' => kk H locs ls' hP hS hl')
theorem w_iinc (C : CX G X cc own nL ret lev) {i : Nat} {n x : Int} (k : Nat) (lv' : List (Nat × PV)) (hd : decode cc pc = .ok (.iinc i n, 3)) (hk : lv[k]? = some (i, pI x)) (hn : i < nL) (hv : stoI lv i (pI (x + n)) = lv') (kk : RW G X nL Q (pc + 3) lv' (st) σ) : RW G X nL Q pc lv (st) σ := by
  obtain ⟨⟨p, l, e, R, s⟩, ⟨m, args, below, meth, c⟩, A0, ce, sl⟩ := X
  obtain ⟨hx, hb, hml, hown, hts, hK, hG, hAA, hlocks, hr, hR⟩ := C
  intro H locs ls hP hS hl
  exact lv_iinc hx hb hd hl (denl_get hk) (show oI x + oI n = oI (x + n) from oI_add x n) hn (by rw [← hv]; exact (denl_stoI (gA G) lv i (pI (x + n))).symm) (fun ls' hl' => kk H locs ls' hP hS hl')
theorem den_cat1 {ad : Int → Nat} {v : PV} (h : isLg v = false) : (den ad v).category = 1 := by
  rcases v with z | z | z
  · rfl
  · cases h
  · rfl
theorem w_dup (C : CX G X cc own nL ret lev) {v : PV} (hd : decode cc pc = .ok (.dup, 1)) (hv : isLg v = false) (kk : RW G X nL Q (pc + 1) lv (v :: v :: st) σ) : RW G X nL Q pc lv (v :: st) σ := by
  obtain ⟨⟨p, l, e, R, s⟩, ⟨m, args, below, meth, c⟩, A0, ce, sl⟩ := X
  obtain ⟨hx, hb, hml, hown, hts, hK, hG, hAA, hlocks, hr, hR⟩ := C
  intro H locs ls hP hS hl
  exact lv_dup hx hb hd (den_cat1 hv) (kk H locs ls hP hS hl)
theorem w_dup2 (C : CX G X cc own nL ret lev) {v w : PV} (hd : decode cc pc = .ok (.dup2, 1)) (hv : isLg v = false) (hw : isLg w = false) (kk : RW G X nL Q (pc + 1) lv (v :: w :: v :: w :: st) σ) : RW G X nL Q pc lv (v :: w :: st) σ := by
  obtain ⟨⟨p, l, e, R, s⟩, ⟨m, args, below, meth, c⟩, A0, ce, sl⟩ := X
  obtain ⟨hx, hb, hml, hown, hts, hK, hG, hAA, hlocks, hr, hR⟩ := C
  intro H locs ls hP hS hl
  exact lv_dup2_11 hx hb hd (den_cat1 hv) (den_cat1 hw) (kk H locs ls hP hS hl)
theorem w_dup_x1 (C : CX G X cc own nL ret lev) {v w : PV} (hd : decode cc pc = .ok (.dup_x1, 1)) (hv : isLg v = false) (hw : isLg w = false) (kk : RW G X nL Q (pc + 1) lv (v :: w :: v :: st) σ) : RW G X nL Q pc lv (v :: w :: st) σ := by
  obtain ⟨⟨p, l, e, R, s⟩, ⟨m, args, below, meth, c⟩, A0, ce, sl⟩ := X
  obtain ⟨hx, hb, hml, hown, hts, hK, hG, hAA, hlocks, hr, hR⟩ := C
  intro H locs ls hP hS hl
  exact lv_dup_x1 hx hb hd (den_cat1 hv) (den_cat1 hw) (kk H locs ls hP hS hl)
theorem w_dup_x2 (C : CX G X cc own nL ret lev) {v w u : PV} (hd : decode cc pc = .ok (.dup_x2, 1)) (hv : isLg v = false) (hw : isLg w = false) (hu : isLg u = false) (kk : RW G X nL Q (pc + 1) lv (v :: w :: u :: v :: st) σ) : RW G X nL Q pc lv (v :: w :: u :: st) σ := by
  obtain ⟨⟨p, l, e, R, s⟩, ⟨m, args, below, meth, c⟩, A0, ce, sl⟩ := X
  obtain ⟨hx, hb, hml, hown, hts, hK, hG, hAA, hlocks, hr, hR⟩ := C
  intro H locs ls hP hS hl
  exact lv_dup_x2 hx hb hd (den_cat1 hv) (den_cat1 hw) (den_cat1 hu) (kk H locs ls hP hS hl)
theorem w_iadd (C : CX G X cc own nL ret lev) {a b : Int} (hd : decode cc pc = .ok (.iadd, 1)) (kk : RW G X nL Q (pc + 1) lv (pI (a + b) :: st) σ) : RW G X nL Q pc lv (pI b :: pI a :: st) σ := by
  obtain ⟨⟨p, l, e, R, s⟩, ⟨m, args, below, meth, c⟩, A0, ce, sl⟩ := X
  obtain ⟨hx, hb, hml, hown, hts, hK, hG, hAA, hlocks, hr, hR⟩ := C
  intro H locs ls hP hS hl
  have k := kk H locs ls hP hS hl
  exact lv_iadd hx hb hd (by rw [oI_add]; exact k)
theorem w_isub (C : CX G X cc own nL ret lev) {a b : Int} (hd : decode cc pc = .ok (.isub, 1)) (kk : RW G X nL Q (pc + 1) lv (pI (a - b) :: st) σ) : RW G X nL Q pc lv (pI b :: pI a :: st) σ := by
  obtain ⟨⟨p, l, e, R, s⟩, ⟨m, args, below, meth, c⟩, A0, ce, sl⟩ := X
  obtain ⟨hx, hb, hml, hown, hts, hK, hG, hAA, hlocks, hr, hR⟩ := C
  intro H locs ls hP hS hl
  have k := kk H locs ls hP hS hl
  exact lv_isub hx hb hd (by rw [oI_sub]; exact k)
theorem w_imul (C : CX G X cc own nL ret lev) {a b : Int} (hd : decode cc pc = .ok (.imul, 1)) (kk : RW G X nL Q (pc + 1) lv (pI (a * b) :: st) σ) : RW G X nL Q pc lv (pI b :: pI a :: st) σ := by
  obtain ⟨⟨p, l, e, R, s⟩, ⟨m, args, below, meth, c⟩, A0, ce, sl⟩ := X
  obtain ⟨hx, hb, hml, hown, hts, hK, hG, hAA, hlocks, hr, hR⟩ := C
  intro H locs ls hP hS hl
  have k := kk H locs ls hP hS hl
  exact lv_imul hx hb hd (by rw [oI_mul]; exact k)
theorem w_ineg (C : CX G X cc own nL ret lev) {a : Int} (hd : decode cc pc = .ok (.ineg, 1)) (kk : RW G X nL Q (pc + 1) lv (pI (-a) :: st) σ) : RW G X nL Q pc lv (pI a :: st) σ := by
  obtain ⟨⟨p, l, e, R, s⟩, ⟨m, args, below, meth, c⟩, A0, ce, sl⟩ := X
  obtain ⟨hx, hb, hml, hown, hts, hK, hG, hAA, hlocks, hr, hR⟩ := C
  intro H locs ls hP hS hl
  have k := kk H locs ls hP hS hl
  exact lv_ineg hx hb hd (by rw [oI_neg]; exact k)
theorem oI_ne0 {b : Int} (hb : inR b) (h : 0 < b) : ¬ oI b = 0 := fun q => by
  have := (oI_eq hb (show inR 0 from ⟨by omega, by omega⟩)).mp q
  omega
theorem w_idiv (C : CX G X cc own nL ret lev) {a b : Int} (hd : decode cc pc = .ok (.idiv, 1)) (ha : inR a) (hb' : inR b) (h0 : 0 < b) (kk : RW G X nL Q (pc + 1) lv (pI (a.tdiv b) :: st) σ) : RW G X nL Q pc lv (pI b :: pI a :: st) σ := by
  obtain ⟨⟨p, l, e, R, s⟩, ⟨m, args, below, meth, c⟩, A0, ce, sl⟩ := X
  obtain ⟨hx, hb, hml, hown, hts, hK, hG, hAA, hlocks, hr, hR⟩ := C
  intro H locs ls hP hS hl
  have k := kk H locs ls hP hS hl
  exact lv_idiv hx hb hd (oI_ne0 hb' h0) (by rw [oI_div ha hb' h0]; exact k)
theorem w_irem (C : CX G X cc own nL ret lev) {a b : Int} (hd : decode cc pc = .ok (.irem, 1)) (ha : inR a) (hb' : inR b) (h0 : 0 < b) (kk : RW G X nL Q (pc + 1) lv (pI (a.tmod b) :: st) σ) : RW G X nL Q pc lv (pI b :: pI a :: st) σ := by
  obtain ⟨⟨p, l, e, R, s⟩, ⟨m, args, below, meth, c⟩, A0, ce, sl⟩ := X
  obtain ⟨hx, hb, hml, hown, hts, hK, hG, hAA, hlocks, hr, hR⟩ := C
  intro H locs ls hP hS hl
  have k := kk H locs ls hP hS hl
  exact lv_irem hx hb hd (oI_ne0 hb' h0) (by rw [oI_rem ha hb' h0]; exact k)
def bAnd (a b : Int) : Int := (oI a &&& oI b).toInt
def bOr (a b : Int) : Int := (oI a ||| oI b).toInt
def bXor (a b : Int) : Int := (oI a ^^^ oI b).toInt
def bShl (a b : Int) : Int := (oI a <<< (oI b &&& 31)).toInt
def bShr (a b : Int) : Int := (oI a >>> (oI b &&& 31)).toInt
theorem w_iand (C : CX G X cc own nL ret lev) {a b : Int} (hd : decode cc pc = .ok (.iand, 1)) (kk : RW G X nL Q (pc + 1) lv (pI (bAnd a b) :: st) σ) : RW G X nL Q pc lv (pI b :: pI a :: st) σ := by
  obtain ⟨⟨p, l, e, R, s⟩, ⟨m, args, below, meth, c⟩, A0, ce, sl⟩ := X
  obtain ⟨hx, hb, hml, hown, hts, hK, hG, hAA, hlocks, hr, hR⟩ := C
  intro H locs ls hP hS hl
  have k : W p l e R s m args below meth c H locs ce sl Q (F0 m (pc + 1) ls (.int (oI (bAnd a b)) :: dens (gA G) st)) := kk H locs ls hP hS hl
  rw [bAnd, oI_of] at k
  exact lv_iand hx hb hd k
theorem w_ior (C : CX G X cc own nL ret lev) {a b : Int} (hd : decode cc pc = .ok (.ior, 1)) (kk : RW G X nL Q (pc + 1) lv (pI (bOr a b) :: st) σ) : RW G X nL Q pc lv (pI b :: pI a :: st) σ := by
  obtain ⟨⟨p, l, e, R, s⟩, ⟨m, args, below, meth, c⟩, A0, ce, sl⟩ := X
  obtain ⟨hx, hb, hml, hown, hts, hK, hG, hAA, hlocks, hr, hR⟩ := C
  intro H locs ls hP hS hl
  have k : W p l e R s m args below meth c H locs ce sl Q (F0 m (pc + 1) ls (.int (oI (bOr a b)) :: dens (gA G) st)) := kk H locs ls hP hS hl
  rw [bOr, oI_of] at k
  exact lv_ior hx hb hd k
theorem w_ixor (C : CX G X cc own nL ret lev) {a b : Int} (hd : decode cc pc = .ok (.ixor, 1)) (kk : RW G X nL Q (pc + 1) lv (pI (bXor a b) :: st) σ) : RW G X nL Q pc lv (pI b :: pI a :: st) σ := by
  obtain ⟨⟨p, l, e, R, s⟩, ⟨m, args, below, meth, c⟩, A0, ce, sl⟩ := X
  obtain ⟨hx, hb, hml, hown, hts, hK, hG, hAA, hlocks, hr, hR⟩ := C
  intro H locs ls hP hS hl
  have k : W p l e R s m args below meth c H locs ce sl Q (F0 m (pc + 1) ls (.int (oI (bXor a b)) :: dens (gA G) st)) := kk H locs ls hP hS hl
  rw [bXor, oI_of] at k
  exact lv_ixor hx hb hd k
theorem w_ishl (C : CX G X cc own nL ret lev) {a b : Int} (hd : decode cc pc = .ok (.ishl, 1)) (kk : RW G X nL Q (pc + 1) lv (pI (bShl a b) :: st) σ) : RW G X nL Q pc lv (pI b :: pI a :: st) σ := by
  obtain ⟨⟨p, l, e, R, s⟩, ⟨m, args, below, meth, c⟩, A0, ce, sl⟩ := X
  obtain ⟨hx, hb, hml, hown, hts, hK, hG, hAA, hlocks, hr, hR⟩ := C
  intro H locs ls hP hS hl
  have k : W p l e R s m args below meth c H locs ce sl Q (F0 m (pc + 1) ls (.int (oI (bShl a b)) :: dens (gA G) st)) := kk H locs ls hP hS hl
  rw [bShl, oI_of] at k
  exact lv_ishl hx hb hd k
theorem w_ishr (C : CX G X cc own nL ret lev) {a b : Int} (hd : decode cc pc = .ok (.ishr, 1)) (kk : RW G X nL Q (pc + 1) lv (pI (bShr a b) :: st) σ) : RW G X nL Q pc lv (pI b :: pI a :: st) σ := by
  obtain ⟨⟨p, l, e, R, s⟩, ⟨m, args, below, meth, c⟩, A0, ce, sl⟩ := X
  obtain ⟨hx, hb, hml, hown, hts, hK, hG, hAA, hlocks, hr, hR⟩ := C
  intro H locs ls hP hS hl
  have k : W p l e R s m args below meth c H locs ce sl Q (F0 m (pc + 1) ls (.int (oI (bShr a b)) :: dens (gA G) st)) := kk H locs ls hP hS hl
  rw [bShr, oI_of] at k
  exact lv_ishr hx hb hd k
theorem oI_l {a : Int} (ha : inR a) : (oI a).toInt64 = oL a := by
  apply Int64.toInt.inj
  rw [Int32.toInt_toInt64, oI_toInt ha, oL_toInt ⟨by have := ha.1; omega, by have := ha.2; omega⟩]
theorem w_i2l (C : CX G X cc own nL ret lev) {a : Int} (hd : decode cc pc = .ok (.i2l, 1)) (ha : inR a) (kk : RW G X nL Q (pc + 1) lv (pL a :: st) σ) : RW G X nL Q pc lv (pI a :: st) σ := by
  obtain ⟨⟨p, l, e, R, s⟩, ⟨m, args, below, meth, c⟩, A0, ce, sl⟩ := X
  obtain ⟨hx, hb, hml, hown, hts, hK, hG, hAA, hlocks, hr, hR⟩ := C
  intro H locs ls hP hS hl
  exact lv_i2l hx hb hd (oI_l ha) (kk H locs ls hP hS hl)
theorem w_ladd (C : CX G X cc own nL ret lev) {a b : Int} (hd : decode cc pc = .ok (.ladd, 1)) (kk : RW G X nL Q (pc + 1) lv (pL (a + b) :: st) σ) : RW G X nL Q pc lv (pL b :: pL a :: st) σ := by
  obtain ⟨⟨p, l, e, R, s⟩, ⟨m, args, below, meth, c⟩, A0, ce, sl⟩ := X
  obtain ⟨hx, hb, hml, hown, hts, hK, hG, hAA, hlocks, hr, hR⟩ := C
  intro H locs ls hP hS hl
  have k := kk H locs ls hP hS hl
  exact lv_ladd hx hb hd (by rw [oL_add]; exact k)
theorem w_lmul (C : CX G X cc own nL ret lev) {a b : Int} (hd : decode cc pc = .ok (.lmul, 1)) (kk : RW G X nL Q (pc + 1) lv (pL (a * b) :: st) σ) : RW G X nL Q pc lv (pL b :: pL a :: st) σ := by
  obtain ⟨⟨p, l, e, R, s⟩, ⟨m, args, below, meth, c⟩, A0, ce, sl⟩ := X
  obtain ⟨hx, hb, hml, hown, hts, hK, hG, hAA, hlocks, hr, hR⟩ := C
  intro H locs ls hP hS hl
  have k := kk H locs ls hP hS hl
  exact lv_lmul hx hb hd (by rw [oL_mul]; exact k)
theorem oL_eq {a b : Int} (ha : inL a) (hb : inL b) : oL a = oL b ↔ a = b := by
  constructor
  · intro h
    have := congrArg Int64.toInt h
    rwa [oL_toInt ha, oL_toInt hb] at this
  · intro h; rw [h]
theorem oL_lt {a b : Int} (ha : inL a) (hb : inL b) : oL a < oL b ↔ a < b := by rw [Int64.lt_iff_toInt_lt, oL_toInt ha, oL_toInt hb]
theorem oL_div {a b : Int} (ha : inL a) (hb : inL b) (h : 0 < b) : oL a / oL b = oL (a.tdiv b) := by
  apply Int64.toInt.inj
  rw [Int64.toInt_div, oL_toInt ha, oL_toInt hb, oL, Int64.toInt_ofInt]
theorem w_ldiv (C : CX G X cc own nL ret lev) {a b : Int} (hd : decode cc pc = .ok (.ldiv, 1)) (ha : inL a) (hb' : inL b) (h0 : 0 < b) (kk : RW G X nL Q (pc + 1) lv (pL (a.tdiv b) :: st) σ) : RW G X nL Q pc lv (pL b :: pL a :: st) σ := by
  obtain ⟨⟨p, l, e, R, s⟩, ⟨m, args, below, meth, c⟩, A0, ce, sl⟩ := X
  obtain ⟨hx, hb, hml, hown, hts, hK, hG, hAA, hlocks, hr, hR⟩ := C
  intro H locs ls hP hS hl
  have k := kk H locs ls hP hS hl
  exact lv_ldiv hx hb hd (fun q => by have := (oL_eq hb' (show inL 0 from ⟨by omega, by omega⟩)).mp q; omega) (by rw [oL_div ha hb' h0]; exact k)
def sgn (a b : Int) : Int := if b < a then 1 else if a = b then 0 else -1
theorem w_lcmp (C : CX G X cc own nL ret lev) {a b : Int} (hd : decode cc pc = .ok (.lcmp, 1)) (ha : inL a) (hb' : inL b) (kk : RW G X nL Q (pc + 1) lv (pI (sgn a b) :: st) σ) : RW G X nL Q pc lv (pL b :: pL a :: st) σ := by
  obtain ⟨⟨p, l, e, R, s⟩, ⟨m, args, below, meth, c⟩, A0, ce, sl⟩ := X
  obtain ⟨hx, hb, hml, hown, hts, hK, hG, hAA, hlocks, hr, hR⟩ := C
  intro H locs ls hP hS hl
  have k : W p l e R s m args below meth c H locs ce sl Q (F0 m (pc + 1) ls (.int (oI (sgn a b)) :: dens (gA G) st)) := kk H locs ls hP hS hl
  have e : lg_cmp (oL a) (oL b) = oI (sgn a b) := by
    unfold lg_cmp sgn
    by_cases h1 : b < a
    · rw [if_pos h1, if_pos (show oL a > oL b from (oL_lt hb' ha).mpr h1)]; rfl
    · rw [if_neg h1, if_neg (show ¬ oL a > oL b from fun q => h1 ((oL_lt hb' ha).mp q))]
      by_cases h2 : a = b
      · rw [if_pos h2, if_pos ((oL_eq ha hb').mpr h2)]; rfl
      · rw [if_neg h2, if_neg (fun q => h2 ((oL_eq ha hb').mp q))]; rfl
  rw [← e] at k
  exact W.lcmp hx hb hd k
theorem w_icmp_eq (C : CX G X cc own nL ret lev) {a b : Int} {off : Int} (tgt : Nat) (hd : decode cc pc = .ok (.if_icmp .eq off, 3)) (ht : (pc : Int) + off = (tgt : Int)) (ha : inR a) (hb' : inR b) (kt : a = b → RW G X nL Q tgt lv st σ) (kf : ¬ a = b → RW G X nL Q (pc + 3) lv st σ) : RW G X nL Q pc lv (pI b :: pI a :: st) σ := by
  obtain ⟨⟨p, l, e, R, s⟩, ⟨m, args, below, meth, c⟩, A0, ce, sl⟩ := X
  obtain ⟨hx, hb, hml, hown, hts, hK, hG, hAA, hlocks, hr, hR⟩ := C
  intro H locs ls hP hS hl
  exact lv_icmp_eq hx hb hd ht (fun q => kt ((oI_eq ha hb').mp q) H locs ls hP hS hl) (fun q => kf (fun z => q ((oI_eq ha hb').mpr z)) H locs ls hP hS hl)
theorem w_icmp_ne (C : CX G X cc own nL ret lev) {a b : Int} {off : Int} (tgt : Nat) (hd : decode cc pc = .ok (.if_icmp .ne off, 3)) (ht : (pc : Int) + off = (tgt : Int)) (ha : inR a) (hb' : inR b) (kt : ¬ a = b → RW G X nL Q tgt lv st σ) (kf : a = b → RW G X nL Q (pc + 3) lv st σ) : RW G X nL Q pc lv (pI b :: pI a :: st) σ := by
  obtain ⟨⟨p, l, e, R, s⟩, ⟨m, args, below, meth, c⟩, A0, ce, sl⟩ := X
  obtain ⟨hx, hb, hml, hown, hts, hK, hG, hAA, hlocks, hr, hR⟩ := C
  intro H locs ls hP hS hl
  exact lv_icmp_ne hx hb hd ht (fun q => kt (fun z => q ((oI_eq ha hb').mpr z)) H locs ls hP hS hl) (fun q => kf ((oI_eq ha hb').mp q) H locs ls hP hS hl)
theorem w_icmp_lt (C : CX G X cc own nL ret lev) {a b : Int} {off : Int} (tgt : Nat) (hd : decode cc pc = .ok (.if_icmp .lt off, 3)) (ht : (pc : Int) + off = (tgt : Int)) (ha : inR a) (hb' : inR b) (kt : a < b → RW G X nL Q tgt lv st σ) (kf : b ≤ a → RW G X nL Q (pc + 3) lv st σ) : RW G X nL Q pc lv (pI b :: pI a :: st) σ := by
  obtain ⟨⟨p, l, e, R, s⟩, ⟨m, args, below, meth, c⟩, A0, ce, sl⟩ := X
  obtain ⟨hx, hb, hml, hown, hts, hK, hG, hAA, hlocks, hr, hR⟩ := C
  intro H locs ls hP hS hl
  exact lv_icmp_lt hx hb hd ht (fun q => kt ((oI_lt ha hb').mp q) H locs ls hP hS hl) (fun q => kf (Int.not_lt.mp (fun z => q ((oI_lt ha hb').mpr z))) H locs ls hP hS hl)
theorem w_icmp_ge (C : CX G X cc own nL ret lev) {a b : Int} {off : Int} (tgt : Nat) (hd : decode cc pc = .ok (.if_icmp .ge off, 3)) (ht : (pc : Int) + off = (tgt : Int)) (ha : inR a) (hb' : inR b) (kt : b ≤ a → RW G X nL Q tgt lv st σ) (kf : a < b → RW G X nL Q (pc + 3) lv st σ) : RW G X nL Q pc lv (pI b :: pI a :: st) σ := by
  obtain ⟨⟨p, l, e, R, s⟩, ⟨m, args, below, meth, c⟩, A0, ce, sl⟩ := X
  obtain ⟨hx, hb, hml, hown, hts, hK, hG, hAA, hlocks, hr, hR⟩ := C
  intro H locs ls hP hS hl
  exact lv_icmp_ge hx hb hd ht (fun q => kt ((oI_le hb' ha).mp q) H locs ls hP hS hl) (fun q => kf (Int.not_le.mp (fun z => q ((oI_le hb' ha).mpr z))) H locs ls hP hS hl)
theorem w_icmp_gt (C : CX G X cc own nL ret lev) {a b : Int} {off : Int} (tgt : Nat) (hd : decode cc pc = .ok (.if_icmp .gt off, 3)) (ht : (pc : Int) + off = (tgt : Int)) (ha : inR a) (hb' : inR b) (kt : b < a → RW G X nL Q tgt lv st σ) (kf : a ≤ b → RW G X nL Q (pc + 3) lv st σ) : RW G X nL Q pc lv (pI b :: pI a :: st) σ := by
  obtain ⟨⟨p, l, e, R, s⟩, ⟨m, args, below, meth, c⟩, A0, ce, sl⟩ := X
  obtain ⟨hx, hb, hml, hown, hts, hK, hG, hAA, hlocks, hr, hR⟩ := C
  intro H locs ls hP hS hl
  exact lv_icmp_gt hx hb hd ht (fun q => kt ((oI_lt hb' ha).mp q) H locs ls hP hS hl) (fun q => kf (Int.not_lt.mp (fun z => q ((oI_lt hb' ha).mpr z))) H locs ls hP hS hl)
theorem w_icmp_le (C : CX G X cc own nL ret lev) {a b : Int} {off : Int} (tgt : Nat) (hd : decode cc pc = .ok (.if_icmp .le off, 3)) (ht : (pc : Int) + off = (tgt : Int)) (ha : inR a) (hb' : inR b) (kt : a ≤ b → RW G X nL Q tgt lv st σ) (kf : b < a → RW G X nL Q (pc + 3) lv st σ) : RW G X nL Q pc lv (pI b :: pI a :: st) σ := by
  obtain ⟨⟨p, l, e, R, s⟩, ⟨m, args, below, meth, c⟩, A0, ce, sl⟩ := X
  obtain ⟨hx, hb, hml, hown, hts, hK, hG, hAA, hlocks, hr, hR⟩ := C
  intro H locs ls hP hS hl
  exact lv_icmp_le hx hb hd ht (fun q => kt ((oI_le ha hb').mp q) H locs ls hP hS hl) (fun q => kf (Int.not_le.mp (fun z => q ((oI_le ha hb').mpr z))) H locs ls hP hS hl)
theorem inR0 : inR 0 := ⟨by omega, by omega⟩
theorem w_if_eq (C : CX G X cc own nL ret lev) {a : Int} {off : Int} (tgt : Nat) (hd : decode cc pc = .ok (.ifCond .eq off, 3)) (ht : (pc : Int) + off = (tgt : Int)) (ha : inR a) (kt : a = 0 → RW G X nL Q tgt lv st σ) (kf : ¬ a = 0 → RW G X nL Q (pc + 3) lv st σ) : RW G X nL Q pc lv (pI a :: st) σ := by
  obtain ⟨⟨p, l, e, R, s⟩, ⟨m, args, below, meth, c⟩, A0, ce, sl⟩ := X
  obtain ⟨hx, hb, hml, hown, hts, hK, hG, hAA, hlocks, hr, hR⟩ := C
  intro H locs ls hP hS hl
  exact lv_if_eq hx hb hd ht (fun q => kt ((oI_eq ha inR0).mp q) H locs ls hP hS hl) (fun q => kf (fun z => q ((oI_eq ha inR0).mpr z)) H locs ls hP hS hl)
theorem w_if_ne (C : CX G X cc own nL ret lev) {a : Int} {off : Int} (tgt : Nat) (hd : decode cc pc = .ok (.ifCond .ne off, 3)) (ht : (pc : Int) + off = (tgt : Int)) (ha : inR a) (kt : ¬ a = 0 → RW G X nL Q tgt lv st σ) (kf : a = 0 → RW G X nL Q (pc + 3) lv st σ) : RW G X nL Q pc lv (pI a :: st) σ := by
  obtain ⟨⟨p, l, e, R, s⟩, ⟨m, args, below, meth, c⟩, A0, ce, sl⟩ := X
  obtain ⟨hx, hb, hml, hown, hts, hK, hG, hAA, hlocks, hr, hR⟩ := C
  intro H locs ls hP hS hl
  exact lv_if_ne hx hb hd ht (fun q => kt (fun z => q ((oI_eq ha inR0).mpr z)) H locs ls hP hS hl) (fun q => kf ((oI_eq ha inR0).mp q) H locs ls hP hS hl)
theorem w_if_lt (C : CX G X cc own nL ret lev) {a : Int} {off : Int} (tgt : Nat) (hd : decode cc pc = .ok (.ifCond .lt off, 3)) (ht : (pc : Int) + off = (tgt : Int)) (ha : inR a) (kt : a < 0 → RW G X nL Q tgt lv st σ) (kf : 0 ≤ a → RW G X nL Q (pc + 3) lv st σ) : RW G X nL Q pc lv (pI a :: st) σ := by
  obtain ⟨⟨p, l, e, R, s⟩, ⟨m, args, below, meth, c⟩, A0, ce, sl⟩ := X
  obtain ⟨hx, hb, hml, hown, hts, hK, hG, hAA, hlocks, hr, hR⟩ := C
  intro H locs ls hP hS hl
  exact lv_if_lt hx hb hd ht (fun q => kt ((oI_lt ha inR0).mp q) H locs ls hP hS hl) (fun q => kf (Int.not_lt.mp (fun z => q ((oI_lt ha inR0).mpr z))) H locs ls hP hS hl)
theorem w_if_ge (C : CX G X cc own nL ret lev) {a : Int} {off : Int} (tgt : Nat) (hd : decode cc pc = .ok (.ifCond .ge off, 3)) (ht : (pc : Int) + off = (tgt : Int)) (ha : inR a) (kt : 0 ≤ a → RW G X nL Q tgt lv st σ) (kf : a < 0 → RW G X nL Q (pc + 3) lv st σ) : RW G X nL Q pc lv (pI a :: st) σ := by
  obtain ⟨⟨p, l, e, R, s⟩, ⟨m, args, below, meth, c⟩, A0, ce, sl⟩ := X
  obtain ⟨hx, hb, hml, hown, hts, hK, hG, hAA, hlocks, hr, hR⟩ := C
  intro H locs ls hP hS hl
  exact lv_if_ge hx hb hd ht (fun q => kt ((oI_le inR0 ha).mp q) H locs ls hP hS hl) (fun q => kf (Int.not_le.mp (fun z => q ((oI_le inR0 ha).mpr z))) H locs ls hP hS hl)
theorem w_if_gt (C : CX G X cc own nL ret lev) {a : Int} {off : Int} (tgt : Nat) (hd : decode cc pc = .ok (.ifCond .gt off, 3)) (ht : (pc : Int) + off = (tgt : Int)) (ha : inR a) (kt : 0 < a → RW G X nL Q tgt lv st σ) (kf : a ≤ 0 → RW G X nL Q (pc + 3) lv st σ) : RW G X nL Q pc lv (pI a :: st) σ := by
  obtain ⟨⟨p, l, e, R, s⟩, ⟨m, args, below, meth, c⟩, A0, ce, sl⟩ := X
  obtain ⟨hx, hb, hml, hown, hts, hK, hG, hAA, hlocks, hr, hR⟩ := C
  intro H locs ls hP hS hl
  exact lv_if_gt hx hb hd ht (fun q => kt ((oI_lt inR0 ha).mp q) H locs ls hP hS hl) (fun q => kf (Int.not_lt.mp (fun z => q ((oI_lt inR0 ha).mpr z))) H locs ls hP hS hl)
theorem w_if_le (C : CX G X cc own nL ret lev) {a : Int} {off : Int} (tgt : Nat) (hd : decode cc pc = .ok (.ifCond .le off, 3)) (ht : (pc : Int) + off = (tgt : Int)) (ha : inR a) (kt : a ≤ 0 → RW G X nL Q tgt lv st σ) (kf : 0 < a → RW G X nL Q (pc + 3) lv st σ) : RW G X nL Q pc lv (pI a :: st) σ := by
  obtain ⟨⟨p, l, e, R, s⟩, ⟨m, args, below, meth, c⟩, A0, ce, sl⟩ := X
  obtain ⟨hx, hb, hml, hown, hts, hK, hG, hAA, hlocks, hr, hR⟩ := C
  intro H locs ls hP hS hl
  exact lv_if_le hx hb hd ht (fun q => kt ((oI_le ha inR0).mp q) H locs ls hP hS hl) (fun q => kf (Int.not_le.mp (fun z => q ((oI_le ha inR0).mpr z))) H locs ls hP hS hl)
theorem w_goto (C : CX G X cc own nL ret lev) {off : Int} (tgt : Nat) (hd : decode cc pc = .ok (.goto off, 3)) (ht : (pc : Int) + off = (tgt : Int)) (kk : RW G X nL Q tgt lv st σ) : RW G X nL Q pc lv st σ := by
  obtain ⟨⟨p, l, e, R, s⟩, ⟨m, args, below, meth, c⟩, A0, ce, sl⟩ := X
  obtain ⟨hx, hb, hml, hown, hts, hK, hG, hAA, hlocks, hr, hR⟩ := C
  intro H locs ls hP hS hl
  exact lv_goto hx hb hd ht (kk H locs ls hP hS hl)
theorem w_tabIn (C : CX G X cc own nL ret lev) {dflt lo hi a : Int} {offs : Array Int} {len : Nat} {off : Int} (tgt : Nat) (hd : decode cc pc = .ok (.tableswitch dflt lo hi offs, len)) (ha : inR a) (h1 : lo ≤ a) (h2 : a ≤ hi) (ho : offs[(a - lo).toNat]? = some off) (ht : (pc : Int) + off = (tgt : Int)) (kk : RW G X nL Q tgt lv st σ) : RW G X nL Q pc lv (pI a :: st) σ := by
  obtain ⟨⟨p, l, e, R, s⟩, ⟨m, args, below, meth, c⟩, A0, ce, sl⟩ := X
  obtain ⟨hx, hb, hml, hown, hts, hK, hG, hAA, hlocks, hr, hR⟩ := C
  intro H locs ls hP hS hl
  exact lv_tableIn hx hb hd (by rw [oI_toInt ha]; omega) (by rw [oI_toInt ha]; omega) (by rw [oI_toInt ha]; exact ho) ht (kk H locs ls hP hS hl)
theorem w_tabOut (C : CX G X cc own nL ret lev) {dflt lo hi a : Int} {offs : Array Int} {len : Nat} (tgt : Nat) (hd : decode cc pc = .ok (.tableswitch dflt lo hi offs, len)) (ha : inR a) (h : a < lo ∨ hi < a) (ht : (pc : Int) + dflt = (tgt : Int)) (kk : RW G X nL Q tgt lv st σ) : RW G X nL Q pc lv (pI a :: st) σ := by
  obtain ⟨⟨p, l, e, R, s⟩, ⟨m, args, below, meth, c⟩, A0, ce, sl⟩ := X
  obtain ⟨hx, hb, hml, hown, hts, hK, hG, hAA, hlocks, hr, hR⟩ := C
  intro H locs ls hP hS hl
  exact lv_tableOut hx hb hd (by rw [oI_toInt ha]; exact h) ht (kk H locs ls hP hS hl)
theorem w_sub (lv' : List (Nat × PV)) (ks : List Nat) (hk : ks.filterMap (fun k => lv[k]?) = lv') (kk : RW G X nL Q pc lv' st σ) : RW G X nL Q pc lv st σ := by
  obtain ⟨⟨p, l, e, R, s⟩, ⟨m, args, below, meth, c⟩, A0, ce, sl⟩ := X
  intro H locs ls hP hS hl
  refine kk H locs ls hP hS (lv_sub hl ks ?_)
  rw [← hk]
  unfold lv_pick denl
  rw [List.map_filterMap]
  congr 1
  funext k
  simp
def GF (own : String) (idx ci k : Nat) : Prop := ∃ (Cn : String) (T : u_T) (N : Nat), vwCl[ci]? = some (Cn, T, N) ∧ (∀ w ∈ u_ws Cn T N, w ∈ TB) ∧ k < N ∧ Cond.fieldLink own idx (T k).1 (T k).2.1 (T k).2.2.1 ∈ TB
def PF (own : String) (idx ci k : Nat) : Prop := ∃ (Cn : String) (T : u_T) (N : Nat) (ty0 : Nat → FieldType), vwCl[ci]? = some (Cn, T, N) ∧ (∀ w ∈ u_ws Cn T N, w ∈ TB) ∧ k < N ∧ Cond.fieldLink own idx (T k).1 (T k).2.1 (T k).2.2.1 ∈ TB ∧ (∀ k, k < N → parseFieldDescriptor (T k).2.2.1 = some (ty0 k)) ∧ (∀ a, a < N → ∀ b, b < N → a ≠ b → (T a).2.1 ≠ (T b).2.1) ∧ (T k).2.2.2 = false ∧ parseFieldDescriptor (T k).2.2.1 = some .int
theorem w_getI (C : CX G X cc own nL ret lev) {o : Int} (j : Int) {idx ci k : Nat} {fs : List (Option Int)} (hd : decode cc pc = .ok (.getfield idx, 3)) (hg : GF own idx ci k) (ho : IsOb G o ci fs) (hf : fs[k]? = some none) (hj : ((k : Nat) : Int) = j) (kk : RW G X nL Q (pc + 3) lv (pI (σ o j) :: st) σ) : RW G X nL Q pc lv (pR o :: st) σ := by
  obtain ⟨⟨p, l, e, R, s⟩, ⟨m, args, below, meth, c⟩, A0, ce, sl⟩ := X
  obtain ⟨hx, hb, hml, hown, hts, hK, hG, hAA, hlocks, hr, hR⟩ := C
  intro H locs ls hP hS hl
  subst hj
  obtain ⟨Cn, T, N, h1, h2, h3, h4⟩ := hg
  obtain ⟨q, rfl, hq, hs⟩ := ho
  obtain ⟨hk, hk'⟩ := List.getElem?_eq_some_iff.mp hf
  have he : (WS G σ)[q]? = some (gA G q, obE (gA G) ci fs (σ q)) := by rw [WS_get G σ hq, hs]
  exact va_get hx hb hts h2 hown hK hP q he h1 k h3 (hts _ h4) (fun _ h9 => h9) (v := .int (oI (σ q k))) (by simp [hk, fld, hk']) hd (kk H locs ls hP hS hl)
theorem w_getR (C : CX G X cc own nL ret lev) {o c' : Int} {idx ci k : Nat} {fs : List (Option Int)} (hd : decode cc pc = .ok (.getfield idx, 3)) (hg : GF own idx ci k) (ho : IsOb G o ci fs) (hf : fs[k]? = some (some c')) (kk : RW G X nL Q (pc + 3) lv (pR c' :: st) σ) : RW G X nL Q pc lv (pR o :: st) σ := by
  obtain ⟨⟨p, l, e, R, s⟩, ⟨m, args, below, meth, c⟩, A0, ce, sl⟩ := X
  obtain ⟨hx, hb, hml, hown, hts, hK, hG, hAA, hlocks, hr, hR⟩ := C
  intro H locs ls hP hS hl
  obtain ⟨Cn, T, N, h1, h2, h3, h4⟩ := hg
  obtain ⟨q, rfl, hq, hs⟩ := ho
  obtain ⟨hk, hk'⟩ := List.getElem?_eq_some_iff.mp hf
  have he : (WS G σ)[q]? = some (gA G q, obE (gA G) ci fs (σ q)) := by rw [WS_get G σ hq, hs]
  exact va_get hx hb hts h2 hown hK hP q he h1 k h3 (hts _ h4) (fun _ h9 => h9) (v := .ref (gA G c')) (by simp [hk, fld, hk']) hd (kk H locs ls hP hS hl)
theorem w_putI (C : CX G X cc own nL ret lev) {o v : Int} (j : Int) {idx ci k : Nat} {fs : List (Option Int)} (hd : decode cc pc = .ok (.putfield idx, 3)) (hg : PF own idx ci k) (ho : IsOb G o ci fs) (hf : fs[k]? = some none) (hj : ((k : Nat) : Int) = j) (kk : RW G X nL Q (pc + 3) lv (st) (up σ o j v)) : RW G X nL Q pc lv (pI v :: pR o :: st) σ := by
  obtain ⟨⟨p, l, e, R, s⟩, ⟨m, args, below, meth, c⟩, A0, ce, sl⟩ := X
  obtain ⟨hx, hb, hml, hown, hts, hK, hG, hAA, hlocks, hr, hR⟩ := C
  intro H locs ls hP hS hl
  subst hj
  obtain ⟨Cn, T, N, ty0, h1, h2, h3, h4, h5, h6, h7, h8⟩ := hg
  obtain ⟨q, rfl, hq, hs⟩ := ho
  obtain ⟨hk, hk'⟩ := List.getElem?_eq_some_iff.mp hf
  have he : (WS G σ)[q]? = some (gA G q, obE (gA G) ci fs (σ q)) := by rw [WS_get G σ hq, hs]
  refine va_put hx hb hts h2 ty0 h5 h6 hown hK hP (WS_D hG σ hAA) hS q he h1 k h3 (hts _ h4) (fun _ h9 => h9) h7 h8 (v := .int (oI v)) rfl rfl (by simp [hk]) hd (fun H1 locs1 hP1 hD1 hS1 => kk H1 locs1 ls ?_ hS1 hl)
  rw [WS_set G σ (up σ q k v)] at hP1
  · exact hP1
  · intro j hj
    exact up_other σ _ _ (by omega)
  · rw [hs]
    unfold obE
    congr 2
    apply List.ext_getElem?
    intro j
    by_cases hj : j < fs.length
    · by_cases e : j = k
      · subst e
        rw [List.getElem?_set_self (by simpa using hj)]
        simp [hj, fld, hk', up_self]
      · rw [List.getElem?_set_ne (fun q => e q.symm)]
        simp only [List.getElem?_map, List.getElem?_range hj, Option.map_some]
        congr 1
        unfold fld
        cases fs.getD j none with
        | none => simp only; rw [up_ne σ v (Or.inr (by omega))]
        | some z => rfl
    · rw [List.getElem?_eq_none (by simp; omega), List.getElem?_eq_none (by simp; omega)]
theorem w_iald (C : CX G X cc own nL ret lev) {c' i : Int} {n : Nat} (hd : decode cc pc = .ok (.iaload, 1)) (hA : IsIA G c' n) (h0 : 0 ≤ i) (h1 : i < n) (kk : RW G X nL Q (pc + 1) lv (pI (σ c' i) :: st) σ) : RW G X nL Q pc lv (pI i :: pR c' :: st) σ := by
  obtain ⟨⟨p, l, e, R, s⟩, ⟨m, args, below, meth, c⟩, A0, ce, sl⟩ := X
  obtain ⟨hx, hb, hml, hown, hts, hK, hG, hAA, hlocks, hr, hR⟩ := C
  intro H locs ls hP hS hl
  obtain ⟨q, rfl, hq, hs, hn⟩ := hA
  obtain ⟨g1, g2⟩ := oI_in h0 h1 hn
  have he : (WS G σ)[q]? = some (gA G q, iaE (gC G 0) n (σ q)) := by rw [WS_get G σ hq, hs]
  have k : W p l e R s m args below meth c H locs ce sl Q (F0 m (pc + 1) ls (.int (oI (σ q i)) :: dens (gA G) st)) := kk H locs ls hP hS hl
  refine va_iald hx hb hK hP q 0 he rfl g1 hd ?_
  rw [g2, Int.toNat_of_nonneg h0]
  exact k
theorem w_bald (C : CX G X cc own nL ret lev) {c' i : Int} {n : Nat} (hd : decode cc pc = .ok (.baload, 1)) (hA : IsBA G c' n) (h0 : 0 ≤ i) (h1 : i < n) (kk : RW G X nL Q (pc + 1) lv (pI (σ c' i) :: st) σ) : RW G X nL Q pc lv (pI i :: pR c' :: st) σ := by
  obtain ⟨⟨p, l, e, R, s⟩, ⟨m, args, below, meth, c⟩, A0, ce, sl⟩ := X
  obtain ⟨hx, hb, hml, hown, hts, hK, hG, hAA, hlocks, hr, hR⟩ := C
  intro H locs ls hP hS hl
  obtain ⟨q, rfl, hq, hs, hn⟩ := hA
  obtain ⟨g1, g2⟩ := oI_in h0 h1 hn
  have he : (WS G σ)[q]? = some (gA G q, iaE (gC G 1) n (σ q)) := by rw [WS_get G σ hq, hs]
  have k : W p l e R s m args below meth c H locs ce sl Q (F0 m (pc + 1) ls (.int (oI (σ q i)) :: dens (gA G) st)) := kk H locs ls hP hS hl
  refine va_zald hx hb hK hP q 1 he rfl g1 hd ?_
  rw [g2, Int.toNat_of_nonneg h0]
  exact k
theorem w_lald (C : CX G X cc own nL ret lev) {c' i : Int} {n : Nat} (hd : decode cc pc = .ok (.laload, 1)) (hA : IsLA G c' n) (h0 : 0 ≤ i) (h1 : i < n) (kk : RW G X nL Q (pc + 1) lv (pL (σ c' i) :: st) σ) : RW G X nL Q pc lv (pI i :: pR c' :: st) σ := by
  obtain ⟨⟨p, l, e, R, s⟩, ⟨m, args, below, meth, c⟩, A0, ce, sl⟩ := X
  obtain ⟨hx, hb, hml, hown, hts, hK, hG, hAA, hlocks, hr, hR⟩ := C
  intro H locs ls hP hS hl
  obtain ⟨q, rfl, hq, hs, hn⟩ := hA
  obtain ⟨g1, g2⟩ := oI_in h0 h1 hn
  have he : (WS G σ)[q]? = some (gA G q, laE (gC G 2) n (σ q)) := by rw [WS_get G σ hq, hs]
  have k : W p l e R s m args below meth c H locs ce sl Q (F0 m (pc + 1) ls (.long (oL (σ q i)) :: dens (gA G) st)) := kk H locs ls hP hS hl
  refine va_lald hx hb hK hP q 2 he rfl g1 hd ?_
  rw [g2, Int.toNat_of_nonneg h0]
  exact k
theorem w_iast (C : CX G X cc own nL ret lev) {c' i v : Int} {n : Nat} (hd : decode cc pc = .ok (.iastore, 1)) (hA : IsIA G c' n) (h0 : 0 ≤ i) (h1 : i < n) (kk : RW G X nL Q (pc + 1) lv (st) (up σ c' i v)) : RW G X nL Q pc lv (pI v :: pI i :: pR c' :: st) σ := by
  obtain ⟨⟨p, l, e, R, s⟩, ⟨m, args, below, meth, c⟩, A0, ce, sl⟩ := X
  obtain ⟨hx, hb, hml, hown, hts, hK, hG, hAA, hlocks, hr, hR⟩ := C
  intro H locs ls hP hS hl
  obtain ⟨q, rfl, hq, hs, hn⟩ := hA
  obtain ⟨g1, g2⟩ := oI_in h0 h1 hn
  have he : (WS G σ)[q]? = some (gA G q, iaE (gC G 0) n (σ q)) := by rw [WS_get G σ hq, hs]
  refine va_iast hx hb hK hP (WS_D hG σ hAA) hS q 0 he rfl g1 hd (fun H1 locs1 hP1 hD1 hS1 => kk H1 locs1 ls ?_ hS1 hl)
  rw [WS_set G σ (up σ q i v)] at hP1
  · exact hP1
  · intro j hj
    exact up_other σ _ _ (by omega)
  · rw [hs]
    unfold iaE
    congr 4
    funext j
    rw [g2]
    unfold upd
    by_cases e : j = i.toNat
    · subst e
      rw [if_pos rfl, Int.toNat_of_nonneg h0, up_self]
    · rw [if_neg e, up_ne σ v (Or.inr (by omega))]
theorem w_bast (C : CX G X cc own nL ret lev) {c' i v : Int} {n : Nat} (hd : decode cc pc = .ok (.bastore, 1)) (hA : IsBA G c' n) (h0 : 0 ≤ i) (h1 : i < n) (hv : v = 0 ∨ v = 1) (kk : RW G X nL Q (pc + 1) lv (st) (up σ c' i v)) : RW G X nL Q pc lv (pI v :: pI i :: pR c' :: st) σ := by
  obtain ⟨⟨p, l, e, R, s⟩, ⟨m, args, below, meth, c⟩, A0, ce, sl⟩ := X
  obtain ⟨hx, hb, hml, hown, hts, hK, hG, hAA, hlocks, hr, hR⟩ := C
  intro H locs ls hP hS hl
  obtain ⟨q, rfl, hq, hs, hn⟩ := hA
  obtain ⟨g1, g2⟩ := oI_in h0 h1 hn
  have he : (WS G σ)[q]? = some (gA G q, iaE (gC G 1) n (σ q)) := by rw [WS_get G σ hq, hs]
  refine va_zast hx hb hK hP (WS_D hG σ hAA) hS q 1 he rfl g1 hd (fun H1 locs1 hP1 hD1 hS1 => kk H1 locs1 ls ?_ hS1 hl)
  rw [WS_set G σ (up σ q i v)] at hP1
  · exact hP1
  · intro j hj
    exact up_other σ _ _ (by omega)
  · rw [hs]
    unfold iaE
    congr 4
    funext j
    rw [g2]
    unfold upd
    by_cases e : j = i.toNat
    · subst e
      rw [if_pos rfl, Int.toNat_of_nonneg h0, up_self]
      rcases hv with rfl | rfl <;> decide
    · rw [if_neg e, up_ne σ v (Or.inr (by omega))]
theorem w_last (C : CX G X cc own nL ret lev) {c' i v : Int} {n : Nat} (hd : decode cc pc = .ok (.lastore, 1)) (hA : IsLA G c' n) (h0 : 0 ≤ i) (h1 : i < n) (kk : RW G X nL Q (pc + 1) lv (st) (up σ c' i v)) : RW G X nL Q pc lv (pL v :: pI i :: pR c' :: st) σ := by
  obtain ⟨⟨p, l, e, R, s⟩, ⟨m, args, below, meth, c⟩, A0, ce, sl⟩ := X
  obtain ⟨hx, hb, hml, hown, hts, hK, hG, hAA, hlocks, hr, hR⟩ := C
  intro H locs ls hP hS hl
  obtain ⟨q, rfl, hq, hs, hn⟩ := hA
  obtain ⟨g1, g2⟩ := oI_in h0 h1 hn
  have he : (WS G σ)[q]? = some (gA G q, laE (gC G 2) n (σ q)) := by rw [WS_get G σ hq, hs]
  refine va_last hx hb hK hP (WS_D hG σ hAA) hS q 2 he rfl g1 hd (fun H1 locs1 hP1 hD1 hS1 => kk H1 locs1 ls ?_ hS1 hl)
  rw [WS_set G σ (up σ q i v)] at hP1
  · exact hP1
  · intro j hj
    exact up_other σ _ _ (by omega)
  · rw [hs]
    unfold laE
    congr 5
    funext j
    rw [g2]
    unfold vp_updL
    by_cases e : j = i.toNat
    · subst e
      rw [if_pos rfl, Int.toNat_of_nonneg h0, up_self]
    · rw [if_neg e, up_ne σ v (Or.inr (by omega))]
theorem w_aald (C : CX G X cc own nL ret lev) {c' i : Int} (hd : decode cc pc = .ok (.aaload, 1)) (hA : IsRA G c') (h0 : 0 ≤ i) (h1 : i < gM G) (kk : RW G X nL Q (pc + 1) lv (pR (57 + i) :: st) σ) : RW G X nL Q pc lv (pI i :: pR c' :: st) σ := by
  obtain ⟨⟨p, l, e, R, s⟩, ⟨m, args, below, meth, c⟩, A0, ce, sl⟩ := X
  obtain ⟨hx, hb, hml, hown, hts, hK, hG, hAA, hlocks, hr, hR⟩ := C
  intro H locs ls hP hS hl
  obtain ⟨q, rfl, hq, hs, hn⟩ := hA
  obtain ⟨g1, g2⟩ := oI_in h0 h1 hn
  have he : (WS G σ)[q]? = some (gA G q, raE (gC G 3) (gM G) (gA G) (σ q)) := by rw [WS_get G σ hq, hs]
  have k : W p l e R s m args below meth c H locs ce sl Q (F0 m (pc + 1) ls (.ref (gA G (57 + i)) :: dens (gA G) st)) := kk H locs ls hP hS hl
  have hlt : i.toNat < gM G := by omega
  refine W.aald (v := .ref (gA G (57 + i))) (ty := .array .int) hx hb (hP q _ he) ((hK.2 3 _ rfl).1 _ _) rfl (fun q => by cases q) (by show ¬ (oI i < 0 ∨ (arrV _ _ _).slots.size ≤ _); rw [arrV_size]; exact g1) ?_ rfl rfl hd k
  show (arrV _ _ _).slots[_]? = _
  rw [g2, arrV_read _ _ hlt]
  simp only [hlt, if_true]
  rw [Int.toNat_of_nonneg h0]
  rfl
theorem w_alen (C : CX G X cc own nL ret lev) {c' : Int} {n : Nat} (hd : decode cc pc = .ok (.arraylength, 1)) (hA : IsIA G c' n) (kk : RW G X nL Q (pc + 1) lv (pI n :: st) σ) : RW G X nL Q pc lv (pR c' :: st) σ := by
  obtain ⟨⟨p, l, e, R, s⟩, ⟨m, args, below, meth, c⟩, A0, ce, sl⟩ := X
  obtain ⟨hx, hb, hml, hown, hts, hK, hG, hAA, hlocks, hr, hR⟩ := C
  intro H locs ls hP hS hl
  obtain ⟨q, rfl, hq, hs, hn⟩ := hA
  have he : (WS G σ)[q]? = some (gA G q, iaE (gC G 0) n (σ q)) := by rw [WS_get G σ hq, hs]
  exact va_alen hx hb hK hP q 0 he rfl (v := oI n) rfl hd (kk H locs ls hP hS hl)
theorem w_top {a : Int} (k : ∀ x : Int, x = a → RW G X nL Q pc lv (pI x :: st) σ) : RW G X nL Q pc lv (pI a :: st) σ := k a rfl
theorem w_topl {a : Int} (k : ∀ x : Int, x = a → RW G X nL Q pc lv (pL x :: st) σ) : RW G X nL Q pc lv (pL a :: st) σ := k a rfl
theorem w_mem (k : ∀ τ : Mem, τ = σ → RW G X nL Q pc lv st τ) : RW G X nL Q pc lv st σ := k σ rfl
theorem w_idivN (C : CX G X cc own nL ret lev) {a b : Int} (hd : decode cc pc = .ok (.idiv, 1)) (h : 0 ≤ a) (ha : inR a) (hb' : inR b) (h0 : 0 < b) (kk : RW G X nL Q (pc + 1) lv (pI (a / b) :: st) σ) : RW G X nL Q pc lv (pI b :: pI a :: st) σ := by
  obtain ⟨⟨p, l, e, R, s⟩, ⟨m, args, below, meth, c⟩, A0, ce, sl⟩ := X
  obtain ⟨hx, hb, hml, hown, hts, hK, hG, hAA, hlocks, hr, hR⟩ := C
  intro H locs ls hP hS hl
  have k := kk H locs ls hP hS hl
  exact lv_idiv hx hb hd (oI_ne0 hb' h0) (by rw [oI_div ha hb' h0, Int.tdiv_eq_ediv_of_nonneg h]; exact k)
theorem w_iremN (C : CX G X cc own nL ret lev) {a b : Int} (hd : decode cc pc = .ok (.irem, 1)) (h : 0 ≤ a) (ha : inR a) (hb' : inR b) (h0 : 0 < b) (kk : RW G X nL Q (pc + 1) lv (pI (a % b) :: st) σ) : RW G X nL Q pc lv (pI b :: pI a :: st) σ := by
  obtain ⟨⟨p, l, e, R, s⟩, ⟨m, args, below, meth, c⟩, A0, ce, sl⟩ := X
  obtain ⟨hx, hb, hml, hown, hts, hK, hG, hAA, hlocks, hr, hR⟩ := C
  intro H locs ls hP hS hl
  have k := kk H locs ls hP hS hl
  exact lv_irem hx hb hd (oI_ne0 hb' h0) (by rw [oI_rem ha hb' h0, Int.tmod_eq_emod_of_nonneg h]; exact k)
theorem w_ldivN (C : CX G X cc own nL ret lev) {a b : Int} (hd : decode cc pc = .ok (.ldiv, 1)) (h : 0 ≤ a) (ha : inL a) (hb' : inL b) (h0 : 0 < b) (kk : RW G X nL Q (pc + 1) lv (pL (a / b) :: st) σ) : RW G X nL Q pc lv (pL b :: pL a :: st) σ := by
  obtain ⟨⟨p, l, e, R, s⟩, ⟨m, args, below, meth, c⟩, A0, ce, sl⟩ := X
  obtain ⟨hx, hb, hml, hown, hts, hK, hG, hAA, hlocks, hr, hR⟩ := C
  intro H locs ls hP hS hl
  have k := kk H locs ls hP hS hl
  exact lv_ldiv hx hb hd (fun q => by have := (oL_eq hb' (show inL 0 from ⟨by omega, by omega⟩)).mp q; omega) (by rw [oL_div ha hb' h0, Int.tdiv_eq_ediv_of_nonneg h]; exact k)
theorem CX.gi (C : CX G X cc own nL ret lev) : GI G := by
  obtain ⟨⟨p, l, e, R, s⟩, ⟨m, args, below, meth, c⟩, A0, ce, sl⟩ := X
  exact C.2.2.2.2.2.2.1
end RWROWS
end
section
/-! contracts, returns, calls -/
def rmL (d : Nat) : Room := { frames := d + 1, cells := 0, slots := 0, locals := 34 * (d + 1) }
def wsY (y : MethodName) (cc : ByteArray) (maxL : Nat) (ret : Option FieldType) : List Cond := .code y cc maxL ret :: TB
def PcG (G : GG) (as : List PV) (σ : Mem) : Array Value → State → Prop := va_Pc (dens (gA G) as) (fun U => va_P (gD G) vwCl (WS G σ) U.heap ∧ va_K (gD G) vwCl (tyG G) U)
def CtI (G : GG) (l : Launch) (y : MethodName) (cc : ByteArray) (maxL : Nat) (ret : Option FieldType) (d : Nat) (as : List PV) (σ : Mem) (post : Int → Mem → Prop) : Prop :=
  Met l y (wsY y cc maxL ret) (rmL d) (PcG G as σ) (va_Qi (fun r (u : Mem) => ∃ z, r = oI z ∧ post z u) (fun u t => va_P (gD G) vwCl (WS G u) t.heap) (AA G)) 0 0 (AA G)
def CtL (G : GG) (l : Launch) (y : MethodName) (cc : ByteArray) (maxL : Nat) (ret : Option FieldType) (d : Nat) (as : List PV) (σ : Mem) (post : Int → Mem → Prop) : Prop :=
  Met l y (wsY y cc maxL ret) (rmL d) (PcG G as σ) (va_Ql (fun r (u : Mem) => ∃ z, r = oL z ∧ post z u) (fun u t => va_P (gD G) vwCl (WS G u) t.heap) (AA G)) 0 0 (AA G)
def CtV (G : GG) (l : Launch) (y : MethodName) (cc : ByteArray) (maxL : Nat) (ret : Option FieldType) (d : Nat) (as : List PV) (σ : Mem) (post : Mem → Prop) : Prop :=
  Met l y (wsY y cc maxL ret) (rmL d) (PcG G as σ) (va_Qv post (fun u t => va_P (gD G) vwCl (WS G u) t.heap) (AA G)) 0 0 (AA G)
def QI (G : GG) (X : XX) (post : Int → Mem → Prop) : State → Prop := match X with
  | ((_, _, _, _, s), (_, args, below, _, _), A0, ce, sl) => MQ below (va_Qi (fun r (u : Mem) => ∃ z, r = oI z ∧ post z u) (fun u t => va_P (gD G) vwCl (WS G u) t.heap) A0) args s ce sl A0
def QL (G : GG) (X : XX) (post : Int → Mem → Prop) : State → Prop := match X with
  | ((_, _, _, _, s), (_, args, below, _, _), A0, ce, sl) => MQ below (va_Ql (fun r (u : Mem) => ∃ z, r = oL z ∧ post z u) (fun u t => va_P (gD G) vwCl (WS G u) t.heap) A0) args s ce sl A0
def QV (G : GG) (X : XX) (post : Mem → Prop) : State → Prop := match X with
  | ((_, _, _, _, s), (_, args, below, _, _), A0, ce, sl) => MQ below (va_Qv post (fun u t => va_P (gD G) vwCl (WS G u) t.heap) A0) args s ce sl A0
section RET
variable {G : GG} {X : XX} {cc : ByteArray} {own : String} {nL lev : Nat} {pc : Nat} {lv : List (Nat × PV)} {σ : Mem} {z : Int}
theorem w_ireturn (C : CX G X cc own nL (some .int) lev) {post : Int → Mem → Prop} (hd : decode cc pc = .ok (.ireturn, 1)) (hp : post z σ) : RW G X nL (QI G X post) pc lv [pI z] σ := by
  obtain ⟨⟨p, l, e, R, s⟩, ⟨m, args, below, meth, c⟩, A0, ce, sl⟩ := X
  obtain ⟨hx, hb, hml, hown, hts, hK, hG, hAA, hlocks, hr, hR⟩ := C
  intro H locs ls hP hS hl
  exact W.iret hx hb hr (fun t ht hw => ⟨⟨oI z, σ, rfl, ⟨z, rfl, hp⟩, by show va_P (gD G) vwCl (WS G σ) t.heap; rw [ht]; exact hP⟩, hS.F ht⟩) hS.2.2 hd (hlocks := hlocks)
theorem w_zreturn (C : CX G X cc own nL (some .boolean) lev) {post : Int → Mem → Prop} (hd : decode cc pc = .ok (.ireturn, 1)) (hz : z = 0 ∨ z = 1) (hp : post z σ) : RW G X nL (QI G X post) pc lv [pI z] σ := by
  obtain ⟨⟨p, l, e, R, s⟩, ⟨m, args, below, meth, c⟩, A0, ce, sl⟩ := X
  obtain ⟨hx, hb, hml, hown, hts, hK, hG, hAA, hlocks, hr, hR⟩ := C
  intro H locs ls hP hS hl
  exact W.zret hx hb hr (by rcases hz with rfl | rfl <;> decide) (fun t ht hw => ⟨⟨oI z, σ, rfl, ⟨z, rfl, hp⟩, by show va_P (gD G) vwCl (WS G σ) t.heap; rw [ht]; exact hP⟩, hS.F ht⟩) hS.2.2 hd (hlocks := hlocks)
theorem w_lreturn (C : CX G X cc own nL (some .long) lev) {post : Int → Mem → Prop} (hd : decode cc pc = .ok (.lreturn, 1)) (hp : post z σ) : RW G X nL (QL G X post) pc lv [pL z] σ := by
  obtain ⟨⟨p, l, e, R, s⟩, ⟨m, args, below, meth, c⟩, A0, ce, sl⟩ := X
  obtain ⟨hx, hb, hml, hown, hts, hK, hG, hAA, hlocks, hr, hR⟩ := C
  intro H locs ls hP hS hl
  exact W.lret hx hb hr (fun t ht hw => ⟨⟨oL z, σ, rfl, ⟨z, rfl, hp⟩, by show va_P (gD G) vwCl (WS G σ) t.heap; rw [ht]; exact hP⟩, hS.F ht⟩) hS.2.2 hd (hlocks := hlocks)
theorem w_vreturn (C : CX G X cc own nL none lev) {post : Mem → Prop} (hd : decode cc pc = .ok (.return_, 1)) (hp : post σ) : RW G X nL (QV G X post) pc lv [] σ := by
  obtain ⟨⟨p, l, e, R, s⟩, ⟨m, args, below, meth, c⟩, A0, ce, sl⟩ := X
  obtain ⟨hx, hb, hml, hown, hts, hK, hG, hAA, hlocks, hr, hR⟩ := C
  intro H locs ls hP hS hl
  exact W.vret hx hb hr (fun t ht hw => ⟨⟨σ, rfl, hp, by show va_P (gD G) vwCl (WS G σ) t.heap; rw [ht]; exact hP⟩, hS.F ht⟩) hS.2.2 hd (hlocks := hlocks)
end RET
def aL : Nat → List PV → List (Nat × PV)
  | _, [] => []
  | i, v :: vs => (i, v) :: aL (if isLg v = true then i + 2 else i + 1) vs
theorem den_cat2 (ad : Int → Nat) (v : PV) : (den ad v).category = if isLg v = true then 2 else 1 := by
  rcases v with z | z | z <;> rfl
theorem aL_den (ad : Int → Nat) (as : List PV) : ∀ i, denl ad (aL i as) = lv_args i (dens ad as) := by
  induction as with
  | nil => intro i; rfl
  | cons v vs ih =>
    intro i
    show (i, den ad v) :: denl ad (aL _ vs) = (i, den ad v) :: lv_args _ (dens ad vs)
    rw [ih, den_cat2]
    cases isLg v <;> rfl
def aN (as : List PV) : Nat := (as.map (fun v => if isLg v = true then 2 else 1)).sum
theorem aN_len (ad : Int → Nat) (as : List PV) : (lg_sl (dens ad as)).length = aN as := by
  induction as with
  | nil => rfl
  | cons v vs ih =>
    show ((if (den ad v).category = 2 then [Slot.val (den ad v), .second] else [.val (den ad v)]) ++ lg_sl (dens ad vs)).length = (if isLg v = true then 2 else 1) + aN vs
    rw [List.length_append, ih, den_cat2]
    cases isLg v <;> rfl
theorem body_of {G : GG} {l : Launch} {y : MethodName} {cc : ByteArray} {maxL d : Nat} {ret : Option FieldType} {as : List PV} {σ : Mem} {Qc : Array Value → State → Outcome → State → Prop} (hG : GI G) (hy : plainName y.cls = true) (ha : aN as ≤ maxL)
    (QQ : XX → State → Prop) (hQ : ∀ p e R s m args below meth c, QQ ((p, l, e, R, s), (m, args, below, meth, c), AA G, 0, 0) = MQ below Qc args s 0 0 (AA G))
    (body : ∀ X : XX, xL X = l → CX G X cc y.cls maxL ret d → RW G X maxL (QQ X) 0 (aL 0 as) [] σ) :
    Met l y (wsY y cc maxL ret) (rmL d) (PcG G as σ) Qc 0 0 (AA G) := by
  refine Met.ofW (cc := cc) (maxL := maxL) (ret := ret) hy rfl ?_
  intro p e s m args below meth c s₁ B hml hv
  obtain ⟨rfl, hP, hK⟩ := hv
  have hts0 := atoms_spec (ws := wsY y cc maxL ret) B.pre
  have hown : s.vm.findClass y.cls = some m.cls := findClass_of_methodNamed B.named
  have hl := lv_entry (dens (gA G) as) (n := maxL) (by rw [aN_len]; exact ha)
  rw [lg_entry_eq]
  generalize (lg_sl (dens (gA G) as) ++ List.replicate (maxL - (lg_sl (dens (gA G) as)).length) Slot.unset).toArray = ls at hl ⊢
  rw [← aL_den] at hl
  have key := body ((p, l, e, (headSpec (wsY y cc maxL ret) (rmL d)).room, s), (m, (dens (gA G) as).toArray, below, meth, c), AA G, 0, 0) rfl
    ⟨B.exec, B.bytes, hml, hown, fun w h => hts0 w (List.mem_cons_of_mem _ h), hK, hG, fun _ h => h, B.notSynchronized, B.returns, Nat.le_refl _, Nat.le_refl _, Nat.le_refl _, Nat.le_refl _⟩ s.heap [] ls hP va_S.rf hl
  rw [hQ] at key
  exact key
theorem CtI.of {G : GG} {l : Launch} {y : MethodName} {cc : ByteArray} {maxL d : Nat} {ret : Option FieldType} {as : List PV} {σ : Mem} {post : Int → Mem → Prop} (hG : GI G) (hy : plainName y.cls = true) (ha : aN as ≤ maxL)
    (body : ∀ X : XX, xL X = l → CX G X cc y.cls maxL ret d → RW G X maxL (QI G X post) 0 (aL 0 as) [] σ) : CtI G l y cc maxL ret d as σ post :=
  body_of hG hy ha (fun X => QI G X post) (fun _ _ _ _ _ _ _ _ _ => rfl) body
theorem CtL.of {G : GG} {l : Launch} {y : MethodName} {cc : ByteArray} {maxL d : Nat} {ret : Option FieldType} {as : List PV} {σ : Mem} {post : Int → Mem → Prop} (hG : GI G) (hy : plainName y.cls = true) (ha : aN as ≤ maxL)
    (body : ∀ X : XX, xL X = l → CX G X cc y.cls maxL ret d → RW G X maxL (QL G X post) 0 (aL 0 as) [] σ) : CtL G l y cc maxL ret d as σ post :=
  body_of hG hy ha (fun X => QL G X post) (fun _ _ _ _ _ _ _ _ _ => rfl) body
theorem CtV.of {G : GG} {l : Launch} {y : MethodName} {cc : ByteArray} {maxL d : Nat} {ret : Option FieldType} {as : List PV} {σ : Mem} {post : Mem → Prop} (hG : GI G) (hy : plainName y.cls = true) (ha : aN as ≤ maxL)
    (body : ∀ X : XX, xL X = l → CX G X cc y.cls maxL ret d → RW G X maxL (QV G X post) 0 (aL 0 as) [] σ) : CtV G l y cc maxL ret d as σ post :=
  body_of hG hy ha (fun X => QV G X post) (fun _ _ _ _ _ _ _ _ _ => rfl) body
/-- the words of a method that is called: by any caller -/
def MW (y : MethodName) (ccy : ByteArray) (maxL : Nat) (rety : Option FieldType) (n : Nat) : Prop := Cond.initialized y.cls ∈ TB ∧ Cond.code y ccy maxL rety ∈ TB ∧ y.cls ≠ "java/lang/invoke/MethodHandle" ∧ y.cls ≠ "java/lang/invoke/VarHandle" ∧ (parseMethodDescriptor y.desc).map (fun d => d.parameters.length) = some n ∧ maxL ≤ 15
theorem TB_good : GoodIn TB TB := fun w h => ⟨h, good_of_word (List.mem_filter.mp h).2⟩
theorem callB_TB {R : Room} {s : State} {args : Array Value} {own : String} {idx : Nat} {y : MethodName} {ccy : ByteArray} {maxL n d lev : Nat} {rety : Option FieldType} (hts : ∀ w ∈ TB, w.before args s = true) (hw : MW y ccy maxL rety n) (hl : Cond.methodLink own idx y ∈ TB) (hlev : d < lev) (hR : lev + 1 ≤ R.frames ∧ 34 * (lev + 1) ≤ R.locals) :
    CallB R s args own idx y ccy maxL rety (wsY y ccy maxL rety) (rmL d) 0 0 n := by
  obtain ⟨h1, h2, h3, h4, h5, h6⟩ := hw
  refine callB_of (Ts := TB) (ws' := TB) n hts (fun w h => ?_) rfl rfl rfl (hts _ h1) (hts _ hl) ⟨h3, h4, h5⟩ ⟨?_, ?_⟩
  · rcases List.mem_cons.mp h with rfl | h
    · exact TB_good _ h2
    · exact TB_good _ h
  · show d + 1 + 1 ≤ R.frames
    omega
  · show 8 + (maxL + 11) + 34 * (d + 1) ≤ R.locals
    omega
theorem PcG_blind (G : GG) (as : List PV) (σ : Mem) : FrameBlind (PcG G as σ) := fun a U g mk q => by
  obtain ⟨q0, qP, qK⟩ := q
  exact ⟨q0, qP, va_K.moved (u := U) (U := U.calling g mk a) (Vm.Alike.refl U.vm) qK⟩
def sC (st : List PV) : Nat := (st.map (fun v => if isLg v = true then 2 else 1)).sum
theorem sC_eq (ad : Int → Nat) (st : List PV) : ((dens ad st).map fun v => v.category).sum = sC st := by
  unfold sC
  congr 1
  rw [List.map_map]
  apply List.map_congr_left
  intro v _
  exact den_cat2 ad v
def OC (G : GG) (o : Int) (C : String) : Prop := ∃ (ci : Nat) (fs : List (Option Int)) (q : vw_C), IsOb G o ci fs ∧ vwCl[ci]? = some q ∧ q.1 = C
section CALLS
variable {G : GG} {X : XX} {cc : ByteArray} {own : String} {nL lev : Nat} {ret : Option FieldType} {Q : State → Prop} {pc : Nat} {lv : List (Nat × PV)} {σ : Mem}
theorem run_V {Qc : Array Value → State → Outcome → State → Prop} {p : Program} {l : Launch} {e : Env} {R : Room} {s : State} {m : MethodId} {args : Array Value} {below : List Frame} {meth : Method} {c : Code} {H : Heap} {locs : List Loc} {ls : Array Slot} {ce sl : Nat} {idx : Nat} {y : MethodName} {ccy : ByteArray} {maxL d : Nat} {rety : Option FieldType} {o : Int} (as st : List PV)
    (hx : p.tables.exec = Jvm.exec) (hb : c.code = cc) (hml : c.maxLocals = nL) (hown : s.vm.findClass own = some m.cls) (hts : ∀ w ∈ TB, w.before args s = true) (hK : va_K (gD G) vwCl (tyG G) s) (hR : lev + 1 ≤ R.frames ∧ 34 * (lev + 1) ≤ R.locals ∧ ce ≤ R.cells ∧ sl ≤ R.slots)
    (hd : decode cc pc = .ok (.invokevirtual idx, 3)) (hM : Met l y (wsY y ccy maxL rety) (rmL d) (PcG G (pR o :: as) σ) Qc 0 0 (AA G)) (ho : OC G o y.cls) (hw : MW y ccy maxL rety as.length) (hl1 : Cond.methodLink own idx y ∈ TB) (hl2 : Cond.instanceMethod y ∈ TB) (hl3 : Cond.selects y.cls y y ∈ TB) (hlev : d < lev) (hst : sC st ≤ 8)
    (hP : va_P (gD G) vwCl (WS G σ) H) (hls : ls.size = nL) : va_Run p l e R s m args below meth c H locs ce sl 0 0 (F0 m pc ls (dens (gA G) (as.reverse ++ pR o :: st))) (dens (gA G) st) (Qc (dens (gA G) (pR o :: as)).toArray) (AA G) := by
  obtain ⟨ci, fs, q, ⟨k, rfl, hq, hs⟩, hcl, hqc⟩ := ho
  have he : (WS G σ)[k]? = some (gA G k, obE (gA G) ci fs (σ k)) := by rw [WS_get G σ hq, hs]
  refine va_runV (As := dens (gA G) as) (rest := dens (gA G) st) (Ts := TB) ⟨hx, hb, hml, hown, hts⟩ hM ⟨callB_TB hts hw hl1 hlev ⟨hR.1, hR.2.1⟩, hts _ hl2, hts _ hl3⟩ ⟨PcG_blind _ _ _, hqc ▸ va_recv hK hP hcl he, fun U hU hW => ⟨rfl, by rw [hU]; exact hP, va_K.moved hW.alike hK⟩⟩ rfl (by simp) hls ?_ ?_ hd ⟨hR.2.2.1, hR.2.2.2⟩
  · simp [dens, den]
  · exact lv_room (by rw [sC_eq]; exact hst)
theorem run_S {Qc : Array Value → State → Outcome → State → Prop} {p : Program} {l : Launch} {e : Env} {R : Room} {s : State} {m : MethodId} {args : Array Value} {below : List Frame} {meth : Method} {c : Code} {H : Heap} {locs : List Loc} {ls : Array Slot} {ce sl : Nat} {idx : Nat} {y : MethodName} {ccy : ByteArray} {maxL d : Nat} {rety : Option FieldType} (as st : List PV)
    (hx : p.tables.exec = Jvm.exec) (hb : c.code = cc) (hml : c.maxLocals = nL) (hown : s.vm.findClass own = some m.cls) (hts : ∀ w ∈ TB, w.before args s = true) (hK : va_K (gD G) vwCl (tyG G) s) (hR : lev + 1 ≤ R.frames ∧ 34 * (lev + 1) ≤ R.locals ∧ ce ≤ R.cells ∧ sl ≤ R.slots)
    (hd : decode cc pc = .ok (.invokestatic idx, 3)) (hM : Met l y (wsY y ccy maxL rety) (rmL d) (PcG G as σ) Qc 0 0 (AA G)) (hw : MW y ccy maxL rety as.length) (hl1 : Cond.methodLink own idx y ∈ TB) (hl2 : Cond.static y ∈ TB) (hlev : d < lev) (hst : sC st ≤ 8)
    (hP : va_P (gD G) vwCl (WS G σ) H) (hls : ls.size = nL) : va_Run p l e R s m args below meth c H locs ce sl 0 0 (F0 m pc ls (dens (gA G) (as.reverse ++ st))) (dens (gA G) st) (Qc (dens (gA G) as).toArray) (AA G) := by
  refine va_runS (As := dens (gA G) as) (rest := dens (gA G) st) (Ts := TB) ⟨hx, hb, hml, hown, hts⟩ hM ⟨callB_TB hts hw hl1 hlev ⟨hR.1, hR.2.1⟩, hts _ hl2⟩ ⟨PcG_blind _ _ _, fun U hU hW => ⟨rfl, by rw [hU]; exact hP, va_K.moved hW.alike hK⟩⟩ rfl (by simp) hls ?_ ?_ hd ⟨hR.2.2.1, hR.2.2.2⟩
  · simp [dens]
  · exact lv_room (by rw [sC_eq]; exact hst)
theorem w_callVI (C : CX G X cc own nL ret lev) {idx : Nat} {y : MethodName} {ccy : ByteArray} {maxL d : Nat} {rety : Option FieldType} {o : Int} {stk : List PV} {post : Int → Mem → Prop} (as st : List PV) (hsk : stk = as.reverse ++ pR o :: st) (hd : decode cc pc = .ok (.invokevirtual idx, 3)) (hM : CtI G (xL X) y ccy maxL rety d (pR o :: as) σ post) (ho : OC G o y.cls) (hw : MW y ccy maxL rety as.length) (hl1 : Cond.methodLink own idx y ∈ TB) (hl2 : Cond.instanceMethod y ∈ TB) (hl3 : Cond.selects y.cls y y ∈ TB) (hlev : d < lev) (hst : sC st ≤ 8)
    (kk : ∀ (z : Int) (σ' : Mem), post z σ' → RW G X nL Q (pc + 3) lv (pI z :: st) σ') : RW G X nL Q pc lv stk σ := by
  obtain ⟨⟨p, l, e, R, s⟩, ⟨m, args, below, meth, c⟩, A0, ce, sl⟩ := X
  obtain ⟨hx, hb, hml, hown, hts, hK, hG, hAA, hlocks, hr, hR⟩ := C
  subst hsk
  intro H locs ls hP hS hl
  refine va_calli (run_V as st hx hb hml hown hts hK hR hd hM ho hw hl1 hl2 hl3 hlev hst hP hl.1) hS (fun q _ h => hAA q h) hAA (fun r u t H1 locs1 ht hvm hpost hB hz1 hk1 hS1 => ?_)
  obtain ⟨z, rfl, hp⟩ := hpost
  exact kk z u hp H1 locs1 ls (by rw [← ht]; exact hB) hS1 hl
theorem w_callSI (C : CX G X cc own nL ret lev) {idx : Nat} {y : MethodName} {ccy : ByteArray} {maxL d : Nat} {rety : Option FieldType} {stk : List PV} {post : Int → Mem → Prop} (as st : List PV) (hsk : stk = as.reverse ++ st) (hd : decode cc pc = .ok (.invokestatic idx, 3)) (hM : CtI G (xL X) y ccy maxL rety d as σ post) (hw : MW y ccy maxL rety as.length) (hl1 : Cond.methodLink own idx y ∈ TB) (hl2 : Cond.static y ∈ TB) (hlev : d < lev) (hst : sC st ≤ 8)
    (kk : ∀ (z : Int) (σ' : Mem), post z σ' → RW G X nL Q (pc + 3) lv (pI z :: st) σ') : RW G X nL Q pc lv stk σ := by
  obtain ⟨⟨p, l, e, R, s⟩, ⟨m, args, below, meth, c⟩, A0, ce, sl⟩ := X
  obtain ⟨hx, hb, hml, hown, hts, hK, hG, hAA, hlocks, hr, hR⟩ := C
  subst hsk
  intro H locs ls hP hS hl
  refine va_calli (run_S as st hx hb hml hown hts hK hR hd hM hw hl1 hl2 hlev hst hP hl.1) hS (fun q _ h => hAA q h) hAA (fun r u t H1 locs1 ht hvm hpost hB hz1 hk1 hS1 => ?_)
  obtain ⟨z, rfl, hp⟩ := hpost
  exact kk z u hp H1 locs1 ls (by rw [← ht]; exact hB) hS1 hl

theorem w_callVL (C : CX G X cc own nL ret lev) {idx : Nat} {y : MethodName} {ccy : ByteArray} {maxL d : Nat} {rety : Option FieldType} {o : Int} {stk : List PV} {post : Int → Mem → Prop} (as st : List PV) (hsk : stk = as.reverse ++ pR o :: st) (hd : decode cc pc = .ok (.invokevirtual idx, 3)) (hM : CtL G (xL X) y ccy maxL rety d (pR o :: as) σ post) (ho : OC G o y.cls) (hw : MW y ccy maxL rety as.length) (hl1 : Cond.methodLink own idx y ∈ TB) (hl2 : Cond.instanceMethod y ∈ TB) (hl3 : Cond.selects y.cls y y ∈ TB) (hlev : d < lev) (hst : sC st ≤ 8)
    (kk : ∀ (z : Int) (σ' : Mem), post z σ' → RW G X nL Q (pc + 3) lv (pL z :: st) σ') : RW G X nL Q pc lv stk σ := by
  obtain ⟨⟨p, l, e, R, s⟩, ⟨m, args, below, meth, c⟩, A0, ce, sl⟩ := X
  obtain ⟨hx, hb, hml, hown, hts, hK, hG, hAA, hlocks, hr, hR⟩ := C
  subst hsk
  intro H locs ls hP hS hl
  refine va_calll (run_V as st hx hb hml hown hts hK hR hd hM ho hw hl1 hl2 hl3 hlev hst hP hl.1) hS (fun q _ h => hAA q h) hAA (fun r u t H1 locs1 ht hvm hpost hB hz1 hk1 hS1 => ?_)
  obtain ⟨z, rfl, hp⟩ := hpost
  exact kk z u hp H1 locs1 ls (by rw [← ht]; exact hB) hS1 hl
theorem w_callSL (C : CX G X cc own nL ret lev) {idx : Nat} {y : MethodName} {ccy : ByteArray} {maxL d : Nat} {rety : Option FieldType} {stk : List PV} {post : Int → Mem → Prop} (as st : List PV) (hsk : stk = as.reverse ++ st) (hd : decode cc pc = .ok (.invokestatic idx, 3)) (hM : CtL G (xL X) y ccy maxL rety d as σ post) (hw : MW y ccy maxL rety as.length) (hl1 : Cond.methodLink own idx y ∈ TB) (hl2 : Cond.static y ∈ TB) (hlev : d < lev) (hst : sC st ≤ 8)
    (kk : ∀ (z : Int) (σ' : Mem), post z σ' → RW G X nL Q (pc + 3) lv (pL z :: st) σ') : RW G X nL Q pc lv stk σ := by
  obtain ⟨⟨p, l, e, R, s⟩, ⟨m, args, below, meth, c⟩, A0, ce, sl⟩ := X
  obtain ⟨hx, hb, hml, hown, hts, hK, hG, hAA, hlocks, hr, hR⟩ := C
  subst hsk
  intro H locs ls hP hS hl
  refine va_calll (run_S as st hx hb hml hown hts hK hR hd hM hw hl1 hl2 hlev hst hP hl.1) hS (fun q _ h => hAA q h) hAA (fun r u t H1 locs1 ht hvm hpost hB hz1 hk1 hS1 => ?_)
  obtain ⟨z, rfl, hp⟩ := hpost
  exact kk z u hp H1 locs1 ls (by rw [← ht]; exact hB) hS1 hl

theorem w_callVV (C : CX G X cc own nL ret lev) {idx : Nat} {y : MethodName} {ccy : ByteArray} {maxL d : Nat} {rety : Option FieldType} {o : Int} {stk : List PV} {post : Mem → Prop} (as st : List PV) (hsk : stk = as.reverse ++ pR o :: st) (hd : decode cc pc = .ok (.invokevirtual idx, 3)) (hM : CtV G (xL X) y ccy maxL rety d (pR o :: as) σ post) (ho : OC G o y.cls) (hw : MW y ccy maxL rety as.length) (hl1 : Cond.methodLink own idx y ∈ TB) (hl2 : Cond.instanceMethod y ∈ TB) (hl3 : Cond.selects y.cls y y ∈ TB) (hlev : d < lev) (hst : sC st ≤ 8)
    (kk : ∀ (σ' : Mem), post σ' → RW G X nL Q (pc + 3) lv st σ') : RW G X nL Q pc lv stk σ := by
  obtain ⟨⟨p, l, e, R, s⟩, ⟨m, args, below, meth, c⟩, A0, ce, sl⟩ := X
  obtain ⟨hx, hb, hml, hown, hts, hK, hG, hAA, hlocks, hr, hR⟩ := C
  subst hsk
  intro H locs ls hP hS hl
  refine va_callv (run_V as st hx hb hml hown hts hK hR hd hM ho hw hl1 hl2 hl3 hlev hst hP hl.1) hS (fun q _ h => hAA q h) hAA (fun u t H1 locs1 ht hvm hpost hB hz1 hk1 hS1 => ?_)
  exact kk u hpost H1 locs1 ls (by rw [← ht]; exact hB) hS1 hl
theorem w_callSV (C : CX G X cc own nL ret lev) {idx : Nat} {y : MethodName} {ccy : ByteArray} {maxL d : Nat} {rety : Option FieldType} {stk : List PV} {post : Mem → Prop} (as st : List PV) (hsk : stk = as.reverse ++ st) (hd : decode cc pc = .ok (.invokestatic idx, 3)) (hM : CtV G (xL X) y ccy maxL rety d as σ post) (hw : MW y ccy maxL rety as.length) (hl1 : Cond.methodLink own idx y ∈ TB) (hl2 : Cond.static y ∈ TB) (hlev : d < lev) (hst : sC st ≤ 8)
    (kk : ∀ (σ' : Mem), post σ' → RW G X nL Q (pc + 3) lv st σ') : RW G X nL Q pc lv stk σ := by
  obtain ⟨⟨p, l, e, R, s⟩, ⟨m, args, below, meth, c⟩, A0, ce, sl⟩ := X
  obtain ⟨hx, hb, hml, hown, hts, hK, hG, hAA, hlocks, hr, hR⟩ := C
  subst hsk
  intro H locs ls hP hS hl
  refine va_callv (run_S as st hx hb hml hown hts hK hR hd hM hw hl1 hl2 hlev hst hP hl.1) hS (fun q _ h => hAA q h) hAA (fun u t H1 locs1 ht hvm hpost hB hz1 hk1 hS1 => ?_)
  exact kk u hpost H1 locs1 ls (by rw [← ht]; exact hB) hS1 hl

theorem w_max (C : CX G X cc own nL ret lev) {idx : Nat} {a b : Int} {st : List PV} (hd : decode cc pc = .ok (.invokestatic idx, 3)) (hl1 : Cond.methodLink own idx Lib.Math.max.name ∈ TB) (hw : Cond.static Lib.Math.max.name ∈ TB ∧ Cond.initialized "java/lang/Math" ∈ TB ∧ Cond.code Lib.Math.max.name Lib.Math.max.code 2 (some .int) ∈ TB) (ha : inR a) (hb' : inR b) (hst : sC st ≤ 20) (kk : RW G X nL Q (pc + 3) lv (pI (max a b) :: st) σ) : RW G X nL Q pc lv (pI b :: pI a :: st) σ := by
  obtain ⟨⟨p, l, e, R, s⟩, ⟨m, args, below, meth, c⟩, A0, ce, sl⟩ := X
  obtain ⟨hx, hb, hml, hown, hts, hK, hG, hAA, hlocks, hr, hR⟩ := C
  intro H locs ls hP hS hl
  have k : W p l e R s m args below meth c H locs ce sl Q (F0 m (pc + 3) ls (.int (oI (max a b)) :: dens (gA G) st)) := kk H locs ls hP hS hl
  have e1 : oI (max a b) = if oI a < oI b then oI b else oI a := by
    by_cases h : oI a < oI b
    · rw [if_pos h]; congr 1; have := (oI_lt ha hb' ).mp h; omega
    · rw [if_neg h]; congr 1; have := mt (oI_lt ha hb' ).mpr h; omega
  rw [e1] at k
  exact va_mmax hx hb (by rw [hml, hl.1]) hown (hts _ hl1) (hts _ hw.1) (hts _ hw.2.1) (hts _ hw.2.2) (by omega) (by rw [sC_eq]; omega) hR.2.2.1 hR.2.2.2 hd k

theorem w_min (C : CX G X cc own nL ret lev) {idx : Nat} {a b : Int} {st : List PV} (hd : decode cc pc = .ok (.invokestatic idx, 3)) (hl1 : Cond.methodLink own idx Lib.Math.min.name ∈ TB) (hw : Cond.static Lib.Math.min.name ∈ TB ∧ Cond.initialized "java/lang/Math" ∈ TB ∧ Cond.code Lib.Math.min.name Lib.Math.min.code 2 (some .int) ∈ TB) (ha : inR a) (hb' : inR b) (hst : sC st ≤ 20) (kk : RW G X nL Q (pc + 3) lv (pI (min a b) :: st) σ) : RW G X nL Q pc lv (pI b :: pI a :: st) σ := by
  obtain ⟨⟨p, l, e, R, s⟩, ⟨m, args, below, meth, c⟩, A0, ce, sl⟩ := X
  obtain ⟨hx, hb, hml, hown, hts, hK, hG, hAA, hlocks, hr, hR⟩ := C
  intro H locs ls hP hS hl
  have k : W p l e R s m args below meth c H locs ce sl Q (F0 m (pc + 3) ls (.int (oI (min a b)) :: dens (gA G) st)) := kk H locs ls hP hS hl
  have e1 : oI (min a b) = if oI b < oI a then oI b else oI a := by
    by_cases h : oI b < oI a
    · rw [if_pos h]; congr 1; have := (oI_lt hb' ha).mp h; omega
    · rw [if_neg h]; congr 1; have := mt (oI_lt hb' ha).mpr h; omega
  rw [e1] at k
  exact va_mmin hx hb (by rw [hml, hl.1]) hown (hts _ hl1) (hts _ hw.1) (hts _ hw.2.1) (hts _ hw.2.2) (by omega) (by rw [sC_eq]; omega) hR.2.2.1 hR.2.2.2 hd k

def cpM (σ : Mem) (c1 c2 : Int) (n : Nat) : Mem := fun c i => if c = c2 ∧ 0 ≤ i ∧ i < n then σ c1 i else σ c i
theorem w_acopy (C : CX G X cc own nL ret lev) {idx : Nat} {c1 c2 k : Int} {n1 n2 n : Nat} {st : List PV} (hk : k = n) (hd : decode cc pc = .ok (.invokestatic idx, 3)) (hl1 : Cond.methodLink own idx arraycopyName ∈ TB) (hw : Cond.native arraycopyName ∈ TB ∧ Cond.static arraycopyName ∈ TB ∧ Cond.initialized "java/lang/System" ∈ TB) (h1 : IsIA G c1 n1) (h2 : IsIA G c2 n2) (g1 : n ≤ n1) (g2 : n ≤ n2) (hst : sC st ≤ 8) (kk : RW G X nL Q (pc + 3) lv st (cpM σ c1 c2 n)) : RW G X nL Q pc lv (pI k :: pI 0 :: pR c2 :: pI 0 :: pR c1 :: st) σ := by
  obtain ⟨⟨p, l, e, R, s⟩, ⟨m, args, below, meth, c⟩, A0, ce, sl⟩ := X
  obtain ⟨hx, hb, hml, hown, hts, hK, hG, hAA, hlocks, hr, hR⟩ := C
  intro H locs ls hP hS hl
  obtain ⟨q1, rfl, hq1, hs1, hn1⟩ := h1
  obtain ⟨q2, rfl, hq2, hs2, hn2⟩ := h2
  subst hk
  have he1 : (WS G σ)[q1]? = some (gA G q1, iaE (gC G 0) n1 (σ q1)) := by rw [WS_get G σ hq1, hs1]
  have he2 : (WS G σ)[q2]? = some (gA G q2, iaE (gC G 0) n2 (σ q2)) := by rw [WS_get G σ hq2, hs2]
  have e0 : (oI 0).toNatClampNeg = 0 := by decide
  have hrn : inR (n : Int) := ⟨by omega, by omega⟩
  have en : (oI (n : Int)).toNatClampNeg = n := by rw [← Int32.toNat_toInt, oI_toInt hrn]; rfl
  refine va_copyi hx hb (by rw [hml, hl.1]) hown (hts _ hl1) (hts _ hw.1) (hts _ hw.2.1) (hts _ hw.2.2) hK hP (WS_D hG σ hAA) hS q1 q2 0 0 he1 he2 rfl rfl rfl (by decide) (by decide) (by rw [show (0 : Int32) = oI 0 from rfl, oI_lt hrn inR0]; omega) (by rw [e0, en]; omega) (by rw [e0, en]; omega) (fun i hi => rfl) (by omega) ?_ hd (fun H1 locs1 hP1 hD1 hS1 => kk H1 locs1 ls ?_ hS1 hl)
  · rw [sC_eq]
    have : nativeFrameWords "java/lang/System" "arraycopy" 5 ≤ 15 := by decide
    omega
  · rw [WS_set G σ (cpM σ q1 q2 n)] at hP1
    · exact hP1
    · intro j hj
      funext i
      unfold cpM
      rw [if_neg]
      rintro ⟨h, -⟩
      omega
    · rw [hs2]
      unfold iaE
      congr 4
      funext j
      rw [e0, en]
      unfold va_cpy cpM
      by_cases h : j < n
      · rw [if_pos ⟨by omega, by omega⟩, if_pos ⟨rfl, by omega, by omega⟩]
        congr 2
        omega
      · rw [if_neg (by omega), if_neg (by omega)]
end CALLS
end
section
theorem ia_2 {G : GG} : IsIA G 2 8 := ⟨2, rfl, by omega, rfl, by omega⟩
theorem ia_3 {G : GG} : IsIA G 3 8 := ⟨3, rfl, by omega, rfl, by omega⟩
theorem ia_4 {G : GG} : IsIA G 4 8 := ⟨4, rfl, by omega, rfl, by omega⟩
theorem ia_5 {G : GG} : IsIA G 5 8 := ⟨5, rfl, by omega, rfl, by omega⟩
theorem ia_6 {G : GG} : IsIA G 6 80 := ⟨6, rfl, by omega, rfl, by omega⟩
theorem ia_7 {G : GG} : IsIA G 7 80 := ⟨7, rfl, by omega, rfl, by omega⟩
theorem ia_13 {G : GG} : IsIA G 13 80 := ⟨13, rfl, by omega, rfl, by omega⟩
theorem ia_14 {G : GG} : IsIA G 14 80 := ⟨14, rfl, by omega, rfl, by omega⟩
theorem ia_15 {G : GG} : IsIA G 15 80 := ⟨15, rfl, by omega, rfl, by omega⟩
theorem ia_16 {G : GG} : IsIA G 16 48 := ⟨16, rfl, by omega, rfl, by omega⟩
theorem ia_17 {G : GG} : IsIA G 17 8 := ⟨17, rfl, by omega, rfl, by omega⟩
theorem ia_18 {G : GG} : IsIA G 18 5 := ⟨18, rfl, by omega, rfl, by omega⟩
theorem ia_20 {G : GG} : IsIA G 20 80 := ⟨20, rfl, by omega, rfl, by omega⟩
theorem ia_21 {G : GG} : IsIA G 21 80 := ⟨21, rfl, by omega, rfl, by omega⟩
theorem ia_22 {G : GG} : IsIA G 22 80 := ⟨22, rfl, by omega, rfl, by omega⟩
theorem ia_23 {G : GG} : IsIA G 23 48 := ⟨23, rfl, by omega, rfl, by omega⟩
theorem ia_24 {G : GG} : IsIA G 24 8 := ⟨24, rfl, by omega, rfl, by omega⟩
theorem ia_25 {G : GG} : IsIA G 25 5 := ⟨25, rfl, by omega, rfl, by omega⟩
theorem ia_27 {G : GG} : IsIA G 27 8 := ⟨27, rfl, by omega, rfl, by omega⟩
theorem ia_28 {G : GG} : IsIA G 28 8 := ⟨28, rfl, by omega, rfl, by omega⟩
theorem ia_29 {G : GG} : IsIA G 29 5 := ⟨29, rfl, by omega, rfl, by omega⟩
theorem ia_30 {G : GG} : IsIA G 30 8 := ⟨30, rfl, by omega, rfl, by omega⟩
theorem ia_32 {G : GG} : IsIA G 32 5 := ⟨32, rfl, by omega, rfl, by omega⟩
theorem ia_33 {G : GG} : IsIA G 33 8 := ⟨33, rfl, by omega, rfl, by omega⟩
theorem ia_34 {G : GG} : IsIA G 34 8 := ⟨34, rfl, by omega, rfl, by omega⟩
theorem ia_35 {G : GG} : IsIA G 35 8 := ⟨35, rfl, by omega, rfl, by omega⟩
theorem ia_36 {G : GG} : IsIA G 36 256 := ⟨36, rfl, by omega, rfl, by omega⟩
theorem ia_38 {G : GG} : IsIA G 38 8 := ⟨38, rfl, by omega, rfl, by omega⟩
theorem ia_39 {G : GG} : IsIA G 39 8 := ⟨39, rfl, by omega, rfl, by omega⟩
theorem ia_40 {G : GG} : IsIA G 40 8 := ⟨40, rfl, by omega, rfl, by omega⟩
theorem ia_41 {G : GG} : IsIA G 41 8 := ⟨41, rfl, by omega, rfl, by omega⟩
theorem ia_42 {G : GG} : IsIA G 42 48 := ⟨42, rfl, by omega, rfl, by omega⟩
theorem ia_43 {G : GG} : IsIA G 43 48 := ⟨43, rfl, by omega, rfl, by omega⟩
theorem ia_45 {G : GG} : IsIA G 45 320 := ⟨45, rfl, by omega, rfl, by omega⟩
theorem ia_46 {G : GG} : IsIA G 46 5 := ⟨46, rfl, by omega, rfl, by omega⟩
theorem ia_47 {G : GG} : IsIA G 47 240 := ⟨47, rfl, by omega, rfl, by omega⟩
theorem ia_48 {G : GG} : IsIA G 48 48 := ⟨48, rfl, by omega, rfl, by omega⟩
theorem ia_49 {G : GG} : IsIA G 49 8 := ⟨49, rfl, by omega, rfl, by omega⟩
theorem ia_51 {G : GG} : IsIA G 51 48 := ⟨51, rfl, by omega, rfl, by omega⟩
theorem ia_52 {G : GG} : IsIA G 52 48 := ⟨52, rfl, by omega, rfl, by omega⟩
theorem ia_53 {G : GG} : IsIA G 53 48 := ⟨53, rfl, by omega, rfl, by omega⟩
theorem ia_54 {G : GG} : IsIA G 54 48 := ⟨54, rfl, by omega, rfl, by omega⟩
theorem ia_55 {G : GG} : IsIA G 55 256 := ⟨55, rfl, by omega, rfl, by omega⟩
theorem ba_8 {G : GG} : IsBA G 8 80 := ⟨8, rfl, by omega, rfl, by omega⟩
theorem ba_44 {G : GG} : IsBA G 44 48 := ⟨44, rfl, by omega, rfl, by omega⟩
theorem ba_50 {G : GG} : IsBA G 50 48 := ⟨50, rfl, by omega, rfl, by omega⟩
theorem la_56 {G : GG} : IsLA G 56 1 := ⟨56, rfl, by omega, rfl, by omega⟩
theorem ia_10 {G : GG} (hG : GI G) : IsIA G 10 (gM G) := ⟨10, rfl, by omega, rfl, by have := hG.1; omega⟩
theorem ia_11 {G : GG} (hG : GI G) : IsIA G 11 (64 * gM G) := ⟨11, rfl, by omega, rfl, by have := hG.1; omega⟩
theorem ra_9 {G : GG} (hG : GI G) : IsRA G 9 := ⟨9, rfl, by omega, rfl, by have := hG.1; omega⟩
theorem ia_row {G : GG} {m : Int} (h0 : 0 ≤ m) (h1 : m < gM G) : IsIA G (57 + m) 48 := ⟨57 + m.toNat, by omega, by omega, by unfold shw; rw [List.getD_eq_getElem?_getD, List.getElem?_eq_none (by simp [shl])]; rfl, by omega⟩
theorem ob_0 {G : GG} : IsOb G 0 4 fsSR := ⟨0, rfl, by omega, rfl⟩
theorem oc_0 {G : GG} : OC G 0 RX4 := ⟨4, fsSR, _, ob_0, rfl, rfl⟩
theorem ob_1 {G : GG} : IsOb G 1 3 fsShop := ⟨1, rfl, by omega, rfl⟩
theorem oc_1 {G : GG} : OC G 1 RX3 := ⟨3, fsShop, _, ob_1, rfl, rfl⟩
theorem ob_12 {G : GG} : IsOb G 12 2 (fsPlan 12) := ⟨12, rfl, by omega, rfl⟩
theorem oc_12 {G : GG} : OC G 12 RX2 := ⟨2, (fsPlan 12), _, ob_12, rfl, rfl⟩
theorem ob_19 {G : GG} : IsOb G 19 2 (fsPlan 19) := ⟨19, rfl, by omega, rfl⟩
theorem oc_19 {G : GG} : OC G 19 RX2 := ⟨2, (fsPlan 19), _, ob_19, rfl, rfl⟩
theorem ob_26 {G : GG} : IsOb G 26 1 fsFill := ⟨26, rfl, by omega, rfl⟩
theorem oc_26 {G : GG} : OC G 26 RX1 := ⟨1, fsFill, _, ob_26, rfl, rfl⟩
theorem ob_31 {G : GG} : IsOb G 31 0 fsBnd := ⟨31, rfl, by omega, rfl⟩
theorem oc_31 {G : GG} : OC G 31 RX0 := ⟨0, fsBnd, _, ob_31, rfl, rfl⟩
theorem ob_37 {G : GG} : IsOb G 37 5 fsMod := ⟨37, rfl, by omega, rfl⟩
theorem oc_37 {G : GG} : OC G 37 RX5 := ⟨5, fsMod, _, ob_37, rfl, rfl⟩
theorem ob_t {G : GG} {t : Int} (ht : t = 12 ∨ t = 19) : IsOb G t 2 (fsPlan t) := by rcases ht with rfl | rfl; exact ob_12; exact ob_19
theorem oc_t {G : GG} {t : Int} (ht : t = 12 ∨ t = 19) : OC G t RX2 := by rcases ht with rfl | rfl; exact oc_12; exact oc_19
theorem ia_t1 {G : GG} {t : Int} (ht : t = 12 ∨ t = 19) : IsIA G (t + 1) 80 := by rcases ht with rfl | rfl; exact ia_13; exact ia_20
theorem ia_t2 {G : GG} {t : Int} (ht : t = 12 ∨ t = 19) : IsIA G (t + 2) 80 := by rcases ht with rfl | rfl; exact ia_14; exact ia_21
theorem ia_t3 {G : GG} {t : Int} (ht : t = 12 ∨ t = 19) : IsIA G (t + 3) 80 := by rcases ht with rfl | rfl; exact ia_15; exact ia_22
theorem ia_t4 {G : GG} {t : Int} (ht : t = 12 ∨ t = 19) : IsIA G (t + 4) 48 := by rcases ht with rfl | rfl; exact ia_16; exact ia_23
theorem ia_t5 {G : GG} {t : Int} (ht : t = 12 ∨ t = 19) : IsIA G (t + 5) 8 := by rcases ht with rfl | rfl; exact ia_17; exact ia_24
theorem ia_t6 {G : GG} {t : Int} (ht : t = 12 ∨ t = 19) : IsIA G (t + 6) 5 := by rcases ht with rfl | rfl; exact ia_18; exact ia_25
theorem inB0 : ∀ w ∈ u_ws RX0 TX0 7, w ∈ TB := by decide +kernel
theorem inB1 : ∀ w ∈ u_ws RX1 TX1 5, w ∈ TB := by decide +kernel
theorem inB2 : ∀ w ∈ u_ws RX2 TX2 9, w ∈ TB := by decide +kernel
theorem inB3 : ∀ w ∈ u_ws RX3 TX3 14, w ∈ TB := by decide +kernel
theorem inB4 : ∀ w ∈ u_ws RX4 TX4 5, w ∈ TB := by decide +kernel
theorem inB5 : ∀ w ∈ u_ws RX5 TX5 24, w ∈ TB := by decide +kernel
theorem gf_X4_25 : GF RX4 25 4 0 := ⟨RX4, TX4, 5, rfl, inB4, by decide, TB_of 243 (by decide +kernel) rfl⟩
theorem gf_X4_34 : GF RX4 34 4 1 := ⟨RX4, TX4, 5, rfl, inB4, by decide, TB_of 244 (by decide +kernel) rfl⟩
theorem gf_X4_38 : GF RX4 38 4 2 := ⟨RX4, TX4, 5, rfl, inB4, by decide, TB_of 245 (by decide +kernel) rfl⟩
theorem gf_X4_44 : GF RX4 44 4 3 := ⟨RX4, TX4, 5, rfl, inB4, by decide, TB_of 246 (by decide +kernel) rfl⟩
theorem gf_X4_51 : GF RX4 51 4 4 := ⟨RX4, TX4, 5, rfl, inB4, by decide, TB_of 247 (by decide +kernel) rfl⟩
theorem gf_X4_59 : GF RX4 59 3 1 := ⟨RX3, TX3, 14, rfl, inB3, by decide, TB_of 80 (by decide +kernel) rfl⟩
theorem pf_X4_59 : PF RX4 59 3 1 := ⟨RX3, TX3, 14, tyX3, rfl, inB3, by decide, TB_of 80 (by decide +kernel) rfl, tyX3_ok, nmX3, rfl, by decide +kernel⟩
theorem gf_X4_74 : GF RX4 74 3 7 := ⟨RX3, TX3, 14, rfl, inB3, by decide, TB_of 100 (by decide +kernel) rfl⟩
theorem gf_X4_94 : GF RX4 94 3 8 := ⟨RX3, TX3, 14, rfl, inB3, by decide, TB_of 106 (by decide +kernel) rfl⟩
theorem gf_X4_97 : GF RX4 97 3 12 := ⟨RX3, TX3, 14, rfl, inB3, by decide, TB_of 120 (by decide +kernel) rfl⟩
theorem gf_X4_100 : GF RX4 100 3 10 := ⟨RX3, TX3, 14, rfl, inB3, by decide, TB_of 113 (by decide +kernel) rfl⟩
theorem gf_X4_118 : GF RX4 118 3 11 := ⟨RX3, TX3, 14, rfl, inB3, by decide, TB_of 117 (by decide +kernel) rfl⟩
theorem gf_X4_125 : GF RX4 125 3 2 := ⟨RX3, TX3, 14, rfl, inB3, by decide, TB_of 86 (by decide +kernel) rfl⟩
theorem pf_X4_125 : PF RX4 125 3 2 := ⟨RX3, TX3, 14, tyX3, rfl, inB3, by decide, TB_of 86 (by decide +kernel) rfl, tyX3_ok, nmX3, rfl, by decide +kernel⟩
theorem gf_X4_132 : GF RX4 132 2 2 := ⟨RX2, TX2, 9, rfl, inB2, by decide, TB_of 164 (by decide +kernel) rfl⟩
theorem gf_X4_144 : GF RX4 144 2 1 := ⟨RX2, TX2, 9, rfl, inB2, by decide, TB_of 162 (by decide +kernel) rfl⟩
theorem pf_X4_144 : PF RX4 144 2 1 := ⟨RX2, TX2, 9, tyX2, rfl, inB2, by decide, TB_of 162 (by decide +kernel) rfl, tyX2_ok, nmX2, rfl, by decide +kernel⟩
theorem gf_X4_152 : GF RX4 152 3 5 := ⟨RX3, TX3, 14, rfl, inB3, by decide, TB_of 95 (by decide +kernel) rfl⟩
theorem gf_X4_155 : GF RX4 155 3 6 := ⟨RX3, TX3, 14, rfl, inB3, by decide, TB_of 97 (by decide +kernel) rfl⟩
theorem gf_X4_161 : GF RX4 161 3 0 := ⟨RX3, TX3, 14, rfl, inB3, by decide, TB_of 78 (by decide +kernel) rfl⟩
theorem gf_X0_9 : GF RX0 9 0 1 := ⟨RX0, TX0, 7, rfl, inB0, by decide, TB_of 222 (by decide +kernel) rfl⟩
theorem gf_X0_15 : GF RX0 15 0 2 := ⟨RX0, TX0, 7, rfl, inB0, by decide, TB_of 223 (by decide +kernel) rfl⟩
theorem pf_X0_15 : PF RX0 15 0 2 := ⟨RX0, TX0, 7, tyX0, rfl, inB0, by decide, TB_of 223 (by decide +kernel) rfl, tyX0_ok, nmX0, rfl, by decide +kernel⟩
theorem gf_X0_19 : GF RX0 19 0 3 := ⟨RX0, TX0, 7, rfl, inB0, by decide, TB_of 224 (by decide +kernel) rfl⟩
theorem gf_X0_22 : GF RX0 22 0 4 := ⟨RX0, TX0, 7, rfl, inB0, by decide, TB_of 225 (by decide +kernel) rfl⟩
theorem gf_X0_25 : GF RX0 25 0 5 := ⟨RX0, TX0, 7, rfl, inB0, by decide, TB_of 226 (by decide +kernel) rfl⟩
theorem gf_X0_28 : GF RX0 28 0 6 := ⟨RX0, TX0, 7, rfl, inB0, by decide, TB_of 227 (by decide +kernel) rfl⟩
theorem gf_X0_31 : GF RX0 31 0 0 := ⟨RX0, TX0, 7, rfl, inB0, by decide, TB_of 221 (by decide +kernel) rfl⟩
theorem gf_X0_41 : GF RX0 41 3 0 := ⟨RX3, TX3, 14, rfl, inB3, by decide, TB_of 77 (by decide +kernel) rfl⟩
theorem gf_X0_60 : GF RX0 60 3 1 := ⟨RX3, TX3, 14, rfl, inB3, by decide, TB_of 81 (by decide +kernel) rfl⟩
theorem pf_X0_60 : PF RX0 60 3 1 := ⟨RX3, TX3, 14, tyX3, rfl, inB3, by decide, TB_of 81 (by decide +kernel) rfl, tyX3_ok, nmX3, rfl, by decide +kernel⟩
theorem gf_X0_63 : GF RX0 63 3 7 := ⟨RX3, TX3, 14, rfl, inB3, by decide, TB_of 101 (by decide +kernel) rfl⟩
theorem gf_X0_66 : GF RX0 66 3 4 := ⟨RX3, TX3, 14, rfl, inB3, by decide, TB_of 91 (by decide +kernel) rfl⟩
theorem gf_X0_73 : GF RX0 73 3 8 := ⟨RX3, TX3, 14, rfl, inB3, by decide, TB_of 104 (by decide +kernel) rfl⟩
theorem gf_X0_87 : GF RX0 87 3 9 := ⟨RX3, TX3, 14, rfl, inB3, by decide, TB_of 111 (by decide +kernel) rfl⟩
theorem gf_X1_9 : GF RX1 9 1 1 := ⟨RX1, TX1, 5, rfl, inB1, by decide, TB_of 197 (by decide +kernel) rfl⟩
theorem gf_X1_15 : GF RX1 15 1 2 := ⟨RX1, TX1, 5, rfl, inB1, by decide, TB_of 198 (by decide +kernel) rfl⟩
theorem gf_X1_18 : GF RX1 18 1 3 := ⟨RX1, TX1, 5, rfl, inB1, by decide, TB_of 199 (by decide +kernel) rfl⟩
theorem gf_X1_21 : GF RX1 21 1 4 := ⟨RX1, TX1, 5, rfl, inB1, by decide, TB_of 200 (by decide +kernel) rfl⟩
theorem gf_X1_24 : GF RX1 24 1 0 := ⟨RX1, TX1, 5, rfl, inB1, by decide, TB_of 196 (by decide +kernel) rfl⟩
theorem gf_X1_39 : GF RX1 39 3 4 := ⟨RX3, TX3, 14, rfl, inB3, by decide, TB_of 90 (by decide +kernel) rfl⟩
theorem gf_X1_48 : GF RX1 48 3 2 := ⟨RX3, TX3, 14, rfl, inB3, by decide, TB_of 85 (by decide +kernel) rfl⟩
theorem pf_X1_48 : PF RX1 48 3 2 := ⟨RX3, TX3, 14, tyX3, rfl, inB3, by decide, TB_of 85 (by decide +kernel) rfl, tyX3_ok, nmX3, rfl, by decide +kernel⟩
theorem gf_X1_67 : GF RX1 67 3 7 := ⟨RX3, TX3, 14, rfl, inB3, by decide, TB_of 99 (by decide +kernel) rfl⟩
theorem gf_X1_70 : GF RX1 70 3 8 := ⟨RX3, TX3, 14, rfl, inB3, by decide, TB_of 105 (by decide +kernel) rfl⟩
theorem gf_X1_77 : GF RX1 77 3 9 := ⟨RX3, TX3, 14, rfl, inB3, by decide, TB_of 109 (by decide +kernel) rfl⟩
theorem gf_X1_80 : GF RX1 80 3 1 := ⟨RX3, TX3, 14, rfl, inB3, by decide, TB_of 82 (by decide +kernel) rfl⟩
theorem pf_X1_80 : PF RX1 80 3 1 := ⟨RX3, TX3, 14, tyX3, rfl, inB3, by decide, TB_of 82 (by decide +kernel) rfl, tyX3_ok, nmX3, rfl, by decide +kernel⟩
theorem gf_X1_98 : GF RX1 98 3 12 := ⟨RX3, TX3, 14, rfl, inB3, by decide, TB_of 121 (by decide +kernel) rfl⟩
theorem gf_X1_101 : GF RX1 101 3 11 := ⟨RX3, TX3, 14, rfl, inB3, by decide, TB_of 116 (by decide +kernel) rfl⟩
theorem gf_X1_116 : GF RX1 116 3 5 := ⟨RX3, TX3, 14, rfl, inB3, by decide, TB_of 94 (by decide +kernel) rfl⟩
theorem gf_X2_9 : GF RX2 9 2 1 := ⟨RX2, TX2, 9, rfl, inB2, by decide, TB_of 161 (by decide +kernel) rfl⟩
theorem pf_X2_9 : PF RX2 9 2 1 := ⟨RX2, TX2, 9, tyX2, rfl, inB2, by decide, TB_of 161 (by decide +kernel) rfl, tyX2_ok, nmX2, rfl, by decide +kernel⟩
theorem gf_X2_15 : GF RX2 15 2 2 := ⟨RX2, TX2, 9, rfl, inB2, by decide, TB_of 163 (by decide +kernel) rfl⟩
theorem gf_X2_19 : GF RX2 19 2 3 := ⟨RX2, TX2, 9, rfl, inB2, by decide, TB_of 165 (by decide +kernel) rfl⟩
theorem gf_X2_22 : GF RX2 22 2 4 := ⟨RX2, TX2, 9, rfl, inB2, by decide, TB_of 166 (by decide +kernel) rfl⟩
theorem gf_X2_25 : GF RX2 25 2 5 := ⟨RX2, TX2, 9, rfl, inB2, by decide, TB_of 167 (by decide +kernel) rfl⟩
theorem gf_X2_28 : GF RX2 28 2 6 := ⟨RX2, TX2, 9, rfl, inB2, by decide, TB_of 168 (by decide +kernel) rfl⟩
theorem pf_X2_28 : PF RX2 28 2 6 := ⟨RX2, TX2, 9, tyX2, rfl, inB2, by decide, TB_of 168 (by decide +kernel) rfl, tyX2_ok, nmX2, rfl, by decide +kernel⟩
theorem gf_X2_31 : GF RX2 31 2 7 := ⟨RX2, TX2, 9, rfl, inB2, by decide, TB_of 169 (by decide +kernel) rfl⟩
theorem gf_X2_34 : GF RX2 34 2 8 := ⟨RX2, TX2, 9, rfl, inB2, by decide, TB_of 170 (by decide +kernel) rfl⟩
theorem gf_X2_37 : GF RX2 37 2 0 := ⟨RX2, TX2, 9, rfl, inB2, by decide, TB_of 160 (by decide +kernel) rfl⟩
theorem gf_X2_41 : GF RX2 41 3 3 := ⟨RX3, TX3, 14, rfl, inB3, by decide, TB_of 88 (by decide +kernel) rfl⟩
theorem pf_X2_41 : PF RX2 41 3 3 := ⟨RX3, TX3, 14, tyX3, rfl, inB3, by decide, TB_of 88 (by decide +kernel) rfl, tyX3_ok, nmX3, rfl, by decide +kernel⟩
theorem gf_X2_46 : GF RX2 46 3 2 := ⟨RX3, TX3, 14, rfl, inB3, by decide, TB_of 84 (by decide +kernel) rfl⟩
theorem pf_X2_46 : PF RX2 46 3 2 := ⟨RX3, TX3, 14, tyX3, rfl, inB3, by decide, TB_of 84 (by decide +kernel) rfl, tyX3_ok, nmX3, rfl, by decide +kernel⟩
theorem gf_X2_58 : GF RX2 58 3 0 := ⟨RX3, TX3, 14, rfl, inB3, by decide, TB_of 76 (by decide +kernel) rfl⟩
theorem gf_X2_61 : GF RX2 61 3 11 := ⟨RX3, TX3, 14, rfl, inB3, by decide, TB_of 115 (by decide +kernel) rfl⟩
theorem gf_X2_65 : GF RX2 65 3 12 := ⟨RX3, TX3, 14, rfl, inB3, by decide, TB_of 119 (by decide +kernel) rfl⟩
theorem gf_X2_76 : GF RX2 76 3 4 := ⟨RX3, TX3, 14, rfl, inB3, by decide, TB_of 92 (by decide +kernel) rfl⟩
theorem gf_X2_93 : GF RX2 93 3 9 := ⟨RX3, TX3, 14, rfl, inB3, by decide, TB_of 110 (by decide +kernel) rfl⟩
theorem gf_X2_96 : GF RX2 96 3 7 := ⟨RX3, TX3, 14, rfl, inB3, by decide, TB_of 102 (by decide +kernel) rfl⟩
theorem gf_X2_105 : GF RX2 105 3 8 := ⟨RX3, TX3, 14, rfl, inB3, by decide, TB_of 107 (by decide +kernel) rfl⟩
theorem gf_X3_9 : GF RX3 9 3 1 := ⟨RX3, TX3, 14, rfl, inB3, by decide, TB_of 79 (by decide +kernel) rfl⟩
theorem pf_X3_9 : PF RX3 9 3 1 := ⟨RX3, TX3, 14, tyX3, rfl, inB3, by decide, TB_of 79 (by decide +kernel) rfl, tyX3_ok, nmX3, rfl, by decide +kernel⟩
theorem gf_X3_15 : GF RX3 15 3 2 := ⟨RX3, TX3, 14, rfl, inB3, by decide, TB_of 83 (by decide +kernel) rfl⟩
theorem pf_X3_15 : PF RX3 15 3 2 := ⟨RX3, TX3, 14, tyX3, rfl, inB3, by decide, TB_of 83 (by decide +kernel) rfl, tyX3_ok, nmX3, rfl, by decide +kernel⟩
theorem gf_X3_18 : GF RX3 18 3 3 := ⟨RX3, TX3, 14, rfl, inB3, by decide, TB_of 87 (by decide +kernel) rfl⟩
theorem pf_X3_18 : PF RX3 18 3 3 := ⟨RX3, TX3, 14, tyX3, rfl, inB3, by decide, TB_of 87 (by decide +kernel) rfl, tyX3_ok, nmX3, rfl, by decide +kernel⟩
theorem gf_X3_21 : GF RX3 21 3 4 := ⟨RX3, TX3, 14, rfl, inB3, by decide, TB_of 89 (by decide +kernel) rfl⟩
theorem gf_X3_25 : GF RX3 25 3 5 := ⟨RX3, TX3, 14, rfl, inB3, by decide, TB_of 93 (by decide +kernel) rfl⟩
theorem gf_X3_28 : GF RX3 28 3 6 := ⟨RX3, TX3, 14, rfl, inB3, by decide, TB_of 96 (by decide +kernel) rfl⟩
theorem gf_X3_31 : GF RX3 31 3 7 := ⟨RX3, TX3, 14, rfl, inB3, by decide, TB_of 98 (by decide +kernel) rfl⟩
theorem gf_X3_34 : GF RX3 34 3 8 := ⟨RX3, TX3, 14, rfl, inB3, by decide, TB_of 103 (by decide +kernel) rfl⟩
theorem gf_X3_37 : GF RX3 37 3 9 := ⟨RX3, TX3, 14, rfl, inB3, by decide, TB_of 108 (by decide +kernel) rfl⟩
theorem gf_X3_40 : GF RX3 40 3 10 := ⟨RX3, TX3, 14, rfl, inB3, by decide, TB_of 112 (by decide +kernel) rfl⟩
theorem gf_X3_44 : GF RX3 44 3 0 := ⟨RX3, TX3, 14, rfl, inB3, by decide, TB_of 75 (by decide +kernel) rfl⟩
theorem gf_X3_49 : GF RX3 49 3 11 := ⟨RX3, TX3, 14, rfl, inB3, by decide, TB_of 114 (by decide +kernel) rfl⟩
theorem gf_X3_52 : GF RX3 52 3 12 := ⟨RX3, TX3, 14, rfl, inB3, by decide, TB_of 118 (by decide +kernel) rfl⟩
theorem gf_X3_55 : GF RX3 55 3 13 := ⟨RX3, TX3, 14, rfl, inB3, by decide, TB_of 122 (by decide +kernel) rfl⟩
theorem gf_X5_7 : GF RX5 7 5 3 := ⟨RX5, TX5, 24, rfl, inB5, by decide, TB_of 621 (by decide +kernel) rfl⟩
theorem gf_X5_13 : GF RX5 13 5 4 := ⟨RX5, TX5, 24, rfl, inB5, by decide, TB_of 622 (by decide +kernel) rfl⟩
theorem gf_X5_16 : GF RX5 16 5 5 := ⟨RX5, TX5, 24, rfl, inB5, by decide, TB_of 623 (by decide +kernel) rfl⟩
theorem gf_X5_19 : GF RX5 19 5 6 := ⟨RX5, TX5, 24, rfl, inB5, by decide, TB_of 624 (by decide +kernel) rfl⟩
theorem gf_X5_22 : GF RX5 22 5 7 := ⟨RX5, TX5, 24, rfl, inB5, by decide, TB_of 625 (by decide +kernel) rfl⟩
theorem gf_X5_25 : GF RX5 25 5 8 := ⟨RX5, TX5, 24, rfl, inB5, by decide, TB_of 626 (by decide +kernel) rfl⟩
theorem gf_X5_28 : GF RX5 28 5 9 := ⟨RX5, TX5, 24, rfl, inB5, by decide, TB_of 627 (by decide +kernel) rfl⟩
theorem gf_X5_32 : GF RX5 32 5 10 := ⟨RX5, TX5, 24, rfl, inB5, by decide, TB_of 628 (by decide +kernel) rfl⟩
theorem gf_X5_35 : GF RX5 35 5 11 := ⟨RX5, TX5, 24, rfl, inB5, by decide, TB_of 629 (by decide +kernel) rfl⟩
theorem gf_X5_38 : GF RX5 38 5 12 := ⟨RX5, TX5, 24, rfl, inB5, by decide, TB_of 630 (by decide +kernel) rfl⟩
theorem gf_X5_41 : GF RX5 41 5 13 := ⟨RX5, TX5, 24, rfl, inB5, by decide, TB_of 631 (by decide +kernel) rfl⟩
theorem gf_X5_44 : GF RX5 44 5 14 := ⟨RX5, TX5, 24, rfl, inB5, by decide, TB_of 632 (by decide +kernel) rfl⟩
theorem gf_X5_47 : GF RX5 47 5 17 := ⟨RX5, TX5, 24, rfl, inB5, by decide, TB_of 635 (by decide +kernel) rfl⟩
theorem gf_X5_50 : GF RX5 50 5 18 := ⟨RX5, TX5, 24, rfl, inB5, by decide, TB_of 636 (by decide +kernel) rfl⟩
theorem gf_X5_53 : GF RX5 53 5 19 := ⟨RX5, TX5, 24, rfl, inB5, by decide, TB_of 637 (by decide +kernel) rfl⟩
theorem gf_X5_56 : GF RX5 56 5 20 := ⟨RX5, TX5, 24, rfl, inB5, by decide, TB_of 638 (by decide +kernel) rfl⟩
theorem gf_X5_59 : GF RX5 59 5 22 := ⟨RX5, TX5, 24, rfl, inB5, by decide, TB_of 640 (by decide +kernel) rfl⟩
theorem gf_X5_62 : GF RX5 62 5 23 := ⟨RX5, TX5, 24, rfl, inB5, by decide, TB_of 641 (by decide +kernel) rfl⟩
theorem gf_X5_65 : GF RX5 65 5 1 := ⟨RX5, TX5, 24, rfl, inB5, by decide, TB_of 619 (by decide +kernel) rfl⟩
theorem gf_X5_69 : GF RX5 69 5 0 := ⟨RX5, TX5, 24, rfl, inB5, by decide, TB_of 618 (by decide +kernel) rfl⟩
theorem pf_X5_69 : PF RX5 69 5 0 := ⟨RX5, TX5, 24, tyX5, rfl, inB5, by decide, TB_of 618 (by decide +kernel) rfl, tyX5_ok, nmX5, rfl, by decide +kernel⟩
theorem gf_X5_72 : GF RX5 72 5 2 := ⟨RX5, TX5, 24, rfl, inB5, by decide, TB_of 620 (by decide +kernel) rfl⟩
theorem pf_X5_72 : PF RX5 72 5 2 := ⟨RX5, TX5, 24, tyX5, rfl, inB5, by decide, TB_of 620 (by decide +kernel) rfl, tyX5_ok, nmX5, rfl, by decide +kernel⟩
theorem gf_X5_113 : GF RX5 113 5 15 := ⟨RX5, TX5, 24, rfl, inB5, by decide, TB_of 633 (by decide +kernel) rfl⟩
theorem pf_X5_113 : PF RX5 113 5 15 := ⟨RX5, TX5, 24, tyX5, rfl, inB5, by decide, TB_of 633 (by decide +kernel) rfl, tyX5_ok, nmX5, rfl, by decide +kernel⟩
theorem gf_X5_116 : GF RX5 116 5 16 := ⟨RX5, TX5, 24, rfl, inB5, by decide, TB_of 634 (by decide +kernel) rfl⟩
theorem pf_X5_116 : PF RX5 116 5 16 := ⟨RX5, TX5, 24, tyX5, rfl, inB5, by decide, TB_of 634 (by decide +kernel) rfl, tyX5_ok, nmX5, rfl, by decide +kernel⟩
theorem gf_X5_144 : GF RX5 144 5 21 := ⟨RX5, TX5, 24, rfl, inB5, by decide, TB_of 639 (by decide +kernel) rfl⟩
theorem pf_X5_144 : PF RX5 144 5 21 := ⟨RX5, TX5, 24, tyX5, rfl, inB5, by decide, TB_of 639 (by decide +kernel) rfl, tyX5_ok, nmX5, rfl, by decide +kernel⟩
theorem mw_X0_forget : MW yX0_forget cX0_forget 1 none 0 := ⟨TB_of 45 (by decide +kernel) rfl, TB_of 285 (by decide +kernel) rfl, by decide, by decide, by decide +kernel, by decide⟩
theorem im_X0_forget : Cond.instanceMethod yX0_forget ∈ TB := TB_of 283 (by decide +kernel) rfl
theorem se_X0_forget : Cond.selects RX0 yX0_forget yX0_forget ∈ TB := TB_of 284 (by decide +kernel) rfl
theorem mw_X0_greatest : MW yX0_greatest cX0_greatest 3 (some .int) 0 := ⟨TB_of 45 (by decide +kernel) rfl, TB_of 530 (by decide +kernel) rfl, by decide, by decide, by decide +kernel, by decide⟩
theorem im_X0_greatest : Cond.instanceMethod yX0_greatest ∈ TB := TB_of 528 (by decide +kernel) rfl
theorem se_X0_greatest : Cond.selects RX0 yX0_greatest yX0_greatest ∈ TB := TB_of 529 (by decide +kernel) rfl
theorem mw_X0_hasOne : MW yX0_hasOne cX0_hasOne 5 (some .boolean) 1 := ⟨TB_of 45 (by decide +kernel) rfl, TB_of 502 (by decide +kernel) rfl, by decide, by decide, by decide +kernel, by decide⟩
theorem im_X0_hasOne : Cond.instanceMethod yX0_hasOne ∈ TB := TB_of 500 (by decide +kernel) rfl
theorem se_X0_hasOne : Cond.selects RX0 yX0_hasOne yX0_hasOne ∈ TB := TB_of 501 (by decide +kernel) rfl
theorem mw_X0_ofMachine : MW yX0_ofMachine cX0_ofMachine 2 (some .int) 1 := ⟨TB_of 45 (by decide +kernel) rfl, TB_of 506 (by decide +kernel) rfl, by decide, by decide, by decide +kernel, by decide⟩
theorem im_X0_ofMachine : Cond.instanceMethod yX0_ofMachine ∈ TB := TB_of 504 (by decide +kernel) rfl
theorem se_X0_ofMachine : Cond.selects RX0 yX0_ofMachine yX0_ofMachine ∈ TB := TB_of 505 (by decide +kernel) rfl
theorem mw_X0_collect : MW yX0_collect cX0_collect 5 none 1 := ⟨TB_of 45 (by decide +kernel) rfl, TB_of 510 (by decide +kernel) rfl, by decide, by decide, by decide +kernel, by decide⟩
theorem im_X0_collect : Cond.instanceMethod yX0_collect ∈ TB := TB_of 509 (by decide +kernel) rfl
theorem se_X0_collect : Cond.selects RX0 yX0_collect yX0_collect ∈ TB := TB_of 17 (by decide +kernel) rfl
theorem mw_X0_leastLimit : MW yX0_leastLimit cX0_leastLimit 6 (some .int) 0 := ⟨TB_of 45 (by decide +kernel) rfl, TB_of 516 (by decide +kernel) rfl, by decide, by decide, by decide +kernel, by decide⟩
theorem im_X0_leastLimit : Cond.instanceMethod yX0_leastLimit ∈ TB := TB_of 515 (by decide +kernel) rfl
theorem se_X0_leastLimit : Cond.selects RX0 yX0_leastLimit yX0_leastLimit ∈ TB := TB_of 18 (by decide +kernel) rfl
theorem mw_X0_fits : MW yX0_fits cX0_fits 7 (some .boolean) 1 := ⟨TB_of 45 (by decide +kernel) rfl, TB_of 521 (by decide +kernel) rfl, by decide, by decide, by decide +kernel, by decide⟩
theorem im_X0_fits : Cond.instanceMethod yX0_fits ∈ TB := TB_of 520 (by decide +kernel) rfl
theorem se_X0_fits : Cond.selects RX0 yX0_fits yX0_fits ∈ TB := TB_of 19 (by decide +kernel) rfl
theorem mw_X1_run : MW yX1_run cX1_run 3 none 1 := ⟨TB_of 44 (by decide +kernel) rfl, TB_of 347 (by decide +kernel) rfl, by decide, by decide, by decide +kernel, by decide⟩
theorem im_X1_run : Cond.instanceMethod yX1_run ∈ TB := TB_of 345 (by decide +kernel) rfl
theorem se_X1_run : Cond.selects RX1 yX1_run yX1_run ∈ TB := TB_of 346 (by decide +kernel) rfl
theorem mw_X1_hasNext : MW yX1_hasNext cX1_hasNext 2 (some .boolean) 1 := ⟨TB_of 44 (by decide +kernel) rfl, TB_of 364 (by decide +kernel) rfl, by decide, by decide, by decide +kernel, by decide⟩
theorem im_X1_hasNext : Cond.instanceMethod yX1_hasNext ∈ TB := TB_of 363 (by decide +kernel) rfl
theorem se_X1_hasNext : Cond.selects RX1 yX1_hasNext yX1_hasNext ∈ TB := TB_of 1 (by decide +kernel) rfl
theorem mw_X1_nextOf : MW yX1_nextOf cX1_nextOf 2 (some .int) 1 := ⟨TB_of 44 (by decide +kernel) rfl, TB_of 372 (by decide +kernel) rfl, by decide, by decide, by decide +kernel, by decide⟩
theorem im_X1_nextOf : Cond.instanceMethod yX1_nextOf ∈ TB := TB_of 371 (by decide +kernel) rfl
theorem se_X1_nextOf : Cond.selects RX1 yX1_nextOf yX1_nextOf ∈ TB := TB_of 3 (by decide +kernel) rfl
theorem mw_X1_machineOfNext : MW yX1_machineOfNext cX1_machineOfNext 2 (some .int) 1 := ⟨TB_of 44 (by decide +kernel) rfl, TB_of 368 (by decide +kernel) rfl, by decide, by decide, by decide +kernel, by decide⟩
theorem im_X1_machineOfNext : Cond.instanceMethod yX1_machineOfNext ∈ TB := TB_of 367 (by decide +kernel) rfl
theorem se_X1_machineOfNext : Cond.selects RX1 yX1_machineOfNext yX1_machineOfNext ∈ TB := TB_of 2 (by decide +kernel) rfl
theorem mw_X1_wouldEnd : MW yX1_wouldEnd cX1_wouldEnd 2 (some .int) 1 := ⟨TB_of 44 (by decide +kernel) rfl, TB_of 387 (by decide +kernel) rfl, by decide, by decide, by decide +kernel, by decide⟩
theorem im_X1_wouldEnd : Cond.instanceMethod yX1_wouldEnd ∈ TB := TB_of 386 (by decide +kernel) rfl
theorem se_X1_wouldEnd : Cond.selects RX1 yX1_wouldEnd yX1_wouldEnd ∈ TB := TB_of 6 (by decide +kernel) rfl
theorem mw_X1_lookAhead : MW yX1_lookAhead cX1_lookAhead 2 none 0 := ⟨TB_of 44 (by decide +kernel) rfl, TB_of 360 (by decide +kernel) rfl, by decide, by decide, by decide +kernel, by decide⟩
theorem im_X1_lookAhead : Cond.instanceMethod yX1_lookAhead ∈ TB := TB_of 359 (by decide +kernel) rfl
theorem se_X1_lookAhead : Cond.selects RX1 yX1_lookAhead yX1_lookAhead ∈ TB := TB_of 0 (by decide +kernel) rfl
theorem mw_X1_readyFor : MW yX1_readyFor cX1_readyFor 5 (some .int) 2 := ⟨TB_of 44 (by decide +kernel) rfl, TB_of 376 (by decide +kernel) rfl, by decide, by decide, by decide +kernel, by decide⟩
theorem im_X1_readyFor : Cond.instanceMethod yX1_readyFor ∈ TB := TB_of 375 (by decide +kernel) rfl
theorem se_X1_readyFor : Cond.selects RX1 yX1_readyFor yX1_readyFor ∈ TB := TB_of 4 (by decide +kernel) rfl
theorem mw_X1_firstToEnd : MW yX1_firstToEnd cX1_firstToEnd 4 (some .int) 0 := ⟨TB_of 44 (by decide +kernel) rfl, TB_of 382 (by decide +kernel) rfl, by decide, by decide, by decide +kernel, by decide⟩
theorem im_X1_firstToEnd : Cond.instanceMethod yX1_firstToEnd ∈ TB := TB_of 381 (by decide +kernel) rfl
theorem se_X1_firstToEnd : Cond.selects RX1 yX1_firstToEnd yX1_firstToEnd ∈ TB := TB_of 5 (by decide +kernel) rfl
theorem mw_X1_choose : MW yX1_choose cX1_choose 9 (some .int) 2 := ⟨TB_of 44 (by decide +kernel) rfl, TB_of 391 (by decide +kernel) rfl, by decide, by decide, by decide +kernel, by decide⟩
theorem im_X1_choose : Cond.instanceMethod yX1_choose ∈ TB := TB_of 390 (by decide +kernel) rfl
theorem se_X1_choose : Cond.selects RX1 yX1_choose yX1_choose ∈ TB := TB_of 7 (by decide +kernel) rfl
theorem mw_X1_measure : MW yX1_measure cX1_measure 3 (some .int) 2 := ⟨TB_of 44 (by decide +kernel) rfl, TB_of 395 (by decide +kernel) rfl, by decide, by decide, by decide +kernel, by decide⟩
theorem im_X1_measure : Cond.instanceMethod yX1_measure ∈ TB := TB_of 394 (by decide +kernel) rfl
theorem se_X1_measure : Cond.selects RX1 yX1_measure yX1_measure ∈ TB := TB_of 8 (by decide +kernel) rfl
theorem mw_X1_append : MW yX1_append cX1_append 4 none 1 := ⟨TB_of 44 (by decide +kernel) rfl, TB_of 403 (by decide +kernel) rfl, by decide, by decide, by decide +kernel, by decide⟩
theorem im_X1_append : Cond.instanceMethod yX1_append ∈ TB := TB_of 402 (by decide +kernel) rfl
theorem se_X1_append : Cond.selects RX1 yX1_append yX1_append ∈ TB := TB_of 9 (by decide +kernel) rfl
theorem mw_X2_draw : MW yX2_draw cX2_draw 4 (some .int) 0 := ⟨TB_of 43 (by decide +kernel) rfl, TB_of 412 (by decide +kernel) rfl, by decide, by decide, by decide +kernel, by decide⟩
theorem im_X2_draw : Cond.instanceMethod yX2_draw ∈ TB := TB_of 410 (by decide +kernel) rfl
theorem se_X2_draw : Cond.selects RX2 yX2_draw yX2_draw ∈ TB := TB_of 411 (by decide +kernel) rfl
theorem mw_X2_drawWhatIsReady : MW yX2_drawWhatIsReady cX2_drawWhatIsReady 5 none 0 := ⟨TB_of 43 (by decide +kernel) rfl, TB_of 417 (by decide +kernel) rfl, by decide, by decide, by decide +kernel, by decide⟩
theorem im_X2_drawWhatIsReady : Cond.instanceMethod yX2_drawWhatIsReady ∈ TB := TB_of 416 (by decide +kernel) rfl
theorem se_X2_drawWhatIsReady : Cond.selects RX2 yX2_drawWhatIsReady yX2_drawWhatIsReady ∈ TB := TB_of 10 (by decide +kernel) rfl
theorem mw_X2_isReady : MW yX2_isReady cX2_isReady 2 (some .boolean) 1 := ⟨TB_of 43 (by decide +kernel) rfl, TB_of 421 (by decide +kernel) rfl, by decide, by decide, by decide +kernel, by decide⟩
theorem im_X2_isReady : Cond.instanceMethod yX2_isReady ∈ TB := TB_of 420 (by decide +kernel) rfl
theorem se_X2_isReady : Cond.selects RX2 yX2_isReady yX2_isReady ∈ TB := TB_of 11 (by decide +kernel) rfl
theorem mw_X2_drawStep : MW yX2_drawStep cX2_drawStep 8 none 2 := ⟨TB_of 43 (by decide +kernel) rfl, TB_of 425 (by decide +kernel) rfl, by decide, by decide, by decide +kernel, by decide⟩
theorem im_X2_drawStep : Cond.instanceMethod yX2_drawStep ∈ TB := TB_of 424 (by decide +kernel) rfl
theorem se_X2_drawStep : Cond.selects RX2 yX2_drawStep yX2_drawStep ∈ TB := TB_of 12 (by decide +kernel) rfl
theorem mw_X2_endOf : MW yX2_endOf cX2_endOf 2 (some .int) 1 := ⟨TB_of 43 (by decide +kernel) rfl, TB_of 429 (by decide +kernel) rfl, by decide, by decide, by decide +kernel, by decide⟩
theorem im_X2_endOf : Cond.instanceMethod yX2_endOf ∈ TB := TB_of 427 (by decide +kernel) rfl
theorem se_X2_endOf : Cond.selects RX2 yX2_endOf yX2_endOf ∈ TB := TB_of 428 (by decide +kernel) rfl
theorem mw_X2_endOfJob : MW yX2_endOfJob cX2_endOfJob 3 (some .int) 1 := ⟨TB_of 43 (by decide +kernel) rfl, TB_of 465 (by decide +kernel) rfl, by decide, by decide, by decide +kernel, by decide⟩
theorem im_X2_endOfJob : Cond.instanceMethod yX2_endOfJob ∈ TB := TB_of 463 (by decide +kernel) rfl
theorem se_X2_endOfJob : Cond.selects RX2 yX2_endOfJob yX2_endOfJob ∈ TB := TB_of 464 (by decide +kernel) rfl
theorem mw_X2_measureRests : MW yX2_measureRests cX2_measureRests 3 none 0 := ⟨TB_of 43 (by decide +kernel) rfl, TB_of 440 (by decide +kernel) rfl, by decide, by decide, by decide +kernel, by decide⟩
theorem im_X2_measureRests : Cond.instanceMethod yX2_measureRests ∈ TB := TB_of 438 (by decide +kernel) rfl
theorem se_X2_measureRests : Cond.selects RX2 yX2_measureRests yX2_measureRests ∈ TB := TB_of 439 (by decide +kernel) rfl
theorem mw_X2_restInJob : MW yX2_restInJob cX2_restInJob 3 (some .int) 1 := ⟨TB_of 43 (by decide +kernel) rfl, TB_of 444 (by decide +kernel) rfl, by decide, by decide, by decide +kernel, by decide⟩
theorem im_X2_restInJob : Cond.instanceMethod yX2_restInJob ∈ TB := TB_of 443 (by decide +kernel) rfl
theorem se_X2_restInJob : Cond.selects RX2 yX2_restInJob yX2_restInJob ∈ TB := TB_of 13 (by decide +kernel) rfl
theorem mw_X2_restInOrder : MW yX2_restInOrder cX2_restInOrder 5 (some .int) 1 := ⟨TB_of 43 (by decide +kernel) rfl, TB_of 448 (by decide +kernel) rfl, by decide, by decide, by decide +kernel, by decide⟩
theorem im_X2_restInOrder : Cond.instanceMethod yX2_restInOrder ∈ TB := TB_of 447 (by decide +kernel) rfl
theorem se_X2_restInOrder : Cond.selects RX2 yX2_restInOrder yX2_restInOrder ∈ TB := TB_of 14 (by decide +kernel) rfl
theorem mw_X2_slackOf : MW yX2_slackOf cX2_slackOf 2 (some .int) 1 := ⟨TB_of 43 (by decide +kernel) rfl, TB_of 452 (by decide +kernel) rfl, by decide, by decide, by decide +kernel, by decide⟩
theorem im_X2_slackOf : Cond.instanceMethod yX2_slackOf ∈ TB := TB_of 450 (by decide +kernel) rfl
theorem se_X2_slackOf : Cond.selects RX2 yX2_slackOf yX2_slackOf ∈ TB := TB_of 451 (by decide +kernel) rfl
theorem mw_X3_hasMachine : MW yX3_hasMachine cX3_hasMachine 2 (some .boolean) 1 := ⟨TB_of 41 (by decide +kernel) rfl, TB_of 281 (by decide +kernel) rfl, by decide, by decide, by decide +kernel, by decide⟩
theorem im_X3_hasMachine : Cond.instanceMethod yX3_hasMachine ∈ TB := TB_of 279 (by decide +kernel) rfl
theorem se_X3_hasMachine : Cond.selects RX3 yX3_hasMachine yX3_hasMachine ∈ TB := TB_of 280 (by decide +kernel) rfl
theorem mw_X3_hasJob : MW yX3_hasJob cX3_hasJob 2 (some .boolean) 1 := ⟨TB_of 41 (by decide +kernel) rfl, TB_of 277 (by decide +kernel) rfl, by decide, by decide, by decide +kernel, by decide⟩
theorem im_X3_hasJob : Cond.instanceMethod yX3_hasJob ∈ TB := TB_of 275 (by decide +kernel) rfl
theorem se_X3_hasJob : Cond.selects RX3 yX3_hasJob yX3_hasJob ∈ TB := TB_of 276 (by decide +kernel) rfl
theorem mw_X3_hasStep : MW yX3_hasStep cX3_hasStep 2 (some .boolean) 1 := ⟨TB_of 41 (by decide +kernel) rfl, TB_of 309 (by decide +kernel) rfl, by decide, by decide, by decide +kernel, by decide⟩
theorem im_X3_hasStep : Cond.instanceMethod yX3_hasStep ∈ TB := TB_of 307 (by decide +kernel) rfl
theorem se_X3_hasStep : Cond.selects RX3 yX3_hasStep yX3_hasStep ∈ TB := TB_of 308 (by decide +kernel) rfl
theorem mw_X3_hasNeighbours : MW yX3_hasNeighbours cX3_hasNeighbours 3 (some .boolean) 2 := ⟨TB_of 41 (by decide +kernel) rfl, TB_of 330 (by decide +kernel) rfl, by decide, by decide, by decide +kernel, by decide⟩
theorem im_X3_hasNeighbours : Cond.instanceMethod yX3_hasNeighbours ∈ TB := TB_of 328 (by decide +kernel) rfl
theorem se_X3_hasNeighbours : Cond.selects RX3 yX3_hasNeighbours yX3_hasNeighbours ∈ TB := TB_of 329 (by decide +kernel) rfl
theorem mw_X3_addJob : MW yX3_addJob cX3_addJob 4 (some .int) 3 := ⟨TB_of 41 (by decide +kernel) rfl, TB_of 269 (by decide +kernel) rfl, by decide, by decide, by decide +kernel, by decide⟩
theorem im_X3_addJob : Cond.instanceMethod yX3_addJob ∈ TB := TB_of 267 (by decide +kernel) rfl
theorem se_X3_addJob : Cond.selects RX3 yX3_addJob yX3_addJob ∈ TB := TB_of 268 (by decide +kernel) rfl
theorem mw_X3_addStep : MW yX3_addStep cX3_addStep 5 (some .int) 3 := ⟨TB_of 41 (by decide +kernel) rfl, TB_of 289 (by decide +kernel) rfl, by decide, by decide, by decide +kernel, by decide⟩
theorem im_X3_addStep : Cond.instanceMethod yX3_addStep ∈ TB := TB_of 287 (by decide +kernel) rfl
theorem se_X3_addStep : Cond.selects RX3 yX3_addStep yX3_addStep ∈ TB := TB_of 288 (by decide +kernel) rfl
theorem mw_X3_changeBetween : MW yX3_changeBetween cX3_changeBetween 4 (some .int) 3 := ⟨TB_of 41 (by decide +kernel) rfl, TB_of 297 (by decide +kernel) rfl, by decide, by decide, by decide +kernel, by decide⟩
theorem im_X3_changeBetween : Cond.instanceMethod yX3_changeBetween ∈ TB := TB_of 295 (by decide +kernel) rfl
theorem se_X3_changeBetween : Cond.selects RX3 yX3_changeBetween yX3_changeBetween ∈ TB := TB_of 296 (by decide +kernel) rfl
theorem mw_X3_setChange : MW yX3_setChange cX3_setChange 5 none 4 := ⟨TB_of 41 (by decide +kernel) rfl, TB_of 301 (by decide +kernel) rfl, by decide, by decide, by decide +kernel, by decide⟩
theorem im_X3_setChange : Cond.instanceMethod yX3_setChange ∈ TB := TB_of 299 (by decide +kernel) rfl
theorem se_X3_setChange : Cond.selects RX3 yX3_setChange yX3_setChange ∈ TB := TB_of 300 (by decide +kernel) rfl
theorem mw_X3_insert : MW yX3_insert cX3_insert 6 none 2 := ⟨TB_of 41 (by decide +kernel) rfl, TB_of 314 (by decide +kernel) rfl, by decide, by decide, by decide +kernel, by decide⟩
theorem im_X3_insert : Cond.instanceMethod yX3_insert ∈ TB := TB_of 312 (by decide +kernel) rfl
theorem se_X3_insert : Cond.selects RX3 yX3_insert yX3_insert ∈ TB := TB_of 313 (by decide +kernel) rfl
theorem mw_X3_remove : MW yX3_remove cX3_remove 7 (some .int) 1 := ⟨TB_of 41 (by decide +kernel) rfl, TB_of 322 (by decide +kernel) rfl, by decide, by decide, by decide +kernel, by decide⟩
theorem im_X3_remove : Cond.instanceMethod yX3_remove ∈ TB := TB_of 320 (by decide +kernel) rfl
theorem se_X3_remove : Cond.selects RX3 yX3_remove yX3_remove ∈ TB := TB_of 321 (by decide +kernel) rfl
theorem mw_X3_exchange : MW yX3_exchange cX3_exchange 5 none 2 := ⟨TB_of 41 (by decide +kernel) rfl, TB_of 335 (by decide +kernel) rfl, by decide, by decide, by decide +kernel, by decide⟩
theorem im_X3_exchange : Cond.instanceMethod yX3_exchange ∈ TB := TB_of 333 (by decide +kernel) rfl
theorem se_X3_exchange : Cond.selects RX3 yX3_exchange yX3_exchange ∈ TB := TB_of 334 (by decide +kernel) rfl
theorem mw_X3_emptyOrders : MW yX3_emptyOrders cX3_emptyOrders 2 none 0 := ⟨TB_of 41 (by decide +kernel) rfl, TB_of 351 (by decide +kernel) rfl, by decide, by decide, by decide +kernel, by decide⟩
theorem im_X3_emptyOrders : Cond.instanceMethod yX3_emptyOrders ∈ TB := TB_of 349 (by decide +kernel) rfl
theorem se_X3_emptyOrders : Cond.selects RX3 yX3_emptyOrders yX3_emptyOrders ∈ TB := TB_of 350 (by decide +kernel) rfl
theorem mw_X3_headOf : MW yX3_headOf cX3_headOf 3 (some .int) 1 := ⟨TB_of 41 (by decide +kernel) rfl, TB_of 489 (by decide +kernel) rfl, by decide, by decide, by decide +kernel, by decide⟩
theorem im_X3_headOf : Cond.instanceMethod yX3_headOf ∈ TB := TB_of 487 (by decide +kernel) rfl
theorem se_X3_headOf : Cond.selects RX3 yX3_headOf yX3_headOf ∈ TB := TB_of 488 (by decide +kernel) rfl
theorem mw_X3_tailOf : MW yX3_tailOf cX3_tailOf 3 (some .int) 1 := ⟨TB_of 41 (by decide +kernel) rfl, TB_of 494 (by decide +kernel) rfl, by decide, by decide, by decide +kernel, by decide⟩
theorem im_X3_tailOf : Cond.instanceMethod yX3_tailOf ∈ TB := TB_of 492 (by decide +kernel) rfl
theorem se_X3_tailOf : Cond.selects RX3 yX3_tailOf yX3_tailOf ∈ TB := TB_of 493 (by decide +kernel) rfl
theorem mw_X3_timeOf : MW yX3_timeOf cX3_timeOf 6 (some .int) 3 := ⟨TB_of 41 (by decide +kernel) rfl, TB_of 399 (by decide +kernel) rfl, by decide, by decide, by decide +kernel, by decide⟩
theorem im_X3_timeOf : Cond.instanceMethod yX3_timeOf ∈ TB := TB_of 397 (by decide +kernel) rfl
theorem se_X3_timeOf : Cond.selects RX3 yX3_timeOf yX3_timeOf ∈ TB := TB_of 398 (by decide +kernel) rfl
theorem mw_X4_job : MW yX4_job cX4_job 4 (some .int) 3 := ⟨TB_of 40 (by decide +kernel) rfl, TB_of 262 (by decide +kernel) rfl, by decide, by decide, by decide +kernel, by decide⟩
theorem im_X4_job : Cond.instanceMethod yX4_job ∈ TB := TB_of 260 (by decide +kernel) rfl
theorem se_X4_job : Cond.selects RX4 yX4_job yX4_job ∈ TB := TB_of 261 (by decide +kernel) rfl
theorem mw_X4_step : MW yX4_step cX4_step 4 (some .int) 3 := ⟨TB_of 40 (by decide +kernel) rfl, TB_of 273 (by decide +kernel) rfl, by decide, by decide, by decide +kernel, by decide⟩
theorem im_X4_step : Cond.instanceMethod yX4_step ∈ TB := TB_of 271 (by decide +kernel) rfl
theorem se_X4_step : Cond.selects RX4 yX4_step yX4_step ∈ TB := TB_of 272 (by decide +kernel) rfl
theorem mw_X4_change : MW yX4_change cX4_change 6 (some .int) 4 := ⟨TB_of 40 (by decide +kernel) rfl, TB_of 293 (by decide +kernel) rfl, by decide, by decide, by decide +kernel, by decide⟩
theorem im_X4_change : Cond.instanceMethod yX4_change ∈ TB := TB_of 291 (by decide +kernel) rfl
theorem se_X4_change : Cond.selects RX4 yX4_change yX4_change ∈ TB := TB_of 292 (by decide +kernel) rfl
theorem mw_X4_put : MW yX4_put cX4_put 4 (some .int) 2 := ⟨TB_of 40 (by decide +kernel) rfl, TB_of 305 (by decide +kernel) rfl, by decide, by decide, by decide +kernel, by decide⟩
theorem im_X4_put : Cond.instanceMethod yX4_put ∈ TB := TB_of 303 (by decide +kernel) rfl
theorem se_X4_put : Cond.selects RX4 yX4_put yX4_put ∈ TB := TB_of 304 (by decide +kernel) rfl
theorem mw_X4_take : MW yX4_take cX4_take 2 (some .int) 1 := ⟨TB_of 40 (by decide +kernel) rfl, TB_of 318 (by decide +kernel) rfl, by decide, by decide, by decide +kernel, by decide⟩
theorem im_X4_take : Cond.instanceMethod yX4_take ∈ TB := TB_of 316 (by decide +kernel) rfl
theorem se_X4_take : Cond.selects RX4 yX4_take yX4_take ∈ TB := TB_of 317 (by decide +kernel) rfl
theorem mw_X4_swap : MW yX4_swap cX4_swap 3 (some .int) 2 := ⟨TB_of 40 (by decide +kernel) rfl, TB_of 326 (by decide +kernel) rfl, by decide, by decide, by decide +kernel, by decide⟩
theorem im_X4_swap : Cond.instanceMethod yX4_swap ∈ TB := TB_of 324 (by decide +kernel) rfl
theorem se_X4_swap : Cond.selects RX4 yX4_swap yX4_swap ∈ TB := TB_of 325 (by decide +kernel) rfl
theorem mw_X4_at : MW yX4_at cX4_at 4 (some .int) 2 := ⟨TB_of 40 (by decide +kernel) rfl, TB_of 339 (by decide +kernel) rfl, by decide, by decide, by decide +kernel, by decide⟩
theorem im_X4_at : Cond.instanceMethod yX4_at ∈ TB := TB_of 337 (by decide +kernel) rfl
theorem se_X4_at : Cond.selects RX4 yX4_at yX4_at ∈ TB := TB_of 338 (by decide +kernel) rfl
theorem mw_X4_fill : MW yX4_fill cX4_fill 2 (some .int) 1 := ⟨TB_of 40 (by decide +kernel) rfl, TB_of 343 (by decide +kernel) rfl, by decide, by decide, by decide +kernel, by decide⟩
theorem im_X4_fill : Cond.instanceMethod yX4_fill ∈ TB := TB_of 341 (by decide +kernel) rfl
theorem se_X4_fill : Cond.selects RX4 yX4_fill yX4_fill ∈ TB := TB_of 342 (by decide +kernel) rfl
theorem mw_X4_state : MW yX4_state cX4_state 1 (some .int) 0 := ⟨TB_of 40 (by decide +kernel) rfl, TB_of 408 (by decide +kernel) rfl, by decide, by decide, by decide +kernel, by decide⟩
theorem im_X4_state : Cond.instanceMethod yX4_state ∈ TB := TB_of 406 (by decide +kernel) rfl
theorem se_X4_state : Cond.selects RX4 yX4_state yX4_state ∈ TB := TB_of 407 (by decide +kernel) rfl
theorem mw_X4_when : MW yX4_when cX4_when 3 (some .int) 2 := ⟨TB_of 40 (by decide +kernel) rfl, TB_of 435 (by decide +kernel) rfl, by decide, by decide, by decide +kernel, by decide⟩
theorem im_X4_when : Cond.instanceMethod yX4_when ∈ TB := TB_of 433 (by decide +kernel) rfl
theorem se_X4_when : Cond.selects RX4 yX4_when yX4_when ∈ TB := TB_of 434 (by decide +kernel) rfl
theorem mw_X4_span : MW yX4_span cX4_span 1 (some .int) 0 := ⟨TB_of 40 (by decide +kernel) rfl, TB_of 456 (by decide +kernel) rfl, by decide, by decide, by decide +kernel, by decide⟩
theorem im_X4_span : Cond.instanceMethod yX4_span ∈ TB := TB_of 454 (by decide +kernel) rfl
theorem se_X4_span : Cond.selects RX4 yX4_span yX4_span ∈ TB := TB_of 455 (by decide +kernel) rfl
theorem mw_X4_late : MW yX4_late cX4_late 6 (some .long) 0 := ⟨TB_of 40 (by decide +kernel) rfl, TB_of 460 (by decide +kernel) rfl, by decide, by decide, by decide +kernel, by decide⟩
theorem im_X4_late : Cond.instanceMethod yX4_late ∈ TB := TB_of 458 (by decide +kernel) rfl
theorem se_X4_late : Cond.selects RX4 yX4_late yX4_late ∈ TB := TB_of 459 (by decide +kernel) rfl
theorem mw_X4_swapped : MW yX4_swapped cX4_swapped 3 (some .int) 2 := ⟨TB_of 40 (by decide +kernel) rfl, TB_of 469 (by decide +kernel) rfl, by decide, by decide, by decide +kernel, by decide⟩
theorem im_X4_swapped : Cond.instanceMethod yX4_swapped ∈ TB := TB_of 467 (by decide +kernel) rfl
theorem se_X4_swapped : Cond.selects RX4 yX4_swapped yX4_swapped ∈ TB := TB_of 468 (by decide +kernel) rfl
theorem mw_X4_better : MW yX4_better cX4_better 6 (some .int) 0 := ⟨TB_of 40 (by decide +kernel) rfl, TB_of 477 (by decide +kernel) rfl, by decide, by decide, by decide +kernel, by decide⟩
theorem im_X4_better : Cond.instanceMethod yX4_better ∈ TB := TB_of 475 (by decide +kernel) rfl
theorem se_X4_better : Cond.selects RX4 yX4_better yX4_better ∈ TB := TB_of 476 (by decide +kernel) rfl
theorem mw_X4_part : MW yX4_part cX4_part 3 (some .int) 2 := ⟨TB_of 40 (by decide +kernel) rfl, TB_of 485 (by decide +kernel) rfl, by decide, by decide, by decide +kernel, by decide⟩
theorem im_X4_part : Cond.instanceMethod yX4_part ∈ TB := TB_of 483 (by decide +kernel) rfl
theorem se_X4_part : Cond.selects RX4 yX4_part yX4_part ∈ TB := TB_of 484 (by decide +kernel) rfl
theorem mw_X4_bound : MW yX4_bound cX4_bound 2 (some .int) 1 := ⟨TB_of 40 (by decide +kernel) rfl, TB_of 498 (by decide +kernel) rfl, by decide, by decide, by decide +kernel, by decide⟩
theorem im_X4_bound : Cond.instanceMethod yX4_bound ∈ TB := TB_of 496 (by decide +kernel) rfl
theorem se_X4_bound : Cond.selects RX4 yX4_bound yX4_bound ∈ TB := TB_of 497 (by decide +kernel) rfl
theorem mw_X4_low : MW yX4_low cX4_low 1 (some .int) 0 := ⟨TB_of 40 (by decide +kernel) rfl, TB_of 526 (by decide +kernel) rfl, by decide, by decide, by decide +kernel, by decide⟩
theorem im_X4_low : Cond.instanceMethod yX4_low ∈ TB := TB_of 524 (by decide +kernel) rfl
theorem se_X4_low : Cond.selects RX4 yX4_low yX4_low ∈ TB := TB_of 525 (by decide +kernel) rfl
theorem mw_X4_share : MW yX4_share cX4_share 3 (some .long) 0 := ⟨TB_of 40 (by decide +kernel) rfl, TB_of 544 (by decide +kernel) rfl, by decide, by decide, by decide +kernel, by decide⟩
theorem im_X4_share : Cond.instanceMethod yX4_share ∈ TB := TB_of 542 (by decide +kernel) rfl
theorem se_X4_share : Cond.selects RX4 yX4_share yX4_share ∈ TB := TB_of 543 (by decide +kernel) rfl
theorem mw_X4_isWithin : MW yX4_isWithin cX4_isWithin 2 (some .boolean) 2 := ⟨TB_of 40 (by decide +kernel) rfl, TB_of 265 (by decide +kernel) rfl, by decide, by decide, by decide +kernel, by decide⟩
theorem ss_X4_isWithin : Cond.static yX4_isWithin ∈ TB := TB_of 264 (by decide +kernel) rfl
theorem mw_X4_areCritical : MW yX4_areCritical cX4_areCritical 4 (some .boolean) 2 := ⟨TB_of 40 (by decide +kernel) rfl, TB_of 481 (by decide +kernel) rfl, by decide, by decide, by decide +kernel, by decide⟩
theorem im_X4_areCritical : Cond.instanceMethod yX4_areCritical ∈ TB := TB_of 480 (by decide +kernel) rfl
theorem se_X4_areCritical : Cond.selects RX4 yX4_areCritical yX4_areCritical ∈ TB := TB_of 16 (by decide +kernel) rfl
theorem mw_X4_spanOfTrial : MW yX4_spanOfTrial cX4_spanOfTrial 4 (some .int) 2 := ⟨TB_of 40 (by decide +kernel) rfl, TB_of 473 (by decide +kernel) rfl, by decide, by decide, by decide +kernel, by decide⟩
theorem im_X4_spanOfTrial : Cond.instanceMethod yX4_spanOfTrial ∈ TB := TB_of 472 (by decide +kernel) rfl
theorem se_X4_spanOfTrial : Cond.selects RX4 yX4_spanOfTrial yX4_spanOfTrial ∈ TB := TB_of 15 (by decide +kernel) rfl
theorem mw_X5_thrown : MW yX5_thrown cX5_thrown 1 (some .int) 0 := ⟨TB_of 47 (by decide +kernel) rfl, TB_of 694 (by decide +kernel) rfl, by decide, by decide, by decide +kernel, by decide⟩
theorem im_X5_thrown : Cond.instanceMethod yX5_thrown ∈ TB := TB_of 692 (by decide +kernel) rfl
theorem se_X5_thrown : Cond.selects RX5 yX5_thrown yX5_thrown ∈ TB := TB_of 693 (by decide +kernel) rfl
theorem mw_X5_in : MW yX5_in cX5_in 3 (some .boolean) 3 := ⟨TB_of 47 (by decide +kernel) rfl, TB_of 701 (by decide +kernel) rfl, by decide, by decide, by decide +kernel, by decide⟩
theorem ss_X5_in : Cond.static yX5_in ∈ TB := TB_of 700 (by decide +kernel) rfl
theorem mw_X5_isJob : MW yX5_isJob cX5_isJob 2 (some .boolean) 1 := ⟨TB_of 47 (by decide +kernel) rfl, TB_of 709 (by decide +kernel) rfl, by decide, by decide, by decide +kernel, by decide⟩
theorem im_X5_isJob : Cond.instanceMethod yX5_isJob ∈ TB := TB_of 708 (by decide +kernel) rfl
theorem se_X5_isJob : Cond.selects RX5 yX5_isJob yX5_isJob ∈ TB := TB_of 21 (by decide +kernel) rfl
theorem mw_X5_isMachine : MW yX5_isMachine cX5_isMachine 2 (some .boolean) 1 := ⟨TB_of 47 (by decide +kernel) rfl, TB_of 713 (by decide +kernel) rfl, by decide, by decide, by decide +kernel, by decide⟩
theorem im_X5_isMachine : Cond.instanceMethod yX5_isMachine ∈ TB := TB_of 712 (by decide +kernel) rfl
theorem se_X5_isMachine : Cond.selects RX5 yX5_isMachine yX5_isMachine ∈ TB := TB_of 22 (by decide +kernel) rfl
theorem mw_X5_isStep : MW yX5_isStep cX5_isStep 2 (some .boolean) 1 := ⟨TB_of 47 (by decide +kernel) rfl, TB_of 725 (by decide +kernel) rfl, by decide, by decide, by decide +kernel, by decide⟩
theorem im_X5_isStep : Cond.instanceMethod yX5_isStep ∈ TB := TB_of 724 (by decide +kernel) rfl
theorem se_X5_isStep : Cond.selects RX5 yX5_isStep yX5_isStep ∈ TB := TB_of 23 (by decide +kernel) rfl
theorem mw_X5_placeOf : MW yX5_placeOf cX5_placeOf 1 (some .int) 1 := ⟨TB_of 47 (by decide +kernel) rfl, TB_of 728 (by decide +kernel) rfl, by decide, by decide, by decide +kernel, by decide⟩
theorem ss_X5_placeOf : Cond.static yX5_placeOf ∈ TB := TB_of 727 (by decide +kernel) rfl
theorem mw_X5_job : MW yX5_job cX5_job 4 (some .int) 3 := ⟨TB_of 47 (by decide +kernel) rfl, TB_of 698 (by decide +kernel) rfl, by decide, by decide, by decide +kernel, by decide⟩
theorem im_X5_job : Cond.instanceMethod yX5_job ∈ TB := TB_of 696 (by decide +kernel) rfl
theorem se_X5_job : Cond.selects RX5 yX5_job yX5_job ∈ TB := TB_of 697 (by decide +kernel) rfl
theorem mw_X5_step : MW yX5_step cX5_step 5 (some .int) 3 := ⟨TB_of 47 (by decide +kernel) rfl, TB_of 705 (by decide +kernel) rfl, by decide, by decide, by decide +kernel, by decide⟩
theorem im_X5_step : Cond.instanceMethod yX5_step ∈ TB := TB_of 703 (by decide +kernel) rfl
theorem se_X5_step : Cond.selects RX5 yX5_step yX5_step ∈ TB := TB_of 704 (by decide +kernel) rfl
theorem mw_X5_change : MW yX5_change cX5_change 6 (some .int) 4 := ⟨TB_of 47 (by decide +kernel) rfl, TB_of 717 (by decide +kernel) rfl, by decide, by decide, by decide +kernel, by decide⟩
theorem im_X5_change : Cond.instanceMethod yX5_change ∈ TB := TB_of 715 (by decide +kernel) rfl
theorem se_X5_change : Cond.selects RX5 yX5_change yX5_change ∈ TB := TB_of 716 (by decide +kernel) rfl
theorem mw_X5_put : MW yX5_put cX5_put 6 (some .int) 2 := ⟨TB_of 47 (by decide +kernel) rfl, TB_of 721 (by decide +kernel) rfl, by decide, by decide, by decide +kernel, by decide⟩
theorem im_X5_put : Cond.instanceMethod yX5_put ∈ TB := TB_of 719 (by decide +kernel) rfl
theorem se_X5_put : Cond.selects RX5 yX5_put yX5_put ∈ TB := TB_of 720 (by decide +kernel) rfl
theorem mw_X5_whereIs : MW yX5_whereIs cX5_whereIs 4 (some .int) 1 := ⟨TB_of 47 (by decide +kernel) rfl, TB_of 736 (by decide +kernel) rfl, by decide, by decide, by decide +kernel, by decide⟩
theorem im_X5_whereIs : Cond.instanceMethod yX5_whereIs ∈ TB := TB_of 735 (by decide +kernel) rfl
theorem se_X5_whereIs : Cond.selects RX5 yX5_whereIs yX5_whereIs ∈ TB := TB_of 24 (by decide +kernel) rfl
theorem mw_X5_take : MW yX5_take cX5_take 6 (some .int) 1 := ⟨TB_of 47 (by decide +kernel) rfl, TB_of 732 (by decide +kernel) rfl, by decide, by decide, by decide +kernel, by decide⟩
theorem im_X5_take : Cond.instanceMethod yX5_take ∈ TB := TB_of 730 (by decide +kernel) rfl
theorem se_X5_take : Cond.selects RX5 yX5_take yX5_take ∈ TB := TB_of 731 (by decide +kernel) rfl
theorem mw_X5_arePlaces : MW yX5_arePlaces cX5_arePlaces 3 (some .boolean) 2 := ⟨TB_of 47 (by decide +kernel) rfl, TB_of 744 (by decide +kernel) rfl, by decide, by decide, by decide +kernel, by decide⟩
theorem im_X5_arePlaces : Cond.instanceMethod yX5_arePlaces ∈ TB := TB_of 743 (by decide +kernel) rfl
theorem se_X5_arePlaces : Cond.selects RX5 yX5_arePlaces yX5_arePlaces ∈ TB := TB_of 25 (by decide +kernel) rfl
theorem mw_X5_exchange : MW yX5_exchange cX5_exchange 5 none 2 := ⟨TB_of 47 (by decide +kernel) rfl, TB_of 748 (by decide +kernel) rfl, by decide, by decide, by decide +kernel, by decide⟩
theorem im_X5_exchange : Cond.instanceMethod yX5_exchange ∈ TB := TB_of 747 (by decide +kernel) rfl
theorem se_X5_exchange : Cond.selects RX5 yX5_exchange yX5_exchange ∈ TB := TB_of 26 (by decide +kernel) rfl
theorem mw_X5_swap : MW yX5_swap cX5_swap 3 (some .int) 2 := ⟨TB_of 47 (by decide +kernel) rfl, TB_of 740 (by decide +kernel) rfl, by decide, by decide, by decide +kernel, by decide⟩
theorem im_X5_swap : Cond.instanceMethod yX5_swap ∈ TB := TB_of 738 (by decide +kernel) rfl
theorem se_X5_swap : Cond.selects RX5 yX5_swap yX5_swap ∈ TB := TB_of 739 (by decide +kernel) rfl
theorem mw_X5_told : MW yX5_told cX5_told 1 (some .int) 1 := ⟨TB_of 47 (by decide +kernel) rfl, TB_of 755 (by decide +kernel) rfl, by decide, by decide, by decide +kernel, by decide⟩
theorem ss_X5_told : Cond.static yX5_told ∈ TB := TB_of 754 (by decide +kernel) rfl
theorem mw_X5_at : MW yX5_at cX5_at 3 (some .int) 2 := ⟨TB_of 47 (by decide +kernel) rfl, TB_of 752 (by decide +kernel) rfl, by decide, by decide, by decide +kernel, by decide⟩
theorem im_X5_at : Cond.instanceMethod yX5_at ∈ TB := TB_of 750 (by decide +kernel) rfl
theorem se_X5_at : Cond.selects RX5 yX5_at yX5_at ∈ TB := TB_of 751 (by decide +kernel) rfl
theorem mw_X5_beginOfNext : MW yX5_beginOfNext cX5_beginOfNext 7 (some .int) 1 := ⟨TB_of 47 (by decide +kernel) rfl, TB_of 763 (by decide +kernel) rfl, by decide, by decide, by decide +kernel, by decide⟩
theorem im_X5_beginOfNext : Cond.instanceMethod yX5_beginOfNext ∈ TB := TB_of 762 (by decide +kernel) rfl
theorem se_X5_beginOfNext : Cond.selects RX5 yX5_beginOfNext yX5_beginOfNext ∈ TB := TB_of 27 (by decide +kernel) rfl
theorem mw_X5_leftOf : MW yX5_leftOf cX5_leftOf 4 (some .int) 1 := ⟨TB_of 47 (by decide +kernel) rfl, TB_of 767 (by decide +kernel) rfl, by decide, by decide, by decide +kernel, by decide⟩
theorem im_X5_leftOf : Cond.instanceMethod yX5_leftOf ∈ TB := TB_of 766 (by decide +kernel) rfl
theorem se_X5_leftOf : Cond.selects RX5 yX5_leftOf yX5_leftOf ∈ TB := TB_of 28 (by decide +kernel) rfl
theorem mw_X5_fill : MW yX5_fill cX5_fill 12 (some .int) 1 := ⟨TB_of 47 (by decide +kernel) rfl, TB_of 759 (by decide +kernel) rfl, by decide, by decide, by decide +kernel, by decide⟩
theorem im_X5_fill : Cond.instanceMethod yX5_fill ∈ TB := TB_of 757 (by decide +kernel) rfl
theorem se_X5_fill : Cond.selects RX5 yX5_fill yX5_fill ∈ TB := TB_of 758 (by decide +kernel) rfl
theorem mw_X5_before : MW yX5_before cX5_before 3 (some .int) 1 := ⟨TB_of 47 (by decide +kernel) rfl, TB_of 779 (by decide +kernel) rfl, by decide, by decide, by decide +kernel, by decide⟩
theorem im_X5_before : Cond.instanceMethod yX5_before ∈ TB := TB_of 778 (by decide +kernel) rfl
theorem se_X5_before : Cond.selects RX5 yX5_before yX5_before ∈ TB := TB_of 30 (by decide +kernel) rfl
theorem mw_X5_changeOf : MW yX5_changeOf cX5_changeOf 3 (some .int) 2 := ⟨TB_of 47 (by decide +kernel) rfl, TB_of 783 (by decide +kernel) rfl, by decide, by decide, by decide +kernel, by decide⟩
theorem im_X5_changeOf : Cond.instanceMethod yX5_changeOf ∈ TB := TB_of 782 (by decide +kernel) rfl
theorem se_X5_changeOf : Cond.selects RX5 yX5_changeOf yX5_changeOf ∈ TB := TB_of 31 (by decide +kernel) rfl
theorem mw_X5_plan : MW yX5_plan cX5_plan 11 none 0 := ⟨TB_of 47 (by decide +kernel) rfl, TB_of 775 (by decide +kernel) rfl, by decide, by decide, by decide +kernel, by decide⟩
theorem im_X5_plan : Cond.instanceMethod yX5_plan ∈ TB := TB_of 774 (by decide +kernel) rfl
theorem se_X5_plan : Cond.selects RX5 yX5_plan yX5_plan ∈ TB := TB_of 29 (by decide +kernel) rfl
theorem mw_X5_ahead : MW yX5_ahead cX5_ahead 8 none 1 := ⟨TB_of 47 (by decide +kernel) rfl, TB_of 787 (by decide +kernel) rfl, by decide, by decide, by decide +kernel, by decide⟩
theorem im_X5_ahead : Cond.instanceMethod yX5_ahead ∈ TB := TB_of 786 (by decide +kernel) rfl
theorem se_X5_ahead : Cond.selects RX5 yX5_ahead yX5_ahead ∈ TB := TB_of 32 (by decide +kernel) rfl
theorem mw_X5_state : MW yX5_state cX5_state 1 (some .int) 0 := ⟨TB_of 47 (by decide +kernel) rfl, TB_of 771 (by decide +kernel) rfl, by decide, by decide, by decide +kernel, by decide⟩
theorem im_X5_state : Cond.instanceMethod yX5_state ∈ TB := TB_of 769 (by decide +kernel) rfl
theorem se_X5_state : Cond.selects RX5 yX5_state yX5_state ∈ TB := TB_of 770 (by decide +kernel) rfl
theorem mw_X5_slack : MW yX5_slack cX5_slack 2 (some .int) 1 := ⟨TB_of 47 (by decide +kernel) rfl, TB_of 795 (by decide +kernel) rfl, by decide, by decide, by decide +kernel, by decide⟩
theorem im_X5_slack : Cond.instanceMethod yX5_slack ∈ TB := TB_of 794 (by decide +kernel) rfl
theorem se_X5_slack : Cond.selects RX5 yX5_slack yX5_slack ∈ TB := TB_of 33 (by decide +kernel) rfl
theorem mw_X5_when : MW yX5_when cX5_when 4 (some .int) 2 := ⟨TB_of 47 (by decide +kernel) rfl, TB_of 791 (by decide +kernel) rfl, by decide, by decide, by decide +kernel, by decide⟩
theorem im_X5_when : Cond.instanceMethod yX5_when ∈ TB := TB_of 789 (by decide +kernel) rfl
theorem se_X5_when : Cond.selects RX5 yX5_when yX5_when ∈ TB := TB_of 790 (by decide +kernel) rfl
theorem mw_X5_span : MW yX5_span cX5_span 1 (some .int) 0 := ⟨TB_of 47 (by decide +kernel) rfl, TB_of 799 (by decide +kernel) rfl, by decide, by decide, by decide +kernel, by decide⟩
theorem im_X5_span : Cond.instanceMethod yX5_span ∈ TB := TB_of 797 (by decide +kernel) rfl
theorem se_X5_span : Cond.selects RX5 yX5_span yX5_span ∈ TB := TB_of 798 (by decide +kernel) rfl
theorem mw_X5_late : MW yX5_late cX5_late 6 (some .long) 0 := ⟨TB_of 47 (by decide +kernel) rfl, TB_of 803 (by decide +kernel) rfl, by decide, by decide, by decide +kernel, by decide⟩
theorem im_X5_late : Cond.instanceMethod yX5_late ∈ TB := TB_of 801 (by decide +kernel) rfl
theorem se_X5_late : Cond.selects RX5 yX5_late yX5_late ∈ TB := TB_of 802 (by decide +kernel) rfl
theorem mw_X5_spanWith : MW yX5_spanWith cX5_spanWith 4 (some .int) 2 := ⟨TB_of 47 (by decide +kernel) rfl, TB_of 812 (by decide +kernel) rfl, by decide, by decide, by decide +kernel, by decide⟩
theorem im_X5_spanWith : Cond.instanceMethod yX5_spanWith ∈ TB := TB_of 811 (by decide +kernel) rfl
theorem se_X5_spanWith : Cond.selects RX5 yX5_spanWith yX5_spanWith ∈ TB := TB_of 34 (by decide +kernel) rfl
theorem mw_X5_swapped : MW yX5_swapped cX5_swapped 3 (some .int) 2 := ⟨TB_of 47 (by decide +kernel) rfl, TB_of 808 (by decide +kernel) rfl, by decide, by decide, by decide +kernel, by decide⟩
theorem im_X5_swapped : Cond.instanceMethod yX5_swapped ∈ TB := TB_of 806 (by decide +kernel) rfl
theorem se_X5_swapped : Cond.selects RX5 yX5_swapped yX5_swapped ∈ TB := TB_of 807 (by decide +kernel) rfl
theorem mw_X5_better : MW yX5_better cX5_better 6 (some .int) 0 := ⟨TB_of 47 (by decide +kernel) rfl, TB_of 816 (by decide +kernel) rfl, by decide, by decide, by decide +kernel, by decide⟩
theorem im_X5_better : Cond.instanceMethod yX5_better ∈ TB := TB_of 814 (by decide +kernel) rfl
theorem se_X5_better : Cond.selects RX5 yX5_better yX5_better ∈ TB := TB_of 815 (by decide +kernel) rfl
theorem mw_X5_headOf : MW yX5_headOf cX5_headOf 4 (some .int) 1 := ⟨TB_of 47 (by decide +kernel) rfl, TB_of 824 (by decide +kernel) rfl, by decide, by decide, by decide +kernel, by decide⟩
theorem im_X5_headOf : Cond.instanceMethod yX5_headOf ∈ TB := TB_of 823 (by decide +kernel) rfl
theorem se_X5_headOf : Cond.selects RX5 yX5_headOf yX5_headOf ∈ TB := TB_of 35 (by decide +kernel) rfl
theorem mw_X5_part : MW yX5_part cX5_part 4 (some .int) 2 := ⟨TB_of 47 (by decide +kernel) rfl, TB_of 820 (by decide +kernel) rfl, by decide, by decide, by decide +kernel, by decide⟩
theorem im_X5_part : Cond.instanceMethod yX5_part ∈ TB := TB_of 818 (by decide +kernel) rfl
theorem se_X5_part : Cond.selects RX5 yX5_part yX5_part ∈ TB := TB_of 819 (by decide +kernel) rfl
theorem mw_X5_fits : MW yX5_fits cX5_fits 8 (some .boolean) 1 := ⟨TB_of 47 (by decide +kernel) rfl, TB_of 836 (by decide +kernel) rfl, by decide, by decide, by decide +kernel, by decide⟩
theorem im_X5_fits : Cond.instanceMethod yX5_fits ∈ TB := TB_of 835 (by decide +kernel) rfl
theorem se_X5_fits : Cond.selects RX5 yX5_fits yX5_fits ∈ TB := TB_of 37 (by decide +kernel) rfl
theorem mw_X5_boundOf : MW yX5_boundOf cX5_boundOf 5 (some .int) 1 := ⟨TB_of 47 (by decide +kernel) rfl, TB_of 832 (by decide +kernel) rfl, by decide, by decide, by decide +kernel, by decide⟩
theorem im_X5_boundOf : Cond.instanceMethod yX5_boundOf ∈ TB := TB_of 831 (by decide +kernel) rfl
theorem se_X5_boundOf : Cond.selects RX5 yX5_boundOf yX5_boundOf ∈ TB := TB_of 36 (by decide +kernel) rfl
theorem mw_X5_bound : MW yX5_bound cX5_bound 2 (some .int) 1 := ⟨TB_of 47 (by decide +kernel) rfl, TB_of 828 (by decide +kernel) rfl, by decide, by decide, by decide +kernel, by decide⟩
theorem im_X5_bound : Cond.instanceMethod yX5_bound ∈ TB := TB_of 826 (by decide +kernel) rfl
theorem se_X5_bound : Cond.selects RX5 yX5_bound yX5_bound ∈ TB := TB_of 827 (by decide +kernel) rfl
theorem mw_X5_lowOf : MW yX5_lowOf cX5_lowOf 4 (some .int) 0 := ⟨TB_of 47 (by decide +kernel) rfl, TB_of 844 (by decide +kernel) rfl, by decide, by decide, by decide +kernel, by decide⟩
theorem im_X5_lowOf : Cond.instanceMethod yX5_lowOf ∈ TB := TB_of 843 (by decide +kernel) rfl
theorem se_X5_lowOf : Cond.selects RX5 yX5_lowOf yX5_lowOf ∈ TB := TB_of 38 (by decide +kernel) rfl
theorem mw_X5_low : MW yX5_low cX5_low 1 (some .int) 0 := ⟨TB_of 47 (by decide +kernel) rfl, TB_of 840 (by decide +kernel) rfl, by decide, by decide, by decide +kernel, by decide⟩
theorem im_X5_low : Cond.instanceMethod yX5_low ∈ TB := TB_of 838 (by decide +kernel) rfl
theorem se_X5_low : Cond.selects RX5 yX5_low yX5_low ∈ TB := TB_of 839 (by decide +kernel) rfl
theorem mw_X5_share : MW yX5_share cX5_share 2 (some .long) 0 := ⟨TB_of 47 (by decide +kernel) rfl, TB_of 848 (by decide +kernel) rfl, by decide, by decide, by decide +kernel, by decide⟩
theorem im_X5_share : Cond.instanceMethod yX5_share ∈ TB := TB_of 846 (by decide +kernel) rfl
theorem se_X5_share : Cond.selects RX5 yX5_share yX5_share ∈ TB := TB_of 847 (by decide +kernel) rfl
theorem mw_J7_fill_53178 : MW yJ7_fill_53178 cJ7_fill_53178 4 none 2 := ⟨TB_of 46 (by decide +kernel) rfl, TB_of 220 (by decide +kernel) rfl, by decide, by decide, by decide +kernel, by decide⟩
theorem ss_J7_fill_53178 : Cond.static yJ7_fill_53178 ∈ TB := TB_of 219 (by decide +kernel) rfl
theorem mw_L_cell : MW yL_cell cL_cell 2 (some .int) 2 := ⟨TB_of 39 (by decide +kernel) rfl, TB_of 536 (by decide +kernel) rfl, by decide, by decide, by decide +kernel, by decide⟩
theorem ss_L_cell : Cond.static yL_cell ∈ TB := TB_of 535 (by decide +kernel) rfl
theorem ml_X4_5 : Cond.methodLink RX4 5 objectInit ∈ TB := TB_of 58 (by decide +kernel) rfl
theorem ml_X4_13 : Cond.methodLink RX4 13 Lib.Math.min.name ∈ TB := TB_of 63 (by decide +kernel) rfl
theorem ml_X4_19 : Cond.methodLink RX4 19 Lib.Math.max.name ∈ TB := TB_of 66 (by decide +kernel) rfl
theorem ml_X4_22 : Cond.methodLink RX4 22 yX3_init ∈ TB := TB_of 69 (by decide +kernel) rfl
theorem ml_X4_31 : Cond.methodLink RX4 31 yX2_init ∈ TB := TB_of 156 (by decide +kernel) rfl
theorem ml_X4_43 : Cond.methodLink RX4 43 yX1_init ∈ TB := TB_of 192 (by decide +kernel) rfl
theorem ml_X4_50 : Cond.methodLink RX4 50 yX0_init ∈ TB := TB_of 214 (by decide +kernel) rfl
theorem ml_X4_55 : Cond.methodLink RX4 55 yX4_isWithin ∈ TB := TB_of 263 (by decide +kernel) rfl
theorem ml_X4_63 : Cond.methodLink RX4 63 yX3_addJob ∈ TB := TB_of 266 (by decide +kernel) rfl
theorem ml_X4_67 : Cond.methodLink RX4 67 yX3_hasJob ∈ TB := TB_of 274 (by decide +kernel) rfl
theorem ml_X4_71 : Cond.methodLink RX4 71 yX3_hasMachine ∈ TB := TB_of 278 (by decide +kernel) rfl
theorem ml_X4_78 : Cond.methodLink RX4 78 yX0_forget ∈ TB := TB_of 282 (by decide +kernel) rfl
theorem ml_X4_81 : Cond.methodLink RX4 81 yX3_addStep ∈ TB := TB_of 286 (by decide +kernel) rfl
theorem ml_X4_84 : Cond.methodLink RX4 84 yX3_changeBetween ∈ TB := TB_of 294 (by decide +kernel) rfl
theorem ml_X4_87 : Cond.methodLink RX4 87 yX3_setChange ∈ TB := TB_of 298 (by decide +kernel) rfl
theorem ml_X4_91 : Cond.methodLink RX4 91 yX3_hasStep ∈ TB := TB_of 306 (by decide +kernel) rfl
theorem ml_X4_104 : Cond.methodLink RX4 104 yX3_insert ∈ TB := TB_of 311 (by decide +kernel) rfl
theorem ml_X4_108 : Cond.methodLink RX4 108 yX3_remove ∈ TB := TB_of 319 (by decide +kernel) rfl
theorem ml_X4_112 : Cond.methodLink RX4 112 yX3_hasNeighbours ∈ TB := TB_of 327 (by decide +kernel) rfl
theorem ml_X4_115 : Cond.methodLink RX4 115 yX3_exchange ∈ TB := TB_of 332 (by decide +kernel) rfl
theorem ml_X4_122 : Cond.methodLink RX4 122 yX1_run ∈ TB := TB_of 344 (by decide +kernel) rfl
theorem ml_X4_128 : Cond.methodLink RX4 128 yX2_draw ∈ TB := TB_of 409 (by decide +kernel) rfl
theorem ml_X4_135 : Cond.methodLink RX4 135 yX2_endOf ∈ TB := TB_of 436 (by decide +kernel) rfl
theorem ml_X4_138 : Cond.methodLink RX4 138 yX2_measureRests ∈ TB := TB_of 437 (by decide +kernel) rfl
theorem ml_X4_141 : Cond.methodLink RX4 141 yX2_slackOf ∈ TB := TB_of 449 (by decide +kernel) rfl
theorem ml_X4_149 : Cond.methodLink RX4 149 yX2_endOfJob ∈ TB := TB_of 462 (by decide +kernel) rfl
theorem ml_X4_158 : Cond.methodLink RX4 158 yX4_spanOfTrial ∈ TB := TB_of 470 (by decide +kernel) rfl
theorem ml_X4_164 : Cond.methodLink RX4 164 yX4_areCritical ∈ TB := TB_of 478 (by decide +kernel) rfl
theorem ml_X4_167 : Cond.methodLink RX4 167 yX3_headOf ∈ TB := TB_of 486 (by decide +kernel) rfl
theorem ml_X4_170 : Cond.methodLink RX4 170 yX3_tailOf ∈ TB := TB_of 491 (by decide +kernel) rfl
theorem ml_X4_173 : Cond.methodLink RX4 173 yX0_hasOne ∈ TB := TB_of 499 (by decide +kernel) rfl
theorem ml_X4_176 : Cond.methodLink RX4 176 yX0_ofMachine ∈ TB := TB_of 503 (by decide +kernel) rfl
theorem ml_X4_179 : Cond.methodLink RX4 179 yX0_greatest ∈ TB := TB_of 527 (by decide +kernel) rfl
theorem ml_X0_3 : Cond.methodLink RX0 3 objectInit ∈ TB := TB_of 217 (by decide +kernel) rfl
theorem ml_X0_35 : Cond.methodLink RX0 35 yJ7_fill_53178 ∈ TB := TB_of 218 (by decide +kernel) rfl
theorem ml_X0_46 : Cond.methodLink RX0 46 yX0_hasOne ∈ TB := TB_of 531 (by decide +kernel) rfl
theorem ml_X0_50 : Cond.methodLink RX0 50 yX0_ofMachine ∈ TB := TB_of 532 (by decide +kernel) rfl
theorem ml_X0_54 : Cond.methodLink RX0 54 Lib.Math.max.name ∈ TB := TB_of 517 (by decide +kernel) rfl
theorem ml_X0_69 : Cond.methodLink RX0 69 yX3_timeOf ∈ TB := TB_of 533 (by decide +kernel) rfl
theorem ml_X0_76 : Cond.methodLink RX0 76 yX0_collect ∈ TB := TB_of 507 (by decide +kernel) rfl
theorem ml_X0_80 : Cond.methodLink RX0 80 yX0_leastLimit ∈ TB := TB_of 513 (by decide +kernel) rfl
theorem ml_X0_84 : Cond.methodLink RX0 84 yX3_headOf ∈ TB := TB_of 511 (by decide +kernel) rfl
theorem ml_X0_88 : Cond.methodLink RX0 88 yX3_tailOf ∈ TB := TB_of 512 (by decide +kernel) rfl
theorem ml_X0_91 : Cond.methodLink RX0 91 yX0_fits ∈ TB := TB_of 518 (by decide +kernel) rfl
theorem ml_X1_3 : Cond.methodLink RX1 3 objectInit ∈ TB := TB_of 195 (by decide +kernel) rfl
theorem ml_X1_28 : Cond.methodLink RX1 28 yX3_emptyOrders ∈ TB := TB_of 348 (by decide +kernel) rfl
theorem ml_X1_33 : Cond.methodLink RX1 33 yJ7_fill_53178 ∈ TB := TB_of 353 (by decide +kernel) rfl
theorem ml_X1_42 : Cond.methodLink RX1 42 arraycopyName ∈ TB := TB_of 354 (by decide +kernel) rfl
theorem ml_X1_52 : Cond.methodLink RX1 52 yX1_lookAhead ∈ TB := TB_of 357 (by decide +kernel) rfl
theorem ml_X1_55 : Cond.methodLink RX1 55 yX1_firstToEnd ∈ TB := TB_of 379 (by decide +kernel) rfl
theorem ml_X1_59 : Cond.methodLink RX1 59 yX1_choose ∈ TB := TB_of 388 (by decide +kernel) rfl
theorem ml_X1_63 : Cond.methodLink RX1 63 yX1_append ∈ TB := TB_of 400 (by decide +kernel) rfl
theorem ml_X1_73 : Cond.methodLink RX1 73 yX1_nextOf ∈ TB := TB_of 369 (by decide +kernel) rfl
theorem ml_X1_83 : Cond.methodLink RX1 83 yX1_hasNext ∈ TB := TB_of 361 (by decide +kernel) rfl
theorem ml_X1_87 : Cond.methodLink RX1 87 yX1_machineOfNext ∈ TB := TB_of 365 (by decide +kernel) rfl
theorem ml_X1_90 : Cond.methodLink RX1 90 yX1_readyFor ∈ TB := TB_of 373 (by decide +kernel) rfl
theorem ml_X1_93 : Cond.methodLink RX1 93 Lib.Math.max.name ∈ TB := TB_of 378 (by decide +kernel) rfl
theorem ml_X1_105 : Cond.methodLink RX1 105 yX3_changeBetween ∈ TB := TB_of 377 (by decide +kernel) rfl
theorem ml_X1_110 : Cond.methodLink RX1 110 yX1_wouldEnd ∈ TB := TB_of 384 (by decide +kernel) rfl
theorem ml_X1_113 : Cond.methodLink RX1 113 yX1_measure ∈ TB := TB_of 392 (by decide +kernel) rfl
theorem ml_X1_119 : Cond.methodLink RX1 119 yX3_timeOf ∈ TB := TB_of 396 (by decide +kernel) rfl
theorem ml_X1_122 : Cond.methodLink RX1 122 yX3_insert ∈ TB := TB_of 404 (by decide +kernel) rfl
theorem ml_X2_3 : Cond.methodLink RX2 3 objectInit ∈ TB := TB_of 159 (by decide +kernel) rfl
theorem ml_X2_49 : Cond.methodLink RX2 49 yJ7_fill_53178 ∈ TB := TB_of 413 (by decide +kernel) rfl
theorem ml_X2_55 : Cond.methodLink RX2 55 yX2_drawWhatIsReady ∈ TB := TB_of 414 (by decide +kernel) rfl
theorem ml_X2_68 : Cond.methodLink RX2 68 yX2_isReady ∈ TB := TB_of 418 (by decide +kernel) rfl
theorem ml_X2_72 : Cond.methodLink RX2 72 yX2_drawStep ∈ TB := TB_of 422 (by decide +kernel) rfl
theorem ml_X2_79 : Cond.methodLink RX2 79 yX2_endOf ∈ TB := TB_of 426 (by decide +kernel) rfl
theorem ml_X2_83 : Cond.methodLink RX2 83 yX3_changeBetween ∈ TB := TB_of 430 (by decide +kernel) rfl
theorem ml_X2_87 : Cond.methodLink RX2 87 Lib.Math.max.name ∈ TB := TB_of 431 (by decide +kernel) rfl
theorem ml_X2_99 : Cond.methodLink RX2 99 yX2_restInJob ∈ TB := TB_of 441 (by decide +kernel) rfl
theorem ml_X2_102 : Cond.methodLink RX2 102 yX2_restInOrder ∈ TB := TB_of 445 (by decide +kernel) rfl
theorem ml_X3_3 : Cond.methodLink RX3 3 objectInit ∈ TB := TB_of 72 (by decide +kernel) rfl
theorem ml_X3_58 : Cond.methodLink RX3 58 yX3_hasJob ∈ TB := TB_of 310 (by decide +kernel) rfl
theorem ml_X3_62 : Cond.methodLink RX3 62 yX3_hasMachine ∈ TB := TB_of 331 (by decide +kernel) rfl
theorem ml_X3_65 : Cond.methodLink RX3 65 yJ7_fill_53178 ∈ TB := TB_of 352 (by decide +kernel) rfl
theorem ml_X3_71 : Cond.methodLink RX3 71 yX3_timeOf ∈ TB := TB_of 490 (by decide +kernel) rfl
theorem ml_L_7 : Cond.methodLink RL 7 yX4_share ∈ TB := TB_of 541 (by decide +kernel) rfl
theorem ml_L_15 : Cond.methodLink RL 15 yL_cell ∈ TB := TB_of 534 (by decide +kernel) rfl
theorem ml_L_21 : Cond.methodLink RL 21 yX4_init ∈ TB := TB_of 55 (by decide +kernel) rfl
theorem ml_L_26 : Cond.methodLink RL 26 yX5_init ∈ TB := TB_of 614 (by decide +kernel) rfl
theorem ml_L_27 : Cond.methodLink RL 27 yX4_job ∈ TB := TB_of 259 (by decide +kernel) rfl
theorem ml_L_31 : Cond.methodLink RL 31 yX5_job ∈ TB := TB_of 695 (by decide +kernel) rfl
theorem ml_L_32 : Cond.methodLink RL 32 yX4_step ∈ TB := TB_of 270 (by decide +kernel) rfl
theorem ml_L_35 : Cond.methodLink RL 35 yX5_step ∈ TB := TB_of 702 (by decide +kernel) rfl
theorem ml_L_36 : Cond.methodLink RL 36 yX4_change ∈ TB := TB_of 290 (by decide +kernel) rfl
theorem ml_L_40 : Cond.methodLink RL 40 yX5_change ∈ TB := TB_of 714 (by decide +kernel) rfl
theorem ml_L_41 : Cond.methodLink RL 41 yX4_put ∈ TB := TB_of 302 (by decide +kernel) rfl
theorem ml_L_45 : Cond.methodLink RL 45 yX5_put ∈ TB := TB_of 718 (by decide +kernel) rfl
theorem ml_L_46 : Cond.methodLink RL 46 yX4_take ∈ TB := TB_of 315 (by decide +kernel) rfl
theorem ml_L_50 : Cond.methodLink RL 50 yX5_take ∈ TB := TB_of 729 (by decide +kernel) rfl
theorem ml_L_51 : Cond.methodLink RL 51 yX4_swap ∈ TB := TB_of 323 (by decide +kernel) rfl
theorem ml_L_54 : Cond.methodLink RL 54 yX5_swap ∈ TB := TB_of 737 (by decide +kernel) rfl
theorem ml_L_55 : Cond.methodLink RL 55 yX4_at ∈ TB := TB_of 336 (by decide +kernel) rfl
theorem ml_L_58 : Cond.methodLink RL 58 yX5_at ∈ TB := TB_of 749 (by decide +kernel) rfl
theorem ml_L_59 : Cond.methodLink RL 59 yX4_fill ∈ TB := TB_of 340 (by decide +kernel) rfl
theorem ml_L_62 : Cond.methodLink RL 62 yX5_fill ∈ TB := TB_of 756 (by decide +kernel) rfl
theorem ml_L_63 : Cond.methodLink RL 63 yX4_state ∈ TB := TB_of 405 (by decide +kernel) rfl
theorem ml_L_67 : Cond.methodLink RL 67 yX5_state ∈ TB := TB_of 768 (by decide +kernel) rfl
theorem ml_L_68 : Cond.methodLink RL 68 yX4_when ∈ TB := TB_of 432 (by decide +kernel) rfl
theorem ml_L_71 : Cond.methodLink RL 71 yX5_when ∈ TB := TB_of 788 (by decide +kernel) rfl
theorem ml_L_72 : Cond.methodLink RL 72 yX4_span ∈ TB := TB_of 453 (by decide +kernel) rfl
theorem ml_L_75 : Cond.methodLink RL 75 yX5_span ∈ TB := TB_of 796 (by decide +kernel) rfl
theorem ml_L_76 : Cond.methodLink RL 76 yX4_late ∈ TB := TB_of 457 (by decide +kernel) rfl
theorem ml_L_79 : Cond.methodLink RL 79 yX5_late ∈ TB := TB_of 800 (by decide +kernel) rfl
theorem ml_L_80 : Cond.methodLink RL 80 yX4_swapped ∈ TB := TB_of 466 (by decide +kernel) rfl
theorem ml_L_83 : Cond.methodLink RL 83 yX5_swapped ∈ TB := TB_of 805 (by decide +kernel) rfl
theorem ml_L_84 : Cond.methodLink RL 84 yX4_better ∈ TB := TB_of 474 (by decide +kernel) rfl
theorem ml_L_87 : Cond.methodLink RL 87 yX5_better ∈ TB := TB_of 813 (by decide +kernel) rfl
theorem ml_L_88 : Cond.methodLink RL 88 yX4_part ∈ TB := TB_of 482 (by decide +kernel) rfl
theorem ml_L_91 : Cond.methodLink RL 91 yX5_part ∈ TB := TB_of 817 (by decide +kernel) rfl
theorem ml_L_92 : Cond.methodLink RL 92 yX4_bound ∈ TB := TB_of 495 (by decide +kernel) rfl
theorem ml_L_95 : Cond.methodLink RL 95 yX5_bound ∈ TB := TB_of 825 (by decide +kernel) rfl
theorem ml_L_96 : Cond.methodLink RL 96 yX4_low ∈ TB := TB_of 523 (by decide +kernel) rfl
theorem ml_L_99 : Cond.methodLink RL 99 yX5_low ∈ TB := TB_of 837 (by decide +kernel) rfl
theorem ml_L_100 : Cond.methodLink RL 100 yL_share ∈ TB := TB_of 537 (by decide +kernel) rfl
theorem ml_L_103 : Cond.methodLink RL 103 yX5_share ∈ TB := TB_of 845 (by decide +kernel) rfl
theorem ml_L_104 : Cond.methodLink RL 104 yX5_thrown ∈ TB := TB_of 691 (by decide +kernel) rfl
theorem ml_X5_1 : Cond.methodLink RX5 1 objectInit ∈ TB := TB_of 617 (by decide +kernel) rfl
theorem ml_X5_75 : Cond.methodLink RX5 75 yX5_in ∈ TB := TB_of 699 (by decide +kernel) rfl
theorem ml_X5_79 : Cond.methodLink RX5 79 yX5_isJob ∈ TB := TB_of 706 (by decide +kernel) rfl
theorem ml_X5_83 : Cond.methodLink RX5 83 yX5_isMachine ∈ TB := TB_of 710 (by decide +kernel) rfl
theorem ml_X5_86 : Cond.methodLink RX5 86 yX5_isStep ∈ TB := TB_of 722 (by decide +kernel) rfl
theorem ml_X5_89 : Cond.methodLink RX5 89 yX5_placeOf ∈ TB := TB_of 726 (by decide +kernel) rfl
theorem ml_X5_93 : Cond.methodLink RX5 93 yX5_whereIs ∈ TB := TB_of 733 (by decide +kernel) rfl
theorem ml_X5_96 : Cond.methodLink RX5 96 yX5_arePlaces ∈ TB := TB_of 741 (by decide +kernel) rfl
theorem ml_X5_100 : Cond.methodLink RX5 100 yX5_exchange ∈ TB := TB_of 745 (by decide +kernel) rfl
theorem ml_X5_104 : Cond.methodLink RX5 104 yX5_told ∈ TB := TB_of 753 (by decide +kernel) rfl
theorem ml_X5_107 : Cond.methodLink RX5 107 yX5_beginOfNext ∈ TB := TB_of 760 (by decide +kernel) rfl
theorem ml_X5_110 : Cond.methodLink RX5 110 yX5_leftOf ∈ TB := TB_of 764 (by decide +kernel) rfl
theorem ml_X5_119 : Cond.methodLink RX5 119 yX5_before ∈ TB := TB_of 776 (by decide +kernel) rfl
theorem ml_X5_122 : Cond.methodLink RX5 122 yX5_changeOf ∈ TB := TB_of 780 (by decide +kernel) rfl
theorem ml_X5_126 : Cond.methodLink RX5 126 yX5_ahead ∈ TB := TB_of 784 (by decide +kernel) rfl
theorem ml_X5_130 : Cond.methodLink RX5 130 yX5_plan ∈ TB := TB_of 772 (by decide +kernel) rfl
theorem ml_X5_133 : Cond.methodLink RX5 133 yX5_slack ∈ TB := TB_of 792 (by decide +kernel) rfl
theorem ml_X5_138 : Cond.methodLink RX5 138 yX5_spanWith ∈ TB := TB_of 809 (by decide +kernel) rfl
theorem ml_X5_141 : Cond.methodLink RX5 141 yX5_headOf ∈ TB := TB_of 821 (by decide +kernel) rfl
theorem ml_X5_147 : Cond.methodLink RX5 147 yX5_fits ∈ TB := TB_of 833 (by decide +kernel) rfl
theorem ml_X5_150 : Cond.methodLink RX5 150 yX5_boundOf ∈ TB := TB_of 829 (by decide +kernel) rfl
theorem ml_X5_153 : Cond.methodLink RX5 153 yX5_lowOf ∈ TB := TB_of 841 (by decide +kernel) rfl
theorem mt_max : Cond.static Lib.Math.max.name ∈ TB ∧ Cond.initialized "java/lang/Math" ∈ TB ∧ Cond.code Lib.Math.max.name Lib.Math.max.code 2 (some .int) ∈ TB := ⟨TB_of 67 (by decide +kernel) rfl, TB_of 42 (by decide +kernel) rfl, TB_of 68 (by decide +kernel) rfl⟩
theorem mt_min : Cond.static Lib.Math.min.name ∈ TB ∧ Cond.initialized "java/lang/Math" ∈ TB ∧ Cond.code Lib.Math.min.name Lib.Math.min.code 2 (some .int) ∈ TB := ⟨TB_of 64 (by decide +kernel) rfl, TB_of 42 (by decide +kernel) rfl, TB_of 65 (by decide +kernel) rfl⟩
theorem mt_copy : Cond.native arraycopyName ∈ TB ∧ Cond.static arraycopyName ∈ TB ∧ Cond.initialized "java/lang/System" ∈ TB := ⟨TB_of 356 (by decide +kernel) rfl, TB_of 355 (by decide +kernel) rfl, TB_of 48 (by decide +kernel) rfl⟩
theorem cs_X1_109 : Cond.constant RX1 109 (Int32.ofInt (1000000)) ∈ TB := TB_of 383 (by decide +kernel) rfl
theorem cs_X4_147 : Cond.constantLong RX4 147 (Int64.ofInt (-9223372036854775808)) ∈ TB := TB_of 461 (by decide +kernel) rfl
theorem cs_X0_94 : Cond.constant RX0 94 (Int32.ofInt (1000000)) ∈ TB := TB_of 522 (by decide +kernel) rfl
theorem cs_X4_189 : Cond.constantLong RX4 189 (Int64.ofInt (1000)) ∈ TB := TB_of 611 (by decide +kernel) rfl
theorem cs_X5_136 : Cond.constantLong RX5 136 (Int64.ofInt (-9223372036854775808)) ∈ TB := TB_of 804 (by decide +kernel) rfl
theorem cs_X5_157 : Cond.constantLong RX5 157 (Int64.ofInt (1000)) ∈ TB := TB_of 849 (by decide +kernel) rfl
end
section
/-! sums and small arithmetic -/
def sumN (f : Int → Int) (lo : Int) : Nat → Int
  | 0 => 0
  | n + 1 => sumN f lo n + f (lo + n)
def sumI (f : Int → Int) (lo hi : Int) : Int := sumN f lo (hi - lo).toNat
theorem sumI_0 (f : Int → Int) {lo hi : Int} (h : hi ≤ lo) : sumI f lo hi = 0 := by
  unfold sumI
  rw [show (hi - lo).toNat = 0 by omega]
  rfl
theorem sumI_s (f : Int → Int) {lo hi : Int} (h : lo ≤ hi) : sumI f lo (hi + 1) = sumI f lo hi + f hi := by
  unfold sumI
  rw [show (hi + 1 - lo).toNat = (hi - lo).toNat + 1 by omega]
  show sumN f lo (hi - lo).toNat + f (lo + ((hi - lo).toNat : Int)) = _
  rw [show lo + ((hi - lo).toNat : Int) = hi by omega]
theorem sumN_congr {f g : Int → Int} {lo : Int} : ∀ {n : Nat}, (∀ i : Int, lo ≤ i → i < lo + n → f i = g i) → sumN f lo n = sumN g lo n
  | 0, _ => rfl
  | n + 1, h => by
    show sumN f lo n + f (lo + n) = sumN g lo n + g (lo + n)
    rw [sumN_congr (fun i h1 h2 => h i h1 (by omega)), h (lo + n) (by omega) (by omega)]
theorem sumI_congr {f g : Int → Int} {lo hi : Int} (h : ∀ i, lo ≤ i → i < hi → f i = g i) : sumI f lo hi = sumI g lo hi :=
  sumN_congr (fun i h1 h2 => h i h1 (by omega))
theorem sumN_bd {f : Int → Int} {lo B : Int} : ∀ {n : Nat}, (∀ i : Int, lo ≤ i → i < lo + n → 0 ≤ f i ∧ f i ≤ B) → 0 ≤ sumN f lo n ∧ sumN f lo n ≤ B * n
  | 0, _ => by simp [sumN]
  | n + 1, h => by
    have h1 := sumN_bd (f := f) (lo := lo) (B := B) (n := n) (fun i a b => h i a (by omega))
    have h2 := h (lo + n) (by omega) (by omega)
    show 0 ≤ sumN f lo n + f (lo + n) ∧ sumN f lo n + f (lo + n) ≤ B * ((n + 1 : Nat) : Int)
    rw [show B * ((n + 1 : Nat) : Int) = B * n + B by rw [Int.natCast_add, Int.mul_add]; simp]
    omega
theorem sumI_bd {f : Int → Int} {lo hi B : Int} (hB : 0 ≤ B) (h : ∀ i, lo ≤ i → i < hi → 0 ≤ f i ∧ f i ≤ B) (n : Nat) (hn : hi - lo ≤ n) : 0 ≤ sumI f lo hi ∧ sumI f lo hi ≤ B * n := by
  have h1 := sumN_bd (f := f) (lo := lo) (B := B) (n := (hi - lo).toNat) (fun i a b => h i a (by omega))
  have h2 : B * ((hi - lo).toNat : Int) ≤ B * (n : Int) := Int.mul_le_mul_of_nonneg_left (by omega) hB
  unfold sumI
  omega
/-- what a shop's numbers keep to, as far as indices and ranges need it -/
def SB (M : Nat) (σ : Mem) : Prop := σ 1 0 = M ∧ 1 ≤ M ∧ M ≤ 5 ∧ (0 ≤ σ 1 1 ∧ σ 1 1 ≤ 8) ∧ (∀ j : Int, 0 ≤ j → j < 8 → 0 ≤ σ 5 j ∧ σ 5 j ≤ 6) ∧ (∀ m : Int, 0 ≤ m → m < M → 0 ≤ σ 10 m ∧ σ 10 m ≤ 48)
end
section
/-! the shop's well-formedness, in the class's own cells -/
def VS (a : Mem) (s : Int) : Prop := 0 ≤ s ∧ s / 10 < a 1 1 ∧ s % 10 < a 5 (s / 10)
/-- numbers within their bounds -/
def WN (M : Nat) (a : Mem) : Prop := SB M a
  ∧ (∀ j : Int, 0 ≤ j → j < 8 → (0 ≤ a 2 j ∧ a 2 j ≤ 1000) ∧ (0 ≤ a 3 j ∧ a 3 j ≤ 1000) ∧ (0 ≤ a 4 j ∧ a 4 j ≤ 20))
  ∧ (∀ j : Int, a 1 1 ≤ j → j < 8 → a 5 j = 0)
  ∧ (∀ s : Int, 0 ≤ s → s < 80 → (0 ≤ a 6 s ∧ a 6 s < M) ∧ (0 ≤ a 7 s ∧ a 7 s ≤ 50))
  ∧ (∀ i : Int, 0 ≤ i → i < 64 * M → 0 ≤ a 11 i ∧ a 11 i ≤ 50)
  ∧ (∀ m j : Int, 0 ≤ m → m < M → 0 ≤ j → j < 8 → a 11 ((m * 8 + j) * 8 + j) = 0)
/-- the orders: each entry is a step of this machine that is put, none twice -/
def WO (M : Nat) (a : Mem) : Prop :=
  (∀ m i : Int, 0 ≤ m → m < M → 0 ≤ i → i < a 10 m → VS a (a (57 + m) i) ∧ a 6 (a (57 + m) i) = m ∧ a 8 (a (57 + m) i) = 1)
  ∧ (∀ m i i' : Int, 0 ≤ m → m < M → 0 ≤ i → i < a 10 m → 0 ≤ i' → i' < a 10 m → a (57 + m) i = a (57 + m) i' → i = i')
/-- what is put stands in its order; counts -/
def WP (M : Nat) (a : Mem) : Prop :=
  (∀ s : Int, 0 ≤ s → s < 80 → a 8 s = 0 ∨ (a 8 s = 1 ∧ VS a s))
  ∧ (∀ s : Int, VS a s → a 8 s = 1 → ∃ i : Int, 0 ≤ i ∧ i < a 10 (a 6 s) ∧ a (57 + a 6 s) i = s)
  ∧ a 1 2 = sumI (fun j => a 5 j) 0 8
  ∧ a 1 3 = sumI (fun s => a 8 s) 0 80
  ∧ (∀ m : Int, 0 ≤ m → m < M → a 10 m = sumI (fun s => if a 6 s = m then a 8 s else 0) 0 80)
def WF (M : Nat) (a : Mem) : Prop := WN M a ∧ WO M a ∧ WP M a
theorem VS_in {M : Nat} {a : Mem} (h : SB M a) {s : Int} (hs : VS a s) : 0 ≤ s ∧ s < 80 ∧ 0 ≤ s / 10 ∧ s / 10 < 8 ∧ 0 ≤ s % 10 ∧ s % 10 < 6 := by
  obtain ⟨a1, a2, a3, a4, a5, a6⟩ := h
  obtain ⟨h1, h2, h3⟩ := hs
  have := a5 (s / 10) (by omega) (by omega)
  omega
/-- a and b agree on the shop's cells -/
def SE (a b : Mem) : Prop := ∀ c : Int, (1 ≤ c ∧ c ≤ 11) ∨ 57 ≤ c → a c = b c
theorem SE.refl (a : Mem) : SE a a := fun _ _ => rfl
theorem SE.symm {a b : Mem} (h : SE a b) : SE b a := fun c hc => (h c hc).symm
theorem SE.trans {a b c : Mem} (h : SE a b) (g : SE b c) : SE a c := fun d hd => (h d hd).trans (g d hd)
theorem SE_SB {M : Nat} {a b : Mem} (h : SE a b) (g : SB M a) : SB M b := by
  have e1 := h 1 (by omega)
  have e5 := h 5 (by omega)
  have e10 := h 10 (by omega)
  unfold SB at *
  rw [e1, e5, e10] at g
  exact g
theorem SE_VS {a b : Mem} (h : SE a b) (s : Int) : VS a s ↔ VS b s := by
  have e1 := h 1 (by omega)
  have e5 := h 5 (by omega)
  unfold VS
  rw [e1, e5]
theorem SE_WN {M : Nat} {a b : Mem} (h : SE a b) (g : WN M a) : WN M b := by
  have e1 := h 1 (by omega)
  have e2 := h 2 (by omega)
  have e3 := h 3 (by omega)
  have e4 := h 4 (by omega)
  have e5 := h 5 (by omega)
  have e6 := h 6 (by omega)
  have e7 := h 7 (by omega)
  have e11 := h 11 (by omega)
  refine ⟨SE_SB h g.1, ?_⟩
  have g2 := g.2
  rw [e1, e2, e3, e4, e5, e6, e7, e11] at g2
  exact g2
theorem SE_row {a b : Mem} (h : SE a b) {m : Int} (hm : 0 ≤ m) : a (57 + m) = b (57 + m) := h _ (by omega)
theorem SE_WO {M : Nat} {a b : Mem} (h : SE a b) (g : WO M a) : WO M b := by
  have e6 := h 6 (by omega)
  have e8 := h 8 (by omega)
  have e10 := h 10 (by omega)
  obtain ⟨g1, g2⟩ := g
  refine ⟨fun m i h1 h2 h3 h4 => ?_, fun m i i' h1 h2 h3 h4 h5 h6 => ?_⟩
  · have := g1 m i h1 h2 h3 (by rw [e10]; exact h4)
    rw [SE_VS h, SE_row h h1, e6, e8] at this
    exact this
  · have := g2 m i i' h1 h2 h3 (by rw [e10]; exact h4) h5 (by rw [e10]; exact h6)
    rw [SE_row h h1] at this
    exact this
theorem SE_WP {M : Nat} {a b : Mem} (h : SE a b) (hN : WN M a) (g : WP M a) : WP M b := by
  have e1 := h 1 (by omega)
  have e5 := h 5 (by omega)
  have e6 := h 6 (by omega)
  have e8 := h 8 (by omega)
  have e10 := h 10 (by omega)
  obtain ⟨g1, g2, g3, g4, g5⟩ := g
  refine ⟨fun s h1 h2 => ?_, fun s h1 h2 => ?_, ?_, ?_, fun m h1 h2 => ?_⟩
  · have := g1 s h1 h2
    rw [SE_VS h, e8] at this
    exact this
  · have hv := (SE_VS h s).mpr h1
    obtain ⟨i, q1, q2, q3⟩ := g2 s hv (by rw [e8]; exact h2)
    have hs := VS_in hN.1 hv
    have hm := (hN.2.2.2.1 s hs.1 hs.2.1).1.1
    refine ⟨i, q1, ?_, ?_⟩
    · rw [← e10, ← e6]; exact q2
    · rw [← e6, ← SE_row h hm]; exact q3
  · rw [← e1, ← e5]; exact g3
  · rw [← e1, ← e8]; exact g4
  · have := g5 m h1 h2
    rw [e10, e6, e8] at this
    exact this
theorem SE_WF {M : Nat} {a b : Mem} (h : SE a b) (g : WF M a) : WF M b := ⟨SE_WN h g.1, SE_WO h g.2.1, SE_WP h g.1 g.2.2⟩
end
section
/-! plans, as the document has them: a done set D, begins B, a rank -/
def jIn (a : Mem) (B : Int → Int) (s : Int) : Int := if s % 10 = 0 then a 2 (s / 10) else B (s - 1) + a 7 (s - 1)
/-- what the step behind b on machine m waits for -/
def oIn (a : Mem) (B : Int → Int) (m b s : Int) : Int := B b + a 7 b + a 11 ((m * 8 + b / 10) * 8 + s / 10)
/-- the begin of the step at place i of machine m -/
def bV (a : Mem) (B : Int → Int) (m i : Int) : Int := if 0 < i then max (jIn a B (a (57 + m) i)) (oIn a B m (a (57 + m) (i - 1)) (a (57 + m) i)) else jIn a B (a (57 + m) i)
/-- place i of machine m is in its order -/
def inO (M : Nat) (a : Mem) (m i : Int) : Prop := 0 ≤ m ∧ m < M ∧ 0 ≤ i ∧ i < a 10 m
/-- all steps are put -/
def AO (a : Mem) : Prop := ∀ s : Int, VS a s → ∃ i : Int, 0 ≤ i ∧ i < a 10 (a 6 s) ∧ a (57 + a 6 s) i = s
/-- a partial plan: closed under what a step waits for, ranked, begins as told -/
def PP (M : Nat) (a : Mem) (D : Int → Prop) (B : Int → Int) (rk : Int → Int) : Prop := ∀ m i : Int, inO M a m i → D (a (57 + m) i) →
  (0 ≤ rk (a (57 + m) i) ∧ rk (a (57 + m) i) < 48) ∧ (0 < i → D (a (57 + m) (i - 1)) ∧ rk (a (57 + m) (i - 1)) < rk (a (57 + m) i)) ∧ (a (57 + m) i % 10 ≠ 0 → D (a (57 + m) i - 1) ∧ rk (a (57 + m) i - 1) < rk (a (57 + m) i)) ∧ B (a (57 + m) i) = bV a B m i
/-- nothing more can be done -/
def MX (M : Nat) (a : Mem) (D : Int → Prop) : Prop := ∀ m i : Int, inO M a m i → ¬ D (a (57 + m) i) → (0 < i ∧ ¬ D (a (57 + m) (i - 1))) ∨ (a (57 + m) i % 10 ≠ 0 ∧ ¬ D (a (57 + m) i - 1))
def All (a : Mem) (D : Int → Prop) : Prop := ∀ s : Int, VS a s → D s
def SPN (a : Mem) (D : Int → Prop) (B : Int → Int) (g : Int) : Prop := 0 ≤ g ∧ (∀ s : Int, VS a s → D s → B s + a 7 s ≤ g) ∧ (g = 0 ∨ ∃ s : Int, VS a s ∧ D s ∧ B s + a 7 s = g)
theorem inO_VS {M : Nat} {a : Mem} (hN : WN M a) (hO : WO M a) {m i : Int} (h : inO M a m i) : VS a (a (57 + m) i) ∧ a 6 (a (57 + m) i) = m := by
  obtain ⟨h1, h2, h3, h4⟩ := h
  have := hO.1 m i h1 h2 h3 h4
  exact ⟨this.1, this.2.1⟩
theorem VS_inO {M : Nat} {a : Mem} (hN : WN M a) (hA : AO a) {s : Int} (h : VS a s) : ∃ m i : Int, inO M a m i ∧ a (57 + m) i = s ∧ m = a 6 s := by
  obtain ⟨i, h1, h2, h3⟩ := hA s h
  have hs := VS_in hN.1 h
  have hm := (hN.2.2.2.1 s hs.1 hs.2.1).1
  exact ⟨a 6 s, i, ⟨hm.1, hm.2, h1, h2⟩, h3, rfl⟩
theorem VS_pred {M : Nat} {a : Mem} (hN : WN M a) {s : Int} (h : VS a s) (h0 : s % 10 ≠ 0) : VS a (s - 1) := by
  have hs := VS_in hN.1 h
  obtain ⟨h1, h2, h3⟩ := h
  have e : (s - 1) / 10 = s / 10 := by omega
  exact ⟨by omega, by rw [e]; exact h2, by rw [e]; omega⟩
/-- what is done in one is done in any other that can do no more -/
theorem PP_sub {M : Nat} {a : Mem} {D D' : Int → Prop} {B rk : Int → Int} (hN : WN M a) (hO : WO M a) (hA : AO a) (h : PP M a D B rk) (g : MX M a D') : ∀ s : Int, VS a s → D s → D' s := by
  have key : ∀ n : Nat, ∀ s : Int, VS a s → D s → rk s < n → D' s := by
    intro n
    induction n with
    | zero =>
      intro s hv hd hr
      obtain ⟨m, i, hi, rfl, -⟩ := VS_inO hN hA hv
      have := (h m i hi hd).1
      omega
    | succ n ih =>
      intro s hv hd hr
      obtain ⟨m, i, hi, e, -⟩ := VS_inO hN hA hv
      subst e
      obtain ⟨q1, q2, q3, q4⟩ := h m i hi hd
      apply Classical.byContradiction
      intro hn
      rcases g m i hi hn with ⟨p1, p2⟩ | ⟨p1, p2⟩
      · have hi' : inO M a m (i - 1) := ⟨hi.1, hi.2.1, by have := hi.2.2.1; omega, by have := hi.2.2.2; omega⟩
        exact p2 (ih _ (inO_VS hN hO hi').1 (q2 p1).1 (by have := (q2 p1).2; omega))
      · exact p2 (ih _ (VS_pred hN hv p1) (q3 p1).1 (by have := (q3 p1).2; omega))
  intro s hv hd
  exact key (rk s).toNat.succ s hv hd (by omega)
/-- the begins are the only ones -/
theorem PP_uniq {M : Nat} {a : Mem} {D D' : Int → Prop} {B B' rk rk' : Int → Int} (hN : WN M a) (hO : WO M a) (hA : AO a) (h : PP M a D B rk) (g : PP M a D' B' rk') (hs : ∀ s : Int, VS a s → D s → D' s) : ∀ s : Int, VS a s → D s → B s = B' s := by
  have key : ∀ n : Nat, ∀ s : Int, VS a s → D s → rk s < n → B s = B' s := by
    intro n
    induction n with
    | zero =>
      intro s hv hd hr
      obtain ⟨m, i, hi, rfl, -⟩ := VS_inO hN hA hv
      have := (h m i hi hd).1
      omega
    | succ n ih =>
      intro s hv hd hr
      obtain ⟨m, i, hi, e, -⟩ := VS_inO hN hA hv
      subst e
      obtain ⟨q1, q2, q3, q4⟩ := h m i hi hd
      obtain ⟨p1, p2, p3, p4⟩ := g m i hi (hs _ hv hd)
      rw [q4, p4]
      have e1 : jIn a B (a (57 + m) i) = jIn a B' (a (57 + m) i) := by
        unfold jIn
        by_cases e : a (57 + m) i % 10 = 0
        · rw [if_pos e, if_pos e]
        · rw [if_neg e, if_neg e, ih _ (VS_pred hN hv e) (q3 e).1 (by have := (q3 e).2; omega)]
      unfold bV
      by_cases e : 0 < i
      · have hi' : inO M a m (i - 1) := ⟨hi.1, hi.2.1, by have := hi.2.2.1; omega, by have := hi.2.2.2; omega⟩
        rw [if_pos e, if_pos e, e1]
        unfold oIn
        rw [ih _ (inO_VS hN hO hi').1 (q2 e).1 (by have := (q2 e).2; omega)]
      · rw [if_neg e, if_neg e, e1]
  intro s hv hd
  exact key (rk s).toNat.succ s hv hd (by omega)
theorem SPN_uniq {a : Mem} {D D' : Int → Prop} {B B' : Int → Int} {g g' : Int} (hD : ∀ s : Int, VS a s → (D s ↔ D' s)) (hB : ∀ s : Int, VS a s → D s → B s = B' s) (h : SPN a D B g) (h' : SPN a D' B' g') : g = g' := by
  obtain ⟨a1, a2, a3⟩ := h
  obtain ⟨b1, b2, b3⟩ := h'
  have l1 : g ≤ g' := by
    rcases a3 with e | ⟨s, p1, p2, p3⟩
    · omega
    · have := b2 s p1 ((hD s p1).mp p2)
      rw [← hB s p1 p2] at this
      omega
  have l2 : g' ≤ g := by
    rcases b3 with e | ⟨s, p1, p2, p3⟩
    · omega
    · have q := (hD s p1).mpr p2
      have := a2 s p1 q
      rw [hB s p1 q] at this
      omega
  omega
/-- what follows a step: the longest way to an end -/
def rV (a : Mem) (R : Int → Int) (m i : Int) : Int := a 7 (a (57 + m) i) + max (if a (57 + m) i % 10 + 1 = a 5 (a (57 + m) i / 10) then 0 else R (a (57 + m) i + 1)) (if i + 1 < a 10 m then a 11 ((m * 8 + a (57 + m) i / 10) * 8 + a (57 + m) (i + 1) / 10) + R (a (57 + m) (i + 1)) else 0)
def RS (M : Nat) (a : Mem) (R : Int → Int) : Prop := ∀ m i : Int, inO M a m i → R (a (57 + m) i) = rV a R m i
theorem RS_uniq {M : Nat} {a : Mem} {D : Int → Prop} {B rk R R' : Int → Int} (hN : WN M a) (hO : WO M a) (hA : AO a) (h : PP M a D B rk) (hall : All a D) (g : RS M a R) (g' : RS M a R') : ∀ s : Int, VS a s → R s = R' s := by
  have key : ∀ n : Nat, ∀ s : Int, VS a s → 48 - rk s < n → R s = R' s := by
    intro n
    induction n with
    | zero =>
      intro s hv hr
      obtain ⟨m, i, hi, rfl, -⟩ := VS_inO hN hA hv
      have := (h m i hi (hall _ hv)).1
      omega
    | succ n ih =>
      intro s hv hr
      obtain ⟨m, i, hi, e, -⟩ := VS_inO hN hA hv
      subst e
      rw [g m i hi, g' m i hi]
      unfold rV
      have e1 : (if a (57 + m) i % 10 + 1 = a 5 (a (57 + m) i / 10) then 0 else R (a (57 + m) i + 1)) = (if a (57 + m) i % 10 + 1 = a 5 (a (57 + m) i / 10) then 0 else R' (a (57 + m) i + 1)) := by
        by_cases e : a (57 + m) i % 10 + 1 = a 5 (a (57 + m) i / 10)
        · rw [if_pos e, if_pos e]
        · rw [if_neg e, if_neg e]
          have hb := VS_in hN.1 hv
          have hv' : VS a (a (57 + m) i + 1) := by
            obtain ⟨h1, h2, h3⟩ := hv
            have e2 : (a (57 + m) i + 1) / 10 = a (57 + m) i / 10 := by omega
            exact ⟨by omega, by rw [e2]; exact h2, by rw [e2]; omega⟩
          obtain ⟨m', i', hi', e2, -⟩ := VS_inO hN hA hv'
          have q := (h m' i' hi' (by rw [e2]; exact hall _ hv')).2.2.1 (by rw [e2]; omega)
          rw [e2, show a (57 + m) i + 1 - 1 = a (57 + m) i by omega] at q
          exact ih _ hv' (by have := q.2; omega)
      have e2 : (if i + 1 < a 10 m then a 11 ((m * 8 + a (57 + m) i / 10) * 8 + a (57 + m) (i + 1) / 10) + R (a (57 + m) (i + 1)) else 0) = (if i + 1 < a 10 m then a 11 ((m * 8 + a (57 + m) i / 10) * 8 + a (57 + m) (i + 1) / 10) + R' (a (57 + m) (i + 1)) else 0) := by
        by_cases e : i + 1 < a 10 m
        · rw [if_pos e, if_pos e]
          have hi' : inO M a m (i + 1) := ⟨hi.1, hi.2.1, by have := hi.2.2.1; omega, e⟩
          have hv' := (inO_VS hN hO hi').1
          have q := (h m (i + 1) hi' (hall _ hv')).2.1 (by have := hi.2.2.1; omega)
          rw [show i + 1 - 1 = i by omega] at q
          rw [ih _ hv' (by have := q.2; omega)]
        · rw [if_neg e, if_neg e]
      rw [e1, e2]
  intro s hv
  exact key (48 - rk s).toNat.succ s hv (by omega)
theorem sumN_le {f g : Int → Int} {lo : Int} : ∀ {n : Nat}, (∀ i : Int, lo ≤ i → i < lo + n → f i ≤ g i) → sumN f lo n ≤ sumN g lo n
  | 0, _ => Int.le_refl _
  | n + 1, h => by
    have h1 := sumN_le (f := f) (g := g) (lo := lo) (n := n) (fun i a b => h i a (by omega))
    have h2 := h (lo + n) (by omega) (by omega)
    show sumN f lo n + f (lo + n) ≤ sumN g lo n + g (lo + n)
    omega
theorem sumN_eq {f g : Int → Int} {lo : Int} (n : Nat) : (∀ i : Int, lo ≤ i → i < lo + n → f i ≤ g i) → sumN g lo n ≤ sumN f lo n → ∀ i : Int, lo ≤ i → i < lo + n → f i = g i := by
  induction n with
  | zero => intro _ _ i a b; omega
  | succ n ih =>
    intro h e i a b
    have h1 := sumN_le (f := f) (g := g) (lo := lo) (n := n) (fun i a b => h i a (by omega))
    have h2 := h (lo + n) (by omega) (by omega)
    have e' : sumN g lo n + g (lo + n) ≤ sumN f lo n + f (lo + n) := e
    by_cases q : i = lo + n
    · subst q; omega
    · exact ih (fun i a b => h i a (by omega)) (by omega) i a (by omega)
theorem sumI_le {f g : Int → Int} {lo hi : Int} (h : ∀ i, lo ≤ i → i < hi → f i ≤ g i) : sumI f lo hi ≤ sumI g lo hi := sumN_le (fun i a b => h i a (by omega))
theorem sumI_eq {f g : Int → Int} {lo hi : Int} (h : ∀ i, lo ≤ i → i < hi → f i ≤ g i) (e : sumI g lo hi ≤ sumI f lo hi) : ∀ i, lo ≤ i → i < hi → f i = g i := fun i a b => sumN_eq _ (fun i a b => h i a (by omega)) e i a (by omega)
/-- one place more by one -/
theorem sumN_up {f g : Int → Int} {lo k d : Int} : ∀ {n : Nat}, lo ≤ k → k < lo + n → g k = f k + d → (∀ i : Int, i ≠ k → g i = f i) → sumN g lo n = sumN f lo n + d
  | 0, h1, h2, _, _ => by omega
  | n + 1, h1, h2, h3, h4 => by
    show sumN g lo n + g (lo + n) = sumN f lo n + f (lo + n) + d
    by_cases q : k = lo + n
    · subst q
      rw [h3, sumN_congr (f := g) (g := f) (fun i a b => h4 i (by omega))]
      omega
    · rw [sumN_up h1 (by omega) h3 h4, h4 (lo + n) (fun e => q e.symm)]
      omega
theorem sumI_up {f g : Int → Int} {lo hi k d : Int} (h1 : lo ≤ k) (h2 : k < hi) (h3 : g k = f k + d) (h4 : ∀ i : Int, i ≠ k → g i = f i) : sumI g lo hi = sumI f lo hi + d := sumN_up h1 (by omega) h3 h4
end
section
/-! J7_fill_53178 -/
def m_J7_fill_53178 (c0 : Int) (n0 : Nat) (x1 : Int) (σ : Mem) : Mem := fun c i => if c = c0 ∧ 0 ≤ i ∧ i < n0 then x1 else σ c i
def pre_J7_fill_53178 (M : Nat) (c0 : Int) (n0 : Nat) (x1 : Int) (σ : Mem) : Prop := n0 < 2147483648
def inv_J7_fill_53178_5 (M : Nat) (c0 : Int) (n0 : Nat) (x1 : Int) (σ : Mem) (w2 w3 : Int) (τ : Mem) : Prop := w3 = n0 ∧ 0 ≤ w2 ∧ w2 ≤ n0 ∧ τ = m_J7_fill_53178 c0 w2.toNat x1 σ
def mu_J7_fill_53178_5 (c0 : Int) (n0 : Nat) (x1 : Int) (w2 w3 : Int) (τ : Mem) : Nat := (n0 - w2).toNat
def VC_J7_fill_53178_0 (M : Nat) (K5 : Int → Int → Mem → Prop) (post : Mem → Prop) (c0 : Int) (n0 : Nat) (x1 : Int) (σ : Mem) : Prop :=
  K5 0 n0 σ
set_option maxRecDepth 20000 in
set_option maxHeartbeats 4000000 in
theorem seg_J7_fill_53178_0 {G : GG} {X : XX} {post : Mem → Prop} (C : CX G X cJ7_fill_53178 RJ7 4 none 0) {c0 : Int} {n0 : Nat} (hc0 : IsIA G c0 n0) (x1 : Int) (σ : Mem) (vc : VC_J7_fill_53178_0 (gM G) (fun w2 w3 σ => RW G X 4 (QV G X post) 5 [(0, pR c0), (1, pI x1), (2, pI w2), (3, pI w3)] [] σ) post c0 n0 x1 σ) : RW G X 4 (QV G X post) 0 [(0, pR c0), (1, pI x1)] [] σ := by
  unfold VC_J7_fill_53178_0 at vc
  refine w_iconst C dJ7_fill_53178_0 ?_
  refine w_istore_n C [(2, pI 0), (0, pR c0), (1, pI x1)] dJ7_fill_53178_1 (by decide) rfl ?_
  refine w_aload_n C 1 dJ7_fill_53178_2 rfl ?_
  refine w_alen C dJ7_fill_53178_3 hc0 ?_
  refine w_istore_n C [(3, pI n0), (2, pI 0), (0, pR c0), (1, pI x1)] dJ7_fill_53178_4 (by decide) rfl ?_
  exact w_sub _ [2, 3, 1, 0] rfl vc
def VC_J7_fill_53178_5 (M : Nat) (K5 : Int → Int → Mem → Prop) (post : Mem → Prop) (c0 : Int) (n0 : Nat) (x1 : Int) (w2 : Int) (w3 : Int) (σ : Mem) : Prop :=
 (inR w2 ∧ inR w3) ∧ ((w3 ≤ w2 → post σ) ∧ (w2 < w3 → (0 ≤ w2 ∧ w2 < n0) ∧ ∀ s6 : Mem, s6 = up σ c0 w2 x1 → K5 (w2 + 1) w3 s6))
set_option maxRecDepth 20000 in
set_option maxHeartbeats 4000000 in
theorem seg_J7_fill_53178_5 {G : GG} {X : XX} {post : Mem → Prop} (C : CX G X cJ7_fill_53178 RJ7 4 none 0) {c0 : Int} {n0 : Nat} (hc0 : IsIA G c0 n0) (x1 : Int) (w2 : Int) (w3 : Int) (σ : Mem) (vc : VC_J7_fill_53178_5 (gM G) (fun w2 w3 σ => RW G X 4 (QV G X post) 5 [(0, pR c0), (1, pI x1), (2, pI w2), (3, pI w3)] [] σ) post c0 n0 x1 w2 w3 σ) : RW G X 4 (QV G X post) 5 [(0, pR c0), (1, pI x1), (2, pI w2), (3, pI w3)] [] σ := by
  unfold VC_J7_fill_53178_5 at vc
  refine w_iload_n C 2 dJ7_fill_53178_5 rfl ?_
  refine w_iload_n C 3 dJ7_fill_53178_6 rfl ?_
  obtain ⟨⟨sc1, sc2⟩, vc⟩ := vc
  refine w_icmp_ge C 20 dJ7_fill_53178_7 (by decide) sc1 sc2 (fun h3 => ?_) (fun h3 => ?_)
  · have vc := vc.1 h3
    exact w_vreturn C dJ7_fill_53178_20 vc
  · have vc := vc.2 h3
    refine w_aload_n C 0 dJ7_fill_53178_10 rfl ?_
    refine w_iload_n C 2 dJ7_fill_53178_11 rfl ?_
    refine w_iload_n C 1 dJ7_fill_53178_12 rfl ?_
    obtain ⟨⟨sc4, sc5⟩, vc⟩ := vc
    refine w_iast C dJ7_fill_53178_13 hc0 sc4 sc5 ?_
    refine w_mem (fun s6 hs6 => ?_)
    have vc := vc s6 hs6
    refine w_iinc C 2 [(2, pI (w2 + 1)), (0, pR c0), (1, pI x1), (3, pI w3)] dJ7_fill_53178_14 rfl (by decide) rfl ?_
    refine w_goto C 5 dJ7_fill_53178_17 (by decide) ?_
    exact w_sub _ [1, 2, 0, 3] rfl vc
set_option maxHeartbeats 1000000 in
theorem ok_J7_fill_53178_0 {M : Nat} {c0 : Int} {n0 : Nat} {x1 : Int} {σ : Mem} {K5 : Int → Int → Mem → Prop} (h : pre_J7_fill_53178 M c0 n0 x1 σ) (hK5 : ∀ (y2 y3 : Int) (τ' : Mem), inv_J7_fill_53178_5 M c0 n0 x1 σ y2 y3 τ' → K5 y2 y3 τ') : VC_J7_fill_53178_0 M K5 (fun σ' => σ' = m_J7_fill_53178 c0 n0 x1 σ) c0 n0 x1 σ := by
  refine hK5 0 n0 σ ⟨rfl, by omega, by omega, ?_⟩
  funext c i
  simp only [m_J7_fill_53178]
  grind
set_option maxHeartbeats 1000000 in
theorem ok_J7_fill_53178_5 {M : Nat} {c0 : Int} {n0 : Nat} {x1 : Int} {σ : Mem} {w2 w3 : Int} {τ : Mem} {K5 : Int → Int → Mem → Prop} (h : pre_J7_fill_53178 M c0 n0 x1 σ) (hinv : inv_J7_fill_53178_5 M c0 n0 x1 σ w2 w3 τ) (hK5 : ∀ (y2 y3 : Int) (τ' : Mem), inv_J7_fill_53178_5 M c0 n0 x1 σ y2 y3 τ' → mu_J7_fill_53178_5 c0 n0 x1 y2 y3 τ' < mu_J7_fill_53178_5 c0 n0 x1 w2 w3 τ → K5 y2 y3 τ') : VC_J7_fill_53178_5 M K5 (fun σ' => σ' = m_J7_fill_53178 c0 n0 x1 σ) c0 n0 x1 w2 w3 τ := by
  obtain ⟨rfl, h0, h1, rfl⟩ := hinv
  unfold pre_J7_fill_53178 at h
  refine ⟨⟨⟨by omega, by omega⟩, ⟨by omega, by omega⟩⟩, fun g => ?_, fun g => ⟨⟨h0, g⟩, fun s6 e => hK5 _ _ _ ⟨rfl, by omega, by omega, ?_⟩ ?_⟩⟩
  · rw [show w2.toNat = n0 by omega]
  · subst e
    funext c i
    simp only [m_J7_fill_53178, up]
    grind
  · unfold mu_J7_fill_53178_5
    omega
theorem c_J7_fill_53178 {G : GG} (hG : GI G) (l : Launch) (c0 : Int) (n0 : Nat) (x1 : Int) (σ : Mem) (hc0 : IsIA G c0 n0) (h : pre_J7_fill_53178 (gM G) c0 n0 x1 σ) : CtV G l yJ7_fill_53178 cJ7_fill_53178 4 none 0 [pR c0, pI x1] σ (fun σ' => σ' = m_J7_fill_53178 c0 n0 x1 σ) := by
  refine CtV.of hG (by decide) (Nat.le_of_ble_eq_true rfl) (fun X hl C => ?_)
  show RW G X 4 (QV G X _) 0 [(0, pR c0), (1, pI x1)] [] σ
  have key : ∀ n : Nat, (∀ (w2 w3 : Int) (τ : Mem), inv_J7_fill_53178_5 (gM G) c0 n0 x1 σ w2 w3 τ → mu_J7_fill_53178_5 c0 n0 x1 w2 w3 τ < n → RW G X 4 (QV G X (fun σ' => σ' = m_J7_fill_53178 c0 n0 x1 σ)) 5 [(0, pR c0), (1, pI x1), (2, pI w2), (3, pI w3)] [] τ) := by
    intro n
    induction n with
    | zero => exact fun w2 w3 τ _ h0 => absurd h0 (Nat.not_lt_zero _)
    | succ n ih =>
      exact (fun w2 w3 τ hinv h0 => seg_J7_fill_53178_5 C hc0 x1 w2 w3 τ (ok_J7_fill_53178_5 h hinv (fun y2 y3 τ' hi hm => ih y2 y3 τ' hi (Nat.lt_of_lt_of_le hm (Nat.le_of_lt_succ h0)))))
  exact seg_J7_fill_53178_0 C hc0 x1 σ (ok_J7_fill_53178_0 h (fun y2 y3 τ' hi => (key _) y2 y3 τ' hi (Nat.lt_succ_self _)))

/-! X3_hasMachine -/
def P_X3_hasMachine (x1 : Int) (σ : Mem) : Prop := 0 ≤ x1 ∧ x1 < σ 1 0
def pre_X3_hasMachine (M : Nat) (x1 : Int) (σ : Mem) : Prop := SB M σ ∧ inR x1
def VC_X3_hasMachine_0 (M : Nat) (post : Int → Mem → Prop) (x1 : Int) (σ : Mem) : Prop :=
 (inR x1) ∧ ((x1 < 0 → post 0 σ) ∧ (0 ≤ x1 → (inR x1 ∧ inR (σ 1 0)) ∧ (((σ 1 0) ≤ x1 → post 0 σ) ∧ (x1 < (σ 1 0) → post 1 σ))))
set_option maxRecDepth 20000 in
set_option maxHeartbeats 4000000 in
theorem seg_X3_hasMachine_0 {G : GG} {X : XX} {post : Int → Mem → Prop} (C : CX G X cX3_hasMachine RX3 2 (some .boolean) 0)   (x1 : Int) (σ : Mem) (vc : VC_X3_hasMachine_0 (gM G)  post  x1 σ) : RW G X 2 (QI G X post) 0 [(0, pR 1), (1, pI x1)] [] σ := by
  unfold VC_X3_hasMachine_0 at vc
  refine w_iload_n C 1 dX3_hasMachine_0 rfl ?_
  obtain ⟨sc1, vc⟩ := vc
  refine w_if_lt C 16 dX3_hasMachine_1 (by decide) sc1 (fun h2 => ?_) (fun h2 => ?_)
  · have vc := vc.1 h2
    refine w_iconst C dX3_hasMachine_16 ?_
    exact w_zreturn C dX3_hasMachine_17 (Or.inl rfl) vc
  · have vc := vc.2 h2
    refine w_iload_n C 1 dX3_hasMachine_4 rfl ?_
    refine w_aload_n C 0 dX3_hasMachine_5 rfl ?_
    refine w_getI C 0 dX3_hasMachine_6 gf_X3_44 ob_1 rfl rfl ?_
    obtain ⟨⟨sc3, sc4⟩, vc⟩ := vc
    refine w_icmp_ge C 16 dX3_hasMachine_9 (by decide) sc3 sc4 (fun h5 => ?_) (fun h5 => ?_)
    · have vc := vc.1 h5
      refine w_iconst C dX3_hasMachine_16 ?_
      exact w_zreturn C dX3_hasMachine_17 (Or.inl rfl) vc
    · have vc := vc.2 h5
      refine w_iconst C dX3_hasMachine_12 ?_
      refine w_goto C 17 dX3_hasMachine_13 (by decide) ?_
      exact w_zreturn C dX3_hasMachine_17 (Or.inr rfl) vc
set_option maxHeartbeats 1000000 in
theorem ok_X3_hasMachine_0 {M : Nat} {x1 : Int} {σ : Mem} (h : pre_X3_hasMachine M x1 σ) : VC_X3_hasMachine_0 M (fun z σ' => σ' = σ ∧ (P_X3_hasMachine x1 σ ∧ z = 1 ∨ ¬ P_X3_hasMachine x1 σ ∧ z = 0)) x1 σ := by
  obtain ⟨⟨a1, a2, a3, a4, a5, a6⟩, b⟩ := h
  refine ⟨b, fun g => ⟨rfl, Or.inr ⟨fun q => ?_, rfl⟩⟩, fun g => ⟨⟨b, by omega, by omega⟩, fun g2 => ⟨rfl, Or.inr ⟨fun q => ?_, rfl⟩⟩, fun g2 => ⟨rfl, Or.inl ⟨⟨g, g2⟩, rfl⟩⟩⟩⟩
  · have := q.1; omega
  · have := q.2; omega
theorem c_X3_hasMachine {G : GG} (hG : GI G) (l : Launch) (x1 : Int) (σ : Mem) (h : pre_X3_hasMachine (gM G) x1 σ) : CtI G l yX3_hasMachine cX3_hasMachine 2 (some .boolean) 0 [pR 1, pI x1] σ (fun z σ' => σ' = σ ∧ (P_X3_hasMachine x1 σ ∧ z = 1 ∨ ¬ P_X3_hasMachine x1 σ ∧ z = 0)) := by
  refine CtI.of hG (by decide) (Nat.le_of_ble_eq_true rfl) (fun X hl C => ?_)
  show RW G X 2 (QI G X _) 0 [(0, pR 1), (1, pI x1)] [] σ
  exact seg_X3_hasMachine_0 C x1 σ (ok_X3_hasMachine_0 h)

/-! X3_hasJob -/
def P_X3_hasJob (x1 : Int) (σ : Mem) : Prop := 0 ≤ x1 ∧ x1 < σ 1 1
def pre_X3_hasJob (M : Nat) (x1 : Int) (σ : Mem) : Prop := SB M σ ∧ inR x1
def VC_X3_hasJob_0 (M : Nat) (post : Int → Mem → Prop) (x1 : Int) (σ : Mem) : Prop :=
 (inR x1) ∧ ((x1 < 0 → post 0 σ) ∧ (0 ≤ x1 → (inR x1 ∧ inR (σ 1 1)) ∧ (((σ 1 1) ≤ x1 → post 0 σ) ∧ (x1 < (σ 1 1) → post 1 σ))))
set_option maxRecDepth 20000 in
set_option maxHeartbeats 4000000 in
theorem seg_X3_hasJob_0 {G : GG} {X : XX} {post : Int → Mem → Prop} (C : CX G X cX3_hasJob RX3 2 (some .boolean) 0)   (x1 : Int) (σ : Mem) (vc : VC_X3_hasJob_0 (gM G)  post  x1 σ) : RW G X 2 (QI G X post) 0 [(0, pR 1), (1, pI x1)] [] σ := by
  unfold VC_X3_hasJob_0 at vc
  refine w_iload_n C 1 dX3_hasJob_0 rfl ?_
  obtain ⟨sc1, vc⟩ := vc
  refine w_if_lt C 16 dX3_hasJob_1 (by decide) sc1 (fun h2 => ?_) (fun h2 => ?_)
  · have vc := vc.1 h2
    refine w_iconst C dX3_hasJob_16 ?_
    exact w_zreturn C dX3_hasJob_17 (Or.inl rfl) vc
  · have vc := vc.2 h2
    refine w_iload_n C 1 dX3_hasJob_4 rfl ?_
    refine w_aload_n C 0 dX3_hasJob_5 rfl ?_
    refine w_getI C 1 dX3_hasJob_6 gf_X3_9 ob_1 rfl rfl ?_
    obtain ⟨⟨sc3, sc4⟩, vc⟩ := vc
    refine w_icmp_ge C 16 dX3_hasJob_9 (by decide) sc3 sc4 (fun h5 => ?_) (fun h5 => ?_)
    · have vc := vc.1 h5
      refine w_iconst C dX3_hasJob_16 ?_
      exact w_zreturn C dX3_hasJob_17 (Or.inl rfl) vc
    · have vc := vc.2 h5
      refine w_iconst C dX3_hasJob_12 ?_
      refine w_goto C 17 dX3_hasJob_13 (by decide) ?_
      exact w_zreturn C dX3_hasJob_17 (Or.inr rfl) vc
set_option maxHeartbeats 1000000 in
theorem ok_X3_hasJob_0 {M : Nat} {x1 : Int} {σ : Mem} (h : pre_X3_hasJob M x1 σ) : VC_X3_hasJob_0 M (fun z σ' => σ' = σ ∧ (P_X3_hasJob x1 σ ∧ z = 1 ∨ ¬ P_X3_hasJob x1 σ ∧ z = 0)) x1 σ := by
  obtain ⟨⟨a1, a2, a3, a4, a5, a6⟩, b⟩ := h
  refine ⟨b, fun g => ⟨rfl, Or.inr ⟨fun q => ?_, rfl⟩⟩, fun g => ⟨⟨b, by omega, by omega⟩, fun g2 => ⟨rfl, Or.inr ⟨fun q => ?_, rfl⟩⟩, fun g2 => ⟨rfl, Or.inl ⟨⟨g, g2⟩, rfl⟩⟩⟩⟩
  · have := q.1; omega
  · have := q.2; omega
theorem c_X3_hasJob {G : GG} (hG : GI G) (l : Launch) (x1 : Int) (σ : Mem) (h : pre_X3_hasJob (gM G) x1 σ) : CtI G l yX3_hasJob cX3_hasJob 2 (some .boolean) 0 [pR 1, pI x1] σ (fun z σ' => σ' = σ ∧ (P_X3_hasJob x1 σ ∧ z = 1 ∨ ¬ P_X3_hasJob x1 σ ∧ z = 0)) := by
  refine CtI.of hG (by decide) (Nat.le_of_ble_eq_true rfl) (fun X hl C => ?_)
  show RW G X 2 (QI G X _) 0 [(0, pR 1), (1, pI x1)] [] σ
  exact seg_X3_hasJob_0 C x1 σ (ok_X3_hasJob_0 h)

/-! X3_hasStep -/
def P_X3_hasStep (x1 : Int) (σ : Mem) : Prop := 0 ≤ x1 ∧ x1 / 10 < σ 1 1 ∧ x1 % 10 < σ 5 (x1 / 10)
def pre_X3_hasStep (M : Nat) (x1 : Int) (σ : Mem) : Prop := SB M σ ∧ inR x1
def VC_X3_hasStep_0 (M : Nat) (post : Int → Mem → Prop) (x1 : Int) (σ : Mem) : Prop :=
 (inR x1) ∧ ((x1 < 0 → post 0 σ) ∧ (0 ≤ x1 → (0 ≤ x1 ∧ inR x1) ∧ (pre_X3_hasJob M (x1 / 10) σ) ∧ ((P_X3_hasJob (x1 / 10) σ → (0 ≤ x1 ∧ inR x1) ∧ (0 ≤ x1 ∧ inR x1) ∧ (0 ≤ (x1 / 10) ∧ (x1 / 10) < 8) ∧ (inR (x1 % 10) ∧ inR (σ 5 (x1 / 10))) ∧ (((σ 5 (x1 / 10)) ≤ (x1 % 10) → post 0 σ) ∧ ((x1 % 10) < (σ 5 (x1 / 10)) → post 1 σ))) ∧ (¬ P_X3_hasJob (x1 / 10) σ → post 0 σ))))
set_option maxRecDepth 20000 in
set_option maxHeartbeats 4000000 in
theorem seg_X3_hasStep_0 {G : GG} {X : XX} {post : Int → Mem → Prop} (C : CX G X cX3_hasStep RX3 2 (some .boolean) 1)   (x1 : Int) (σ : Mem) (vc : VC_X3_hasStep_0 (gM G)  post  x1 σ) : RW G X 2 (QI G X post) 0 [(0, pR 1), (1, pI x1)] [] σ := by
  unfold VC_X3_hasStep_0 at vc
  refine w_iload_n C 1 dX3_hasStep_0 rfl ?_
  obtain ⟨sc1, vc⟩ := vc
  refine w_if_lt C 35 dX3_hasStep_1 (by decide) sc1 (fun h2 => ?_) (fun h2 => ?_)
  · have vc := vc.1 h2
    refine w_iconst C dX3_hasStep_35 ?_
    exact w_zreturn C dX3_hasStep_36 (Or.inl rfl) vc
  · have vc := vc.2 h2
    refine w_aload_n C 0 dX3_hasStep_4 rfl ?_
    refine w_iload_n C 1 dX3_hasStep_5 rfl ?_
    refine w_bipush C dX3_hasStep_6 (by decide) ?_
    obtain ⟨⟨sc3, sc4⟩, vc⟩ := vc
    refine w_idivN C dX3_hasStep_8 sc3 sc4 ⟨by omega, by omega⟩ (by omega) ?_
    obtain ⟨sc5, vc⟩ := vc
    refine w_callVI C [pI (x1 / 10)] [] rfl dX3_hasStep_9 (c_X3_hasJob C.gi (xL X) (x1 / 10) σ sc5) oc_1 mw_X3_hasJob ml_X3_58 im_X3_hasJob se_X3_hasJob (by decide) (Nat.le_of_ble_eq_true rfl) (fun z σ' hz => ?_)
    obtain ⟨hz2, hz⟩ := hz
    have hz2 := hz2.symm
    subst hz2
    rcases hz with ⟨h6, rfl⟩ | ⟨h6, rfl⟩
    · have vc := vc.1 h6
      refine w_if_eq C 35 dX3_hasStep_12 (by decide) ⟨by omega, by omega⟩ (fun q => absurd q (by decide)) (fun _ => ?_)
      refine w_iload_n C 1 dX3_hasStep_15 rfl ?_
      refine w_bipush C dX3_hasStep_16 (by decide) ?_
      obtain ⟨⟨sc7, sc8⟩, vc⟩ := vc
      refine w_iremN C dX3_hasStep_18 sc7 sc8 ⟨by omega, by omega⟩ (by omega) ?_
      refine w_aload_n C 0 dX3_hasStep_19 rfl ?_
      refine w_getR C dX3_hasStep_20 gf_X3_31 ob_1 rfl ?_
      refine w_iload_n C 1 dX3_hasStep_23 rfl ?_
      refine w_bipush C dX3_hasStep_24 (by decide) ?_
      obtain ⟨⟨sc9, sc10⟩, vc⟩ := vc
      refine w_idivN C dX3_hasStep_26 sc9 sc10 ⟨by omega, by omega⟩ (by omega) ?_
      obtain ⟨⟨sc11, sc12⟩, vc⟩ := vc
      refine w_iald C dX3_hasStep_27 ia_5 sc11 sc12 ?_
      obtain ⟨⟨sc13, sc14⟩, vc⟩ := vc
      refine w_icmp_ge C 35 dX3_hasStep_28 (by decide) sc13 sc14 (fun h15 => ?_) (fun h15 => ?_)
      · have vc := vc.1 h15
        refine w_iconst C dX3_hasStep_35 ?_
        exact w_zreturn C dX3_hasStep_36 (Or.inl rfl) vc
      · have vc := vc.2 h15
        refine w_iconst C dX3_hasStep_31 ?_
        refine w_goto C 36 dX3_hasStep_32 (by decide) ?_
        exact w_zreturn C dX3_hasStep_36 (Or.inr rfl) vc
    · have vc := vc.2 h6
      refine w_if_eq C 35 dX3_hasStep_12 (by decide) ⟨by omega, by omega⟩ (fun _ => ?_) (fun q => absurd q (by decide))
      refine w_iconst C dX3_hasStep_35 ?_
      exact w_zreturn C dX3_hasStep_36 (Or.inl rfl) vc
set_option maxHeartbeats 1000000 in
theorem ok_X3_hasStep_0 {M : Nat} {x1 : Int} {σ : Mem} (h : pre_X3_hasStep M x1 σ) : VC_X3_hasStep_0 M (fun z σ' => σ' = σ ∧ (P_X3_hasStep x1 σ ∧ z = 1 ∨ ¬ P_X3_hasStep x1 σ ∧ z = 0)) x1 σ := by
  have h' := h
  obtain ⟨⟨a1, a2, a3, a4, a5, a6⟩, b⟩ := h'
  have b' := b
  unfold inR at b'
  refine ⟨b, fun g => ⟨rfl, Or.inr ⟨fun q => ?_, rfl⟩⟩, fun g => ⟨⟨g, b⟩, ⟨h.1, by omega, by omega⟩, fun g2 => ?_, fun g2 => ⟨rfl, Or.inr ⟨fun q => g2 ⟨by omega, q.2.1⟩, rfl⟩⟩⟩⟩
  · have := q.1; omega
  · have g3 : x1 / 10 < σ 1 1 := g2.2
    have := a5 (x1 / 10) (by omega) (by omega)
    refine ⟨⟨g, b⟩, ⟨g, b⟩, ⟨by omega, by omega⟩, ⟨⟨by omega, by omega⟩, ⟨by omega, by omega⟩⟩, fun g4 => ⟨rfl, Or.inr ⟨fun q => ?_, rfl⟩⟩, fun g4 => ⟨rfl, Or.inl ⟨⟨g, g3, g4⟩, rfl⟩⟩⟩
    have := q.2.2; omega
theorem c_X3_hasStep {G : GG} (hG : GI G) (l : Launch) (x1 : Int) (σ : Mem) (h : pre_X3_hasStep (gM G) x1 σ) : CtI G l yX3_hasStep cX3_hasStep 2 (some .boolean) 1 [pR 1, pI x1] σ (fun z σ' => σ' = σ ∧ (P_X3_hasStep x1 σ ∧ z = 1 ∨ ¬ P_X3_hasStep x1 σ ∧ z = 0)) := by
  refine CtI.of hG (by decide) (Nat.le_of_ble_eq_true rfl) (fun X hl C => ?_)
  show RW G X 2 (QI G X _) 0 [(0, pR 1), (1, pI x1)] [] σ
  exact seg_X3_hasStep_0 C x1 σ (ok_X3_hasStep_0 h)

/-! X3_hasNeighbours -/
def P_X3_hasNeighbours (x1 x2 : Int) (σ : Mem) : Prop := (0 ≤ x1 ∧ x1 < σ 1 0) ∧ 0 ≤ x2 ∧ x2 < σ 10 x1 - 1
def pre_X3_hasNeighbours (M : Nat) (x1 x2 : Int) (σ : Mem) : Prop := SB M σ ∧ inR x1 ∧ inR x2
def VC_X3_hasNeighbours_0 (M : Nat) (post : Int → Mem → Prop) (x1 : Int) (x2 : Int) (σ : Mem) : Prop :=
 (pre_X3_hasMachine M x1 σ) ∧ ((P_X3_hasMachine x1 σ → (inR x2) ∧ ((x2 < 0 → post 0 σ) ∧ (0 ≤ x2 → (0 ≤ x1 ∧ x1 < M) ∧ (inR x2 ∧ inR ((σ 10 x1) - 1)) ∧ ((((σ 10 x1) - 1) ≤ x2 → post 0 σ) ∧ (x2 < ((σ 10 x1) - 1) → post 1 σ))))) ∧ (¬ P_X3_hasMachine x1 σ → post 0 σ))
set_option maxRecDepth 20000 in
set_option maxHeartbeats 4000000 in
theorem seg_X3_hasNeighbours_0 {G : GG} {X : XX} {post : Int → Mem → Prop} (C : CX G X cX3_hasNeighbours RX3 3 (some .boolean) 1)   (x1 : Int) (x2 : Int) (σ : Mem) (vc : VC_X3_hasNeighbours_0 (gM G)  post  x1 x2 σ) : RW G X 3 (QI G X post) 0 [(0, pR 1), (1, pI x1), (2, pI x2)] [] σ := by
  unfold VC_X3_hasNeighbours_0 at vc
  refine w_aload_n C 0 dX3_hasNeighbours_0 rfl ?_
  refine w_iload_n C 1 dX3_hasNeighbours_1 rfl ?_
  obtain ⟨sc1, vc⟩ := vc
  refine w_callVI C [pI x1] [] rfl dX3_hasNeighbours_2 (c_X3_hasMachine C.gi (xL X) x1 σ sc1) oc_1 mw_X3_hasMachine ml_X3_62 im_X3_hasMachine se_X3_hasMachine (by decide) (Nat.le_of_ble_eq_true rfl) (fun z σ' hz => ?_)
  obtain ⟨hz2, hz⟩ := hz
  have hz2 := hz2.symm
  subst hz2
  rcases hz with ⟨h2, rfl⟩ | ⟨h2, rfl⟩
  · have vc := vc.1 h2
    refine w_if_eq C 28 dX3_hasNeighbours_5 (by decide) ⟨by omega, by omega⟩ (fun q => absurd q (by decide)) (fun _ => ?_)
    refine w_iload_n C 2 dX3_hasNeighbours_8 rfl ?_
    obtain ⟨sc3, vc⟩ := vc
    refine w_if_lt C 28 dX3_hasNeighbours_9 (by decide) sc3 (fun h4 => ?_) (fun h4 => ?_)
    · have vc := vc.1 h4
      refine w_iconst C dX3_hasNeighbours_28 ?_
      exact w_zreturn C dX3_hasNeighbours_29 (Or.inl rfl) vc
    · have vc := vc.2 h4
      refine w_iload_n C 2 dX3_hasNeighbours_12 rfl ?_
      refine w_aload_n C 0 dX3_hasNeighbours_13 rfl ?_
      refine w_getR C dX3_hasNeighbours_14 gf_X3_52 ob_1 rfl ?_
      refine w_iload_n C 1 dX3_hasNeighbours_17 rfl ?_
      obtain ⟨⟨sc5, sc6⟩, vc⟩ := vc
      refine w_iald C dX3_hasNeighbours_18 (ia_10 C.gi) sc5 sc6 ?_
      refine w_iconst C dX3_hasNeighbours_19 ?_
      refine w_isub C dX3_hasNeighbours_20 ?_
      obtain ⟨⟨sc7, sc8⟩, vc⟩ := vc
      refine w_icmp_ge C 28 dX3_hasNeighbours_21 (by decide) sc7 sc8 (fun h9 => ?_) (fun h9 => ?_)
      · have vc := vc.1 h9
        refine w_iconst C dX3_hasNeighbours_28 ?_
        exact w_zreturn C dX3_hasNeighbours_29 (Or.inl rfl) vc
      · have vc := vc.2 h9
        refine w_iconst C dX3_hasNeighbours_24 ?_
        refine w_goto C 29 dX3_hasNeighbours_25 (by decide) ?_
        exact w_zreturn C dX3_hasNeighbours_29 (Or.inr rfl) vc
  · have vc := vc.2 h2
    refine w_if_eq C 28 dX3_hasNeighbours_5 (by decide) ⟨by omega, by omega⟩ (fun _ => ?_) (fun q => absurd q (by decide))
    refine w_iconst C dX3_hasNeighbours_28 ?_
    exact w_zreturn C dX3_hasNeighbours_29 (Or.inl rfl) vc
set_option maxHeartbeats 1000000 in
theorem ok_X3_hasNeighbours_0 {M : Nat} {x1 : Int} {x2 : Int} {σ : Mem} (h : pre_X3_hasNeighbours M x1 x2 σ) : VC_X3_hasNeighbours_0 M (fun z σ' => σ' = σ ∧ (P_X3_hasNeighbours x1 x2 σ ∧ z = 1 ∨ ¬ P_X3_hasNeighbours x1 x2 σ ∧ z = 0)) x1 x2 σ := by
  have h' := h
  obtain ⟨⟨a1, a2, a3, a4, a5, a6⟩, b, b2⟩ := h'
  refine ⟨⟨h.1, b⟩, fun g => ⟨b2, fun g2 => ⟨rfl, Or.inr ⟨fun q => ?_, rfl⟩⟩, fun g2 => ?_⟩, fun g => ⟨rfl, Or.inr ⟨fun q => g q.1, rfl⟩⟩⟩
  · have := q.2.1; omega
  · obtain ⟨g3, g4⟩ := g
    have := a6 x1 g3 (by omega)
    refine ⟨⟨g3, by omega⟩, ⟨b2, by omega, by omega⟩, fun g5 => ⟨rfl, Or.inr ⟨fun q => ?_, rfl⟩⟩, fun g5 => ⟨rfl, Or.inl ⟨⟨⟨g3, g4⟩, g2, g5⟩, rfl⟩⟩⟩
    have := q.2.2; omega
theorem c_X3_hasNeighbours {G : GG} (hG : GI G) (l : Launch) (x1 : Int) (x2 : Int) (σ : Mem) (h : pre_X3_hasNeighbours (gM G) x1 x2 σ) : CtI G l yX3_hasNeighbours cX3_hasNeighbours 3 (some .boolean) 1 [pR 1, pI x1, pI x2] σ (fun z σ' => σ' = σ ∧ (P_X3_hasNeighbours x1 x2 σ ∧ z = 1 ∨ ¬ P_X3_hasNeighbours x1 x2 σ ∧ z = 0)) := by
  refine CtI.of hG (by decide) (Nat.le_of_ble_eq_true rfl) (fun X hl C => ?_)
  show RW G X 3 (QI G X _) 0 [(0, pR 1), (1, pI x1), (2, pI x2)] [] σ
  exact seg_X3_hasNeighbours_0 C x1 x2 σ (ok_X3_hasNeighbours_0 h)

/-! X3_timeOf -/
def f_X3_timeOf (x1 x2 x3 : Int) (σ : Mem) : Int := sumI (fun p => σ 7 (10 * x1 + p)) x2 x3
def pre_X3_timeOf (M : Nat) (x1 x2 x3 : Int) (σ : Mem) : Prop := 0 ≤ x1 ∧ x1 < 8 ∧ 0 ≤ x2 ∧ x2 ≤ 10 ∧ 0 ≤ x3 ∧ x3 ≤ 10
def inv_X3_timeOf_6 (M : Nat) (x1 x2 x3 : Int) (σ : Mem) (w4 w5 : Int) (τ : Mem) : Prop := τ = σ ∧ x2 ≤ w5 ∧ (w5 ≤ x3 ∨ w5 = x2) ∧ w4 = sumI (fun p => σ 7 (10 * x1 + p)) x2 w5
def mu_X3_timeOf_6 (x1 x2 x3 : Int) (w4 w5 : Int) (τ : Mem) : Nat := (x3 - w5).toNat
def VC_X3_timeOf_0 (M : Nat) (K6 : Int → Int → Mem → Prop) (post : Int → Mem → Prop) (x1 : Int) (x2 : Int) (x3 : Int) (σ : Mem) : Prop :=
  K6 0 x2 σ
set_option maxRecDepth 20000 in
set_option maxHeartbeats 4000000 in
theorem seg_X3_timeOf_0 {G : GG} {X : XX} {post : Int → Mem → Prop} (C : CX G X cX3_timeOf RX3 6 (some .int) 0)   (x1 : Int) (x2 : Int) (x3 : Int) (σ : Mem) (vc : VC_X3_timeOf_0 (gM G) (fun w4 w5 σ => RW G X 6 (QI G X post) 6 [(0, pR 1), (1, pI x1), (2, pI x2), (3, pI x3), (4, pI w4), (5, pI w5)] [] σ) post  x1 x2 x3 σ) : RW G X 6 (QI G X post) 0 [(0, pR 1), (1, pI x1), (2, pI x2), (3, pI x3)] [] σ := by
  unfold VC_X3_timeOf_0 at vc
  refine w_iconst C dX3_timeOf_0 ?_
  refine w_istore C [(4, pI 0), (0, pR 1), (1, pI x1), (2, pI x2), (3, pI x3)] dX3_timeOf_1 (by decide) rfl ?_
  refine w_iload_n C 3 dX3_timeOf_3 rfl ?_
  refine w_istore C [(5, pI x2), (4, pI 0), (0, pR 1), (1, pI x1), (2, pI x2), (3, pI x3)] dX3_timeOf_4 (by decide) rfl ?_
  exact w_sub _ [2, 3, 4, 5, 1, 0] rfl vc
def VC_X3_timeOf_6 (M : Nat) (K6 : Int → Int → Mem → Prop) (post : Int → Mem → Prop) (x1 : Int) (x2 : Int) (x3 : Int) (w4 : Int) (w5 : Int) (σ : Mem) : Prop :=
 (inR w5 ∧ inR x3) ∧ ((x3 ≤ w5 → post w4 σ) ∧ (w5 < x3 → (0 ≤ ((10 * x1) + w5) ∧ ((10 * x1) + w5) < 80) ∧ ∀ v6 : Int, v6 = w4 + (σ 7 ((10 * x1) + w5)) → K6 v6 (w5 + 1) σ))
set_option maxRecDepth 20000 in
set_option maxHeartbeats 4000000 in
theorem seg_X3_timeOf_6 {G : GG} {X : XX} {post : Int → Mem → Prop} (C : CX G X cX3_timeOf RX3 6 (some .int) 0)   (x1 : Int) (x2 : Int) (x3 : Int) (w4 : Int) (w5 : Int) (σ : Mem) (vc : VC_X3_timeOf_6 (gM G) (fun w4 w5 σ => RW G X 6 (QI G X post) 6 [(0, pR 1), (1, pI x1), (2, pI x2), (3, pI x3), (4, pI w4), (5, pI w5)] [] σ) post  x1 x2 x3 w4 w5 σ) : RW G X 6 (QI G X post) 6 [(0, pR 1), (1, pI x1), (2, pI x2), (3, pI x3), (4, pI w4), (5, pI w5)] [] σ := by
  unfold VC_X3_timeOf_6 at vc
  refine w_iload C 5 dX3_timeOf_6 rfl ?_
  refine w_iload_n C 3 dX3_timeOf_8 rfl ?_
  obtain ⟨⟨sc1, sc2⟩, vc⟩ := vc
  refine w_icmp_ge C 35 dX3_timeOf_9 (by decide) sc1 sc2 (fun h3 => ?_) (fun h3 => ?_)
  · have vc := vc.1 h3
    refine w_iload C 4 dX3_timeOf_35 rfl ?_
    exact w_ireturn C dX3_timeOf_37 vc
  · have vc := vc.2 h3
    refine w_iload C 4 dX3_timeOf_12 rfl ?_
    refine w_aload_n C 0 dX3_timeOf_14 rfl ?_
    refine w_getR C dX3_timeOf_15 gf_X3_37 ob_1 rfl ?_
    refine w_bipush C dX3_timeOf_18 (by decide) ?_
    refine w_iload_n C 1 dX3_timeOf_20 rfl ?_
    refine w_imul C dX3_timeOf_21 ?_
    refine w_iload C 5 dX3_timeOf_22 rfl ?_
    refine w_iadd C dX3_timeOf_24 ?_
    obtain ⟨⟨sc4, sc5⟩, vc⟩ := vc
    refine w_iald C dX3_timeOf_25 ia_7 sc4 sc5 ?_
    refine w_iadd C dX3_timeOf_26 ?_
    refine w_top (fun v6 hv6 => ?_)
    have vc := vc v6 hv6
    refine w_istore C [(4, pI v6), (0, pR 1), (1, pI x1), (2, pI x2), (3, pI x3), (5, pI w5)] dX3_timeOf_27 (by decide) rfl ?_
    refine w_iinc C 5 [(5, pI (w5 + 1)), (4, pI v6), (0, pR 1), (1, pI x1), (2, pI x2), (3, pI x3)] dX3_timeOf_29 rfl (by decide) rfl ?_
    refine w_goto C 6 dX3_timeOf_32 (by decide) ?_
    exact w_sub _ [2, 3, 4, 5, 1, 0] rfl vc
set_option maxHeartbeats 1000000 in
theorem ok_X3_timeOf_0 {M : Nat} {x1 : Int} {x2 : Int} {x3 : Int} {σ : Mem} {K6 : Int → Int → Mem → Prop} (h : pre_X3_timeOf M x1 x2 x3 σ) (hK6 : ∀ (y4 y5 : Int) (τ' : Mem), inv_X3_timeOf_6 M x1 x2 x3 σ y4 y5 τ' → K6 y4 y5 τ') : VC_X3_timeOf_0 M K6 (fun z σ' => z = f_X3_timeOf x1 x2 x3 σ ∧ σ' = σ) x1 x2 x3 σ := by
  exact hK6 _ _ _ ⟨rfl, by omega, Or.inr rfl, by rw [sumI_0 _ (by omega)]⟩
set_option maxHeartbeats 1000000 in
theorem ok_X3_timeOf_6 {M : Nat} {x1 : Int} {x2 : Int} {x3 : Int} {σ : Mem} {w4 w5 : Int} {τ : Mem} {K6 : Int → Int → Mem → Prop} (h : pre_X3_timeOf M x1 x2 x3 σ) (hinv : inv_X3_timeOf_6 M x1 x2 x3 σ w4 w5 τ) (hK6 : ∀ (y4 y5 : Int) (τ' : Mem), inv_X3_timeOf_6 M x1 x2 x3 σ y4 y5 τ' → mu_X3_timeOf_6 x1 x2 x3 y4 y5 τ' < mu_X3_timeOf_6 x1 x2 x3 w4 w5 τ → K6 y4 y5 τ') : VC_X3_timeOf_6 M K6 (fun z σ' => z = f_X3_timeOf x1 x2 x3 σ ∧ σ' = σ) x1 x2 x3 w4 w5 τ := by
  obtain ⟨rfl, h1, h2, rfl⟩ := hinv
  obtain ⟨a1, a2, a3, a4, a5, a6⟩ := h
  refine ⟨⟨⟨by omega, by omega⟩, ⟨by omega, by omega⟩⟩, fun g => ⟨?_, rfl⟩, fun g => ⟨⟨by omega, by omega⟩, fun v e => hK6 _ _ _ ⟨rfl, by omega, Or.inl (by omega), ?_⟩ ?_⟩⟩
  · unfold f_X3_timeOf
    rcases h2 with h2 | h2
    · rw [show w5 = x3 by omega]
    · rw [h2, sumI_0 _ (by omega), sumI_0 _ (by omega)]
  · rw [e, sumI_s _ h1]
  · unfold mu_X3_timeOf_6
    omega
theorem c_X3_timeOf {G : GG} (hG : GI G) (l : Launch) (x1 : Int) (x2 : Int) (x3 : Int) (σ : Mem) (h : pre_X3_timeOf (gM G) x1 x2 x3 σ) : CtI G l yX3_timeOf cX3_timeOf 6 (some .int) 0 [pR 1, pI x1, pI x2, pI x3] σ (fun z σ' => z = f_X3_timeOf x1 x2 x3 σ ∧ σ' = σ) := by
  refine CtI.of hG (by decide) (Nat.le_of_ble_eq_true rfl) (fun X hl C => ?_)
  show RW G X 6 (QI G X _) 0 [(0, pR 1), (1, pI x1), (2, pI x2), (3, pI x3)] [] σ
  have key : ∀ n : Nat, (∀ (w4 w5 : Int) (τ : Mem), inv_X3_timeOf_6 (gM G) x1 x2 x3 σ w4 w5 τ → mu_X3_timeOf_6 x1 x2 x3 w4 w5 τ < n → RW G X 6 (QI G X (fun z σ' => z = f_X3_timeOf x1 x2 x3 σ ∧ σ' = σ)) 6 [(0, pR 1), (1, pI x1), (2, pI x2), (3, pI x3), (4, pI w4), (5, pI w5)] [] τ) := by
    intro n
    induction n with
    | zero => exact fun w4 w5 τ _ h0 => absurd h0 (Nat.not_lt_zero _)
    | succ n ih =>
      exact (fun w4 w5 τ hinv h0 => seg_X3_timeOf_6 C x1 x2 x3 w4 w5 τ (ok_X3_timeOf_6 h hinv (fun y4 y5 τ' hi hm => ih y4 y5 τ' hi (Nat.lt_of_lt_of_le hm (Nat.le_of_lt_succ h0)))))
  exact seg_X3_timeOf_0 C x1 x2 x3 σ (ok_X3_timeOf_0 h (fun y4 y5 τ' hi => (key _) y4 y5 τ' hi (Nat.lt_succ_self _)))

/-! X3_headOf -/
def f_X3_headOf (x1 : Int) (σ : Mem) : Int := σ 2 (x1 / 10) + f_X3_timeOf (x1 / 10) 0 (x1 % 10) σ
def pre_X3_headOf (M : Nat) (x1 : Int) (σ : Mem) : Prop := 0 ≤ x1 ∧ x1 < 80
def VC_X3_headOf_0 (M : Nat) (post : Int → Mem → Prop) (x1 : Int) (σ : Mem) : Prop :=
 (0 ≤ x1 ∧ inR x1) ∧ ∀ v3 : Int, v3 = x1 / 10 → (0 ≤ v3 ∧ v3 < 8) ∧ (0 ≤ x1 ∧ inR x1) ∧ (pre_X3_timeOf M v3 0 (x1 % 10) σ) ∧ post ((σ 2 v3) + (f_X3_timeOf v3 0 (x1 % 10) σ)) σ
set_option maxRecDepth 20000 in
set_option maxHeartbeats 4000000 in
theorem seg_X3_headOf_0 {G : GG} {X : XX} {post : Int → Mem → Prop} (C : CX G X cX3_headOf RX3 3 (some .int) 1)   (x1 : Int) (σ : Mem) (vc : VC_X3_headOf_0 (gM G)  post  x1 σ) : RW G X 3 (QI G X post) 0 [(0, pR 1), (1, pI x1)] [] σ := by
  unfold VC_X3_headOf_0 at vc
  refine w_iload_n C 1 dX3_headOf_0 rfl ?_
  refine w_bipush C dX3_headOf_1 (by decide) ?_
  obtain ⟨⟨sc1, sc2⟩, vc⟩ := vc
  refine w_idivN C dX3_headOf_3 sc1 sc2 ⟨by omega, by omega⟩ (by omega) ?_
  refine w_top (fun v3 hv3 => ?_)
  have vc := vc v3 hv3
  refine w_istore_n C [(2, pI v3), (0, pR 1), (1, pI x1)] dX3_headOf_4 (by decide) rfl ?_
  refine w_aload_n C 1 dX3_headOf_5 rfl ?_
  refine w_getR C dX3_headOf_6 gf_X3_21 ob_1 rfl ?_
  refine w_iload_n C 0 dX3_headOf_9 rfl ?_
  obtain ⟨⟨sc4, sc5⟩, vc⟩ := vc
  refine w_iald C dX3_headOf_10 ia_2 sc4 sc5 ?_
  refine w_aload_n C 1 dX3_headOf_11 rfl ?_
  refine w_iload_n C 0 dX3_headOf_12 rfl ?_
  refine w_iconst C dX3_headOf_13 ?_
  refine w_iload_n C 2 dX3_headOf_14 rfl ?_
  refine w_bipush C dX3_headOf_15 (by decide) ?_
  obtain ⟨⟨sc6, sc7⟩, vc⟩ := vc
  refine w_iremN C dX3_headOf_17 sc6 sc7 ⟨by omega, by omega⟩ (by omega) ?_
  obtain ⟨sc8, vc⟩ := vc
  refine w_callVI C [pI v3, pI 0, pI (x1 % 10)] [pI (σ 2 v3)] rfl dX3_headOf_18 (c_X3_timeOf C.gi (xL X) v3 0 (x1 % 10) σ sc8) oc_1 mw_X3_timeOf ml_X3_71 im_X3_timeOf se_X3_timeOf (by decide) (Nat.le_of_ble_eq_true rfl) (fun z σ' hz => ?_)
  obtain ⟨rfl, hz2⟩ := hz
  have hz2 := hz2.symm
  subst hz2
  refine w_iadd C dX3_headOf_21 ?_
  exact w_ireturn C dX3_headOf_22 vc
set_option maxHeartbeats 1000000 in
theorem ok_X3_headOf_0 {M : Nat} {x1 : Int} {σ : Mem} (h : pre_X3_headOf M x1 σ) : VC_X3_headOf_0 M (fun z σ' => z = f_X3_headOf x1 σ ∧ σ' = σ) x1 σ := by
  obtain ⟨a1, a2⟩ := h
  exact ⟨⟨a1, by omega, by omega⟩, fun v e => by subst e; exact ⟨⟨by omega, by omega⟩, ⟨a1, by omega, by omega⟩, ⟨by omega, by omega, by omega, by omega, by omega, by omega⟩, rfl, rfl⟩⟩
theorem c_X3_headOf {G : GG} (hG : GI G) (l : Launch) (x1 : Int) (σ : Mem) (h : pre_X3_headOf (gM G) x1 σ) : CtI G l yX3_headOf cX3_headOf 3 (some .int) 1 [pR 1, pI x1] σ (fun z σ' => z = f_X3_headOf x1 σ ∧ σ' = σ) := by
  refine CtI.of hG (by decide) (Nat.le_of_ble_eq_true rfl) (fun X hl C => ?_)
  show RW G X 3 (QI G X _) 0 [(0, pR 1), (1, pI x1)] [] σ
  exact seg_X3_headOf_0 C x1 σ (ok_X3_headOf_0 h)

/-! X3_tailOf -/
def f_X3_tailOf (x1 : Int) (σ : Mem) : Int := f_X3_timeOf (x1 / 10) (x1 % 10 + 1) (σ 5 (x1 / 10)) σ
def pre_X3_tailOf (M : Nat) (x1 : Int) (σ : Mem) : Prop := SB M σ ∧ 0 ≤ x1 ∧ x1 < 80
def VC_X3_tailOf_0 (M : Nat) (post : Int → Mem → Prop) (x1 : Int) (σ : Mem) : Prop :=
 (0 ≤ x1 ∧ inR x1) ∧ ∀ v3 : Int, v3 = x1 / 10 → (0 ≤ x1 ∧ inR x1) ∧ (0 ≤ v3 ∧ v3 < 8) ∧ (pre_X3_timeOf M v3 ((x1 % 10) + 1) (σ 5 v3) σ) ∧ post (f_X3_timeOf v3 ((x1 % 10) + 1) (σ 5 v3) σ) σ
set_option maxRecDepth 20000 in
set_option maxHeartbeats 4000000 in
theorem seg_X3_tailOf_0 {G : GG} {X : XX} {post : Int → Mem → Prop} (C : CX G X cX3_tailOf RX3 3 (some .int) 1)   (x1 : Int) (σ : Mem) (vc : VC_X3_tailOf_0 (gM G)  post  x1 σ) : RW G X 3 (QI G X post) 0 [(0, pR 1), (1, pI x1)] [] σ := by
  unfold VC_X3_tailOf_0 at vc
  refine w_iload_n C 1 dX3_tailOf_0 rfl ?_
  refine w_bipush C dX3_tailOf_1 (by decide) ?_
  obtain ⟨⟨sc1, sc2⟩, vc⟩ := vc
  refine w_idivN C dX3_tailOf_3 sc1 sc2 ⟨by omega, by omega⟩ (by omega) ?_
  refine w_top (fun v3 hv3 => ?_)
  have vc := vc v3 hv3
  refine w_istore_n C [(2, pI v3), (0, pR 1), (1, pI x1)] dX3_tailOf_4 (by decide) rfl ?_
  refine w_aload_n C 1 dX3_tailOf_5 rfl ?_
  refine w_iload_n C 0 dX3_tailOf_6 rfl ?_
  refine w_iload_n C 2 dX3_tailOf_7 rfl ?_
  refine w_bipush C dX3_tailOf_8 (by decide) ?_
  obtain ⟨⟨sc4, sc5⟩, vc⟩ := vc
  refine w_iremN C dX3_tailOf_10 sc4 sc5 ⟨by omega, by omega⟩ (by omega) ?_
  refine w_iconst C dX3_tailOf_11 ?_
  refine w_iadd C dX3_tailOf_12 ?_
  refine w_aload_n C 1 dX3_tailOf_13 rfl ?_
  refine w_getR C dX3_tailOf_14 gf_X3_31 ob_1 rfl ?_
  refine w_iload_n C 0 dX3_tailOf_17 rfl ?_
  obtain ⟨⟨sc6, sc7⟩, vc⟩ := vc
  refine w_iald C dX3_tailOf_18 ia_5 sc6 sc7 ?_
  obtain ⟨sc8, vc⟩ := vc
  refine w_callVI C [pI v3, pI ((x1 % 10) + 1), pI (σ 5 v3)] [] rfl dX3_tailOf_19 (c_X3_timeOf C.gi (xL X) v3 ((x1 % 10) + 1) (σ 5 v3) σ sc8) oc_1 mw_X3_timeOf ml_X3_71 im_X3_timeOf se_X3_timeOf (by decide) (Nat.le_of_ble_eq_true rfl) (fun z σ' hz => ?_)
  obtain ⟨rfl, hz2⟩ := hz
  have hz2 := hz2.symm
  subst hz2
  exact w_ireturn C dX3_tailOf_22 vc
set_option maxHeartbeats 1000000 in
theorem ok_X3_tailOf_0 {M : Nat} {x1 : Int} {σ : Mem} (h : pre_X3_tailOf M x1 σ) : VC_X3_tailOf_0 M (fun z σ' => z = f_X3_tailOf x1 σ ∧ σ' = σ) x1 σ := by
  obtain ⟨⟨a1, a2, a3, a4, a5, a6⟩, b1, b2⟩ := h
  have := a5 (x1 / 10) (by omega) (by omega)
  exact ⟨⟨b1, by omega, by omega⟩, fun v e => by subst e; exact ⟨⟨b1, by omega, by omega⟩, ⟨by omega, by omega⟩, ⟨by omega, by omega, by omega, by omega, by omega, by omega⟩, rfl, rfl⟩⟩
theorem c_X3_tailOf {G : GG} (hG : GI G) (l : Launch) (x1 : Int) (σ : Mem) (h : pre_X3_tailOf (gM G) x1 σ) : CtI G l yX3_tailOf cX3_tailOf 3 (some .int) 1 [pR 1, pI x1] σ (fun z σ' => z = f_X3_tailOf x1 σ ∧ σ' = σ) := by
  refine CtI.of hG (by decide) (Nat.le_of_ble_eq_true rfl) (fun X hl C => ?_)
  show RW G X 3 (QI G X _) 0 [(0, pR 1), (1, pI x1)] [] σ
  exact seg_X3_tailOf_0 C x1 σ (ok_X3_tailOf_0 h)

/-! X3_changeBetween -/
def f_X3_changeBetween (x1 x2 x3 : Int) (σ : Mem) : Int := σ 11 ((x1 * 8 + x2) * 8 + x3)
def pre_X3_changeBetween (M : Nat) (x1 x2 x3 : Int) (σ : Mem) : Prop := 0 ≤ x1 ∧ x1 < M ∧ 0 ≤ x2 ∧ x2 < 8 ∧ 0 ≤ x3 ∧ x3 < 8
def VC_X3_changeBetween_0 (M : Nat) (post : Int → Mem → Prop) (x1 : Int) (x2 : Int) (x3 : Int) (σ : Mem) : Prop :=
 (0 ≤ ((((x1 * 8) + x2) * 8) + x3) ∧ ((((x1 * 8) + x2) * 8) + x3) < ((64 * M : Nat) : Int)) ∧ post (σ 11 ((((x1 * 8) + x2) * 8) + x3)) σ
set_option maxRecDepth 20000 in
set_option maxHeartbeats 4000000 in
theorem seg_X3_changeBetween_0 {G : GG} {X : XX} {post : Int → Mem → Prop} (C : CX G X cX3_changeBetween RX3 4 (some .int) 0)   (x1 : Int) (x2 : Int) (x3 : Int) (σ : Mem) (vc : VC_X3_changeBetween_0 (gM G)  post  x1 x2 x3 σ) : RW G X 4 (QI G X post) 0 [(0, pR 1), (1, pI x1), (2, pI x2), (3, pI x3)] [] σ := by
  unfold VC_X3_changeBetween_0 at vc
  refine w_aload_n C 0 dX3_changeBetween_0 rfl ?_
  refine w_getR C dX3_changeBetween_1 gf_X3_55 ob_1 rfl ?_
  refine w_iload_n C 1 dX3_changeBetween_4 rfl ?_
  refine w_bipush C dX3_changeBetween_5 (by decide) ?_
  refine w_imul C dX3_changeBetween_7 ?_
  refine w_iload_n C 2 dX3_changeBetween_8 rfl ?_
  refine w_iadd C dX3_changeBetween_9 ?_
  refine w_bipush C dX3_changeBetween_10 (by decide) ?_
  refine w_imul C dX3_changeBetween_12 ?_
  refine w_iload_n C 3 dX3_changeBetween_13 rfl ?_
  refine w_iadd C dX3_changeBetween_14 ?_
  obtain ⟨⟨sc1, sc2⟩, vc⟩ := vc
  refine w_iald C dX3_changeBetween_15 (ia_11 C.gi) sc1 sc2 ?_
  exact w_ireturn C dX3_changeBetween_16 vc
set_option maxHeartbeats 1000000 in
theorem ok_X3_changeBetween_0 {M : Nat} {x1 : Int} {x2 : Int} {x3 : Int} {σ : Mem} (h : pre_X3_changeBetween M x1 x2 x3 σ) : VC_X3_changeBetween_0 M (fun z σ' => z = f_X3_changeBetween x1 x2 x3 σ ∧ σ' = σ) x1 x2 x3 σ := by
  obtain ⟨a1, a2, a3, a4, a5, a6⟩ := h
  exact ⟨⟨by omega, by omega⟩, rfl, rfl⟩
theorem c_X3_changeBetween {G : GG} (hG : GI G) (l : Launch) (x1 : Int) (x2 : Int) (x3 : Int) (σ : Mem) (h : pre_X3_changeBetween (gM G) x1 x2 x3 σ) : CtI G l yX3_changeBetween cX3_changeBetween 4 (some .int) 0 [pR 1, pI x1, pI x2, pI x3] σ (fun z σ' => z = f_X3_changeBetween x1 x2 x3 σ ∧ σ' = σ) := by
  refine CtI.of hG (by decide) (Nat.le_of_ble_eq_true rfl) (fun X hl C => ?_)
  show RW G X 4 (QI G X _) 0 [(0, pR 1), (1, pI x1), (2, pI x2), (3, pI x3)] [] σ
  exact seg_X3_changeBetween_0 C x1 x2 x3 σ (ok_X3_changeBetween_0 h)

/-! X3_setChange -/
def m_X3_setChange (x1 x2 x3 x4 : Int) (σ : Mem) : Mem := up σ 11 ((x1 * 8 + x2) * 8 + x3) x4
def pre_X3_setChange (M : Nat) (x1 x2 x3 x4 : Int) (σ : Mem) : Prop := 0 ≤ x1 ∧ x1 < M ∧ 0 ≤ x2 ∧ x2 < 8 ∧ 0 ≤ x3 ∧ x3 < 8
def VC_X3_setChange_0 (M : Nat) (post : Mem → Prop) (x1 : Int) (x2 : Int) (x3 : Int) (x4 : Int) (σ : Mem) : Prop :=
 (0 ≤ ((((x1 * 8) + x2) * 8) + x3) ∧ ((((x1 * 8) + x2) * 8) + x3) < ((64 * M : Nat) : Int)) ∧ ∀ s3 : Mem, s3 = up σ 11 ((((x1 * 8) + x2) * 8) + x3) x4 → post s3
set_option maxRecDepth 20000 in
set_option maxHeartbeats 4000000 in
theorem seg_X3_setChange_0 {G : GG} {X : XX} {post : Mem → Prop} (C : CX G X cX3_setChange RX3 5 none 0)   (x1 : Int) (x2 : Int) (x3 : Int) (x4 : Int) (σ : Mem) (vc : VC_X3_setChange_0 (gM G)  post  x1 x2 x3 x4 σ) : RW G X 5 (QV G X post) 0 [(0, pR 1), (1, pI x1), (2, pI x2), (3, pI x3), (4, pI x4)] [] σ := by
  unfold VC_X3_setChange_0 at vc
  refine w_aload_n C 0 dX3_setChange_0 rfl ?_
  refine w_getR C dX3_setChange_1 gf_X3_55 ob_1 rfl ?_
  refine w_iload_n C 1 dX3_setChange_4 rfl ?_
  refine w_bipush C dX3_setChange_5 (by decide) ?_
  refine w_imul C dX3_setChange_7 ?_
  refine w_iload_n C 2 dX3_setChange_8 rfl ?_
  refine w_iadd C dX3_setChange_9 ?_
  refine w_bipush C dX3_setChange_10 (by decide) ?_
  refine w_imul C dX3_setChange_12 ?_
  refine w_iload_n C 3 dX3_setChange_13 rfl ?_
  refine w_iadd C dX3_setChange_14 ?_
  refine w_iload C 4 dX3_setChange_15 rfl ?_
  obtain ⟨⟨sc1, sc2⟩, vc⟩ := vc
  refine w_iast C dX3_setChange_17 (ia_11 C.gi) sc1 sc2 ?_
  refine w_mem (fun s3 hs3 => ?_)
  have vc := vc s3 hs3
  exact w_vreturn C dX3_setChange_18 vc
set_option maxHeartbeats 1000000 in
theorem ok_X3_setChange_0 {M : Nat} {x1 : Int} {x2 : Int} {x3 : Int} {x4 : Int} {σ : Mem} (h : pre_X3_setChange M x1 x2 x3 x4 σ) : VC_X3_setChange_0 M (fun σ' => σ' = m_X3_setChange x1 x2 x3 x4 σ) x1 x2 x3 x4 σ := by
  obtain ⟨a1, a2, a3, a4, a5, a6⟩ := h
  exact ⟨⟨by omega, by omega⟩, fun s e => e⟩
theorem c_X3_setChange {G : GG} (hG : GI G) (l : Launch) (x1 : Int) (x2 : Int) (x3 : Int) (x4 : Int) (σ : Mem) (h : pre_X3_setChange (gM G) x1 x2 x3 x4 σ) : CtV G l yX3_setChange cX3_setChange 5 none 0 [pR 1, pI x1, pI x2, pI x3, pI x4] σ (fun σ' => σ' = m_X3_setChange x1 x2 x3 x4 σ) := by
  refine CtV.of hG (by decide) (Nat.le_of_ble_eq_true rfl) (fun X hl C => ?_)
  show RW G X 5 (QV G X _) 0 [(0, pR 1), (1, pI x1), (2, pI x2), (3, pI x3), (4, pI x4)] [] σ
  exact seg_X3_setChange_0 C x1 x2 x3 x4 σ (ok_X3_setChange_0 h)

/-! X3_addJob -/
def m_addJob (x1 x2 x3 : Int) (σ : Mem) : Mem := up (up (up (up σ 2 (σ 1 1) x1) 3 (σ 1 1) x2) 4 (σ 1 1) x3) 1 1 (σ 1 1 + 1)
def pre_X3_addJob (M : Nat) (x1 x2 x3 : Int) (σ : Mem) : Prop := 0 ≤ σ 1 1 ∧ σ 1 1 < 8
def post_X3_addJob (M : Nat) (x1 x2 x3 : Int) (σ : Mem) (z : Int) (σ' : Mem) : Prop := z = σ 1 1 ∧ σ' = m_addJob x1 x2 x3 σ
def VC_X3_addJob_0 (M : Nat) (post : Int → Mem → Prop) (x1 : Int) (x2 : Int) (x3 : Int) (σ : Mem) : Prop :=
 (0 ≤ (σ 1 1) ∧ (σ 1 1) < 8) ∧ ∀ s3 : Mem, s3 = up σ 2 (σ 1 1) x1 → (0 ≤ (s3 1 1) ∧ (s3 1 1) < 8) ∧ ∀ s6 : Mem, s6 = up s3 3 (s3 1 1) x2 → (0 ≤ (s6 1 1) ∧ (s6 1 1) < 8) ∧ ∀ s9 : Mem, s9 = up s6 4 (s6 1 1) x3 → ∀ s10 : Mem, s10 = up s9 1 1 ((s9 1 1) + 1) → post (s9 1 1) s10
set_option maxRecDepth 20000 in
set_option maxHeartbeats 4000000 in
theorem seg_X3_addJob_0 {G : GG} {X : XX} {post : Int → Mem → Prop} (C : CX G X cX3_addJob RX3 4 (some .int) 0)   (x1 : Int) (x2 : Int) (x3 : Int) (σ : Mem) (vc : VC_X3_addJob_0 (gM G)  post  x1 x2 x3 σ) : RW G X 4 (QI G X post) 0 [(0, pR 1), (1, pI x1), (2, pI x2), (3, pI x3)] [] σ := by
  unfold VC_X3_addJob_0 at vc
  refine w_aload_n C 0 dX3_addJob_0 rfl ?_
  refine w_getR C dX3_addJob_1 gf_X3_21 ob_1 rfl ?_
  refine w_aload_n C 0 dX3_addJob_4 rfl ?_
  refine w_getI C 1 dX3_addJob_5 gf_X3_9 ob_1 rfl rfl ?_
  refine w_iload_n C 1 dX3_addJob_8 rfl ?_
  obtain ⟨⟨sc1, sc2⟩, vc⟩ := vc
  refine w_iast C dX3_addJob_9 ia_2 sc1 sc2 ?_
  refine w_mem (fun s3 hs3 => ?_)
  have vc := vc s3 hs3
  refine w_aload_n C 0 dX3_addJob_10 rfl ?_
  refine w_getR C dX3_addJob_11 gf_X3_25 ob_1 rfl ?_
  refine w_aload_n C 0 dX3_addJob_14 rfl ?_
  refine w_getI C 1 dX3_addJob_15 gf_X3_9 ob_1 rfl rfl ?_
  refine w_iload_n C 2 dX3_addJob_18 rfl ?_
  obtain ⟨⟨sc4, sc5⟩, vc⟩ := vc
  refine w_iast C dX3_addJob_19 ia_3 sc4 sc5 ?_
  refine w_mem (fun s6 hs6 => ?_)
  have vc := vc s6 hs6
  refine w_aload_n C 0 dX3_addJob_20 rfl ?_
  refine w_getR C dX3_addJob_21 gf_X3_28 ob_1 rfl ?_
  refine w_aload_n C 0 dX3_addJob_24 rfl ?_
  refine w_getI C 1 dX3_addJob_25 gf_X3_9 ob_1 rfl rfl ?_
  refine w_iload_n C 3 dX3_addJob_28 rfl ?_
  obtain ⟨⟨sc7, sc8⟩, vc⟩ := vc
  refine w_iast C dX3_addJob_29 ia_4 sc7 sc8 ?_
  refine w_mem (fun s9 hs9 => ?_)
  have vc := vc s9 hs9
  refine w_aload_n C 0 dX3_addJob_30 rfl ?_
  refine w_dup C dX3_addJob_31 rfl ?_
  refine w_getI C 1 dX3_addJob_32 gf_X3_9 ob_1 rfl rfl ?_
  refine w_dup_x1 C dX3_addJob_35 rfl rfl ?_
  refine w_iconst C dX3_addJob_36 ?_
  refine w_iadd C dX3_addJob_37 ?_
  refine w_putI C 1 dX3_addJob_38 pf_X3_9 ob_1 rfl rfl ?_
  refine w_mem (fun s10 hs10 => ?_)
  have vc := vc s10 hs10
  exact w_ireturn C dX3_addJob_41 vc
set_option maxHeartbeats 1000000 in
theorem ok_X3_addJob_0 {M : Nat} {x1 : Int} {x2 : Int} {x3 : Int} {σ : Mem} (h : pre_X3_addJob M x1 x2 x3 σ) : VC_X3_addJob_0 M (post_X3_addJob M x1 x2 x3 σ) x1 x2 x3 σ := by
  obtain ⟨a1, a2⟩ := h
  refine ⟨⟨a1, a2⟩, fun s3 e3 => ?_⟩
  have q3 : s3 1 1 = σ 1 1 := by rw [e3]; simp [up]
  refine ⟨⟨by omega, by omega⟩, fun s6 e6 => ?_⟩
  have q6 : s6 1 1 = σ 1 1 := by rw [e6]; simp [up, q3]
  refine ⟨⟨by omega, by omega⟩, fun s9 e9 => ?_⟩
  have q9 : s9 1 1 = σ 1 1 := by rw [e9]; simp [up, q6]
  intro s10 e10
  refine ⟨q9, ?_⟩
  rw [e10, q9, e9, q6, e6, q3, e3]
  rfl
theorem c_X3_addJob {G : GG} (hG : GI G) (l : Launch) (x1 : Int) (x2 : Int) (x3 : Int) (σ : Mem) (h : pre_X3_addJob (gM G) x1 x2 x3 σ) : CtI G l yX3_addJob cX3_addJob 4 (some .int) 0 [pR 1, pI x1, pI x2, pI x3] σ (post_X3_addJob (gM G) x1 x2 x3 σ) := by
  refine CtI.of hG (by decide) (Nat.le_of_ble_eq_true rfl) (fun X hl C => ?_)
  show RW G X 4 (QI G X _) 0 [(0, pR 1), (1, pI x1), (2, pI x2), (3, pI x3)] [] σ
  exact seg_X3_addJob_0 C x1 x2 x3 σ (ok_X3_addJob_0 h)

/-! X3_addStep -/
def m_addStep (x1 x2 x3 : Int) (σ : Mem) : Mem := up (up (up (up σ 6 (10 * x1 + σ 5 x1) x2) 7 (10 * x1 + σ 5 x1) x3) 1 2 (σ 1 2 + 1)) 5 x1 (σ 5 x1 + 1)
def pre_X3_addStep (M : Nat) (x1 x2 x3 : Int) (σ : Mem) : Prop := SB M σ ∧ 0 ≤ x1 ∧ x1 < 8
def post_X3_addStep (M : Nat) (x1 x2 x3 : Int) (σ : Mem) (z : Int) (σ' : Mem) : Prop := z = σ 5 x1 + 1 ∧ σ' = m_addStep x1 x2 x3 σ
def VC_X3_addStep_0 (M : Nat) (post : Int → Mem → Prop) (x1 : Int) (x2 : Int) (x3 : Int) (σ : Mem) : Prop :=
 (0 ≤ x1 ∧ x1 < 8) ∧ ∀ v3 : Int, v3 = (10 * x1) + (σ 5 x1) → (0 ≤ v3 ∧ v3 < 80) ∧ ∀ s6 : Mem, s6 = up σ 6 v3 x2 → (0 ≤ v3 ∧ v3 < 80) ∧ ∀ s9 : Mem, s9 = up s6 7 v3 x3 → ∀ s10 : Mem, s10 = up s9 1 2 ((s9 1 2) + 1) → (0 ≤ x1 ∧ x1 < 8) ∧ (0 ≤ x1 ∧ x1 < 8) ∧ ∀ s15 : Mem, s15 = up s10 5 x1 ((s10 5 x1) + 1) → post ((s10 5 x1) + 1) s15
set_option maxRecDepth 20000 in
set_option maxHeartbeats 4000000 in
theorem seg_X3_addStep_0 {G : GG} {X : XX} {post : Int → Mem → Prop} (C : CX G X cX3_addStep RX3 5 (some .int) 0)   (x1 : Int) (x2 : Int) (x3 : Int) (σ : Mem) (vc : VC_X3_addStep_0 (gM G)  post  x1 x2 x3 σ) : RW G X 5 (QI G X post) 0 [(0, pR 1), (1, pI x1), (2, pI x2), (3, pI x3)] [] σ := by
  unfold VC_X3_addStep_0 at vc
  refine w_bipush C dX3_addStep_0 (by decide) ?_
  refine w_iload_n C 1 dX3_addStep_2 rfl ?_
  refine w_imul C dX3_addStep_3 ?_
  refine w_aload_n C 0 dX3_addStep_4 rfl ?_
  refine w_getR C dX3_addStep_5 gf_X3_31 ob_1 rfl ?_
  refine w_iload_n C 1 dX3_addStep_8 rfl ?_
  obtain ⟨⟨sc1, sc2⟩, vc⟩ := vc
  refine w_iald C dX3_addStep_9 ia_5 sc1 sc2 ?_
  refine w_iadd C dX3_addStep_10 ?_
  refine w_top (fun v3 hv3 => ?_)
  have vc := vc v3 hv3
  refine w_istore C [(4, pI v3), (0, pR 1), (1, pI x1), (2, pI x2), (3, pI x3)] dX3_addStep_11 (by decide) rfl ?_
  refine w_aload_n C 1 dX3_addStep_13 rfl ?_
  refine w_getR C dX3_addStep_14 gf_X3_34 ob_1 rfl ?_
  refine w_iload C 0 dX3_addStep_17 rfl ?_
  refine w_iload_n C 3 dX3_addStep_19 rfl ?_
  obtain ⟨⟨sc4, sc5⟩, vc⟩ := vc
  refine w_iast C dX3_addStep_20 ia_6 sc4 sc5 ?_
  refine w_mem (fun s6 hs6 => ?_)
  have vc := vc s6 hs6
  refine w_aload_n C 1 dX3_addStep_21 rfl ?_
  refine w_getR C dX3_addStep_22 gf_X3_37 ob_1 rfl ?_
  refine w_iload C 0 dX3_addStep_25 rfl ?_
  refine w_iload_n C 4 dX3_addStep_27 rfl ?_
  obtain ⟨⟨sc7, sc8⟩, vc⟩ := vc
  refine w_iast C dX3_addStep_28 ia_7 sc7 sc8 ?_
  refine w_mem (fun s9 hs9 => ?_)
  have vc := vc s9 hs9
  refine w_aload_n C 1 dX3_addStep_29 rfl ?_
  refine w_dup C dX3_addStep_30 rfl ?_
  refine w_getI C 2 dX3_addStep_31 gf_X3_15 ob_1 rfl rfl ?_
  refine w_iconst C dX3_addStep_34 ?_
  refine w_iadd C dX3_addStep_35 ?_
  refine w_putI C 2 dX3_addStep_36 pf_X3_15 ob_1 rfl rfl ?_
  refine w_mem (fun s10 hs10 => ?_)
  have vc := vc s10 hs10
  refine w_aload_n C 1 dX3_addStep_39 rfl ?_
  refine w_getR C dX3_addStep_40 gf_X3_31 ob_1 rfl ?_
  refine w_iload_n C 2 dX3_addStep_43 rfl ?_
  refine w_dup2 C dX3_addStep_44 rfl rfl ?_
  obtain ⟨⟨sc11, sc12⟩, vc⟩ := vc
  refine w_iald C dX3_addStep_45 ia_5 sc11 sc12 ?_
  refine w_iconst C dX3_addStep_46 ?_
  refine w_iadd C dX3_addStep_47 ?_
  refine w_dup_x2 C dX3_addStep_48 rfl rfl rfl ?_
  obtain ⟨⟨sc13, sc14⟩, vc⟩ := vc
  refine w_iast C dX3_addStep_49 ia_5 sc13 sc14 ?_
  refine w_mem (fun s15 hs15 => ?_)
  have vc := vc s15 hs15
  exact w_ireturn C dX3_addStep_50 vc
set_option maxHeartbeats 1000000 in
theorem ok_X3_addStep_0 {M : Nat} {x1 : Int} {x2 : Int} {x3 : Int} {σ : Mem} (h : pre_X3_addStep M x1 x2 x3 σ) : VC_X3_addStep_0 M (post_X3_addStep M x1 x2 x3 σ) x1 x2 x3 σ := by
  obtain ⟨⟨a1, a2, a3, a4, a5, a6⟩, b1, b2⟩ := h
  have := a5 x1 b1 b2
  refine ⟨⟨b1, b2⟩, fun v e => ⟨⟨by omega, by omega⟩, fun s6 e6 => ⟨⟨by omega, by omega⟩, fun s9 e9 s10 e10 => ⟨⟨b1, b2⟩, ⟨b1, b2⟩, fun s15 e15 => ?_⟩⟩⟩⟩
  have q9 : s9 1 2 = σ 1 2 := by rw [e9, e6]; simp [up]
  have q10 : s10 5 x1 = σ 5 x1 := by rw [e10, e9, e6]; simp [up]
  refine ⟨by rw [q10], ?_⟩
  rw [e15, q10, e10, q9, e9, e6, e]
  rfl
theorem c_X3_addStep {G : GG} (hG : GI G) (l : Launch) (x1 : Int) (x2 : Int) (x3 : Int) (σ : Mem) (h : pre_X3_addStep (gM G) x1 x2 x3 σ) : CtI G l yX3_addStep cX3_addStep 5 (some .int) 0 [pR 1, pI x1, pI x2, pI x3] σ (post_X3_addStep (gM G) x1 x2 x3 σ) := by
  refine CtI.of hG (by decide) (Nat.le_of_ble_eq_true rfl) (fun X hl C => ?_)
  show RW G X 5 (QI G X _) 0 [(0, pR 1), (1, pI x1), (2, pI x2), (3, pI x3)] [] σ
  exact seg_X3_addStep_0 C x1 x2 x3 σ (ok_X3_addStep_0 h)

/-! X3_exchange -/
def m_X3_exchange (x1 x2 : Int) (σ : Mem) : Mem := up (up σ (57 + x1) x2 (σ (57 + x1) (x2 + 1))) (57 + x1) (x2 + 1) (σ (57 + x1) x2)
def pre_X3_exchange (M : Nat) (x1 x2 : Int) (σ : Mem) : Prop := 0 ≤ x1 ∧ x1 < M ∧ 0 ≤ x2 ∧ x2 < 47
def VC_X3_exchange_0 (M : Nat) (post : Mem → Prop) (x1 : Int) (x2 : Int) (σ : Mem) : Prop :=
 (0 ≤ x1 ∧ x1 < M) ∧ (0 ≤ x2 ∧ x2 < 48) ∧ ∀ v5 : Int, v5 = σ (57 + x1) x2 → (0 ≤ (x2 + 1) ∧ (x2 + 1) < 48) ∧ (0 ≤ x2 ∧ x2 < 48) ∧ ∀ s10 : Mem, s10 = up σ (57 + x1) x2 (σ (57 + x1) (x2 + 1)) → (0 ≤ (x2 + 1) ∧ (x2 + 1) < 48) ∧ ∀ s13 : Mem, s13 = up s10 (57 + x1) (x2 + 1) v5 → post s13
set_option maxRecDepth 20000 in
set_option maxHeartbeats 4000000 in
theorem seg_X3_exchange_0 {G : GG} {X : XX} {post : Mem → Prop} (C : CX G X cX3_exchange RX3 5 none 0)   (x1 : Int) (x2 : Int) (σ : Mem) (vc : VC_X3_exchange_0 (gM G)  post  x1 x2 σ) : RW G X 5 (QV G X post) 0 [(0, pR 1), (1, pI x1), (2, pI x2)] [] σ := by
  unfold VC_X3_exchange_0 at vc
  refine w_aload_n C 0 dX3_exchange_0 rfl ?_
  refine w_getR C dX3_exchange_1 gf_X3_49 ob_1 rfl ?_
  refine w_iload_n C 1 dX3_exchange_4 rfl ?_
  obtain ⟨⟨sc1, sc2⟩, vc⟩ := vc
  refine w_aald C dX3_exchange_5 (ra_9 C.gi) sc1 sc2 ?_
  refine w_astore_n C [(3, pR (57 + x1)), (0, pR 1), (1, pI x1), (2, pI x2)] dX3_exchange_6 (by decide) rfl ?_
  refine w_aload_n C 0 dX3_exchange_7 rfl ?_
  refine w_iload_n C 3 dX3_exchange_8 rfl ?_
  obtain ⟨⟨sc3, sc4⟩, vc⟩ := vc
  refine w_iald C dX3_exchange_9 (ia_row sc1 sc2) sc3 sc4 ?_
  refine w_top (fun v5 hv5 => ?_)
  have vc := vc v5 hv5
  refine w_istore C [(4, pI v5), (3, pR (57 + x1)), (0, pR 1), (1, pI x1), (2, pI x2)] dX3_exchange_10 (by decide) rfl ?_
  refine w_aload_n C 1 dX3_exchange_12 rfl ?_
  refine w_iload_n C 4 dX3_exchange_13 rfl ?_
  refine w_aload_n C 1 dX3_exchange_14 rfl ?_
  refine w_iload_n C 4 dX3_exchange_15 rfl ?_
  refine w_iconst C dX3_exchange_16 ?_
  refine w_iadd C dX3_exchange_17 ?_
  obtain ⟨⟨sc6, sc7⟩, vc⟩ := vc
  refine w_iald C dX3_exchange_18 (ia_row sc1 sc2) sc6 sc7 ?_
  obtain ⟨⟨sc8, sc9⟩, vc⟩ := vc
  refine w_iast C dX3_exchange_19 (ia_row sc1 sc2) sc8 sc9 ?_
  refine w_mem (fun s10 hs10 => ?_)
  have vc := vc s10 hs10
  refine w_aload_n C 1 dX3_exchange_20 rfl ?_
  refine w_iload_n C 4 dX3_exchange_21 rfl ?_
  refine w_iconst C dX3_exchange_22 ?_
  refine w_iadd C dX3_exchange_23 ?_
  refine w_iload C 0 dX3_exchange_24 rfl ?_
  obtain ⟨⟨sc11, sc12⟩, vc⟩ := vc
  refine w_iast C dX3_exchange_26 (ia_row sc1 sc2) sc11 sc12 ?_
  refine w_mem (fun s13 hs13 => ?_)
  have vc := vc s13 hs13
  exact w_vreturn C dX3_exchange_27 vc
set_option maxHeartbeats 1000000 in
theorem ok_X3_exchange_0 {M : Nat} {x1 : Int} {x2 : Int} {σ : Mem} (h : pre_X3_exchange M x1 x2 σ) : VC_X3_exchange_0 M (fun σ' => σ' = m_X3_exchange x1 x2 σ) x1 x2 σ := by
  obtain ⟨a1, a2, a3, a4⟩ := h
  exact ⟨⟨a1, a2⟩, ⟨a3, by omega⟩, fun v e => ⟨⟨by omega, by omega⟩, ⟨a3, by omega⟩, fun s e2 => ⟨⟨by omega, by omega⟩, fun s13 e3 => by rw [e3, e2, e]; rfl⟩⟩⟩
theorem c_X3_exchange {G : GG} (hG : GI G) (l : Launch) (x1 : Int) (x2 : Int) (σ : Mem) (h : pre_X3_exchange (gM G) x1 x2 σ) : CtV G l yX3_exchange cX3_exchange 5 none 0 [pR 1, pI x1, pI x2] σ (fun σ' => σ' = m_X3_exchange x1 x2 σ) := by
  refine CtV.of hG (by decide) (Nat.le_of_ble_eq_true rfl) (fun X hl C => ?_)
  show RW G X 5 (QV G X _) 0 [(0, pR 1), (1, pI x1), (2, pI x2)] [] σ
  exact seg_X3_exchange_0 C x1 x2 σ (ok_X3_exchange_0 h)

/-! X3_insert -/
def m_X3_insert (x1 x2 : Int) (σ : Mem) : Mem := fun c i =>
  if c = 57 + σ 6 x1 then (if i = x2 then x1 else if x2 < i ∧ i ≤ σ 10 (σ 6 x1) then σ c (i - 1) else σ c i)
  else if c = 10 ∧ i = σ 6 x1 then σ c i + 1 else if c = 8 ∧ i = x1 then 1 else if c = 1 ∧ i = 3 then σ 1 3 + 1 else σ c i
def pre_X3_insert (M : Nat) (x1 x2 : Int) (σ : Mem) : Prop := 0 ≤ x1 ∧ x1 < 80 ∧ 0 ≤ σ 6 x1 ∧ σ 6 x1 < M ∧ 0 ≤ x2 ∧ x2 ≤ σ 10 (σ 6 x1) ∧ σ 10 (σ 6 x1) < 48
def inv_X3_insert_23 (M : Nat) (x1 x2 : Int) (σ : Mem) (w3 w5 : Int) (τ : Mem) : Prop := w3 = σ 6 x1 ∧ x2 ≤ w5 ∧ w5 ≤ σ 10 (σ 6 x1) ∧ τ = fun c i => if c = 57 + σ 6 x1 ∧ w5 < i ∧ i ≤ σ 10 (σ 6 x1) then σ c (i - 1) else σ c i
def mu_X3_insert_23 (x1 x2 : Int) (w3 w5 : Int) (τ : Mem) : Nat := (w5 - x2).toNat
def VC_X3_insert_0 (M : Nat) (K23 : Int → Int → Mem → Prop) (post : Mem → Prop) (x1 : Int) (x2 : Int) (σ : Mem) : Prop :=
 (0 ≤ x1 ∧ x1 < 80) ∧ ∀ v3 : Int, v3 = σ 6 x1 → (0 ≤ v3 ∧ v3 < M) ∧ (0 ≤ v3 ∧ v3 < M) ∧ ∀ v8 : Int, v8 = σ 10 v3 → K23 v3 v8 σ
set_option maxRecDepth 20000 in
set_option maxHeartbeats 4000000 in
theorem seg_X3_insert_0 {G : GG} {X : XX} {post : Mem → Prop} (C : CX G X cX3_insert RX3 6 none 0)   (x1 : Int) (x2 : Int) (σ : Mem) (vc : VC_X3_insert_0 (gM G) (fun w3 w5 σ => RW G X 6 (QV G X post) 23 [(0, pR 1), (1, pI x1), (2, pI x2), (3, pI w3), (4, pR (57 + w3)), (5, pI w5)] [] σ) post  x1 x2 σ) : RW G X 6 (QV G X post) 0 [(0, pR 1), (1, pI x1), (2, pI x2)] [] σ := by
  unfold VC_X3_insert_0 at vc
  refine w_aload_n C 0 dX3_insert_0 rfl ?_
  refine w_getR C dX3_insert_1 gf_X3_34 ob_1 rfl ?_
  refine w_iload_n C 1 dX3_insert_4 rfl ?_
  obtain ⟨⟨sc1, sc2⟩, vc⟩ := vc
  refine w_iald C dX3_insert_5 ia_6 sc1 sc2 ?_
  refine w_top (fun v3 hv3 => ?_)
  have vc := vc v3 hv3
  refine w_istore_n C [(3, pI v3), (0, pR 1), (1, pI x1), (2, pI x2)] dX3_insert_6 (by decide) rfl ?_
  refine w_aload_n C 1 dX3_insert_7 rfl ?_
  refine w_getR C dX3_insert_8 gf_X3_49 ob_1 rfl ?_
  refine w_iload_n C 0 dX3_insert_11 rfl ?_
  obtain ⟨⟨sc4, sc5⟩, vc⟩ := vc
  refine w_aald C dX3_insert_12 (ra_9 C.gi) sc4 sc5 ?_
  refine w_astore C [(4, pR (57 + v3)), (3, pI v3), (0, pR 1), (1, pI x1), (2, pI x2)] dX3_insert_13 (by decide) rfl ?_
  refine w_aload_n C 2 dX3_insert_15 rfl ?_
  refine w_getR C dX3_insert_16 gf_X3_52 ob_1 rfl ?_
  refine w_iload_n C 1 dX3_insert_19 rfl ?_
  obtain ⟨⟨sc6, sc7⟩, vc⟩ := vc
  refine w_iald C dX3_insert_20 (ia_10 C.gi) sc6 sc7 ?_
  refine w_top (fun v8 hv8 => ?_)
  have vc := vc v8 hv8
  refine w_istore C [(5, pI v8), (4, pR (57 + v3)), (3, pI v3), (0, pR 1), (1, pI x1), (2, pI x2)] dX3_insert_21 (by decide) rfl ?_
  exact w_sub _ [3, 4, 5, 2, 1, 0] rfl vc
def VC_X3_insert_23 (M : Nat) (K23 : Int → Int → Mem → Prop) (post : Mem → Prop) (x1 : Int) (x2 : Int) (w3 : Int) (w5 : Int) (σ : Mem) : Prop :=
 (0 ≤ w3 ∧ w3 < M) ∧ (inR w5 ∧ inR x2) ∧ ((w5 ≤ x2 → (0 ≤ x2 ∧ x2 < 48) ∧ ∀ s6 : Mem, s6 = up σ (57 + w3) x2 x1 → (0 ≤ w3 ∧ w3 < M) ∧ (0 ≤ w3 ∧ w3 < M) ∧ ∀ s11 : Mem, s11 = up s6 10 w3 ((s6 10 w3) + 1) → (0 ≤ x1 ∧ x1 < 80) ∧ ∀ s14 : Mem, s14 = up s11 8 x1 1 → ∀ s15 : Mem, s15 = up s14 1 3 ((s14 1 3) + 1) → post s15) ∧ (x2 < w5 → (0 ≤ (w5 - 1) ∧ (w5 - 1) < 48) ∧ (0 ≤ w5 ∧ w5 < 48) ∧ ∀ s20 : Mem, s20 = up σ (57 + w3) w5 (σ (57 + w3) (w5 - 1)) → K23 w3 (w5 + (-1)) s20))
set_option maxRecDepth 20000 in
set_option maxHeartbeats 4000000 in
theorem seg_X3_insert_23 {G : GG} {X : XX} {post : Mem → Prop} (C : CX G X cX3_insert RX3 6 none 0)   (x1 : Int) (x2 : Int) (w3 : Int) (w5 : Int) (σ : Mem) (vc : VC_X3_insert_23 (gM G) (fun w3 w5 σ => RW G X 6 (QV G X post) 23 [(0, pR 1), (1, pI x1), (2, pI x2), (3, pI w3), (4, pR (57 + w3)), (5, pI w5)] [] σ) post  x1 x2 w3 w5 σ) : RW G X 6 (QV G X post) 23 [(0, pR 1), (1, pI x1), (2, pI x2), (3, pI w3), (4, pR (57 + w3)), (5, pI w5)] [] σ := by
  unfold VC_X3_insert_23 at vc
  obtain ⟨⟨r4a, r4b⟩, vc⟩ := vc
  refine w_iload C 5 dX3_insert_23 rfl ?_
  refine w_iload_n C 2 dX3_insert_25 rfl ?_
  obtain ⟨⟨sc1, sc2⟩, vc⟩ := vc
  refine w_icmp_le C 47 dX3_insert_26 (by decide) sc1 sc2 (fun h3 => ?_) (fun h3 => ?_)
  · have vc := vc.1 h3
    refine w_aload C 4 dX3_insert_47 rfl ?_
    refine w_iload_n C 2 dX3_insert_49 rfl ?_
    refine w_iload_n C 1 dX3_insert_50 rfl ?_
    obtain ⟨⟨sc4, sc5⟩, vc⟩ := vc
    refine w_iast C dX3_insert_51 (ia_row r4a r4b) sc4 sc5 ?_
    refine w_mem (fun s6 hs6 => ?_)
    have vc := vc s6 hs6
    refine w_aload_n C 0 dX3_insert_52 rfl ?_
    refine w_getR C dX3_insert_53 gf_X3_52 ob_1 rfl ?_
    refine w_iload_n C 3 dX3_insert_56 rfl ?_
    refine w_dup2 C dX3_insert_57 rfl rfl ?_
    obtain ⟨⟨sc7, sc8⟩, vc⟩ := vc
    refine w_iald C dX3_insert_58 (ia_10 C.gi) sc7 sc8 ?_
    refine w_iconst C dX3_insert_59 ?_
    refine w_iadd C dX3_insert_60 ?_
    obtain ⟨⟨sc9, sc10⟩, vc⟩ := vc
    refine w_iast C dX3_insert_61 (ia_10 C.gi) sc9 sc10 ?_
    refine w_mem (fun s11 hs11 => ?_)
    have vc := vc s11 hs11
    refine w_aload_n C 0 dX3_insert_62 rfl ?_
    refine w_getR C dX3_insert_63 gf_X3_40 ob_1 rfl ?_
    refine w_iload_n C 1 dX3_insert_66 rfl ?_
    refine w_iconst C dX3_insert_67 ?_
    obtain ⟨⟨sc12, sc13⟩, vc⟩ := vc
    refine w_bast C dX3_insert_68 ba_8 sc12 sc13 (Or.inr rfl) ?_
    refine w_mem (fun s14 hs14 => ?_)
    have vc := vc s14 hs14
    refine w_aload_n C 0 dX3_insert_69 rfl ?_
    refine w_dup C dX3_insert_70 rfl ?_
    refine w_getI C 3 dX3_insert_71 gf_X3_18 ob_1 rfl rfl ?_
    refine w_iconst C dX3_insert_74 ?_
    refine w_iadd C dX3_insert_75 ?_
    refine w_putI C 3 dX3_insert_76 pf_X3_18 ob_1 rfl rfl ?_
    refine w_mem (fun s15 hs15 => ?_)
    have vc := vc s15 hs15
    exact w_vreturn C dX3_insert_79 vc
  · have vc := vc.2 h3
    refine w_aload C 4 dX3_insert_29 rfl ?_
    refine w_iload C 5 dX3_insert_31 rfl ?_
    refine w_aload C 4 dX3_insert_33 rfl ?_
    refine w_iload C 5 dX3_insert_35 rfl ?_
    refine w_iconst C dX3_insert_37 ?_
    refine w_isub C dX3_insert_38 ?_
    obtain ⟨⟨sc16, sc17⟩, vc⟩ := vc
    refine w_iald C dX3_insert_39 (ia_row r4a r4b) sc16 sc17 ?_
    obtain ⟨⟨sc18, sc19⟩, vc⟩ := vc
    refine w_iast C dX3_insert_40 (ia_row r4a r4b) sc18 sc19 ?_
    refine w_mem (fun s20 hs20 => ?_)
    have vc := vc s20 hs20
    refine w_iinc C 5 [(5, pI (w5 + (-1))), (0, pR 1), (1, pI x1), (2, pI x2), (3, pI w3), (4, pR (57 + w3))] dX3_insert_41 rfl (by decide) rfl ?_
    refine w_goto C 23 dX3_insert_44 (by decide) ?_
    exact w_sub _ [1, 2, 3, 4, 5, 0] rfl vc
set_option maxHeartbeats 1000000 in
theorem ok_X3_insert_0 {M : Nat} {x1 : Int} {x2 : Int} {σ : Mem} {K23 : Int → Int → Mem → Prop} (h : pre_X3_insert M x1 x2 σ) (hK23 : ∀ (y3 y5 : Int) (τ' : Mem), inv_X3_insert_23 M x1 x2 σ y3 y5 τ' → K23 y3 y5 τ') : VC_X3_insert_0 M K23 (fun σ' => σ' = m_X3_insert x1 x2 σ) x1 x2 σ := by
  obtain ⟨a1, a2, a3, a4, a5, a6, a7⟩ := h
  refine ⟨⟨a1, a2⟩, fun v e => ?_⟩
  subst e
  refine ⟨⟨a3, a4⟩, ⟨a3, a4⟩, fun v e => ?_⟩
  subst e
  refine hK23 _ _ _ ⟨rfl, a6, by omega, ?_⟩
  funext c i
  rw [if_neg (by omega)]
set_option maxHeartbeats 1000000 in
theorem ok_X3_insert_23 {M : Nat} {x1 : Int} {x2 : Int} {σ : Mem} {w3 w5 : Int} {τ : Mem} {K23 : Int → Int → Mem → Prop} (h : pre_X3_insert M x1 x2 σ) (hinv : inv_X3_insert_23 M x1 x2 σ w3 w5 τ) (hK23 : ∀ (y3 y5 : Int) (τ' : Mem), inv_X3_insert_23 M x1 x2 σ y3 y5 τ' → mu_X3_insert_23 x1 x2 y3 y5 τ' < mu_X3_insert_23 x1 x2 w3 w5 τ → K23 y3 y5 τ') : VC_X3_insert_23 M K23 (fun σ' => σ' = m_X3_insert x1 x2 σ) x1 x2 w3 w5 τ := by
  obtain ⟨a1, a2, a3, a4, a5, a6, a7⟩ := h
  obtain ⟨rfl, b1, b2, rfl⟩ := hinv
  refine ⟨⟨a3, a4⟩, ⟨⟨by omega, by omega⟩, ⟨by omega, by omega⟩⟩, fun g => ⟨⟨a5, by omega⟩, fun s6 e6 => ⟨⟨a3, a4⟩, ⟨a3, a4⟩, fun s11 e11 => ⟨⟨a1, a2⟩, fun s14 e14 s15 e15 => ?_⟩⟩⟩, fun g => ⟨⟨by omega, by omega⟩, ⟨by omega, by omega⟩, fun s20 e20 => hK23 _ _ _ ⟨rfl, by omega, by omega, ?_⟩ ?_⟩⟩
  · have e5 : w5 = x2 := by omega
    subst e5
    rw [e15, e14, e11, e6]
    funext c i
    simp only [m_X3_insert, up]
    by_cases hc : c = 57 + σ 6 x1
    · subst hc
      have n1 : ¬ (57 + σ 6 x1 = 1) := by omega
      have n2 : ¬ (57 + σ 6 x1 = 8) := by omega
      have n3 : ¬ (57 + σ 6 x1 = 10) := by omega
      simp [n1, n2, n3]
    · by_cases h1 : c = 1
      · subst h1
        by_cases hi : i = 3
        · subst hi
          have n1 : ¬ (1 = 57 + σ 6 x1) := by omega
          simp [n1]
        · have n1 : ¬ (1 = 57 + σ 6 x1) := by omega
          simp [hi, n1]
      · by_cases h8 : c = 8
        · subst h8
          have n1 : ¬ (8 = 57 + σ 6 x1) := by omega
          simp [n1]
        · by_cases h10 : c = 10
          · subst h10
            have n1 : ¬ (10 = 57 + σ 6 x1) := by omega
            by_cases hi : i = σ 6 x1
            · subst hi; simp [n1]
            · simp [n1, hi]
          · simp [hc, h1, h8, h10]
  · rw [e20]
    funext c i
    simp only [up]
    by_cases hc : c = 57 + σ 6 x1
    · subst hc
      by_cases hi : i = w5
      · subst hi
        rw [if_pos ⟨rfl, rfl⟩, if_neg (by omega), if_pos ⟨rfl, by omega, by omega⟩]
      · rw [if_neg (by omega)]
        by_cases h3 : w5 < i ∧ i ≤ σ 10 (σ 6 x1)
        · rw [if_pos ⟨rfl, h3⟩, if_pos ⟨rfl, by omega, by omega⟩]
        · rw [if_neg (by omega), if_neg (by omega)]
    · rw [if_neg (by simp [hc]), if_neg (by simp [hc]), if_neg (by simp [hc])]
  · unfold mu_X3_insert_23
    omega
theorem c_X3_insert {G : GG} (hG : GI G) (l : Launch) (x1 : Int) (x2 : Int) (σ : Mem) (h : pre_X3_insert (gM G) x1 x2 σ) : CtV G l yX3_insert cX3_insert 6 none 0 [pR 1, pI x1, pI x2] σ (fun σ' => σ' = m_X3_insert x1 x2 σ) := by
  refine CtV.of hG (by decide) (Nat.le_of_ble_eq_true rfl) (fun X hl C => ?_)
  show RW G X 6 (QV G X _) 0 [(0, pR 1), (1, pI x1), (2, pI x2)] [] σ
  have key : ∀ n : Nat, (∀ (w3 w5 : Int) (τ : Mem), inv_X3_insert_23 (gM G) x1 x2 σ w3 w5 τ → mu_X3_insert_23 x1 x2 w3 w5 τ < n → RW G X 6 (QV G X (fun σ' => σ' = m_X3_insert x1 x2 σ)) 23 [(0, pR 1), (1, pI x1), (2, pI x2), (3, pI w3), (4, pR (57 + w3)), (5, pI w5)] [] τ) := by
    intro n
    induction n with
    | zero => exact fun w3 w5 τ _ h0 => absurd h0 (Nat.not_lt_zero _)
    | succ n ih =>
      exact (fun w3 w5 τ hinv h0 => seg_X3_insert_23 C x1 x2 w3 w5 τ (ok_X3_insert_23 h hinv (fun y3 y5 τ' hi hm => ih y3 y5 τ' hi (Nat.lt_of_lt_of_le hm (Nat.le_of_lt_succ h0)))))
  exact seg_X3_insert_0 C x1 x2 σ (ok_X3_insert_0 h (fun y3 y5 τ' hi => (key _) y3 y5 τ' hi (Nat.lt_succ_self _)))

/-! X3_emptyOrders -/
def m_X3_emptyOrders (σ : Mem) : Mem := fun c i => if c = 10 ∧ 0 ≤ i ∧ i < σ 1 0 then 0 else if c = 8 ∧ 0 ≤ i ∧ i < 80 then 0 else if c = 1 ∧ i = 3 then 0 else σ c i
def pre_X3_emptyOrders (M : Nat) (σ : Mem) : Prop := σ 1 0 = M ∧ M ≤ 5
def inv_X3_emptyOrders_10 (M : Nat) (σ : Mem) (w1 : Int) (τ : Mem) : Prop := 0 ≤ w1 ∧ w1 ≤ 80 ∧ τ = fun c i => if c = 10 ∧ 0 ≤ i ∧ i < σ 1 0 then 0 else if c = 8 ∧ 0 ≤ i ∧ i < w1 then 0 else σ c i
def mu_X3_emptyOrders_10 (w1 : Int) (τ : Mem) : Nat := (80 - w1).toNat
def VC_X3_emptyOrders_0 (M : Nat) (K10 : Int → Mem → Prop) (post : Mem → Prop)  (σ : Mem) : Prop :=
 (pre_J7_fill_53178 M 10 M 0 σ) ∧ ∀ s2 : Mem, s2 = m_J7_fill_53178 10 M 0 σ → K10 0 s2
set_option maxRecDepth 20000 in
set_option maxHeartbeats 4000000 in
theorem seg_X3_emptyOrders_0 {G : GG} {X : XX} {post : Mem → Prop} (C : CX G X cX3_emptyOrders RX3 2 none 1)    (σ : Mem) (vc : VC_X3_emptyOrders_0 (gM G) (fun w1 σ => RW G X 2 (QV G X post) 10 [(0, pR 1), (1, pI w1)] [] σ) post   σ) : RW G X 2 (QV G X post) 0 [(0, pR 1)] [] σ := by
  unfold VC_X3_emptyOrders_0 at vc
  refine w_aload_n C 0 dX3_emptyOrders_0 rfl ?_
  refine w_getR C dX3_emptyOrders_1 gf_X3_52 ob_1 rfl ?_
  refine w_iconst C dX3_emptyOrders_4 ?_
  obtain ⟨sc1, vc⟩ := vc
  refine w_callSV C [pR 10, pI 0] [] rfl dX3_emptyOrders_5 (c_J7_fill_53178 C.gi (xL X) 10 (gM G) 0 σ (ia_10 C.gi) sc1) mw_J7_fill_53178 ml_X3_65 ss_J7_fill_53178 (by decide) (Nat.le_of_ble_eq_true rfl) (fun s2 hs2 => ?_)
  have vc := vc s2 hs2
  refine w_iconst C dX3_emptyOrders_8 ?_
  refine w_istore_n C [(1, pI 0), (0, pR 1)] dX3_emptyOrders_9 (by decide) rfl ?_
  exact w_sub _ [1, 0] rfl vc
def VC_X3_emptyOrders_10 (M : Nat) (K10 : Int → Mem → Prop) (post : Mem → Prop) (w1 : Int) (σ : Mem) : Prop :=
 (inR w1) ∧ ((80 ≤ w1 → ∀ s3 : Mem, s3 = up σ 1 3 0 → post s3) ∧ (w1 < 80 → (0 ≤ w1 ∧ w1 < 80) ∧ ∀ s6 : Mem, s6 = up σ 8 w1 0 → K10 (w1 + 1) s6))
set_option maxRecDepth 20000 in
set_option maxHeartbeats 4000000 in
theorem seg_X3_emptyOrders_10 {G : GG} {X : XX} {post : Mem → Prop} (C : CX G X cX3_emptyOrders RX3 2 none 1)   (w1 : Int) (σ : Mem) (vc : VC_X3_emptyOrders_10 (gM G) (fun w1 σ => RW G X 2 (QV G X post) 10 [(0, pR 1), (1, pI w1)] [] σ) post  w1 σ) : RW G X 2 (QV G X post) 10 [(0, pR 1), (1, pI w1)] [] σ := by
  unfold VC_X3_emptyOrders_10 at vc
  refine w_iload_n C 1 dX3_emptyOrders_10 rfl ?_
  refine w_bipush C dX3_emptyOrders_11 (by decide) ?_
  obtain ⟨sc1, vc⟩ := vc
  refine w_icmp_ge C 29 dX3_emptyOrders_13 (by decide) sc1 ⟨by omega, by omega⟩ (fun h2 => ?_) (fun h2 => ?_)
  · have vc := vc.1 h2
    refine w_aload_n C 0 dX3_emptyOrders_29 rfl ?_
    refine w_iconst C dX3_emptyOrders_30 ?_
    refine w_putI C 3 dX3_emptyOrders_31 pf_X3_18 ob_1 rfl rfl ?_
    refine w_mem (fun s3 hs3 => ?_)
    have vc := vc s3 hs3
    exact w_vreturn C dX3_emptyOrders_34 vc
  · have vc := vc.2 h2
    refine w_aload_n C 0 dX3_emptyOrders_16 rfl ?_
    refine w_getR C dX3_emptyOrders_17 gf_X3_40 ob_1 rfl ?_
    refine w_iload_n C 1 dX3_emptyOrders_20 rfl ?_
    refine w_iconst C dX3_emptyOrders_21 ?_
    obtain ⟨⟨sc4, sc5⟩, vc⟩ := vc
    refine w_bast C dX3_emptyOrders_22 ba_8 sc4 sc5 (Or.inl rfl) ?_
    refine w_mem (fun s6 hs6 => ?_)
    have vc := vc s6 hs6
    refine w_iinc C 1 [(1, pI (w1 + 1)), (0, pR 1)] dX3_emptyOrders_23 rfl (by decide) rfl ?_
    refine w_goto C 10 dX3_emptyOrders_26 (by decide) ?_
    exact w_sub _ [1, 0] rfl vc
set_option maxHeartbeats 1000000 in
theorem ok_X3_emptyOrders_0 {M : Nat} {σ : Mem} {K10 : Int → Mem → Prop} (h : pre_X3_emptyOrders M σ) (hK10 : ∀ (y1 : Int) (τ' : Mem), inv_X3_emptyOrders_10 M σ y1 τ' → K10 y1 τ') : VC_X3_emptyOrders_0 M K10 (fun σ' => σ' = m_X3_emptyOrders σ) σ := by
  obtain ⟨a1, a2⟩ := h
  refine ⟨by unfold pre_J7_fill_53178; omega, fun s2 e2 => hK10 _ _ ⟨by omega, by omega, ?_⟩⟩
  rw [e2]
  funext c i
  simp only [m_J7_fill_53178]
  grind
set_option maxHeartbeats 1000000 in
theorem ok_X3_emptyOrders_10 {M : Nat} {σ : Mem} {w1 : Int} {τ : Mem} {K10 : Int → Mem → Prop} (h : pre_X3_emptyOrders M σ) (hinv : inv_X3_emptyOrders_10 M σ w1 τ) (hK10 : ∀ (y1 : Int) (τ' : Mem), inv_X3_emptyOrders_10 M σ y1 τ' → mu_X3_emptyOrders_10 y1 τ' < mu_X3_emptyOrders_10 w1 τ → K10 y1 τ') : VC_X3_emptyOrders_10 M K10 (fun σ' => σ' = m_X3_emptyOrders σ) w1 τ := by
  obtain ⟨a1, a2⟩ := h
  obtain ⟨b1, b2, rfl⟩ := hinv
  refine ⟨⟨by omega, by omega⟩, fun g s3 e3 => ?_, fun g => ⟨⟨b1, g⟩, fun s6 e6 => hK10 _ _ ⟨by omega, by omega, ?_⟩ ?_⟩⟩
  · rw [e3]
    funext c i
    simp only [m_X3_emptyOrders, up]
    grind
  · rw [e6]
    funext c i
    simp only [up]
    grind
  · unfold mu_X3_emptyOrders_10
    omega
theorem c_X3_emptyOrders {G : GG} (hG : GI G) (l : Launch) (σ : Mem) (h : pre_X3_emptyOrders (gM G) σ) : CtV G l yX3_emptyOrders cX3_emptyOrders 2 none 1 [pR 1] σ (fun σ' => σ' = m_X3_emptyOrders σ) := by
  refine CtV.of hG (by decide) (Nat.le_of_ble_eq_true rfl) (fun X hl C => ?_)
  show RW G X 2 (QV G X _) 0 [(0, pR 1)] [] σ
  have key : ∀ n : Nat, (∀ (w1 : Int) (τ : Mem), inv_X3_emptyOrders_10 (gM G) σ w1 τ → mu_X3_emptyOrders_10 w1 τ < n → RW G X 2 (QV G X (fun σ' => σ' = m_X3_emptyOrders σ)) 10 [(0, pR 1), (1, pI w1)] [] τ) := by
    intro n
    induction n with
    | zero => exact fun w1 τ _ h0 => absurd h0 (Nat.not_lt_zero _)
    | succ n ih =>
      exact (fun w1 τ hinv h0 => seg_X3_emptyOrders_10 C w1 τ (ok_X3_emptyOrders_10 h hinv (fun y1 τ' hi hm => ih y1 τ' hi (Nat.lt_of_lt_of_le hm (Nat.le_of_lt_succ h0)))))
  exact seg_X3_emptyOrders_0 C σ (ok_X3_emptyOrders_0 h (fun y1 τ' hi => (key _) y1 τ' hi (Nat.lt_succ_self _)))

/-! X3_remove -/
def m_remove (x1 z : Int) (σ : Mem) : Mem := fun c i =>
  if c = 57 + σ 6 x1 then (if z ≤ i ∧ i < σ 10 (σ 6 x1) - 1 then σ c (i + 1) else σ c i)
  else if c = 10 ∧ i = σ 6 x1 then σ c i - 1 else if c = 8 ∧ i = x1 then 0 else if c = 1 ∧ i = 3 then σ 1 3 - 1 else σ c i
def pre_X3_remove (M : Nat) (x1 : Int) (σ : Mem) : Prop := 0 ≤ x1 ∧ x1 < 80 ∧ 0 ≤ σ 6 x1 ∧ σ 6 x1 < M ∧ 0 ≤ σ 10 (σ 6 x1) ∧ σ 10 (σ 6 x1) ≤ 48 ∧ (∀ i, 0 ≤ i → i < σ 10 (σ 6 x1) → 0 ≤ σ (57 + σ 6 x1) i ∧ σ (57 + σ 6 x1) i < 80) ∧ ∃ i, 0 ≤ i ∧ i < σ 10 (σ 6 x1) ∧ σ (57 + σ 6 x1) i = x1
def post_X3_remove (M : Nat) (x1 : Int) (σ : Mem) (z : Int) (σ' : Mem) : Prop := 0 ≤ z ∧ z < σ 10 (σ 6 x1) ∧ σ (57 + σ 6 x1) z = x1 ∧ σ' = m_remove x1 z σ
def inv_X3_remove_27 (M : Nat) (x1 : Int) (σ : Mem) (w2 w4 w5 : Int) (τ : Mem) : Prop := τ = σ ∧ w2 = σ 6 x1 ∧ w4 = σ 10 (σ 6 x1) - 1 ∧ 0 ≤ w5 ∧ w5 ≤ w4 ∧ ∀ i, 0 ≤ i → i < w5 → σ (57 + σ 6 x1) i ≠ x1
def mu_X3_remove_27 (x1 : Int) (w2 w4 w5 : Int) (τ : Mem) : Nat := 100 + (w4 - w5).toNat
def inv_X3_remove_52 (M : Nat) (x1 : Int) (σ : Mem) (w2 w4 w5 w6 : Int) (τ : Mem) : Prop := w2 = σ 6 x1 ∧ w4 = σ 10 (σ 6 x1) - 1 ∧ 0 ≤ w5 ∧ w5 ≤ w6 ∧ w6 ≤ w4 ∧ σ (57 + σ 6 x1) w5 = x1 ∧ τ = fun c i => if c = 57 + σ 6 x1 ∧ w5 ≤ i ∧ i < w6 then σ c (i + 1) else σ c i
def mu_X3_remove_52 (x1 : Int) (w2 w4 w5 w6 : Int) (τ : Mem) : Nat := (w4 - w6).toNat
def VC_X3_remove_0 (M : Nat) (K27 : Int → Int → Int → Mem → Prop) (post : Int → Mem → Prop) (x1 : Int) (σ : Mem) : Prop :=
 (0 ≤ x1 ∧ x1 < 80) ∧ ∀ v3 : Int, v3 = σ 6 x1 → (0 ≤ v3 ∧ v3 < M) ∧ (0 ≤ v3 ∧ v3 < M) ∧ ∀ v8 : Int, v8 = (σ 10 v3) - 1 → K27 v3 v8 0 σ
set_option maxRecDepth 20000 in
set_option maxHeartbeats 4000000 in
theorem seg_X3_remove_0 {G : GG} {X : XX} {post : Int → Mem → Prop} (C : CX G X cX3_remove RX3 7 (some .int) 0)   (x1 : Int) (σ : Mem) (vc : VC_X3_remove_0 (gM G) (fun w2 w4 w5 σ => RW G X 7 (QI G X post) 27 [(0, pR 1), (1, pI x1), (2, pI w2), (3, pR (57 + w2)), (4, pI w4), (5, pI w5)] [] σ) post  x1 σ) : RW G X 7 (QI G X post) 0 [(0, pR 1), (1, pI x1)] [] σ := by
  unfold VC_X3_remove_0 at vc
  refine w_aload_n C 0 dX3_remove_0 rfl ?_
  refine w_getR C dX3_remove_1 gf_X3_34 ob_1 rfl ?_
  refine w_iload_n C 1 dX3_remove_4 rfl ?_
  obtain ⟨⟨sc1, sc2⟩, vc⟩ := vc
  refine w_iald C dX3_remove_5 ia_6 sc1 sc2 ?_
  refine w_top (fun v3 hv3 => ?_)
  have vc := vc v3 hv3
  refine w_istore_n C [(2, pI v3), (0, pR 1), (1, pI x1)] dX3_remove_6 (by decide) rfl ?_
  refine w_aload_n C 1 dX3_remove_7 rfl ?_
  refine w_getR C dX3_remove_8 gf_X3_49 ob_1 rfl ?_
  refine w_iload_n C 0 dX3_remove_11 rfl ?_
  obtain ⟨⟨sc4, sc5⟩, vc⟩ := vc
  refine w_aald C dX3_remove_12 (ra_9 C.gi) sc4 sc5 ?_
  refine w_astore_n C [(3, pR (57 + v3)), (2, pI v3), (0, pR 1), (1, pI x1)] dX3_remove_13 (by decide) rfl ?_
  refine w_aload_n C 2 dX3_remove_14 rfl ?_
  refine w_getR C dX3_remove_15 gf_X3_52 ob_1 rfl ?_
  refine w_iload_n C 1 dX3_remove_18 rfl ?_
  obtain ⟨⟨sc6, sc7⟩, vc⟩ := vc
  refine w_iald C dX3_remove_19 (ia_10 C.gi) sc6 sc7 ?_
  refine w_iconst C dX3_remove_20 ?_
  refine w_isub C dX3_remove_21 ?_
  refine w_top (fun v8 hv8 => ?_)
  have vc := vc v8 hv8
  refine w_istore C [(4, pI v8), (3, pR (57 + v3)), (2, pI v3), (0, pR 1), (1, pI x1)] dX3_remove_22 (by decide) rfl ?_
  refine w_iconst C dX3_remove_24 ?_
  refine w_istore C [(5, pI 0), (4, pI v8), (3, pR (57 + v3)), (2, pI v3), (0, pR 1), (1, pI x1)] dX3_remove_25 (by decide) rfl ?_
  exact w_sub _ [4, 5, 3, 2, 1, 0] rfl vc
def VC_X3_remove_27 (M : Nat) (K27 : Int → Int → Int → Mem → Prop) (K52 : Int → Int → Int → Int → Mem → Prop) (post : Int → Mem → Prop) (x1 : Int) (w2 : Int) (w4 : Int) (w5 : Int) (σ : Mem) : Prop :=
 (0 ≤ w2 ∧ w2 < M) ∧ (inR w5 ∧ inR w4) ∧ ((w4 ≤ w5 → K52 w2 w4 w5 w5 σ) ∧ (w5 < w4 → (0 ≤ w5 ∧ w5 < 48) ∧ (inR (σ (57 + w2) w5) ∧ inR x1) ∧ (((σ (57 + w2) w5) = x1 → K52 w2 w4 w5 w5 σ) ∧ (¬ (σ (57 + w2) w5) = x1 → K27 w2 w4 (w5 + 1) σ))))
set_option maxRecDepth 20000 in
set_option maxHeartbeats 4000000 in
theorem seg_X3_remove_27 {G : GG} {X : XX} {post : Int → Mem → Prop} (C : CX G X cX3_remove RX3 7 (some .int) 0)   (x1 : Int) (w2 : Int) (w4 : Int) (w5 : Int) (σ : Mem) (vc : VC_X3_remove_27 (gM G) (fun w2 w4 w5 σ => RW G X 7 (QI G X post) 27 [(0, pR 1), (1, pI x1), (2, pI w2), (3, pR (57 + w2)), (4, pI w4), (5, pI w5)] [] σ) (fun w2 w4 w5 w6 σ => RW G X 7 (QI G X post) 52 [(0, pR 1), (1, pI x1), (2, pI w2), (3, pR (57 + w2)), (4, pI w4), (5, pI w5), (6, pI w6)] [] σ) post  x1 w2 w4 w5 σ) : RW G X 7 (QI G X post) 27 [(0, pR 1), (1, pI x1), (2, pI w2), (3, pR (57 + w2)), (4, pI w4), (5, pI w5)] [] σ := by
  unfold VC_X3_remove_27 at vc
  obtain ⟨⟨r3a, r3b⟩, vc⟩ := vc
  refine w_iload C 5 dX3_remove_27 rfl ?_
  refine w_iload C 4 dX3_remove_29 rfl ?_
  obtain ⟨⟨sc1, sc2⟩, vc⟩ := vc
  refine w_icmp_ge C 48 dX3_remove_31 (by decide) sc1 sc2 (fun h3 => ?_) (fun h3 => ?_)
  · have vc := vc.1 h3
    refine w_iload C 5 dX3_remove_48 rfl ?_
    refine w_istore C [(6, pI w5), (0, pR 1), (1, pI x1), (2, pI w2), (3, pR (57 + w2)), (4, pI w4), (5, pI w5)] dX3_remove_50 (by decide) rfl ?_
    exact w_sub _ [1, 2, 3, 4, 5, 6, 0] rfl vc
  · have vc := vc.2 h3
    refine w_aload_n C 3 dX3_remove_34 rfl ?_
    refine w_iload C 5 dX3_remove_35 rfl ?_
    obtain ⟨⟨sc4, sc5⟩, vc⟩ := vc
    refine w_iald C dX3_remove_37 (ia_row r3a r3b) sc4 sc5 ?_
    refine w_iload_n C 1 dX3_remove_38 rfl ?_
    obtain ⟨⟨sc6, sc7⟩, vc⟩ := vc
    refine w_icmp_eq C 48 dX3_remove_39 (by decide) sc6 sc7 (fun h8 => ?_) (fun h8 => ?_)
    · have vc := vc.1 h8
      refine w_iload C 5 dX3_remove_48 rfl ?_
      refine w_istore C [(6, pI w5), (0, pR 1), (1, pI x1), (2, pI w2), (3, pR (57 + w2)), (4, pI w4), (5, pI w5)] dX3_remove_50 (by decide) rfl ?_
      exact w_sub _ [1, 2, 3, 4, 5, 6, 0] rfl vc
    · have vc := vc.2 h8
      refine w_iinc C 5 [(5, pI (w5 + 1)), (0, pR 1), (1, pI x1), (2, pI w2), (3, pR (57 + w2)), (4, pI w4)] dX3_remove_42 rfl (by decide) rfl ?_
      refine w_goto C 27 dX3_remove_45 (by decide) ?_
      exact w_sub _ [1, 2, 3, 4, 5, 0] rfl vc
def VC_X3_remove_52 (M : Nat) (K52 : Int → Int → Int → Int → Mem → Prop) (post : Int → Mem → Prop) (x1 : Int) (w2 : Int) (w4 : Int) (w5 : Int) (w6 : Int) (σ : Mem) : Prop :=
 (0 ≤ w2 ∧ w2 < M) ∧ (inR w6 ∧ inR w4) ∧ ((w4 ≤ w6 → (0 ≤ w2 ∧ w2 < M) ∧ ∀ s6 : Mem, s6 = up σ 10 w2 w4 → (0 ≤ x1 ∧ x1 < 80) ∧ ∀ s9 : Mem, s9 = up s6 8 x1 0 → ∀ s10 : Mem, s10 = up s9 1 3 ((s9 1 3) - 1) → post w5 s10) ∧ (w6 < w4 → (0 ≤ (w6 + 1) ∧ (w6 + 1) < 48) ∧ (0 ≤ w6 ∧ w6 < 48) ∧ ∀ s15 : Mem, s15 = up σ (57 + w2) w6 (σ (57 + w2) (w6 + 1)) → K52 w2 w4 w5 (w6 + 1) s15))
set_option maxRecDepth 20000 in
set_option maxHeartbeats 4000000 in
theorem seg_X3_remove_52 {G : GG} {X : XX} {post : Int → Mem → Prop} (C : CX G X cX3_remove RX3 7 (some .int) 0)   (x1 : Int) (w2 : Int) (w4 : Int) (w5 : Int) (w6 : Int) (σ : Mem) (vc : VC_X3_remove_52 (gM G) (fun w2 w4 w5 w6 σ => RW G X 7 (QI G X post) 52 [(0, pR 1), (1, pI x1), (2, pI w2), (3, pR (57 + w2)), (4, pI w4), (5, pI w5), (6, pI w6)] [] σ) post  x1 w2 w4 w5 w6 σ) : RW G X 7 (QI G X post) 52 [(0, pR 1), (1, pI x1), (2, pI w2), (3, pR (57 + w2)), (4, pI w4), (5, pI w5), (6, pI w6)] [] σ := by
  unfold VC_X3_remove_52 at vc
  obtain ⟨⟨r3a, r3b⟩, vc⟩ := vc
  refine w_iload C 6 dX3_remove_52 rfl ?_
  refine w_iload C 4 dX3_remove_54 rfl ?_
  obtain ⟨⟨sc1, sc2⟩, vc⟩ := vc
  refine w_icmp_ge C 75 dX3_remove_56 (by decide) sc1 sc2 (fun h3 => ?_) (fun h3 => ?_)
  · have vc := vc.1 h3
    refine w_aload_n C 0 dX3_remove_75 rfl ?_
    refine w_getR C dX3_remove_76 gf_X3_52 ob_1 rfl ?_
    refine w_iload_n C 2 dX3_remove_79 rfl ?_
    refine w_iload C 4 dX3_remove_80 rfl ?_
    obtain ⟨⟨sc4, sc5⟩, vc⟩ := vc
    refine w_iast C dX3_remove_82 (ia_10 C.gi) sc4 sc5 ?_
    refine w_mem (fun s6 hs6 => ?_)
    have vc := vc s6 hs6
    refine w_aload_n C 0 dX3_remove_83 rfl ?_
    refine w_getR C dX3_remove_84 gf_X3_40 ob_1 rfl ?_
    refine w_iload_n C 1 dX3_remove_87 rfl ?_
    refine w_iconst C dX3_remove_88 ?_
    obtain ⟨⟨sc7, sc8⟩, vc⟩ := vc
    refine w_bast C dX3_remove_89 ba_8 sc7 sc8 (Or.inl rfl) ?_
    refine w_mem (fun s9 hs9 => ?_)
    have vc := vc s9 hs9
    refine w_aload_n C 0 dX3_remove_90 rfl ?_
    refine w_dup C dX3_remove_91 rfl ?_
    refine w_getI C 3 dX3_remove_92 gf_X3_18 ob_1 rfl rfl ?_
    refine w_iconst C dX3_remove_95 ?_
    refine w_isub C dX3_remove_96 ?_
    refine w_putI C 3 dX3_remove_97 pf_X3_18 ob_1 rfl rfl ?_
    refine w_mem (fun s10 hs10 => ?_)
    have vc := vc s10 hs10
    refine w_iload C 5 dX3_remove_100 rfl ?_
    exact w_ireturn C dX3_remove_102 vc
  · have vc := vc.2 h3
    refine w_aload_n C 3 dX3_remove_59 rfl ?_
    refine w_iload C 6 dX3_remove_60 rfl ?_
    refine w_aload_n C 3 dX3_remove_62 rfl ?_
    refine w_iload C 6 dX3_remove_63 rfl ?_
    refine w_iconst C dX3_remove_65 ?_
    refine w_iadd C dX3_remove_66 ?_
    obtain ⟨⟨sc11, sc12⟩, vc⟩ := vc
    refine w_iald C dX3_remove_67 (ia_row r3a r3b) sc11 sc12 ?_
    obtain ⟨⟨sc13, sc14⟩, vc⟩ := vc
    refine w_iast C dX3_remove_68 (ia_row r3a r3b) sc13 sc14 ?_
    refine w_mem (fun s15 hs15 => ?_)
    have vc := vc s15 hs15
    refine w_iinc C 6 [(6, pI (w6 + 1)), (0, pR 1), (1, pI x1), (2, pI w2), (3, pR (57 + w2)), (4, pI w4), (5, pI w5)] dX3_remove_69 rfl (by decide) rfl ?_
    refine w_goto C 52 dX3_remove_72 (by decide) ?_
    exact w_sub _ [1, 2, 3, 4, 5, 6, 0] rfl vc
set_option maxHeartbeats 1000000 in
theorem ok_X3_remove_0 {M : Nat} {x1 : Int} {σ : Mem} {K27 : Int → Int → Int → Mem → Prop} (h : pre_X3_remove M x1 σ) (hK27 : ∀ (y2 y4 y5 : Int) (τ' : Mem), inv_X3_remove_27 M x1 σ y2 y4 y5 τ' → K27 y2 y4 y5 τ') : VC_X3_remove_0 M K27 (post_X3_remove M x1 σ) x1 σ := by
  obtain ⟨a1, a2, a3, a4, a5, a6, a7, i, b1, b2, b3⟩ := h
  refine ⟨⟨a1, a2⟩, fun v e => ?_⟩
  subst e
  refine ⟨⟨a3, a4⟩, ⟨a3, a4⟩, fun v e => ?_⟩
  subst e
  exact hK27 _ _ _ _ ⟨rfl, rfl, rfl, by omega, by omega, fun i h1 h2 => by omega⟩
set_option maxHeartbeats 1000000 in
theorem ok_X3_remove_27 {M : Nat} {x1 : Int} {σ : Mem} {w2 w4 w5 : Int} {τ : Mem} {K27 : Int → Int → Int → Mem → Prop} {K52 : Int → Int → Int → Int → Mem → Prop} (h : pre_X3_remove M x1 σ) (hinv : inv_X3_remove_27 M x1 σ w2 w4 w5 τ) (hK27 : ∀ (y2 y4 y5 : Int) (τ' : Mem), inv_X3_remove_27 M x1 σ y2 y4 y5 τ' → mu_X3_remove_27 x1 y2 y4 y5 τ' < mu_X3_remove_27 x1 w2 w4 w5 τ → K27 y2 y4 y5 τ') (hK52 : ∀ (y2 y4 y5 y6 : Int) (τ' : Mem), inv_X3_remove_52 M x1 σ y2 y4 y5 y6 τ' → mu_X3_remove_52 x1 y2 y4 y5 y6 τ' < mu_X3_remove_27 x1 w2 w4 w5 τ → K52 y2 y4 y5 y6 τ') : VC_X3_remove_27 M K27 K52 (post_X3_remove M x1 σ) x1 w2 w4 w5 τ := by
  obtain ⟨a1, a2, a3, a4, a5, a6, a7, i, b1, b2, b3⟩ := h
  obtain ⟨rfl, rfl, rfl, c1, c2, c3⟩ := hinv
  have hi : w5 ≤ i := by
    apply Int.not_lt.mp
    intro q
    exact c3 i b1 q b3
  refine ⟨⟨a3, a4⟩, ⟨⟨by omega, by omega⟩, ⟨by omega, by omega⟩⟩, fun g => ?_, fun g => ⟨⟨by omega, by omega⟩, ?_, fun g2 => ?_, fun g2 => ?_⟩⟩
  · have : w5 = i := by omega
    subst this
    refine hK52 _ _ _ _ _ ⟨rfl, rfl, c1, by omega, by omega, b3, ?_⟩ ?_
    · funext c j
      rw [if_neg (by omega)]
    · unfold mu_X3_remove_52 mu_X3_remove_27; omega
  · have := a7 w5 c1 (by omega)
    exact ⟨⟨by omega, by omega⟩, ⟨by omega, by omega⟩⟩
  · refine hK52 _ _ _ _ _ ⟨rfl, rfl, c1, by omega, by omega, g2, ?_⟩ ?_
    · funext c j
      rw [if_neg (by omega)]
    · unfold mu_X3_remove_52 mu_X3_remove_27; omega
  · refine hK27 _ _ _ _ ⟨rfl, rfl, rfl, by omega, by omega, fun j h1 h2 => ?_⟩ ?_
    · by_cases e : j = w5
      · subst e; exact g2
      · exact c3 j h1 (by omega)
    · unfold mu_X3_remove_27; omega
set_option maxHeartbeats 1000000 in
theorem ok_X3_remove_52 {M : Nat} {x1 : Int} {σ : Mem} {w2 w4 w5 w6 : Int} {τ : Mem} {K52 : Int → Int → Int → Int → Mem → Prop} (h : pre_X3_remove M x1 σ) (hinv : inv_X3_remove_52 M x1 σ w2 w4 w5 w6 τ) (hK52 : ∀ (y2 y4 y5 y6 : Int) (τ' : Mem), inv_X3_remove_52 M x1 σ y2 y4 y5 y6 τ' → mu_X3_remove_52 x1 y2 y4 y5 y6 τ' < mu_X3_remove_52 x1 w2 w4 w5 w6 τ → K52 y2 y4 y5 y6 τ') : VC_X3_remove_52 M K52 (post_X3_remove M x1 σ) x1 w2 w4 w5 w6 τ := by
  obtain ⟨a1, a2, a3, a4, a5, a6, a7, i, b1, b2, b3⟩ := h
  obtain ⟨rfl, rfl, c1, c2, c3, c4, rfl⟩ := hinv
  refine ⟨⟨a3, a4⟩, ⟨⟨by omega, by omega⟩, ⟨by omega, by omega⟩⟩, fun g => ⟨⟨a3, a4⟩, fun s6 e6 => ⟨⟨a1, a2⟩, fun s9 e9 s10 e10 => ⟨c1, by omega, c4, ?_⟩⟩⟩, fun g => ⟨⟨by omega, by omega⟩, ⟨by omega, by omega⟩, fun s15 e15 => hK52 _ _ _ _ _ ⟨rfl, rfl, c1, by omega, by omega, c4, ?_⟩ ?_⟩⟩
  · have : w6 = σ 10 (σ 6 x1) - 1 := by omega
    subst this
    rw [e10, e9, e6]
    funext c j
    simp only [m_remove, up]
    grind
  · rw [e15]
    funext c j
    simp only [up]
    grind
  · unfold mu_X3_remove_52; omega
theorem c_X3_remove {G : GG} (hG : GI G) (l : Launch) (x1 : Int) (σ : Mem) (h : pre_X3_remove (gM G) x1 σ) : CtI G l yX3_remove cX3_remove 7 (some .int) 0 [pR 1, pI x1] σ (post_X3_remove (gM G) x1 σ) := by
  refine CtI.of hG (by decide) (Nat.le_of_ble_eq_true rfl) (fun X hl C => ?_)
  show RW G X 7 (QI G X _) 0 [(0, pR 1), (1, pI x1)] [] σ
  have key : ∀ n : Nat, (∀ (w2 w4 w5 : Int) (τ : Mem), inv_X3_remove_27 (gM G) x1 σ w2 w4 w5 τ → mu_X3_remove_27 x1 w2 w4 w5 τ < n → RW G X 7 (QI G X (post_X3_remove (gM G) x1 σ)) 27 [(0, pR 1), (1, pI x1), (2, pI w2), (3, pR (57 + w2)), (4, pI w4), (5, pI w5)] [] τ) ∧ (∀ (w2 w4 w5 w6 : Int) (τ : Mem), inv_X3_remove_52 (gM G) x1 σ w2 w4 w5 w6 τ → mu_X3_remove_52 x1 w2 w4 w5 w6 τ < n → RW G X 7 (QI G X (post_X3_remove (gM G) x1 σ)) 52 [(0, pR 1), (1, pI x1), (2, pI w2), (3, pR (57 + w2)), (4, pI w4), (5, pI w5), (6, pI w6)] [] τ) := by
    intro n
    induction n with
    | zero => exact ⟨fun w2 w4 w5 τ _ h0 => absurd h0 (Nat.not_lt_zero _), fun w2 w4 w5 w6 τ _ h0 => absurd h0 (Nat.not_lt_zero _)⟩
    | succ n ih =>
      exact ⟨(fun w2 w4 w5 τ hinv h0 => seg_X3_remove_27 C x1 w2 w4 w5 τ (ok_X3_remove_27 h hinv (fun y2 y4 y5 τ' hi hm => ih.1 y2 y4 y5 τ' hi (Nat.lt_of_lt_of_le hm (Nat.le_of_lt_succ h0))) (fun y2 y4 y5 y6 τ' hi hm => ih.2 y2 y4 y5 y6 τ' hi (Nat.lt_of_lt_of_le hm (Nat.le_of_lt_succ h0))))), (fun w2 w4 w5 w6 τ hinv h0 => seg_X3_remove_52 C x1 w2 w4 w5 w6 τ (ok_X3_remove_52 h hinv (fun y2 y4 y5 y6 τ' hi hm => ih.2 y2 y4 y5 y6 τ' hi (Nat.lt_of_lt_of_le hm (Nat.le_of_lt_succ h0)))))⟩
  exact seg_X3_remove_0 C x1 σ (ok_X3_remove_0 h (fun y2 y4 y5 τ' hi => (key _).1 y2 y4 y5 τ' hi (Nat.lt_succ_self _)))
end
section
/-! X2_endOf -/
def f_X2_endOf (t x1 : Int) (σ : Mem) : Int := σ (t + 1) x1 + σ 7 x1
def pre_X2_endOf (M : Nat) (t x1 : Int) (σ : Mem) : Prop := 0 ≤ x1 ∧ x1 < 80
def VC_X2_endOf_0 (M : Nat) (post : Int → Mem → Prop) (t : Int) (x1 : Int) (σ : Mem) : Prop :=
 (0 ≤ x1 ∧ x1 < 80) ∧ (0 ≤ x1 ∧ x1 < 80) ∧ post ((σ (t + 1) x1) + (σ 7 x1)) σ
set_option maxRecDepth 20000 in
set_option maxHeartbeats 4000000 in
theorem seg_X2_endOf_0 {G : GG} {X : XX} {post : Int → Mem → Prop} (C : CX G X cX2_endOf RX2 2 (some .int) 0) {t : Int} (ht : t = 12 ∨ t = 19) (x1 : Int) (σ : Mem) (vc : VC_X2_endOf_0 (gM G)  post t x1 σ) : RW G X 2 (QI G X post) 0 [(0, pR t), (1, pI x1)] [] σ := by
  unfold VC_X2_endOf_0 at vc
  refine w_aload_n C 0 dX2_endOf_0 rfl ?_
  refine w_getR C dX2_endOf_1 gf_X2_15 (ob_t ht) rfl ?_
  refine w_iload_n C 1 dX2_endOf_4 rfl ?_
  obtain ⟨⟨sc1, sc2⟩, vc⟩ := vc
  refine w_iald C dX2_endOf_5 (ia_t1 ht) sc1 sc2 ?_
  refine w_aload_n C 0 dX2_endOf_6 rfl ?_
  refine w_getR C dX2_endOf_7 gf_X2_37 (ob_t ht) rfl ?_
  refine w_getR C dX2_endOf_10 gf_X2_93 ob_1 rfl ?_
  refine w_iload_n C 1 dX2_endOf_13 rfl ?_
  obtain ⟨⟨sc3, sc4⟩, vc⟩ := vc
  refine w_iald C dX2_endOf_14 ia_7 sc3 sc4 ?_
  refine w_iadd C dX2_endOf_15 ?_
  exact w_ireturn C dX2_endOf_16 vc
set_option maxHeartbeats 1000000 in
theorem ok_X2_endOf_0 {M : Nat} {t : Int} {x1 : Int} {σ : Mem} (ht : t = 12 ∨ t = 19) (h : pre_X2_endOf M t x1 σ) : VC_X2_endOf_0 M (fun z σ' => z = f_X2_endOf t x1 σ ∧ σ' = σ) t x1 σ := by
  exact ⟨h, h, rfl, rfl⟩
theorem c_X2_endOf {G : GG} (hG : GI G) (l : Launch) (t : Int) (x1 : Int) (σ : Mem) (ht : t = 12 ∨ t = 19) (h : pre_X2_endOf (gM G) t x1 σ) : CtI G l yX2_endOf cX2_endOf 2 (some .int) 0 [pR t, pI x1] σ (fun z σ' => z = f_X2_endOf t x1 σ ∧ σ' = σ) := by
  refine CtI.of hG (by decide) (Nat.le_of_ble_eq_true rfl) (fun X hl C => ?_)
  show RW G X 2 (QI G X _) 0 [(0, pR t), (1, pI x1)] [] σ
  exact seg_X2_endOf_0 C ht x1 σ (ok_X2_endOf_0 ht h)

/-! X2_isReady -/
def P_X2_isReady (t x1 : Int) (σ : Mem) : Prop := σ (t + 5) (x1 / 10) = x1 % 10
def pre_X2_isReady (M : Nat) (t x1 : Int) (σ : Mem) : Prop := 0 ≤ x1 ∧ x1 < 80 ∧ 0 ≤ σ (t + 5) (x1 / 10) ∧ σ (t + 5) (x1 / 10) ≤ 10
def VC_X2_isReady_0 (M : Nat) (post : Int → Mem → Prop) (t : Int) (x1 : Int) (σ : Mem) : Prop :=
 (0 ≤ x1 ∧ inR x1) ∧ (0 ≤ (x1 / 10) ∧ (x1 / 10) < 8) ∧ (0 ≤ x1 ∧ inR x1) ∧ (inR (σ (t + 5) (x1 / 10)) ∧ inR (x1 % 10)) ∧ ((¬ (σ (t + 5) (x1 / 10)) = (x1 % 10) → post 0 σ) ∧ ((σ (t + 5) (x1 / 10)) = (x1 % 10) → post 1 σ))
set_option maxRecDepth 20000 in
set_option maxHeartbeats 4000000 in
theorem seg_X2_isReady_0 {G : GG} {X : XX} {post : Int → Mem → Prop} (C : CX G X cX2_isReady RX2 2 (some .boolean) 0) {t : Int} (ht : t = 12 ∨ t = 19) (x1 : Int) (σ : Mem) (vc : VC_X2_isReady_0 (gM G)  post t x1 σ) : RW G X 2 (QI G X post) 0 [(0, pR t), (1, pI x1)] [] σ := by
  unfold VC_X2_isReady_0 at vc
  refine w_aload_n C 0 dX2_isReady_0 rfl ?_
  refine w_getR C dX2_isReady_1 gf_X2_31 (ob_t ht) rfl ?_
  refine w_iload_n C 1 dX2_isReady_4 rfl ?_
  refine w_bipush C dX2_isReady_5 (by decide) ?_
  obtain ⟨⟨sc1, sc2⟩, vc⟩ := vc
  refine w_idivN C dX2_isReady_7 sc1 sc2 ⟨by omega, by omega⟩ (by omega) ?_
  obtain ⟨⟨sc3, sc4⟩, vc⟩ := vc
  refine w_iald C dX2_isReady_8 (ia_t5 ht) sc3 sc4 ?_
  refine w_iload_n C 1 dX2_isReady_9 rfl ?_
  refine w_bipush C dX2_isReady_10 (by decide) ?_
  obtain ⟨⟨sc5, sc6⟩, vc⟩ := vc
  refine w_iremN C dX2_isReady_12 sc5 sc6 ⟨by omega, by omega⟩ (by omega) ?_
  obtain ⟨⟨sc7, sc8⟩, vc⟩ := vc
  refine w_icmp_ne C 20 dX2_isReady_13 (by decide) sc7 sc8 (fun h9 => ?_) (fun h9 => ?_)
  · have vc := vc.1 h9
    refine w_iconst C dX2_isReady_20 ?_
    exact w_zreturn C dX2_isReady_21 (Or.inl rfl) vc
  · have vc := vc.2 h9
    refine w_iconst C dX2_isReady_16 ?_
    refine w_goto C 21 dX2_isReady_17 (by decide) ?_
    exact w_zreturn C dX2_isReady_21 (Or.inr rfl) vc
set_option maxHeartbeats 1000000 in
theorem ok_X2_isReady_0 {M : Nat} {t : Int} {x1 : Int} {σ : Mem} (ht : t = 12 ∨ t = 19) (h : pre_X2_isReady M t x1 σ) : VC_X2_isReady_0 M (fun z σ' => σ' = σ ∧ (P_X2_isReady t x1 σ ∧ z = 1 ∨ ¬ P_X2_isReady t x1 σ ∧ z = 0)) t x1 σ := by
  obtain ⟨a1, a2, a3, a4⟩ := h
  exact ⟨⟨a1, by omega, by omega⟩, ⟨by omega, by omega⟩, ⟨a1, by omega, by omega⟩, ⟨⟨by omega, by omega⟩, ⟨by omega, by omega⟩⟩, fun g => ⟨rfl, Or.inr ⟨g, rfl⟩⟩, fun g => ⟨rfl, Or.inl ⟨g, rfl⟩⟩⟩
theorem c_X2_isReady {G : GG} (hG : GI G) (l : Launch) (t : Int) (x1 : Int) (σ : Mem) (ht : t = 12 ∨ t = 19) (h : pre_X2_isReady (gM G) t x1 σ) : CtI G l yX2_isReady cX2_isReady 2 (some .boolean) 0 [pR t, pI x1] σ (fun z σ' => σ' = σ ∧ (P_X2_isReady t x1 σ ∧ z = 1 ∨ ¬ P_X2_isReady t x1 σ ∧ z = 0)) := by
  refine CtI.of hG (by decide) (Nat.le_of_ble_eq_true rfl) (fun X hl C => ?_)
  show RW G X 2 (QI G X _) 0 [(0, pR t), (1, pI x1)] [] σ
  exact seg_X2_isReady_0 C ht x1 σ (ok_X2_isReady_0 ht h)

/-! X2_endOfJob -/
def f_X2_endOfJob (t x1 : Int) (σ : Mem) : Int := if σ 5 x1 = 0 then σ 2 x1 else f_X2_endOf t (10 * x1 + σ 5 x1 - 1) σ
def pre_X2_endOfJob (M : Nat) (t x1 : Int) (σ : Mem) : Prop := SB M σ ∧ 0 ≤ x1 ∧ x1 < 8
def VC_X2_endOfJob_0 (M : Nat) (post : Int → Mem → Prop) (t : Int) (x1 : Int) (σ : Mem) : Prop :=
 (0 ≤ x1 ∧ x1 < 8) ∧ ∀ v3 : Int, v3 = σ 5 x1 → (inR v3) ∧ ((¬ v3 = 0 → (pre_X2_endOf M t (((10 * x1) + v3) - 1) σ) ∧ post (f_X2_endOf t (((10 * x1) + v3) - 1) σ) σ) ∧ (v3 = 0 → (0 ≤ x1 ∧ x1 < 8) ∧ post (σ 2 x1) σ))
set_option maxRecDepth 20000 in
set_option maxHeartbeats 4000000 in
theorem seg_X2_endOfJob_0 {G : GG} {X : XX} {post : Int → Mem → Prop} (C : CX G X cX2_endOfJob RX2 3 (some .int) 1) {t : Int} (ht : t = 12 ∨ t = 19) (x1 : Int) (σ : Mem) (vc : VC_X2_endOfJob_0 (gM G)  post t x1 σ) : RW G X 3 (QI G X post) 0 [(0, pR t), (1, pI x1)] [] σ := by
  unfold VC_X2_endOfJob_0 at vc
  refine w_aload_n C 0 dX2_endOfJob_0 rfl ?_
  refine w_getR C dX2_endOfJob_1 gf_X2_37 (ob_t ht) rfl ?_
  refine w_getR C dX2_endOfJob_4 gf_X2_96 ob_1 rfl ?_
  refine w_iload_n C 1 dX2_endOfJob_7 rfl ?_
  obtain ⟨⟨sc1, sc2⟩, vc⟩ := vc
  refine w_iald C dX2_endOfJob_8 ia_5 sc1 sc2 ?_
  refine w_top (fun v3 hv3 => ?_)
  have vc := vc v3 hv3
  refine w_istore_n C [(2, pI v3), (0, pR t), (1, pI x1)] dX2_endOfJob_9 (by decide) rfl ?_
  refine w_iload_n C 0 dX2_endOfJob_10 rfl ?_
  obtain ⟨sc4, vc⟩ := vc
  refine w_if_ne C 26 dX2_endOfJob_11 (by decide) sc4 (fun h5 => ?_) (fun h5 => ?_)
  · have vc := vc.1 h5
    refine w_aload_n C 1 dX2_endOfJob_26 rfl ?_
    refine w_bipush C dX2_endOfJob_27 (by decide) ?_
    refine w_iload_n C 2 dX2_endOfJob_29 rfl ?_
    refine w_imul C dX2_endOfJob_30 ?_
    refine w_iload_n C 0 dX2_endOfJob_31 rfl ?_
    refine w_iadd C dX2_endOfJob_32 ?_
    refine w_iconst C dX2_endOfJob_33 ?_
    refine w_isub C dX2_endOfJob_34 ?_
    obtain ⟨sc6, vc⟩ := vc
    refine w_callVI C [pI (((10 * x1) + v3) - 1)] [] rfl dX2_endOfJob_35 (c_X2_endOf C.gi (xL X) t (((10 * x1) + v3) - 1) σ ht sc6) (oc_t ht) mw_X2_endOf ml_X2_79 im_X2_endOf se_X2_endOf (by decide) (Nat.le_of_ble_eq_true rfl) (fun z σ' hz => ?_)
    obtain ⟨rfl, hz2⟩ := hz
    have hz2 := hz2.symm
    subst hz2
    exact w_ireturn C dX2_endOfJob_38 vc
  · have vc := vc.2 h5
    refine w_aload_n C 1 dX2_endOfJob_14 rfl ?_
    refine w_getR C dX2_endOfJob_15 gf_X2_37 (ob_t ht) rfl ?_
    refine w_getR C dX2_endOfJob_18 gf_X2_76 ob_1 rfl ?_
    refine w_iload_n C 2 dX2_endOfJob_21 rfl ?_
    obtain ⟨⟨sc7, sc8⟩, vc⟩ := vc
    refine w_iald C dX2_endOfJob_22 ia_2 sc7 sc8 ?_
    refine w_goto C 38 dX2_endOfJob_23 (by decide) ?_
    exact w_ireturn C dX2_endOfJob_38 vc
set_option maxHeartbeats 1000000 in
theorem ok_X2_endOfJob_0 {M : Nat} {t : Int} {x1 : Int} {σ : Mem} (ht : t = 12 ∨ t = 19) (h : pre_X2_endOfJob M t x1 σ) : VC_X2_endOfJob_0 M (fun z σ' => z = f_X2_endOfJob t x1 σ ∧ σ' = σ) t x1 σ := by
  obtain ⟨⟨a1, a2, a3, a4, a5, a6⟩, b1, b2⟩ := h
  have := a5 x1 b1 b2
  refine ⟨⟨b1, b2⟩, fun v e => ?_⟩
  subst e
  refine ⟨⟨by omega, by omega⟩, fun g => ⟨⟨by omega, by omega⟩, ?_, rfl⟩, fun g => ⟨⟨b1, b2⟩, ?_, rfl⟩⟩
  · unfold f_X2_endOfJob; rw [if_neg g]
  · unfold f_X2_endOfJob; rw [if_pos g]
theorem c_X2_endOfJob {G : GG} (hG : GI G) (l : Launch) (t : Int) (x1 : Int) (σ : Mem) (ht : t = 12 ∨ t = 19) (h : pre_X2_endOfJob (gM G) t x1 σ) : CtI G l yX2_endOfJob cX2_endOfJob 3 (some .int) 1 [pR t, pI x1] σ (fun z σ' => z = f_X2_endOfJob t x1 σ ∧ σ' = σ) := by
  refine CtI.of hG (by decide) (Nat.le_of_ble_eq_true rfl) (fun X hl C => ?_)
  show RW G X 3 (QI G X _) 0 [(0, pR t), (1, pI x1)] [] σ
  exact seg_X2_endOfJob_0 C ht x1 σ (ok_X2_endOfJob_0 ht h)

/-! X2_slackOf -/
def f_X2_slackOf (t x1 : Int) (σ : Mem) : Int := σ t 1 - σ (t + 1) x1 - σ (t + 2) x1
def pre_X2_slackOf (M : Nat) (t x1 : Int) (σ : Mem) : Prop := 0 ≤ x1 ∧ x1 < 80
def VC_X2_slackOf_0 (M : Nat) (post : Int → Mem → Prop) (t : Int) (x1 : Int) (σ : Mem) : Prop :=
 (0 ≤ x1 ∧ x1 < 80) ∧ (0 ≤ x1 ∧ x1 < 80) ∧ post (((σ t 1) - (σ (t + 1) x1)) - (σ (t + 2) x1)) σ
set_option maxRecDepth 20000 in
set_option maxHeartbeats 4000000 in
theorem seg_X2_slackOf_0 {G : GG} {X : XX} {post : Int → Mem → Prop} (C : CX G X cX2_slackOf RX2 2 (some .int) 0) {t : Int} (ht : t = 12 ∨ t = 19) (x1 : Int) (σ : Mem) (vc : VC_X2_slackOf_0 (gM G)  post t x1 σ) : RW G X 2 (QI G X post) 0 [(0, pR t), (1, pI x1)] [] σ := by
  unfold VC_X2_slackOf_0 at vc
  refine w_aload_n C 0 dX2_slackOf_0 rfl ?_
  refine w_getI C 1 dX2_slackOf_1 gf_X2_9 (ob_t ht) rfl rfl ?_
  refine w_aload_n C 0 dX2_slackOf_4 rfl ?_
  refine w_getR C dX2_slackOf_5 gf_X2_15 (ob_t ht) rfl ?_
  refine w_iload_n C 1 dX2_slackOf_8 rfl ?_
  obtain ⟨⟨sc1, sc2⟩, vc⟩ := vc
  refine w_iald C dX2_slackOf_9 (ia_t1 ht) sc1 sc2 ?_
  refine w_isub C dX2_slackOf_10 ?_
  refine w_aload_n C 0 dX2_slackOf_11 rfl ?_
  refine w_getR C dX2_slackOf_12 gf_X2_19 (ob_t ht) rfl ?_
  refine w_iload_n C 1 dX2_slackOf_15 rfl ?_
  obtain ⟨⟨sc3, sc4⟩, vc⟩ := vc
  refine w_iald C dX2_slackOf_16 (ia_t2 ht) sc3 sc4 ?_
  refine w_isub C dX2_slackOf_17 ?_
  exact w_ireturn C dX2_slackOf_18 vc
set_option maxHeartbeats 1000000 in
theorem ok_X2_slackOf_0 {M : Nat} {t : Int} {x1 : Int} {σ : Mem} (ht : t = 12 ∨ t = 19) (h : pre_X2_slackOf M t x1 σ) : VC_X2_slackOf_0 M (fun z σ' => z = f_X2_slackOf t x1 σ ∧ σ' = σ) t x1 σ := by
  exact ⟨h, h, rfl, rfl⟩
theorem c_X2_slackOf {G : GG} (hG : GI G) (l : Launch) (t : Int) (x1 : Int) (σ : Mem) (ht : t = 12 ∨ t = 19) (h : pre_X2_slackOf (gM G) t x1 σ) : CtI G l yX2_slackOf cX2_slackOf 2 (some .int) 0 [pR t, pI x1] σ (fun z σ' => z = f_X2_slackOf t x1 σ ∧ σ' = σ) := by
  refine CtI.of hG (by decide) (Nat.le_of_ble_eq_true rfl) (fun X hl C => ?_)
  show RW G X 2 (QI G X _) 0 [(0, pR t), (1, pI x1)] [] σ
  exact seg_X2_slackOf_0 C ht x1 σ (ok_X2_slackOf_0 ht h)

/-! X2_restInJob -/
def f_X2_restInJob (t x1 : Int) (σ : Mem) : Int := if x1 % 10 + 1 = σ 5 (x1 / 10) then 0 else σ (t + 2) (x1 + 1)
def pre_X2_restInJob (M : Nat) (t x1 : Int) (σ : Mem) : Prop := SB M σ ∧ 0 ≤ x1 ∧ x1 < 79
def VC_X2_restInJob_0 (M : Nat) (post : Int → Mem → Prop) (t : Int) (x1 : Int) (σ : Mem) : Prop :=
 (0 ≤ x1 ∧ inR x1) ∧ (0 ≤ x1 ∧ inR x1) ∧ (0 ≤ (x1 / 10) ∧ (x1 / 10) < 8) ∧ (inR ((x1 % 10) + 1) ∧ inR (σ 5 (x1 / 10))) ∧ ((¬ ((x1 % 10) + 1) = (σ 5 (x1 / 10)) → True) ∧ (((x1 % 10) + 1) = (σ 5 (x1 / 10)) → True) ∧ ∀ j11 : Int, (¬ ((x1 % 10) + 1) = (σ 5 (x1 / 10)) → j11 = 0) → (((x1 % 10) + 1) = (σ 5 (x1 / 10)) → j11 = 1) → (inR j11) ∧ ((j11 = 0 → (0 ≤ (x1 + 1) ∧ (x1 + 1) < 80) ∧ post (σ (t + 2) (x1 + 1)) σ) ∧ (¬ j11 = 0 → post 0 σ)))
set_option maxRecDepth 20000 in
set_option maxHeartbeats 4000000 in
theorem seg_X2_restInJob_0 {G : GG} {X : XX} {post : Int → Mem → Prop} (C : CX G X cX2_restInJob RX2 3 (some .int) 0) {t : Int} (ht : t = 12 ∨ t = 19) (x1 : Int) (σ : Mem) (vc : VC_X2_restInJob_0 (gM G)  post t x1 σ) : RW G X 3 (QI G X post) 0 [(0, pR t), (1, pI x1)] [] σ := by
  unfold VC_X2_restInJob_0 at vc
  refine w_iload_n C 1 dX2_restInJob_0 rfl ?_
  refine w_bipush C dX2_restInJob_1 (by decide) ?_
  obtain ⟨⟨sc1, sc2⟩, vc⟩ := vc
  refine w_iremN C dX2_restInJob_3 sc1 sc2 ⟨by omega, by omega⟩ (by omega) ?_
  refine w_iconst C dX2_restInJob_4 ?_
  refine w_iadd C dX2_restInJob_5 ?_
  refine w_aload_n C 0 dX2_restInJob_6 rfl ?_
  refine w_getR C dX2_restInJob_7 gf_X2_37 (ob_t ht) rfl ?_
  refine w_getR C dX2_restInJob_10 gf_X2_96 ob_1 rfl ?_
  refine w_iload_n C 1 dX2_restInJob_13 rfl ?_
  refine w_bipush C dX2_restInJob_14 (by decide) ?_
  obtain ⟨⟨sc3, sc4⟩, vc⟩ := vc
  refine w_idivN C dX2_restInJob_16 sc3 sc4 ⟨by omega, by omega⟩ (by omega) ?_
  obtain ⟨⟨sc5, sc6⟩, vc⟩ := vc
  refine w_iald C dX2_restInJob_17 ia_5 sc5 sc6 ?_
  obtain ⟨⟨sc7, sc8⟩, vc⟩ := vc
  have key10 : ∀ j11 : Int, (¬ ((x1 % 10) + 1) = (σ 5 (x1 / 10)) → j11 = 0) → (((x1 % 10) + 1) = (σ 5 (x1 / 10)) → j11 = 1) → RW G X 3 (QI G X post) 26 [(0, pR t), (1, pI x1)] [pI j11] σ := by
    intro j11 hj12 hj13
    have vc := vc.2.2 j11 hj12 hj13
    refine w_istore_n C [(2, pI j11), (0, pR t), (1, pI x1)] dX2_restInJob_26 (by decide) rfl ?_
    refine w_iload_n C 0 dX2_restInJob_27 rfl ?_
    obtain ⟨sc14, vc⟩ := vc
    refine w_if_eq C 35 dX2_restInJob_28 (by decide) sc14 (fun h15 => ?_) (fun h15 => ?_)
    · have vc := vc.1 h15
      refine w_aload_n C 1 dX2_restInJob_35 rfl ?_
      refine w_getR C dX2_restInJob_36 gf_X2_19 (ob_t ht) rfl ?_
      refine w_iload_n C 2 dX2_restInJob_39 rfl ?_
      refine w_iconst C dX2_restInJob_40 ?_
      refine w_iadd C dX2_restInJob_41 ?_
      obtain ⟨⟨sc16, sc17⟩, vc⟩ := vc
      refine w_iald C dX2_restInJob_42 (ia_t2 ht) sc16 sc17 ?_
      exact w_ireturn C dX2_restInJob_43 vc
    · have vc := vc.2 h15
      refine w_iconst C dX2_restInJob_31 ?_
      refine w_goto C 43 dX2_restInJob_32 (by decide) ?_
      exact w_ireturn C dX2_restInJob_43 vc
  refine w_icmp_ne C 25 dX2_restInJob_18 (by decide) sc7 sc8 (fun h9 => ?_) (fun h9 => ?_)
  · have vc := vc.1 h9
    refine w_iconst C dX2_restInJob_25 ?_
    exact key10 _ (by intros; first | rfl | omega | (exfalso; omega) | contradiction) (by intros; first | rfl | omega | (exfalso; omega) | contradiction)
  · have vc := vc.2.1 h9
    refine w_iconst C dX2_restInJob_21 ?_
    refine w_goto C 26 dX2_restInJob_22 (by decide) ?_
    exact key10 _ (by intros; first | rfl | omega | (exfalso; omega) | contradiction) (by intros; first | rfl | omega | (exfalso; omega) | contradiction)
set_option maxHeartbeats 1000000 in
theorem ok_X2_restInJob_0 {M : Nat} {t : Int} {x1 : Int} {σ : Mem} (ht : t = 12 ∨ t = 19) (h : pre_X2_restInJob M t x1 σ) : VC_X2_restInJob_0 M (fun z σ' => z = f_X2_restInJob t x1 σ ∧ σ' = σ) t x1 σ := by
  obtain ⟨⟨a1, a2, a3, a4, a5, a6⟩, b1, b2⟩ := h
  have := a5 (x1 / 10) (by omega) (by omega)
  refine ⟨⟨b1, by omega, by omega⟩, ⟨b1, by omega, by omega⟩, ⟨by omega, by omega⟩, ⟨⟨by omega, by omega⟩, ⟨by omega, by omega⟩⟩, fun _ => trivial, fun _ => trivial, fun j e1 e2 => ?_⟩
  by_cases g : x1 % 10 + 1 = σ 5 (x1 / 10)
  · have := e2 g
    subst this
    refine ⟨⟨by omega, by omega⟩, fun q => by omega, fun q => ⟨?_, rfl⟩⟩
    unfold f_X2_restInJob; rw [if_pos g]
  · have := e1 g
    subst this
    refine ⟨⟨by omega, by omega⟩, fun q => ⟨⟨by omega, by omega⟩, ?_, rfl⟩, fun q => absurd rfl q⟩
    unfold f_X2_restInJob; rw [if_neg g]
theorem c_X2_restInJob {G : GG} (hG : GI G) (l : Launch) (t : Int) (x1 : Int) (σ : Mem) (ht : t = 12 ∨ t = 19) (h : pre_X2_restInJob (gM G) t x1 σ) : CtI G l yX2_restInJob cX2_restInJob 3 (some .int) 0 [pR t, pI x1] σ (fun z σ' => z = f_X2_restInJob t x1 σ ∧ σ' = σ) := by
  refine CtI.of hG (by decide) (Nat.le_of_ble_eq_true rfl) (fun X hl C => ?_)
  show RW G X 3 (QI G X _) 0 [(0, pR t), (1, pI x1)] [] σ
  exact seg_X2_restInJob_0 C ht x1 σ (ok_X2_restInJob_0 ht h)

/-! X2_restInOrder -/
def f_X2_restInOrder (t x1 : Int) (σ : Mem) : Int := if σ (t + 3) x1 + 1 < σ 10 (σ 6 x1) then σ 11 ((σ 6 x1 * 8 + x1 / 10) * 8 + σ (57 + σ 6 x1) (σ (t + 3) x1 + 1) / 10) + σ (t + 2) (σ (57 + σ 6 x1) (σ (t + 3) x1 + 1)) else 0
def pre_X2_restInOrder (M : Nat) (t x1 : Int) (σ : Mem) : Prop := WN M σ ∧ WO M σ ∧ 0 ≤ x1 ∧ x1 < 80 ∧ 0 ≤ σ (t + 3) x1 ∧ σ (t + 3) x1 ≤ 48
def VC_X2_restInOrder_0 (M : Nat) (post : Int → Mem → Prop) (t : Int) (x1 : Int) (σ : Mem) : Prop :=
 (0 ≤ x1 ∧ x1 < 80) ∧ ∀ v3 : Int, v3 = σ 6 x1 → (0 ≤ x1 ∧ x1 < 80) ∧ ∀ v6 : Int, v6 = (σ (t + 3) x1) + 1 → (0 ≤ v3 ∧ v3 < M) ∧ (inR v6 ∧ inR (σ 10 v3)) ∧ ((v6 < (σ 10 v3) → (0 ≤ v3 ∧ v3 < M) ∧ (0 ≤ v6 ∧ v6 < 48) ∧ ∀ v16 : Int, v16 = σ (57 + v3) v6 → (0 ≤ x1 ∧ inR x1) ∧ (0 ≤ v16 ∧ inR v16) ∧ (pre_X3_changeBetween M v3 (x1 / 10) (v16 / 10) σ) ∧ (0 ≤ v16 ∧ v16 < 80) ∧ post ((f_X3_changeBetween v3 (x1 / 10) (v16 / 10) σ) + (σ (t + 2) v16)) σ) ∧ ((σ 10 v3) ≤ v6 → post 0 σ))
set_option maxRecDepth 20000 in
set_option maxHeartbeats 4000000 in
theorem seg_X2_restInOrder_0 {G : GG} {X : XX} {post : Int → Mem → Prop} (C : CX G X cX2_restInOrder RX2 5 (some .int) 1) {t : Int} (ht : t = 12 ∨ t = 19) (x1 : Int) (σ : Mem) (vc : VC_X2_restInOrder_0 (gM G)  post t x1 σ) : RW G X 5 (QI G X post) 0 [(0, pR t), (1, pI x1)] [] σ := by
  unfold VC_X2_restInOrder_0 at vc
  refine w_aload_n C 0 dX2_restInOrder_0 rfl ?_
  refine w_getR C dX2_restInOrder_1 gf_X2_37 (ob_t ht) rfl ?_
  refine w_getR C dX2_restInOrder_4 gf_X2_105 ob_1 rfl ?_
  refine w_iload_n C 1 dX2_restInOrder_7 rfl ?_
  obtain ⟨⟨sc1, sc2⟩, vc⟩ := vc
  refine w_iald C dX2_restInOrder_8 ia_6 sc1 sc2 ?_
  refine w_top (fun v3 hv3 => ?_)
  have vc := vc v3 hv3
  refine w_istore_n C [(2, pI v3), (0, pR t), (1, pI x1)] dX2_restInOrder_9 (by decide) rfl ?_
  refine w_aload_n C 1 dX2_restInOrder_10 rfl ?_
  refine w_getR C dX2_restInOrder_11 gf_X2_22 (ob_t ht) rfl ?_
  refine w_iload_n C 2 dX2_restInOrder_14 rfl ?_
  obtain ⟨⟨sc4, sc5⟩, vc⟩ := vc
  refine w_iald C dX2_restInOrder_15 (ia_t3 ht) sc4 sc5 ?_
  refine w_iconst C dX2_restInOrder_16 ?_
  refine w_iadd C dX2_restInOrder_17 ?_
  refine w_top (fun v6 hv6 => ?_)
  have vc := vc v6 hv6
  refine w_istore_n C [(3, pI v6), (2, pI v3), (0, pR t), (1, pI x1)] dX2_restInOrder_18 (by decide) rfl ?_
  refine w_iload_n C 0 dX2_restInOrder_19 rfl ?_
  refine w_aload_n C 2 dX2_restInOrder_20 rfl ?_
  refine w_getR C dX2_restInOrder_21 gf_X2_37 (ob_t ht) rfl ?_
  refine w_getR C dX2_restInOrder_24 gf_X2_65 ob_1 rfl ?_
  refine w_iload_n C 1 dX2_restInOrder_27 rfl ?_
  obtain ⟨⟨sc7, sc8⟩, vc⟩ := vc
  refine w_iald C dX2_restInOrder_28 (ia_10 C.gi) sc7 sc8 ?_
  obtain ⟨⟨sc9, sc10⟩, vc⟩ := vc
  refine w_icmp_lt C 34 dX2_restInOrder_29 (by decide) sc9 sc10 (fun h11 => ?_) (fun h11 => ?_)
  · have vc := vc.1 h11
    refine w_aload_n C 2 dX2_restInOrder_34 rfl ?_
    refine w_getR C dX2_restInOrder_35 gf_X2_37 (ob_t ht) rfl ?_
    refine w_getR C dX2_restInOrder_38 gf_X2_61 ob_1 rfl ?_
    refine w_iload_n C 1 dX2_restInOrder_41 rfl ?_
    obtain ⟨⟨sc12, sc13⟩, vc⟩ := vc
    refine w_aald C dX2_restInOrder_42 (ra_9 C.gi) sc12 sc13 ?_
    refine w_iload_n C 0 dX2_restInOrder_43 rfl ?_
    obtain ⟨⟨sc14, sc15⟩, vc⟩ := vc
    refine w_iald C dX2_restInOrder_44 (ia_row sc12 sc13) sc14 sc15 ?_
    refine w_top (fun v16 hv16 => ?_)
    have vc := vc v16 hv16
    refine w_istore C [(4, pI v16), (3, pI v6), (2, pI v3), (0, pR t), (1, pI x1)] dX2_restInOrder_45 (by decide) rfl ?_
    refine w_aload_n C 3 dX2_restInOrder_47 rfl ?_
    refine w_getR C dX2_restInOrder_48 gf_X2_37 (ob_t ht) rfl ?_
    refine w_iload_n C 2 dX2_restInOrder_51 rfl ?_
    refine w_iload_n C 4 dX2_restInOrder_52 rfl ?_
    refine w_bipush C dX2_restInOrder_53 (by decide) ?_
    obtain ⟨⟨sc17, sc18⟩, vc⟩ := vc
    refine w_idivN C dX2_restInOrder_55 sc17 sc18 ⟨by omega, by omega⟩ (by omega) ?_
    refine w_iload C 0 dX2_restInOrder_56 rfl ?_
    refine w_bipush C dX2_restInOrder_58 (by decide) ?_
    obtain ⟨⟨sc19, sc20⟩, vc⟩ := vc
    refine w_idivN C dX2_restInOrder_60 sc19 sc20 ⟨by omega, by omega⟩ (by omega) ?_
    obtain ⟨sc21, vc⟩ := vc
    refine w_callVI C [pI v3, pI (x1 / 10), pI (v16 / 10)] [] rfl dX2_restInOrder_61 (c_X3_changeBetween C.gi (xL X) v3 (x1 / 10) (v16 / 10) σ sc21) oc_1 mw_X3_changeBetween ml_X2_83 im_X3_changeBetween se_X3_changeBetween (by decide) (Nat.le_of_ble_eq_true rfl) (fun z σ' hz => ?_)
    obtain ⟨rfl, hz2⟩ := hz
    have hz2 := hz2.symm
    subst hz2
    refine w_aload_n C 3 dX2_restInOrder_64 rfl ?_
    refine w_getR C dX2_restInOrder_65 gf_X2_19 (ob_t ht) rfl ?_
    refine w_iload C 0 dX2_restInOrder_68 rfl ?_
    obtain ⟨⟨sc22, sc23⟩, vc⟩ := vc
    refine w_iald C dX2_restInOrder_70 (ia_t2 ht) sc22 sc23 ?_
    refine w_iadd C dX2_restInOrder_71 ?_
    exact w_ireturn C dX2_restInOrder_72 vc
  · have vc := vc.2 h11
    refine w_iconst C dX2_restInOrder_32 ?_
    exact w_ireturn C dX2_restInOrder_33 vc
set_option maxHeartbeats 1000000 in
theorem ok_X2_restInOrder_0 {M : Nat} {t : Int} {x1 : Int} {σ : Mem} (ht : t = 12 ∨ t = 19) (h : pre_X2_restInOrder M t x1 σ) : VC_X2_restInOrder_0 M (fun z σ' => z = f_X2_restInOrder t x1 σ ∧ σ' = σ) t x1 σ := by
  obtain ⟨hN, hO, b1, b2, b3, b4⟩ := h
  have hm := (hN.2.2.2.1 x1 b1 b2).1
  have hz := hN.1.2.2.2.2.2 (σ 6 x1) hm.1 hm.2
  refine ⟨⟨b1, b2⟩, fun v e => ?_⟩
  subst e
  refine ⟨⟨b1, b2⟩, fun v e => ?_⟩
  subst e
  refine ⟨hm, ⟨⟨by omega, by omega⟩, ⟨by omega, by omega⟩⟩, fun g => ⟨hm, ⟨by omega, by omega⟩, fun v e => ?_⟩, fun g => ⟨?_, rfl⟩⟩
  · subst e
    have hv := VS_in hN.1 (hO.1 (σ 6 x1) (σ (t + 3) x1 + 1) hm.1 hm.2 (by omega) g).1
    refine ⟨⟨b1, by omega, by omega⟩, ⟨hv.1, by omega, by omega⟩, ⟨hm.1, hm.2, by omega, by omega, by omega, by omega⟩, ⟨hv.1, hv.2.1⟩, ?_, rfl⟩
    unfold f_X2_restInOrder; rw [if_pos g]; rfl
  · unfold f_X2_restInOrder; rw [if_neg (by omega)]
theorem c_X2_restInOrder {G : GG} (hG : GI G) (l : Launch) (t : Int) (x1 : Int) (σ : Mem) (ht : t = 12 ∨ t = 19) (h : pre_X2_restInOrder (gM G) t x1 σ) : CtI G l yX2_restInOrder cX2_restInOrder 5 (some .int) 1 [pR t, pI x1] σ (fun z σ' => z = f_X2_restInOrder t x1 σ ∧ σ' = σ) := by
  refine CtI.of hG (by decide) (Nat.le_of_ble_eq_true rfl) (fun X hl C => ?_)
  show RW G X 5 (QI G X _) 0 [(0, pR t), (1, pI x1)] [] σ
  exact seg_X2_restInOrder_0 C ht x1 σ (ok_X2_restInOrder_0 ht h)

/-! X2_drawStep -/
def m_X2_drawStep (t x1 x2 : Int) (σ : Mem) : Mem :=
  up (up (up (up (up (up (up σ (t + 1) (σ (57 + x1) x2) (bV σ (σ (t + 1)) x1 x2)) (t + 3) (σ (57 + x1) x2) x2) t 1 (max (σ t 1) (bV σ (σ (t + 1)) x1 x2 + σ 7 (σ (57 + x1) x2)))) t 6 (σ t 6 + 1)) (t + 4) (σ t 6) (σ (57 + x1) x2)) (t + 5) (σ (57 + x1) x2 / 10) (σ (t + 5) (σ (57 + x1) x2 / 10) + 1)) (t + 6) x1 (σ (t + 6) x1 + 1)
def pre_X2_drawStep (M : Nat) (t x1 x2 : Int) (σ : Mem) : Prop := WN M σ ∧ WO M σ ∧ inO M σ x1 x2 ∧ (0 ≤ σ t 6 ∧ σ t 6 < 48) ∧ (0 ≤ σ t 1 ∧ σ t 1 ≤ 10000) ∧ (σ (57 + x1) x2 % 10 ≠ 0 → 0 ≤ σ (t + 1) (σ (57 + x1) x2 - 1) ∧ σ (t + 1) (σ (57 + x1) x2 - 1) ≤ 10000) ∧ (0 < x2 → 0 ≤ σ (t + 1) (σ (57 + x1) (x2 - 1)) ∧ σ (t + 1) (σ (57 + x1) (x2 - 1)) ≤ 10000)
def VC_X2_drawStep_0 (M : Nat) (post : Mem → Prop) (t : Int) (x1 : Int) (x2 : Int) (σ : Mem) : Prop :=
 (0 ≤ x1 ∧ x1 < M) ∧ (0 ≤ x2 ∧ x2 < 48) ∧ ∀ v5 : Int, v5 = σ (57 + x1) x2 → (0 ≤ v5 ∧ inR v5) ∧ ∀ v8 : Int, v8 = v5 / 10 → (0 ≤ v5 ∧ inR v5) ∧ (inR (v5 % 10)) ∧ ((¬ (v5 % 10) = 0 → (pre_X2_endOf M t (v5 - 1) σ) ∧ True) ∧ ((v5 % 10) = 0 → (0 ≤ v8 ∧ v8 < 8) ∧ True) ∧ ∀ j17 : Int, (¬ (v5 % 10) = 0 → j17 = f_X2_endOf t (v5 - 1) σ) → ((v5 % 10) = 0 → j17 = σ 2 v8) → (inR x2) ∧ ((x2 ≤ 0 → (0 ≤ v5 ∧ v5 < 80) ∧ ∀ s24 : Mem, s24 = up σ (t + 1) v5 j17 → (0 ≤ v5 ∧ v5 < 80) ∧ ∀ s27 : Mem, s27 = up s24 (t + 3) v5 x2 → (pre_X2_endOf M t v5 s27) ∧ (inR (s27 t 1) ∧ inR (f_X2_endOf t v5 s27)) ∧ ∀ s31 : Mem, s31 = up s27 t 1 (max (s27 t 1) (f_X2_endOf t v5 s27)) → ∀ s32 : Mem, s32 = up s31 t 6 ((s31 t 6) + 1) → (0 ≤ (s31 t 6) ∧ (s31 t 6) < 48) ∧ ∀ s35 : Mem, s35 = up s32 (t + 4) (s31 t 6) v5 → (0 ≤ v8 ∧ v8 < 8) ∧ (0 ≤ v8 ∧ v8 < 8) ∧ ∀ s40 : Mem, s40 = up s35 (t + 5) v8 ((s35 (t + 5) v8) + 1) → (0 ≤ x1 ∧ x1 < 5) ∧ (0 ≤ x1 ∧ x1 < 5) ∧ ∀ s45 : Mem, s45 = up s40 (t + 6) x1 ((s40 (t + 6) x1) + 1) → post s45) ∧ (0 < x2 → (0 ≤ x1 ∧ x1 < M) ∧ (0 ≤ (x2 - 1) ∧ (x2 - 1) < 48) ∧ ∀ v50 : Int, v50 = σ (57 + x1) (x2 - 1) → (0 ≤ v50 ∧ inR v50) ∧ (pre_X3_changeBetween M x1 (v50 / 10) v8 σ) ∧ ∀ v54 : Int, v54 = f_X3_changeBetween x1 (v50 / 10) v8 σ → (pre_X2_endOf M t v50 σ) ∧ (inR j17 ∧ inR ((f_X2_endOf t v50 σ) + v54)) ∧ ∀ v58 : Int, v58 = max j17 ((f_X2_endOf t v50 σ) + v54) → (0 ≤ v5 ∧ v5 < 80) ∧ ∀ s61 : Mem, s61 = up σ (t + 1) v5 v58 → (0 ≤ v5 ∧ v5 < 80) ∧ ∀ s64 : Mem, s64 = up s61 (t + 3) v5 x2 → (pre_X2_endOf M t v5 s64) ∧ (inR (s64 t 1) ∧ inR (f_X2_endOf t v5 s64)) ∧ ∀ s68 : Mem, s68 = up s64 t 1 (max (s64 t 1) (f_X2_endOf t v5 s64)) → ∀ s69 : Mem, s69 = up s68 t 6 ((s68 t 6) + 1) → (0 ≤ (s68 t 6) ∧ (s68 t 6) < 48) ∧ ∀ s72 : Mem, s72 = up s69 (t + 4) (s68 t 6) v5 → (0 ≤ v8 ∧ v8 < 8) ∧ (0 ≤ v8 ∧ v8 < 8) ∧ ∀ s77 : Mem, s77 = up s72 (t + 5) v8 ((s72 (t + 5) v8) + 1) → (0 ≤ x1 ∧ x1 < 5) ∧ (0 ≤ x1 ∧ x1 < 5) ∧ ∀ s82 : Mem, s82 = up s77 (t + 6) x1 ((s77 (t + 6) x1) + 1) → post s82)))
set_option maxRecDepth 20000 in
set_option maxHeartbeats 4000000 in
theorem seg_X2_drawStep_0 {G : GG} {X : XX} {post : Mem → Prop} (C : CX G X cX2_drawStep RX2 8 none 1) {t : Int} (ht : t = 12 ∨ t = 19) (x1 : Int) (x2 : Int) (σ : Mem) (vc : VC_X2_drawStep_0 (gM G)  post t x1 x2 σ) : RW G X 8 (QV G X post) 0 [(0, pR t), (1, pI x1), (2, pI x2)] [] σ := by
  unfold VC_X2_drawStep_0 at vc
  refine w_aload_n C 0 dX2_drawStep_0 rfl ?_
  refine w_getR C dX2_drawStep_1 gf_X2_37 (ob_t ht) rfl ?_
  refine w_getR C dX2_drawStep_4 gf_X2_61 ob_1 rfl ?_
  refine w_iload_n C 1 dX2_drawStep_7 rfl ?_
  obtain ⟨⟨sc1, sc2⟩, vc⟩ := vc
  refine w_aald C dX2_drawStep_8 (ra_9 C.gi) sc1 sc2 ?_
  refine w_iload_n C 2 dX2_drawStep_9 rfl ?_
  obtain ⟨⟨sc3, sc4⟩, vc⟩ := vc
  refine w_iald C dX2_drawStep_10 (ia_row sc1 sc2) sc3 sc4 ?_
  refine w_top (fun v5 hv5 => ?_)
  have vc := vc v5 hv5
  refine w_istore_n C [(3, pI v5), (0, pR t), (1, pI x1), (2, pI x2)] dX2_drawStep_11 (by decide) rfl ?_
  refine w_iload_n C 0 dX2_drawStep_12 rfl ?_
  refine w_bipush C dX2_drawStep_13 (by decide) ?_
  obtain ⟨⟨sc6, sc7⟩, vc⟩ := vc
  refine w_idivN C dX2_drawStep_15 sc6 sc7 ⟨by omega, by omega⟩ (by omega) ?_
  refine w_top (fun v8 hv8 => ?_)
  have vc := vc v8 hv8
  refine w_istore C [(4, pI v8), (3, pI v5), (0, pR t), (1, pI x1), (2, pI x2)] dX2_drawStep_16 (by decide) rfl ?_
  refine w_iload_n C 1 dX2_drawStep_18 rfl ?_
  refine w_bipush C dX2_drawStep_19 (by decide) ?_
  obtain ⟨⟨sc9, sc10⟩, vc⟩ := vc
  refine w_iremN C dX2_drawStep_21 sc9 sc10 ⟨by omega, by omega⟩ (by omega) ?_
  obtain ⟨sc11, vc⟩ := vc
  have key13 : ∀ j17 : Int, (¬ (v5 % 10) = 0 → j17 = f_X2_endOf t (v5 - 1) σ) → ((v5 % 10) = 0 → j17 = σ 2 v8) → RW G X 8 (QV G X post) 45 [(4, pI v8), (3, pI v5), (0, pR t), (1, pI x1), (2, pI x2)] [pI j17] σ := by
    intro j17 hj18 hj19
    have vc := vc.2.2 j17 hj18 hj19
    refine w_istore C [(5, pI j17), (4, pI v8), (3, pI v5), (0, pR t), (1, pI x1), (2, pI x2)] dX2_drawStep_45 (by decide) rfl ?_
    refine w_iload_n C 5 dX2_drawStep_47 rfl ?_
    obtain ⟨sc20, vc⟩ := vc
    refine w_if_le C 99 dX2_drawStep_48 (by decide) sc20 (fun h21 => ?_) (fun h21 => ?_)
    · have vc := vc.1 h21
      refine w_aload_n C 3 dX2_drawStep_99 rfl ?_
      refine w_getR C dX2_drawStep_100 gf_X2_15 (ob_t ht) rfl ?_
      refine w_iload_n C 2 dX2_drawStep_103 rfl ?_
      refine w_iload C 0 dX2_drawStep_104 rfl ?_
      obtain ⟨⟨sc22, sc23⟩, vc⟩ := vc
      refine w_iast C dX2_drawStep_106 (ia_t1 ht) sc22 sc23 ?_
      refine w_mem (fun s24 hs24 => ?_)
      have vc := vc s24 hs24
      refine w_aload_n C 3 dX2_drawStep_107 rfl ?_
      refine w_getR C dX2_drawStep_108 gf_X2_22 (ob_t ht) rfl ?_
      refine w_iload_n C 2 dX2_drawStep_111 rfl ?_
      refine w_iload_n C 5 dX2_drawStep_112 rfl ?_
      obtain ⟨⟨sc25, sc26⟩, vc⟩ := vc
      refine w_iast C dX2_drawStep_113 (ia_t3 ht) sc25 sc26 ?_
      refine w_mem (fun s27 hs27 => ?_)
      have vc := vc s27 hs27
      refine w_aload_n C 3 dX2_drawStep_114 rfl ?_
      refine w_aload_n C 3 dX2_drawStep_115 rfl ?_
      refine w_getI C 1 dX2_drawStep_116 gf_X2_9 (ob_t ht) rfl rfl ?_
      refine w_aload_n C 3 dX2_drawStep_119 rfl ?_
      refine w_iload_n C 2 dX2_drawStep_120 rfl ?_
      obtain ⟨sc28, vc⟩ := vc
      refine w_callVI C [pI v5] [pI (s27 t 1), pR t] rfl dX2_drawStep_121 (c_X2_endOf C.gi (xL X) t v5 s27 ht sc28) (oc_t ht) mw_X2_endOf ml_X2_79 im_X2_endOf se_X2_endOf (by decide) (Nat.le_of_ble_eq_true rfl) (fun z σ' hz => ?_)
      obtain ⟨rfl, hz2⟩ := hz
      have hz2 := hz2.symm
      subst hz2
      obtain ⟨⟨sc29, sc30⟩, vc⟩ := vc
      refine w_max C dX2_drawStep_124 ml_X2_87 mt_max sc29 sc30 (Nat.le_of_ble_eq_true rfl) ?_
      refine w_putI C 1 dX2_drawStep_127 pf_X2_9 (ob_t ht) rfl rfl ?_
      refine w_mem (fun s31 hs31 => ?_)
      have vc := vc s31 hs31
      refine w_aload_n C 3 dX2_drawStep_130 rfl ?_
      refine w_getR C dX2_drawStep_131 gf_X2_25 (ob_t ht) rfl ?_
      refine w_aload_n C 3 dX2_drawStep_134 rfl ?_
      refine w_dup C dX2_drawStep_135 rfl ?_
      refine w_getI C 6 dX2_drawStep_136 gf_X2_28 (ob_t ht) rfl rfl ?_
      refine w_dup_x1 C dX2_drawStep_139 rfl rfl ?_
      refine w_iconst C dX2_drawStep_140 ?_
      refine w_iadd C dX2_drawStep_141 ?_
      refine w_putI C 6 dX2_drawStep_142 pf_X2_28 (ob_t ht) rfl rfl ?_
      refine w_mem (fun s32 hs32 => ?_)
      have vc := vc s32 hs32
      refine w_iload_n C 2 dX2_drawStep_145 rfl ?_
      obtain ⟨⟨sc33, sc34⟩, vc⟩ := vc
      refine w_iast C dX2_drawStep_146 (ia_t4 ht) sc33 sc34 ?_
      refine w_mem (fun s35 hs35 => ?_)
      have vc := vc s35 hs35
      refine w_aload_n C 3 dX2_drawStep_147 rfl ?_
      refine w_getR C dX2_drawStep_148 gf_X2_31 (ob_t ht) rfl ?_
      refine w_iload C 1 dX2_drawStep_151 rfl ?_
      refine w_dup2 C dX2_drawStep_153 rfl rfl ?_
      obtain ⟨⟨sc36, sc37⟩, vc⟩ := vc
      refine w_iald C dX2_drawStep_154 (ia_t5 ht) sc36 sc37 ?_
      refine w_iconst C dX2_drawStep_155 ?_
      refine w_iadd C dX2_drawStep_156 ?_
      obtain ⟨⟨sc38, sc39⟩, vc⟩ := vc
      refine w_iast C dX2_drawStep_157 (ia_t5 ht) sc38 sc39 ?_
      refine w_mem (fun s40 hs40 => ?_)
      have vc := vc s40 hs40
      refine w_aload_n C 3 dX2_drawStep_158 rfl ?_
      refine w_getR C dX2_drawStep_159 gf_X2_34 (ob_t ht) rfl ?_
      refine w_iload_n C 4 dX2_drawStep_162 rfl ?_
      refine w_dup2 C dX2_drawStep_163 rfl rfl ?_
      obtain ⟨⟨sc41, sc42⟩, vc⟩ := vc
      refine w_iald C dX2_drawStep_164 (ia_t6 ht) sc41 sc42 ?_
      refine w_iconst C dX2_drawStep_165 ?_
      refine w_iadd C dX2_drawStep_166 ?_
      obtain ⟨⟨sc43, sc44⟩, vc⟩ := vc
      refine w_iast C dX2_drawStep_167 (ia_t6 ht) sc43 sc44 ?_
      refine w_mem (fun s45 hs45 => ?_)
      have vc := vc s45 hs45
      exact w_vreturn C dX2_drawStep_168 vc
    · have vc := vc.2 h21
      refine w_aload_n C 3 dX2_drawStep_51 rfl ?_
      refine w_getR C dX2_drawStep_52 gf_X2_37 (ob_t ht) rfl ?_
      refine w_getR C dX2_drawStep_55 gf_X2_61 ob_1 rfl ?_
      refine w_iload_n C 4 dX2_drawStep_58 rfl ?_
      obtain ⟨⟨sc46, sc47⟩, vc⟩ := vc
      refine w_aald C dX2_drawStep_59 (ra_9 C.gi) sc46 sc47 ?_
      refine w_iload_n C 5 dX2_drawStep_60 rfl ?_
      refine w_iconst C dX2_drawStep_61 ?_
      refine w_isub C dX2_drawStep_62 ?_
      obtain ⟨⟨sc48, sc49⟩, vc⟩ := vc
      refine w_iald C dX2_drawStep_63 (ia_row sc46 sc47) sc48 sc49 ?_
      refine w_top (fun v50 hv50 => ?_)
      have vc := vc v50 hv50
      refine w_istore C [(6, pI v50), (5, pI j17), (4, pI v8), (3, pI v5), (0, pR t), (1, pI x1), (2, pI x2)] dX2_drawStep_64 (by decide) rfl ?_
      refine w_aload_n C 4 dX2_drawStep_66 rfl ?_
      refine w_getR C dX2_drawStep_67 gf_X2_37 (ob_t ht) rfl ?_
      refine w_iload_n C 5 dX2_drawStep_70 rfl ?_
      refine w_iload C 0 dX2_drawStep_71 rfl ?_
      refine w_bipush C dX2_drawStep_73 (by decide) ?_
      obtain ⟨⟨sc51, sc52⟩, vc⟩ := vc
      refine w_idivN C dX2_drawStep_75 sc51 sc52 ⟨by omega, by omega⟩ (by omega) ?_
      refine w_iload C 2 dX2_drawStep_76 rfl ?_
      obtain ⟨sc53, vc⟩ := vc
      refine w_callVI C [pI x1, pI (v50 / 10), pI v8] [] rfl dX2_drawStep_78 (c_X3_changeBetween C.gi (xL X) x1 (v50 / 10) v8 σ sc53) oc_1 mw_X3_changeBetween ml_X2_83 im_X3_changeBetween se_X3_changeBetween (by decide) (Nat.le_of_ble_eq_true rfl) (fun z σ' hz => ?_)
      obtain ⟨rfl, hz2⟩ := hz
      have hz2 := hz2.symm
      subst hz2
      refine w_top (fun v54 hv54 => ?_)
      have vc := vc v54 hv54
      refine w_istore C [(7, pI v54), (6, pI v50), (5, pI j17), (4, pI v8), (3, pI v5), (0, pR t), (1, pI x1), (2, pI x2)] dX2_drawStep_81 (by decide) rfl ?_
      refine w_iload C 2 dX2_drawStep_83 rfl ?_
      refine w_aload_n C 5 dX2_drawStep_85 rfl ?_
      refine w_iload C 1 dX2_drawStep_86 rfl ?_
      obtain ⟨sc55, vc⟩ := vc
      refine w_callVI C [pI v50] [pI j17] rfl dX2_drawStep_88 (c_X2_endOf C.gi (xL X) t v50 σ ht sc55) (oc_t ht) mw_X2_endOf ml_X2_79 im_X2_endOf se_X2_endOf (by decide) (Nat.le_of_ble_eq_true rfl) (fun z σ' hz => ?_)
      obtain ⟨rfl, hz2⟩ := hz
      have hz2 := hz2.symm
      subst hz2
      refine w_iload C 0 dX2_drawStep_91 rfl ?_
      refine w_iadd C dX2_drawStep_93 ?_
      obtain ⟨⟨sc56, sc57⟩, vc⟩ := vc
      refine w_max C dX2_drawStep_94 ml_X2_87 mt_max sc56 sc57 (Nat.le_of_ble_eq_true rfl) ?_
      refine w_top (fun v58 hv58 => ?_)
      have vc := vc v58 hv58
      refine w_istore C [(5, pI v58), (7, pI v54), (6, pI v50), (4, pI v8), (3, pI v5), (0, pR t), (1, pI x1), (2, pI x2)] dX2_drawStep_97 (by decide) rfl ?_
      refine w_aload_n C 5 dX2_drawStep_99 rfl ?_
      refine w_getR C dX2_drawStep_100 gf_X2_15 (ob_t ht) rfl ?_
      refine w_iload_n C 4 dX2_drawStep_103 rfl ?_
      refine w_iload C 0 dX2_drawStep_104 rfl ?_
      obtain ⟨⟨sc59, sc60⟩, vc⟩ := vc
      refine w_iast C dX2_drawStep_106 (ia_t1 ht) sc59 sc60 ?_
      refine w_mem (fun s61 hs61 => ?_)
      have vc := vc s61 hs61
      refine w_aload_n C 5 dX2_drawStep_107 rfl ?_
      refine w_getR C dX2_drawStep_108 gf_X2_22 (ob_t ht) rfl ?_
      refine w_iload_n C 4 dX2_drawStep_111 rfl ?_
      refine w_iload_n C 7 dX2_drawStep_112 rfl ?_
      obtain ⟨⟨sc62, sc63⟩, vc⟩ := vc
      refine w_iast C dX2_drawStep_113 (ia_t3 ht) sc62 sc63 ?_
      refine w_mem (fun s64 hs64 => ?_)
      have vc := vc s64 hs64
      refine w_aload_n C 5 dX2_drawStep_114 rfl ?_
      refine w_aload_n C 5 dX2_drawStep_115 rfl ?_
      refine w_getI C 1 dX2_drawStep_116 gf_X2_9 (ob_t ht) rfl rfl ?_
      refine w_aload_n C 5 dX2_drawStep_119 rfl ?_
      refine w_iload_n C 4 dX2_drawStep_120 rfl ?_
      obtain ⟨sc65, vc⟩ := vc
      refine w_callVI C [pI v5] [pI (s64 t 1), pR t] rfl dX2_drawStep_121 (c_X2_endOf C.gi (xL X) t v5 s64 ht sc65) (oc_t ht) mw_X2_endOf ml_X2_79 im_X2_endOf se_X2_endOf (by decide) (Nat.le_of_ble_eq_true rfl) (fun z σ' hz => ?_)
      obtain ⟨rfl, hz2⟩ := hz
      have hz2 := hz2.symm
      subst hz2
      obtain ⟨⟨sc66, sc67⟩, vc⟩ := vc
      refine w_max C dX2_drawStep_124 ml_X2_87 mt_max sc66 sc67 (Nat.le_of_ble_eq_true rfl) ?_
      refine w_putI C 1 dX2_drawStep_127 pf_X2_9 (ob_t ht) rfl rfl ?_
      refine w_mem (fun s68 hs68 => ?_)
      have vc := vc s68 hs68
      refine w_aload_n C 5 dX2_drawStep_130 rfl ?_
      refine w_getR C dX2_drawStep_131 gf_X2_25 (ob_t ht) rfl ?_
      refine w_aload_n C 5 dX2_drawStep_134 rfl ?_
      refine w_dup C dX2_drawStep_135 rfl ?_
      refine w_getI C 6 dX2_drawStep_136 gf_X2_28 (ob_t ht) rfl rfl ?_
      refine w_dup_x1 C dX2_drawStep_139 rfl rfl ?_
      refine w_iconst C dX2_drawStep_140 ?_
      refine w_iadd C dX2_drawStep_141 ?_
      refine w_putI C 6 dX2_drawStep_142 pf_X2_28 (ob_t ht) rfl rfl ?_
      refine w_mem (fun s69 hs69 => ?_)
      have vc := vc s69 hs69
      refine w_iload_n C 4 dX2_drawStep_145 rfl ?_
      obtain ⟨⟨sc70, sc71⟩, vc⟩ := vc
      refine w_iast C dX2_drawStep_146 (ia_t4 ht) sc70 sc71 ?_
      refine w_mem (fun s72 hs72 => ?_)
      have vc := vc s72 hs72
      refine w_aload_n C 5 dX2_drawStep_147 rfl ?_
      refine w_getR C dX2_drawStep_148 gf_X2_31 (ob_t ht) rfl ?_
      refine w_iload C 3 dX2_drawStep_151 rfl ?_
      refine w_dup2 C dX2_drawStep_153 rfl rfl ?_
      obtain ⟨⟨sc73, sc74⟩, vc⟩ := vc
      refine w_iald C dX2_drawStep_154 (ia_t5 ht) sc73 sc74 ?_
      refine w_iconst C dX2_drawStep_155 ?_
      refine w_iadd C dX2_drawStep_156 ?_
      obtain ⟨⟨sc75, sc76⟩, vc⟩ := vc
      refine w_iast C dX2_drawStep_157 (ia_t5 ht) sc75 sc76 ?_
      refine w_mem (fun s77 hs77 => ?_)
      have vc := vc s77 hs77
      refine w_aload_n C 5 dX2_drawStep_158 rfl ?_
      refine w_getR C dX2_drawStep_159 gf_X2_34 (ob_t ht) rfl ?_
      refine w_iload_n C 6 dX2_drawStep_162 rfl ?_
      refine w_dup2 C dX2_drawStep_163 rfl rfl ?_
      obtain ⟨⟨sc78, sc79⟩, vc⟩ := vc
      refine w_iald C dX2_drawStep_164 (ia_t6 ht) sc78 sc79 ?_
      refine w_iconst C dX2_drawStep_165 ?_
      refine w_iadd C dX2_drawStep_166 ?_
      obtain ⟨⟨sc80, sc81⟩, vc⟩ := vc
      refine w_iast C dX2_drawStep_167 (ia_t6 ht) sc80 sc81 ?_
      refine w_mem (fun s82 hs82 => ?_)
      have vc := vc s82 hs82
      exact w_vreturn C dX2_drawStep_168 vc
  refine w_if_ne C 38 dX2_drawStep_22 (by decide) sc11 (fun h12 => ?_) (fun h12 => ?_)
  · have vc := vc.1 h12
    refine w_aload_n C 2 dX2_drawStep_38 rfl ?_
    refine w_iload_n C 1 dX2_drawStep_39 rfl ?_
    refine w_iconst C dX2_drawStep_40 ?_
    refine w_isub C dX2_drawStep_41 ?_
    obtain ⟨sc14, vc⟩ := vc
    refine w_callVI C [pI (v5 - 1)] [] rfl dX2_drawStep_42 (c_X2_endOf C.gi (xL X) t (v5 - 1) σ ht sc14) (oc_t ht) mw_X2_endOf ml_X2_79 im_X2_endOf se_X2_endOf (by decide) (Nat.le_of_ble_eq_true rfl) (fun z σ' hz => ?_)
    obtain ⟨rfl, hz2⟩ := hz
    have hz2 := hz2.symm
    subst hz2
    exact key13 _ (by intros; first | rfl | omega | (exfalso; omega) | contradiction) (by intros; first | rfl | omega | (exfalso; omega) | contradiction)
  · have vc := vc.2.1 h12
    refine w_aload_n C 2 dX2_drawStep_25 rfl ?_
    refine w_getR C dX2_drawStep_26 gf_X2_37 (ob_t ht) rfl ?_
    refine w_getR C dX2_drawStep_29 gf_X2_76 ob_1 rfl ?_
    refine w_iload C 0 dX2_drawStep_32 rfl ?_
    obtain ⟨⟨sc15, sc16⟩, vc⟩ := vc
    refine w_iald C dX2_drawStep_34 ia_2 sc15 sc16 ?_
    refine w_goto C 45 dX2_drawStep_35 (by decide) ?_
    exact key13 _ (by intros; first | rfl | omega | (exfalso; omega) | contradiction) (by intros; first | rfl | omega | (exfalso; omega) | contradiction)
set_option maxHeartbeats 1000000 in
theorem ok_X2_drawStep_0 {M : Nat} {t : Int} {x1 : Int} {x2 : Int} {σ : Mem} (ht : t = 12 ∨ t = 19) (h : pre_X2_drawStep M t x1 x2 σ) : VC_X2_drawStep_0 M (fun σ' => σ' = m_X2_drawStep t x1 x2 σ) t x1 x2 σ := by
  obtain ⟨hN, hO, hi, ⟨d0, d1⟩, ⟨g0, g1⟩, hj, hp⟩ := h
  have hv := (inO_VS hN hO hi).1
  have hs := VS_in hN.1 hv
  have hM : M ≤ 5 := hN.1.2.2.1
  obtain ⟨i1, i2, i3, i4⟩ := id hi
  have hz := hN.1.2.2.2.2.2 x1 i1 i2
  have h7 := (hN.2.2.2.1 _ hs.1 hs.2.1).2
  have h2 := (hN.2.1 _ hs.2.2.1 hs.2.2.2.1).1
  refine ⟨⟨i1, i2⟩, ⟨i3, by omega⟩, fun v5 e5 => ⟨⟨by omega, by omega, by omega⟩, fun v8 e8 => ⟨⟨by omega, by omega, by omega⟩, ⟨by omega, by omega⟩, fun q => ⟨⟨by omega, by omega⟩, trivial⟩, fun q => ⟨⟨by omega, by omega⟩, trivial⟩, fun j17 e1 e2 => ?_⟩⟩⟩
  subst e5
  subst e8
  have ej : j17 = jIn σ (σ (t + 1)) (σ (57 + x1) x2) := by
    unfold jIn
    by_cases q : σ (57 + x1) x2 % 10 = 0
    · rw [if_pos q, e2 q]
    · rw [if_neg q, e1 q]; rfl
  have hjb : 0 ≤ j17 ∧ j17 ≤ 10050 := by
    by_cases q : σ (57 + x1) x2 % 10 = 0
    · rw [e2 q]; omega
    · rw [e1 q]
      have := hj q
      have := (hN.2.2.2.1 (σ (57 + x1) x2 - 1) (by omega) (by omega)).2
      unfold f_X2_endOf
      omega
  have tail : ∀ b : Int, 0 ≤ b → b ≤ 20000 → b = bV σ (σ (t + 1)) x1 x2 → (0 ≤ σ (57 + x1) x2 ∧ σ (57 + x1) x2 < 80) ∧ ∀ s24 : Mem, s24 = up σ (t + 1) (σ (57 + x1) x2) b → (0 ≤ σ (57 + x1) x2 ∧ σ (57 + x1) x2 < 80) ∧ ∀ s27 : Mem, s27 = up s24 (t + 3) (σ (57 + x1) x2) x2 → (pre_X2_endOf M t (σ (57 + x1) x2) s27) ∧ (inR (s27 t 1) ∧ inR (f_X2_endOf t (σ (57 + x1) x2) s27)) ∧ ∀ s31 : Mem, s31 = up s27 t 1 (max (s27 t 1) (f_X2_endOf t (σ (57 + x1) x2) s27)) → ∀ s32 : Mem, s32 = up s31 t 6 ((s31 t 6) + 1) → (0 ≤ (s31 t 6) ∧ (s31 t 6) < 48) ∧ ∀ s35 : Mem, s35 = up s32 (t + 4) (s31 t 6) (σ (57 + x1) x2) → (0 ≤ (σ (57 + x1) x2 / 10) ∧ (σ (57 + x1) x2 / 10) < 8) ∧ (0 ≤ (σ (57 + x1) x2 / 10) ∧ (σ (57 + x1) x2 / 10) < 8) ∧ ∀ s40 : Mem, s40 = up s35 (t + 5) (σ (57 + x1) x2 / 10) ((s35 (t + 5) (σ (57 + x1) x2 / 10)) + 1) → (0 ≤ x1 ∧ x1 < 5) ∧ (0 ≤ x1 ∧ x1 < 5) ∧ ∀ s45 : Mem, s45 = up s40 (t + 6) x1 ((s40 (t + 6) x1) + 1) → s45 = m_X2_drawStep t x1 x2 σ := by
    intro b hb0 hb1 hb
    refine ⟨⟨hs.1, hs.2.1⟩, fun s24 e24 => ⟨⟨hs.1, hs.2.1⟩, fun s27 e27 => ?_⟩⟩
    have q1 : s27 t 1 = σ t 1 := by rw [e27, e24]; rcases ht with rfl | rfl <;> simp [up]
    have q2 : f_X2_endOf t (σ (57 + x1) x2) s27 = b + σ 7 (σ (57 + x1) x2) := by
      unfold f_X2_endOf
      rw [e27, e24]
      rcases ht with rfl | rfl <;> simp [up]
    refine ⟨⟨hs.1, hs.2.1⟩, ⟨⟨by omega, by omega⟩, ⟨by omega, by omega⟩⟩, fun s31 e31 s32 e32 => ?_⟩
    have q3 : s31 t 6 = σ t 6 := by rw [e31, e27, e24]; rcases ht with rfl | rfl <;> simp [up]
    refine ⟨⟨by omega, by omega⟩, fun s35 e35 => ⟨⟨by omega, by omega⟩, ⟨by omega, by omega⟩, fun s40 e40 => ⟨⟨by omega, by omega⟩, ⟨by omega, by omega⟩, fun s45 e45 => ?_⟩⟩⟩
    have q4 : s35 (t + 5) (σ (57 + x1) x2 / 10) = σ (t + 5) (σ (57 + x1) x2 / 10) := by rw [e35, e32, e31, e27, e24]; rcases ht with rfl | rfl <;> simp [up]
    have q5 : s40 (t + 6) x1 = σ (t + 6) x1 := by rw [e40, e35, e32, e31, e27, e24]; rcases ht with rfl | rfl <;> simp [up]
    unfold m_X2_drawStep
    rw [e45, q5, e40, q4, e35, e32, q3, e31, q1, q2, e27, e24, hb]
  refine ⟨⟨by omega, by omega⟩, fun q => tail j17 (by omega) (by omega) ?_, fun q => ⟨⟨i1, i2⟩, ⟨by omega, by omega⟩, fun v50 e50 => ?_⟩⟩
  · rw [ej]; unfold bV; rw [if_neg (by omega)]
  · subst e50
    have hvp := (inO_VS hN hO (m := x1) (i := x2 - 1) ⟨i1, i2, by omega, by omega⟩).1
    have hsp := VS_in hN.1 hvp
    have h7p := (hN.2.2.2.1 _ hsp.1 hsp.2.1).2
    have hpp := hp q
    refine ⟨⟨hsp.1, by omega, by omega⟩, ⟨i1, i2, by omega, by omega, by omega, by omega⟩, fun v54 e54 => ?_⟩
    have h54 : 0 ≤ v54 ∧ v54 ≤ 50 := by
      rw [e54]
      exact hN.2.2.2.2.1 _ (by omega) (by omega)
    have hf : f_X2_endOf t (σ (57 + x1) (x2 - 1)) σ = σ (t + 1) (σ (57 + x1) (x2 - 1)) + σ 7 (σ (57 + x1) (x2 - 1)) := rfl
    refine ⟨⟨hsp.1, hsp.2.1⟩, ⟨⟨by omega, by omega⟩, ⟨by omega, by omega⟩⟩, fun v58 e58 => tail v58 (by omega) (by omega) ?_⟩
    rw [e58, ej, e54]
    unfold bV
    rw [if_pos q]
    rfl
theorem c_X2_drawStep {G : GG} (hG : GI G) (l : Launch) (t : Int) (x1 : Int) (x2 : Int) (σ : Mem) (ht : t = 12 ∨ t = 19) (h : pre_X2_drawStep (gM G) t x1 x2 σ) : CtV G l yX2_drawStep cX2_drawStep 8 none 1 [pR t, pI x1, pI x2] σ (fun σ' => σ' = m_X2_drawStep t x1 x2 σ) := by
  refine CtV.of hG (by decide) (Nat.le_of_ble_eq_true rfl) (fun X hl C => ?_)
  show RW G X 8 (QV G X _) 0 [(0, pR t), (1, pI x1), (2, pI x2)] [] σ
  exact seg_X2_drawStep_0 C ht x1 x2 σ (ok_X2_drawStep_0 ht h)
end
section
/-! a plan as it is drawn -/
theorem bV_congr {a a' : Mem} {B B' : Int → Int} {m i : Int} (h : SE a a') (hm : 0 ≤ m) (h1 : a (57 + m) i % 10 ≠ 0 → B (a (57 + m) i - 1) = B' (a (57 + m) i - 1)) (h2 : 0 < i → B (a (57 + m) (i - 1)) = B' (a (57 + m) (i - 1))) : bV a B m i = bV a' B' m i := by
  have e2 := h 2 (by omega)
  have e7 := h 7 (by omega)
  have e11 := h 11 (by omega)
  have er := SE_row h hm
  have ej : jIn a B (a (57 + m) i) = jIn a' B' (a' (57 + m) i) := by
    unfold jIn
    rw [e2, e7, ← er]
    by_cases q : a (57 + m) i % 10 = 0
    · rw [if_pos q, if_pos q]
    · rw [if_neg q, if_neg q, h1 q]
  unfold bV
  rw [ej]
  by_cases q : 0 < i
  · rw [if_pos q, if_pos q]
    unfold oIn
    rw [e7, e11, h2 q, er]
  · rw [if_neg q, if_neg q]
def DIc (M : Nat) (t : Int) (τ : Mem) : Prop :=
  (∀ j : Int, 0 ≤ j → j < 8 → 0 ≤ τ (t + 5) j ∧ τ (t + 5) j ≤ τ 5 j)
  ∧ (∀ m : Int, 0 ≤ m → m < M → 0 ≤ τ (t + 6) m ∧ τ (t + 6) m ≤ τ 10 m)
  ∧ (∀ m i : Int, inO M τ m i → (i < τ (t + 6) m ↔ τ (57 + m) i % 10 < τ (t + 5) (τ (57 + m) i / 10)))
  ∧ τ t 6 = sumI (τ (t + 5)) 0 8
def DIs (t : Int) (rk : Int → Int) (τ : Mem) (m i : Int) : Prop :=
  (0 ≤ rk (τ (57 + m) i) ∧ rk (τ (57 + m) i) < τ t 6) ∧ τ (t + 4) (rk (τ (57 + m) i)) = τ (57 + m) i
  ∧ (0 < i → rk (τ (57 + m) (i - 1)) < rk (τ (57 + m) i)) ∧ (τ (57 + m) i % 10 ≠ 0 → rk (τ (57 + m) i - 1) < rk (τ (57 + m) i))
  ∧ τ (t + 1) (τ (57 + m) i) = bV τ (τ (t + 1)) m i ∧ τ (t + 3) (τ (57 + m) i) = i ∧ (0 ≤ τ (t + 1) (τ (57 + m) i) ∧ τ (t + 1) (τ (57 + m) i) ≤ 1000 + 100 * rk (τ (57 + m) i))
def DI (M : Nat) (t : Int) (rk : Int → Int) (τ : Mem) : Prop := DIc M t τ
  ∧ (∀ m i : Int, inO M τ m i → i < τ (t + 6) m → DIs t rk τ m i)
  ∧ (∀ q : Int, 0 ≤ q → q < τ t 6 → ∃ m i : Int, inO M τ m i ∧ i < τ (t + 6) m ∧ τ (t + 4) q = τ (57 + m) i ∧ rk (τ (57 + m) i) = q)
  ∧ (0 ≤ τ t 1 ∧ (∀ m i : Int, inO M τ m i → i < τ (t + 6) m → τ (t + 1) (τ (57 + m) i) + τ 7 (τ (57 + m) i) ≤ τ t 1) ∧ (τ t 1 = 0 ∨ ∃ m i : Int, inO M τ m i ∧ i < τ (t + 6) m ∧ τ (t + 1) (τ (57 + m) i) + τ 7 (τ (57 + m) i) = τ t 1))
/-- cells outside a plan's own -/
def FR (t : Int) (σ τ : Mem) : Prop := ∀ c : Int, c < t ∨ t + 6 < c → τ c = σ c
theorem FR.refl (t : Int) (σ : Mem) : FR t σ σ := fun _ _ => rfl
theorem FR.trans {t : Int} {a b c : Mem} (h : FR t a b) (g : FR t b c) : FR t a c := fun d hd => (g d hd).trans (h d hd)
theorem FR.SE {t : Int} (ht : t = 12 ∨ t = 19) {σ τ : Mem} (h : FR t σ τ) : SE σ τ := fun c hc => (h c (by omega)).symm
theorem DIc_cnt {M : Nat} {t : Int} {τ : Mem} (hB : SB M τ) (h : DIc M t τ) : 0 ≤ τ t 6 ∧ τ t 6 ≤ 48 := by
  rw [h.2.2.2]
  have := sumI_bd (f := τ (t + 5)) (lo := 0) (hi := 8) (B := 6) (by omega) (fun j h1 h2 => ⟨(h.1 j h1 h2).1, by have := (h.1 j h1 h2).2; have := (hB.2.2.2.2.1 j h1 h2).2; omega⟩) 8 (by omega)
  omega
theorem DI_span {M : Nat} {t : Int} {rk : Int → Int} {τ : Mem} (hN : WN M τ) (hO : WO M τ) (h : DI M t rk τ) : 0 ≤ τ t 1 ∧ τ t 1 ≤ 6000 := by
  obtain ⟨h1, h2, h3, h4, h5, h6⟩ := h
  have hc := DIc_cnt hN.1 h1
  refine ⟨h4, ?_⟩
  rcases h6 with e | ⟨m, i, q1, q2, q3⟩
  · omega
  · have a1 := h2 m i q1 q2
    have hs := VS_in hN.1 (inO_VS hN hO q1).1
    have := (hN.2.2.2.1 _ hs.1 hs.2.1).2
    have := a1.2.2.2.2.2.2.2
    have := a1.1.2
    omega
theorem drawStep_acc {t : Int} (ht : t = 12 ∨ t = 19) (m i : Int) (τ : Mem) : FR t τ (m_X2_drawStep t m i τ)
  ∧ (∀ x, m_X2_drawStep t m i τ (t + 1) x = if x = τ (57 + m) i then bV τ (τ (t + 1)) m i else τ (t + 1) x)
  ∧ (∀ x, m_X2_drawStep t m i τ (t + 3) x = if x = τ (57 + m) i then i else τ (t + 3) x)
  ∧ m_X2_drawStep t m i τ t 1 = max (τ t 1) (bV τ (τ (t + 1)) m i + τ 7 (τ (57 + m) i))
  ∧ m_X2_drawStep t m i τ t 6 = τ t 6 + 1
  ∧ (∀ x, m_X2_drawStep t m i τ (t + 4) x = if x = τ t 6 then τ (57 + m) i else τ (t + 4) x)
  ∧ (∀ x, m_X2_drawStep t m i τ (t + 5) x = if x = τ (57 + m) i / 10 then τ (t + 5) x + 1 else τ (t + 5) x)
  ∧ (∀ x, m_X2_drawStep t m i τ (t + 6) x = if x = m then τ (t + 6) x + 1 else τ (t + 6) x) := by
  refine ⟨fun c hc => ?_, fun x => ?_, fun x => ?_, ?_, ?_, fun x => ?_, fun x => ?_, fun x => ?_⟩
  · funext x
    unfold m_X2_drawStep
    rw [up_other _ _ _ (by omega), up_other _ _ _ (by omega), up_other _ _ _ (by omega), up_other _ _ _ (by omega), up_other _ _ _ (by omega), up_other _ _ _ (by omega), up_other _ _ _ (by omega)]
  all_goals (rcases ht with rfl | rfl <;> simp only [m_X2_drawStep, up] <;> grind)
set_option maxHeartbeats 2000000 in
theorem DI_step {M : Nat} {t : Int} (ht : t = 12 ∨ t = 19) {rk : Int → Int} {τ : Mem} (hN : WN M τ) (hO : WO M τ) (hA : AO τ) (h : DI M t rk τ) {m : Int} (hi : inO M τ m (τ (t + 6) m)) (hr : τ (t + 5) (τ (57 + m) (τ (t + 6) m) / 10) = τ (57 + m) (τ (t + 6) m) % 10) :
    DI M t (fun x => if x = τ (57 + m) (τ (t + 6) m) then τ t 6 else rk x) (m_X2_drawStep t m (τ (t + 6) m) τ) := by
  obtain ⟨i0, hi0⟩ : ∃ i0, i0 = τ (t + 6) m := ⟨_, rfl⟩
  rw [← hi0] at hi hr ⊢
  obtain ⟨s, hs⟩ : ∃ s, s = τ (57 + m) i0 := ⟨_, rfl⟩
  rw [← hs] at hr ⊢
  obtain ⟨b, hb⟩ : ∃ b, b = bV τ (τ (t + 1)) m i0 := ⟨_, rfl⟩
  obtain ⟨aF, a1, a3, ag, a6, a4, a5, am⟩ := drawStep_acc ht m i0 τ
  rw [← hs] at a1 a3 ag a4 a5
  rw [← hb] at a1 ag
  generalize hT : m_X2_drawStep t m i0 τ = T at *
  have hSE : SE τ T := aF.SE ht
  obtain ⟨⟨c1, c2, c3, c4⟩, d, sq, g0, g1, g2⟩ := id h
  have hv : VS τ s := by rw [hs]; exact (inO_VS hN hO hi).1
  have hmac : τ 6 s = m := by rw [hs]; exact (inO_VS hN hO hi).2
  have hsb := VS_in hN.1 hv
  have hcnt := DIc_cnt hN.1 h.1
  have e5 : T 5 = τ 5 := aF 5 (by omega)
  have e7 : T 7 = τ 7 := aF 7 (by omega)
  have e10 : T 10 = τ 10 := aF 10 (by omega)
  have er : ∀ m' : Int, 0 ≤ m' → T (57 + m') = τ (57 + m') := fun m' q => aF _ (by omega)
  have eO : ∀ m' i', inO M T m' i' ↔ inO M τ m' i' := fun m' i' => by unfold inO; rw [e10]
  have hlt : s % 10 < τ 5 (s / 10) := hv.2.2
  -- drawn steps are others
  have ne : ∀ m' i', inO M τ m' i' → i' < τ (t + 6) m' → τ (57 + m') i' ≠ s := by
    intro m' i' q1 q2 e
    have := (c3 m' i' q1).mp q2
    rw [e, hr] at this
    omega
  -- what a drawn step waits for is drawn
  have nep : ∀ m' i', inO M τ m' i' → τ (57 + m') i' % 10 ≤ τ (t + 5) (τ (57 + m') i' / 10) → τ (57 + m') i' % 10 ≠ 0 → τ (57 + m') i' - 1 ≠ s ∧ ∃ m2 i2, inO M τ m2 i2 ∧ i2 < τ (t + 6) m2 ∧ τ (57 + m2) i2 = τ (57 + m') i' - 1 := by
    intro m' i' q1 q2 q3
    have v1 := VS_pred hN (inO_VS hN hO q1).1 q3
    have b1 := VS_in hN.1 (inO_VS hN hO q1).1
    obtain ⟨m2, i2, p1, p2, -⟩ := VS_inO hN hA v1
    have lt : τ (57 + m2) i2 % 10 < τ (t + 5) (τ (57 + m2) i2 / 10) := by
      rw [p2, show (τ (57 + m') i' - 1) / 10 = τ (57 + m') i' / 10 by omega]
      omega
    refine ⟨fun e => ?_, m2, i2, p1, (c3 m2 i2 p1).mpr lt, p2⟩
    rw [p2, e, hr] at lt
    omega
  have hpred : s % 10 ≠ 0 → s - 1 ≠ s ∧ ∃ m2 i2, inO M τ m2 i2 ∧ i2 < τ (t + 6) m2 ∧ τ (57 + m2) i2 = s - 1 := by
    intro q
    have := nep m i0 hi (by rw [← hs, hr]; omega) (by rw [← hs]; exact q)
    rw [← hs] at this
    exact this
  have hprev : 0 < i0 → inO M τ m (i0 - 1) ∧ i0 - 1 < τ (t + 6) m := fun q => ⟨⟨hi.1, hi.2.1, by omega, by have := hi.2.2.2; omega⟩, by omega⟩
  -- begins of steps that were drawn
  have eB : ∀ m' i', inO M τ m' i' → i' < τ (t + 6) m' ∨ (m' = m ∧ i' = i0) → bV T (T (t + 1)) m' i' = bV τ (τ (t + 1)) m' i' := by
    intro m' i' q1 q2
    refine (bV_congr hSE q1.1 (fun q3 => ?_) (fun q3 => ?_)).symm
    · have hle : τ (57 + m') i' % 10 ≤ τ (t + 5) (τ (57 + m') i' / 10) := by
        rcases q2 with q2 | ⟨rfl, rfl⟩
        · have := (c3 m' i' q1).mp q2; omega
        · rw [← hs, hr]; omega
      rw [a1, if_neg (nep m' i' q1 hle q3).1]
    · have q4 : inO M τ m' (i' - 1) := ⟨q1.1, q1.2.1, by omega, by have := q1.2.2.2; omega⟩
      have q5 : i' - 1 < τ (t + 6) m' := by
        rcases q2 with q2 | ⟨rfl, rfl⟩ <;> omega
      rw [a1, if_neg (ne m' (i' - 1) q4 q5)]
  -- bounds of the new begin
  have hbb : 0 ≤ b ∧ b ≤ 1000 + 100 * τ t 6 := by
    have h2 := (hN.2.1 _ hsb.2.2.1 hsb.2.2.2.1).1
    have hj : 0 ≤ jIn τ (τ (t + 1)) s ∧ jIn τ (τ (t + 1)) s ≤ 1000 + 100 * τ t 6 := by
      unfold jIn
      by_cases q : s % 10 = 0
      · rw [if_pos q]; omega
      · rw [if_neg q]
        obtain ⟨m2, i2, p1, p2, p3⟩ := (hpred q).2
        have dd := d m2 i2 p1 p2
        unfold DIs at dd
        rw [p3] at dd
        have := (hN.2.2.2.1 (s - 1) (by omega) (by omega)).2
        omega
    rw [hb]
    unfold bV
    rw [← hs]
    by_cases q : 0 < i0
    · rw [if_pos q]
      have dd := d m (i0 - 1) (hprev q).1 (hprev q).2
      unfold DIs at dd
      have pb := VS_in hN.1 (inO_VS hN hO (hprev q).1).1
      have := (hN.2.2.2.1 _ pb.1 pb.2.1).2
      have h11 := hN.2.2.2.2.1 ((m * 8 + τ (57 + m) (i0 - 1) / 10) * 8 + s / 10) (by have := hi.1; omega) (by have := hi.2.1; have := hi.1; omega)
      unfold oIn
      omega
    · rw [if_neg q]; exact hj
  have hdM := c2 m hi.1 hi.2.1
  refine ⟨⟨fun j q1 q2 => ?_, fun m' q1 q2 => ?_, fun m' i' q1 => ?_, ?_⟩, fun m' i' q1 q2 => ?_, fun q q1 q2 => ?_, ?_, fun m' i' q1 q2 => ?_, ?_⟩
  · rw [a5, e5]
    have := c1 j q1 q2
    by_cases e : j = s / 10
    · rw [if_pos e]; subst e; omega
    · rw [if_neg e]; exact this
  · rw [am, e10]
    have := c2 m' q1 q2
    by_cases e : m' = m
    · rw [if_pos e]; subst e; have := hi.2.2.2; omega
    · rw [if_neg e]; exact this
  · have q1' := (eO m' i').mp q1
    rw [er m' q1'.1, am, a5]
    have key := c3 m' i' q1'
    have vb := VS_in hN.1 (inO_VS hN hO q1').1
    by_cases e : m' = m
    · subst e
      rw [if_pos rfl]
      by_cases e2 : i' = i0
      · subst e2
        rw [← hs, if_pos rfl, hr]
        omega
      · have ns : τ (57 + m') i' ≠ s := fun e3 => e2 (hO.2 m' i' i0 q1'.1 q1'.2.1 q1'.2.2.1 q1'.2.2.2 hi.2.2.1 hi.2.2.2 (by rw [e3, hs]))
        by_cases e3 : τ (57 + m') i' / 10 = s / 10
        · rw [if_pos e3]
          have : τ (57 + m') i' % 10 ≠ s % 10 := fun e4 => ns (by omega)
          rw [e3] at key ⊢
          omega
        · rw [if_neg e3]; omega
    · rw [if_neg e]
      have ns : τ (57 + m') i' ≠ s := fun e3 => e (by rw [← (inO_VS hN hO q1').2, e3, hmac])
      by_cases e3 : τ (57 + m') i' / 10 = s / 10
      · rw [if_pos e3]
        have : τ (57 + m') i' % 10 ≠ s % 10 := fun e4 => ns (by omega)
        rw [e3] at key ⊢
        omega
      · rw [if_neg e3]; exact key
  · rw [a6, c4]
    exact (sumI_up (k := s / 10) (by omega) (by omega) (by rw [a5, if_pos rfl]) (fun j q => by rw [a5, if_neg q])).symm
  · have q1' := (eO m' i').mp q1
    unfold DIs
    rw [er m' q1'.1, a6]
    by_cases e : m' = m ∧ i' = i0
    · obtain ⟨rfl, rfl⟩ := e
      rw [← hs]
      simp only [if_pos]
      refine ⟨⟨by omega, by omega⟩, ?_, fun q3 => ?_, fun q3 => ?_, ?_, ?_, ?_⟩
      · rw [a4, if_pos rfl]
      · have p := hprev q3
        rw [if_neg (ne _ _ p.1 p.2)]
        exact (d _ _ p.1 p.2).1.2
      · rw [if_neg (hpred q3).1]
        obtain ⟨m2, i2, p1, p2, p3⟩ := (hpred q3).2
        rw [← p3]
        exact (d m2 i2 p1 p2).1.2
      · rw [a1, if_pos rfl, eB m' i' q1' (Or.inr ⟨rfl, rfl⟩), hb]
      · rw [a3, if_pos rfl]
      · rw [a1, if_pos rfl]; exact hbb
    · have q2' : i' < τ (t + 6) m' := by
        rw [am] at q2
        by_cases e2 : m' = m
        · rw [if_pos e2] at q2
          subst e2
          have : i' ≠ i0 := fun e3 => e ⟨rfl, e3⟩
          omega
        · rw [if_neg e2] at q2; exact q2
      have dd := d m' i' q1' q2'
      have ns := ne m' i' q1' q2'
      unfold DIs at dd
      obtain ⟨x1, x2, x3, x4, x5, x6, x7⟩ := dd
      simp only [if_neg ns]
      refine ⟨⟨by omega, by omega⟩, ?_, fun q3 => ?_, fun q3 => ?_, ?_, ?_, ?_⟩
      · rw [a4, if_neg (by omega)]; exact x2
      · rw [if_neg (ne m' (i' - 1) ⟨q1'.1, q1'.2.1, by omega, by have := q1'.2.2.2; omega⟩ (by omega))]
        exact x3 q3
      · have hle : τ (57 + m') i' % 10 ≤ τ (t + 5) (τ (57 + m') i' / 10) := by have := (c3 m' i' q1').mp q2'; omega
        rw [if_neg (nep m' i' q1' hle q3).1]
        exact x4 q3
      · rw [a1, if_neg ns, eB m' i' q1' (Or.inl q2'), x5]
      · rw [a3, if_neg ns]; exact x6
      · rw [a1, if_neg ns]; exact x7
  · rw [a6] at q2
    by_cases e : q = τ t 6
    · subst e
      refine ⟨m, i0, (eO m i0).mpr hi, ?_, ?_, ?_⟩
      · rw [am, if_pos rfl]; omega
      · rw [er m hi.1, a4, if_pos rfl, hs]
      · dsimp only
        rw [er m hi.1, ← hs, if_pos rfl]
    · obtain ⟨m', i', p1, p2, p3, p4⟩ := sq q q1 (by omega)
      refine ⟨m', i', (eO m' i').mpr p1, ?_, ?_, ?_⟩
      · rw [am]; by_cases e2 : m' = m
        · rw [if_pos e2]; omega
        · rw [if_neg e2]; exact p2
      · rw [er m' p1.1, a4, if_neg e]; exact p3
      · dsimp only
        rw [er m' p1.1, if_neg (ne m' i' p1 p2)]; exact p4
  · clear g2 hpred nep
    rw [ag]; omega
  · clear g2 hpred nep
    have q1' := (eO m' i').mp q1
    rw [er m' q1'.1, ag, a1, e7]
    by_cases e : τ (57 + m') i' = s
    · rw [if_pos e, e]; omega
    · rw [if_neg e]
      have q2' : i' < τ (t + 6) m' := by
        rw [am] at q2
        by_cases e2 : m' = m
        · rw [if_pos e2] at q2
          subst e2
          have : i' ≠ i0 := fun e3 => e (by rw [e3, hs])
          omega
        · rw [if_neg e2] at q2; exact q2
      have := g1 m' i' q1' q2'
      omega
  · clear hpred nep
    rw [ag]
    by_cases e : τ t 1 ≤ b + τ 7 s
    · clear g2
      right
      refine ⟨m, i0, (eO m i0).mpr hi, ?_, ?_⟩
      · rw [am, if_pos rfl]; omega
      · rw [er m hi.1, a1, e7, ← hs, if_pos rfl]; omega
    · rcases g2 with g2 | ⟨m', i', p1, p2, p3⟩
      · have := (hN.2.2.2.1 s hsb.1 hsb.2.1).2; omega
      · right
        refine ⟨m', i', (eO m' i').mpr p1, ?_, ?_⟩
        · rw [am]; by_cases e2 : m' = m
          · rw [if_pos e2]; omega
          · rw [if_neg e2]; exact p2
        · rw [er m' p1.1, a1, e7, if_neg (ne m' i' p1 p2)]; omega
theorem SE_AO {M : Nat} {a b : Mem} (h : SE a b) (hN : WN M a) (g : AO a) : AO b := by
  intro s hs
  have hv := (SE_VS h s).mpr hs
  obtain ⟨i, q1, q2, q3⟩ := g s hv
  have hb := VS_in hN.1 hv
  have hm := (hN.2.2.2.1 s hb.1 hb.2.1).1.1
  have e6 := h 6 (by omega)
  have e10 := h 10 (by omega)
  refine ⟨i, q1, ?_, ?_⟩
  · rw [← e10, ← e6]; exact q2
  · rw [← e6, ← SE_row h hm]; exact q3
/-- the next step of no machine is ready -/
def NR (M : Nat) (t : Int) (τ : Mem) (w : Int) : Prop := ∀ m : Int, 0 ≤ m → m < w → τ (t + 6) m < τ 10 m → τ (t + 5) (τ (57 + m) (τ (t + 6) m) / 10) ≠ τ (57 + m) (τ (t + 6) m) % 10
theorem blk (c : Int) (h0 : 0 ≤ c) (h1 : c ≤ 6) (f : Int → Int) (b : Int) (hf : ∀ p : Int, 0 ≤ p → p < 10 → f (b + p) = if p < c then 1 else 0) (n : Nat) (hn : b = n) : sumN f 0 (n + 10) = sumN f 0 n + c := by
  have e : ∀ k : Nat, k < 10 → f (0 + ((n + k : Nat) : Int)) = if (k : Int) < c then 1 else 0 := fun k hk => by
    rw [← hf k (by omega) (by omega)]
    congr 1
    omega
  have e0 := e 0 (by omega)
  have e1 := e 1 (by omega)
  have e2 := e 2 (by omega)
  have e3 := e 3 (by omega)
  have e4 := e 4 (by omega)
  have e5 := e 5 (by omega)
  have e6 := e 6 (by omega)
  have e7 := e 7 (by omega)
  have e8 := e 8 (by omega)
  have e9 := e 9 (by omega)
  show sumN f 0 n + f (0 + ((n + 0 : Nat) : Int)) + f (0 + ((n + 1 : Nat) : Int)) + f (0 + ((n + 2 : Nat) : Int)) + f (0 + ((n + 3 : Nat) : Int)) + f (0 + ((n + 4 : Nat) : Int)) + f (0 + ((n + 5 : Nat) : Int)) + f (0 + ((n + 6 : Nat) : Int)) + f (0 + ((n + 7 : Nat) : Int)) + f (0 + ((n + 8 : Nat) : Int)) + f (0 + ((n + 9 : Nat) : Int)) = _
  rw [e0, e1, e2, e3, e4, e5, e6, e7, e8, e9]
  omega
/-- how many steps there are, counted by their numbers -/
theorem count80 {c : Int → Int} (h : ∀ j : Int, 0 ≤ j → j < 8 → 0 ≤ c j ∧ c j ≤ 6) : sumI (fun s => if s % 10 < c (s / 10) then 1 else 0) 0 80 = sumI c 0 8 := by
  have key : ∀ n : Nat, n ≤ 8 → sumN (fun s => if s % 10 < c (s / 10) then 1 else 0) 0 (10 * n) = sumN c 0 n := by
    intro n
    induction n with
    | zero => intro _; rfl
    | succ n ih =>
      intro hn
      have hc := h n (by omega) (by omega)
      rw [show 10 * (n + 1) = 10 * n + 10 by omega, blk (c n) hc.1 hc.2 _ (10 * (n : Int)) (fun p h1 h2 => ?_) (10 * n) (by omega), ih (by omega)]
      · show sumN c 0 n + c n = sumN c 0 n + c (0 + (n : Int))
        rw [Int.zero_add]
      · rw [show (10 * (n : Int) + p) % 10 = p by omega, show (10 * (n : Int) + p) / 10 = n by omega]
  exact key 8 (by omega)
theorem WF_AO {M : Nat} {a : Mem} (h : WF M a) (g : a 1 2 ≤ a 1 3) : AO a := by
  obtain ⟨hN, hO, h1, h2, h3, h4, h5⟩ := h
  have hle : ∀ s : Int, 0 ≤ s → s < 80 → a 8 s ≤ if s % 10 < a 5 (s / 10) then 1 else 0 := by
    intro s q1 q2
    rcases h1 s q1 q2 with e | ⟨e, v⟩
    · rw [e]; split <;> omega
    · rw [e, if_pos v.2.2]; omega
  have e := count80 hN.1.2.2.2.2.1
  rw [h3, h4, ← e] at g
  have key := sumI_eq hle g
  intro s hs
  have hb := VS_in hN.1 hs
  have := key s hb.1 hb.2.1
  rw [if_pos hs.2.2] at this
  exact h2 s hs this
def drD (t : Int) (τ : Mem) (s : Int) : Prop := s % 10 < τ (t + 5) (s / 10)
theorem DI_PP {M : Nat} {t : Int} {rk : Int → Int} {τ : Mem} (hN : WN M τ) (hO : WO M τ) (h : DI M t rk τ) : PP M τ (drD t τ) (τ (t + 1)) rk := by
  intro m i hi hd
  obtain ⟨⟨c1, c2, c3, c4⟩, d, sq, g⟩ := id h
  have hlt := (c3 m i hi).mpr hd
  have hc := DIc_cnt hN.1 h.1
  obtain ⟨x1, x2, x3, x4, x5, x6, x7⟩ := d m i hi hlt
  refine ⟨⟨x1.1, by omega⟩, fun q => ⟨?_, x3 q⟩, fun q => ⟨?_, x4 q⟩, x5⟩
  · have hi' : inO M τ m (i - 1) := ⟨hi.1, hi.2.1, by omega, by have := hi.2.2.2; omega⟩
    exact (c3 m (i - 1) hi').mp (by omega)
  · have hb := VS_in hN.1 (inO_VS hN hO hi).1
    unfold drD at hd ⊢
    rw [show (τ (57 + m) i - 1) / 10 = τ (57 + m) i / 10 by omega]
    omega
theorem NR_MX {M : Nat} {t : Int} {τ : Mem} (hN : WN M τ) (hO : WO M τ) (h : DIc M t τ) (g : NR M t τ M) : MX M τ (drD t τ) := by
  intro m i hi hn
  obtain ⟨c1, c2, c3, c4⟩ := h
  have hge : ¬ i < τ (t + 6) m := fun q => hn ((c3 m i hi).mp q)
  have hb := VS_in hN.1 (inO_VS hN hO hi).1
  by_cases e : i = τ (t + 6) m
  · right
    have := g m hi.1 hi.2.1 (by rw [← e]; exact hi.2.2.2)
    rw [← e] at this
    have h5 := c1 (τ (57 + m) i / 10) (by omega) (by omega)
    unfold drD at hn ⊢
    refine ⟨by omega, ?_⟩
    rw [show (τ (57 + m) i - 1) / 10 = τ (57 + m) i / 10 by omega]
    omega
  · left
    have := c2 m hi.1 hi.2.1
    have hi' : inO M τ m (i - 1) := ⟨hi.1, hi.2.1, by omega, by have := hi.2.2.2; omega⟩
    refine ⟨by omega, fun q => ?_⟩
    have := (c3 m (i - 1) hi').mpr q
    omega
theorem DI_SPN {M : Nat} {t : Int} {rk : Int → Int} {τ : Mem} (hN : WN M τ) (hO : WO M τ) (hA : AO τ) (h : DI M t rk τ) : SPN τ (drD t τ) (τ (t + 1)) (τ t 1) := by
  obtain ⟨⟨c1, c2, c3, c4⟩, d, sq, g0, g1, g2⟩ := id h
  refine ⟨g0, fun s hs hd => ?_, ?_⟩
  · obtain ⟨m, i, hi, e, -⟩ := VS_inO hN hA hs
    have hlt := (c3 m i hi).mpr (by rw [e]; exact hd)
    have := g1 m i hi hlt
    rw [e] at this
    exact this
  · rcases g2 with g2 | ⟨m, i, p1, p2, p3⟩
    · exact Or.inl g2
    · exact Or.inr ⟨_, (inO_VS hN hO p1).1, (c3 m i p1).mp p2, p3⟩

/-! X2_drawWhatIsReady -/
def pre_X2_drawWhatIsReady (M : Nat) (t : Int) (σ : Mem) : Prop := WN M σ ∧ WO M σ ∧ AO σ ∧ ∃ rk, DI M t rk σ
def post_X2_drawWhatIsReady (M : Nat) (t : Int) (σ σ' : Mem) : Prop := FR t σ σ' ∧ (∃ rk, DI M t rk σ') ∧ σ t 6 ≤ σ' t 6 ∧ (σ' t 6 = σ t 6 → NR M t σ' M)
def inv_X2_drawWhatIsReady_2 (M : Nat) (t : Int) (σ : Mem) (w1 : Int) (τ : Mem) : Prop := 0 ≤ w1 ∧ w1 ≤ M ∧ FR t σ τ ∧ (∃ rk, DI M t rk τ) ∧ σ t 6 ≤ τ t 6 ∧ (τ t 6 = σ t 6 → NR M t τ w1)
def mu_X2_drawWhatIsReady_2 (t : Int) (w1 : Int) (τ : Mem) : Nat := ((5 - w1) * 100 + 99).toNat
def inv_X2_drawWhatIsReady_41 (M : Nat) (t : Int) (σ : Mem) (w1 w3 w4 : Int) (τ : Mem) : Prop := 0 ≤ w1 ∧ w1 < M ∧ w3 = τ 10 w1 ∧ w4 = τ (t + 6) w1 ∧ FR t σ τ ∧ (∃ rk, DI M t rk τ) ∧ σ t 6 ≤ τ t 6 ∧ (τ t 6 = σ t 6 → NR M t τ w1)
def mu_X2_drawWhatIsReady_41 (t : Int) (w1 w3 w4 : Int) (τ : Mem) : Nat := ((5 - w1) * 100 + (w3 - w4)).toNat
def VC_X2_drawWhatIsReady_0 (M : Nat) (K2 : Int → Mem → Prop) (post : Mem → Prop) (t : Int) (σ : Mem) : Prop :=
  K2 0 σ
set_option maxRecDepth 20000 in
set_option maxHeartbeats 4000000 in
theorem seg_X2_drawWhatIsReady_0 {G : GG} {X : XX} {post : Mem → Prop} (C : CX G X cX2_drawWhatIsReady RX2 5 none 2) {t : Int} (ht : t = 12 ∨ t = 19)  (σ : Mem) (vc : VC_X2_drawWhatIsReady_0 (gM G) (fun w1 σ => RW G X 5 (QV G X post) 2 [(0, pR t), (1, pI w1)] [] σ) post t  σ) : RW G X 5 (QV G X post) 0 [(0, pR t)] [] σ := by
  unfold VC_X2_drawWhatIsReady_0 at vc
  refine w_iconst C dX2_drawWhatIsReady_0 ?_
  refine w_istore_n C [(1, pI 0), (0, pR t)] dX2_drawWhatIsReady_1 (by decide) rfl ?_
  exact w_sub _ [1, 0] rfl vc
def VC_X2_drawWhatIsReady_2 (M : Nat) (K41 : Int → Int → Int → Mem → Prop) (post : Mem → Prop) (t : Int) (w1 : Int) (σ : Mem) : Prop :=
 (inR w1 ∧ inR (σ 1 0)) ∧ (((σ 1 0) ≤ w1 → post σ) ∧ (w1 < (σ 1 0) → (0 ≤ w1 ∧ w1 < M) ∧ (0 ≤ w1 ∧ w1 < M) ∧ ∀ v8 : Int, v8 = σ 10 w1 → (0 ≤ w1 ∧ w1 < 5) ∧ ∀ v11 : Int, v11 = σ (t + 6) w1 → K41 w1 v8 v11 σ))
set_option maxRecDepth 20000 in
set_option maxHeartbeats 4000000 in
theorem seg_X2_drawWhatIsReady_2 {G : GG} {X : XX} {post : Mem → Prop} (C : CX G X cX2_drawWhatIsReady RX2 5 none 2) {t : Int} (ht : t = 12 ∨ t = 19) (w1 : Int) (σ : Mem) (vc : VC_X2_drawWhatIsReady_2 (gM G) (fun w1 w3 w4 σ => RW G X 5 (QV G X post) 41 [(0, pR t), (1, pI w1), (2, pR (57 + w1)), (3, pI w3), (4, pI w4)] [] σ) post t w1 σ) : RW G X 5 (QV G X post) 2 [(0, pR t), (1, pI w1)] [] σ := by
  unfold VC_X2_drawWhatIsReady_2 at vc
  refine w_iload_n C 1 dX2_drawWhatIsReady_2 rfl ?_
  refine w_aload_n C 0 dX2_drawWhatIsReady_3 rfl ?_
  refine w_getR C dX2_drawWhatIsReady_4 gf_X2_37 (ob_t ht) rfl ?_
  refine w_getI C 0 dX2_drawWhatIsReady_7 gf_X2_58 ob_1 rfl rfl ?_
  obtain ⟨⟨sc1, sc2⟩, vc⟩ := vc
  refine w_icmp_ge C 77 dX2_drawWhatIsReady_10 (by decide) sc1 sc2 (fun h3 => ?_) (fun h3 => ?_)
  · have vc := vc.1 h3
    exact w_vreturn C dX2_drawWhatIsReady_77 vc
  · have vc := vc.2 h3
    refine w_aload_n C 0 dX2_drawWhatIsReady_13 rfl ?_
    refine w_getR C dX2_drawWhatIsReady_14 gf_X2_37 (ob_t ht) rfl ?_
    refine w_getR C dX2_drawWhatIsReady_17 gf_X2_61 ob_1 rfl ?_
    refine w_iload_n C 1 dX2_drawWhatIsReady_20 rfl ?_
    obtain ⟨⟨sc4, sc5⟩, vc⟩ := vc
    refine w_aald C dX2_drawWhatIsReady_21 (ra_9 C.gi) sc4 sc5 ?_
    refine w_astore_n C [(2, pR (57 + w1)), (0, pR t), (1, pI w1)] dX2_drawWhatIsReady_22 (by decide) rfl ?_
    refine w_aload_n C 1 dX2_drawWhatIsReady_23 rfl ?_
    refine w_getR C dX2_drawWhatIsReady_24 gf_X2_37 (ob_t ht) rfl ?_
    refine w_getR C dX2_drawWhatIsReady_27 gf_X2_65 ob_1 rfl ?_
    refine w_iload_n C 2 dX2_drawWhatIsReady_30 rfl ?_
    obtain ⟨⟨sc6, sc7⟩, vc⟩ := vc
    refine w_iald C dX2_drawWhatIsReady_31 (ia_10 C.gi) sc6 sc7 ?_
    refine w_top (fun v8 hv8 => ?_)
    have vc := vc v8 hv8
    refine w_istore_n C [(3, pI v8), (2, pR (57 + w1)), (0, pR t), (1, pI w1)] dX2_drawWhatIsReady_32 (by decide) rfl ?_
    refine w_aload_n C 2 dX2_drawWhatIsReady_33 rfl ?_
    refine w_getR C dX2_drawWhatIsReady_34 gf_X2_34 (ob_t ht) rfl ?_
    refine w_iload_n C 3 dX2_drawWhatIsReady_37 rfl ?_
    obtain ⟨⟨sc9, sc10⟩, vc⟩ := vc
    refine w_iald C dX2_drawWhatIsReady_38 (ia_t6 ht) sc9 sc10 ?_
    refine w_top (fun v11 hv11 => ?_)
    have vc := vc v11 hv11
    refine w_istore C [(4, pI v11), (3, pI v8), (2, pR (57 + w1)), (0, pR t), (1, pI w1)] dX2_drawWhatIsReady_39 (by decide) rfl ?_
    exact w_sub _ [3, 4, 2, 1, 0] rfl vc
def VC_X2_drawWhatIsReady_41 (M : Nat) (K2 : Int → Mem → Prop) (K41 : Int → Int → Int → Mem → Prop) (post : Mem → Prop) (t : Int) (w1 : Int) (w3 : Int) (w4 : Int) (σ : Mem) : Prop :=
 (0 ≤ w1 ∧ w1 < M) ∧ (inR w4 ∧ inR w3) ∧ ((w3 ≤ w4 → K2 (w1 + 1) σ) ∧ (w4 < w3 → (0 ≤ w4 ∧ w4 < 48) ∧ (pre_X2_isReady M t (σ (57 + w1) w4) σ) ∧ ((P_X2_isReady t (σ (57 + w1) w4) σ → (pre_X2_drawStep M t w1 w4 σ) ∧ ∀ s9 : Mem, s9 = m_X2_drawStep t w1 w4 σ → K41 w1 w3 (w4 + 1) s9) ∧ (¬ P_X2_isReady t (σ (57 + w1) w4) σ → K2 (w1 + 1) σ))))
set_option maxRecDepth 20000 in
set_option maxHeartbeats 4000000 in
theorem seg_X2_drawWhatIsReady_41 {G : GG} {X : XX} {post : Mem → Prop} (C : CX G X cX2_drawWhatIsReady RX2 5 none 2) {t : Int} (ht : t = 12 ∨ t = 19) (w1 : Int) (w3 : Int) (w4 : Int) (σ : Mem) (vc : VC_X2_drawWhatIsReady_41 (gM G) (fun w1 σ => RW G X 5 (QV G X post) 2 [(0, pR t), (1, pI w1)] [] σ) (fun w1 w3 w4 σ => RW G X 5 (QV G X post) 41 [(0, pR t), (1, pI w1), (2, pR (57 + w1)), (3, pI w3), (4, pI w4)] [] σ) post t w1 w3 w4 σ) : RW G X 5 (QV G X post) 41 [(0, pR t), (1, pI w1), (2, pR (57 + w1)), (3, pI w3), (4, pI w4)] [] σ := by
  unfold VC_X2_drawWhatIsReady_41 at vc
  obtain ⟨⟨r2a, r2b⟩, vc⟩ := vc
  refine w_iload C 4 dX2_drawWhatIsReady_41 rfl ?_
  refine w_iload_n C 3 dX2_drawWhatIsReady_43 rfl ?_
  obtain ⟨⟨sc1, sc2⟩, vc⟩ := vc
  refine w_icmp_ge C 71 dX2_drawWhatIsReady_44 (by decide) sc1 sc2 (fun h3 => ?_) (fun h3 => ?_)
  · have vc := vc.1 h3
    refine w_iinc C 1 [(1, pI (w1 + 1)), (0, pR t), (2, pR (57 + w1)), (3, pI w3), (4, pI w4)] dX2_drawWhatIsReady_71 rfl (by decide) rfl ?_
    refine w_goto C 2 dX2_drawWhatIsReady_74 (by decide) ?_
    exact w_sub _ [1, 0] rfl vc
  · have vc := vc.2 h3
    refine w_aload_n C 0 dX2_drawWhatIsReady_47 rfl ?_
    refine w_aload_n C 2 dX2_drawWhatIsReady_48 rfl ?_
    refine w_iload C 4 dX2_drawWhatIsReady_49 rfl ?_
    obtain ⟨⟨sc4, sc5⟩, vc⟩ := vc
    refine w_iald C dX2_drawWhatIsReady_51 (ia_row r2a r2b) sc4 sc5 ?_
    obtain ⟨sc6, vc⟩ := vc
    refine w_callVI C [pI (σ (57 + w1) w4)] [] rfl dX2_drawWhatIsReady_52 (c_X2_isReady C.gi (xL X) t (σ (57 + w1) w4) σ ht sc6) (oc_t ht) mw_X2_isReady ml_X2_68 im_X2_isReady se_X2_isReady (by decide) (Nat.le_of_ble_eq_true rfl) (fun z σ' hz => ?_)
    obtain ⟨hz2, hz⟩ := hz
    have hz2 := hz2.symm
    subst hz2
    rcases hz with ⟨h7, rfl⟩ | ⟨h7, rfl⟩
    · have vc := vc.1 h7
      refine w_if_eq C 71 dX2_drawWhatIsReady_55 (by decide) ⟨by omega, by omega⟩ (fun q => absurd q (by decide)) (fun _ => ?_)
      refine w_aload_n C 0 dX2_drawWhatIsReady_58 rfl ?_
      refine w_iload_n C 1 dX2_drawWhatIsReady_59 rfl ?_
      refine w_iload C 4 dX2_drawWhatIsReady_60 rfl ?_
      obtain ⟨sc8, vc⟩ := vc
      refine w_callVV C [pI w1, pI w4] [] rfl dX2_drawWhatIsReady_62 (c_X2_drawStep C.gi (xL X) t w1 w4 σ ht sc8) (oc_t ht) mw_X2_drawStep ml_X2_72 im_X2_drawStep se_X2_drawStep (by decide) (Nat.le_of_ble_eq_true rfl) (fun s9 hs9 => ?_)
      have vc := vc s9 hs9
      refine w_iinc C 4 [(4, pI (w4 + 1)), (0, pR t), (1, pI w1), (2, pR (57 + w1)), (3, pI w3)] dX2_drawWhatIsReady_65 rfl (by decide) rfl ?_
      refine w_goto C 41 dX2_drawWhatIsReady_68 (by decide) ?_
      exact w_sub _ [1, 2, 3, 4, 0] rfl vc
    · have vc := vc.2 h7
      refine w_if_eq C 71 dX2_drawWhatIsReady_55 (by decide) ⟨by omega, by omega⟩ (fun _ => ?_) (fun q => absurd q (by decide))
      refine w_iinc C 1 [(1, pI (w1 + 1)), (0, pR t), (2, pR (57 + w1)), (3, pI w3), (4, pI w4)] dX2_drawWhatIsReady_71 rfl (by decide) rfl ?_
      refine w_goto C 2 dX2_drawWhatIsReady_74 (by decide) ?_
      exact w_sub _ [1, 0] rfl vc
set_option maxHeartbeats 1000000 in
theorem ok_X2_drawWhatIsReady_0 {M : Nat} {t : Int} {σ : Mem} {K2 : Int → Mem → Prop} (ht : t = 12 ∨ t = 19) (h : pre_X2_drawWhatIsReady M t σ) (hK2 : ∀ (y1 : Int) (τ' : Mem), inv_X2_drawWhatIsReady_2 M t σ y1 τ' → K2 y1 τ') : VC_X2_drawWhatIsReady_0 M K2 (post_X2_drawWhatIsReady M t σ) t σ := by
  obtain ⟨hN, hO, hA, hD⟩ := h
  have := hN.1.2.1
  exact hK2 _ _ ⟨by omega, by omega, FR.refl t σ, hD, Int.le_refl _, fun _ m q1 q2 => by omega⟩
set_option maxHeartbeats 1000000 in
theorem ok_X2_drawWhatIsReady_2 {M : Nat} {t : Int} {σ : Mem} {w1 : Int} {τ : Mem} {K41 : Int → Int → Int → Mem → Prop} (ht : t = 12 ∨ t = 19) (h : pre_X2_drawWhatIsReady M t σ) (hinv : inv_X2_drawWhatIsReady_2 M t σ w1 τ) (hK41 : ∀ (y1 y3 y4 : Int) (τ' : Mem), inv_X2_drawWhatIsReady_41 M t σ y1 y3 y4 τ' → mu_X2_drawWhatIsReady_41 t y1 y3 y4 τ' < mu_X2_drawWhatIsReady_2 t w1 τ → K41 y1 y3 y4 τ') : VC_X2_drawWhatIsReady_2 M K41 (post_X2_drawWhatIsReady M t σ) t w1 τ := by
  obtain ⟨hN, hO, hA, hD0⟩ := h
  obtain ⟨i1, i2, hF, ⟨rk, hD⟩, i3, i4⟩ := hinv
  have hM : M ≤ 5 := hN.1.2.2.1
  have hN' := SE_WN (hF.SE ht) hN
  have e1 : τ 1 0 = M := hN'.1.1
  refine ⟨⟨⟨by omega, by omega⟩, ⟨by omega, by omega⟩⟩, fun g => ⟨hF, ⟨rk, hD⟩, i3, fun e => ?_⟩, fun g => ?_⟩
  · have : w1 = M := by omega
    rw [← this]
    exact i4 e
  · refine ⟨⟨i1, by omega⟩, ⟨i1, by omega⟩, fun v8 e8 => ⟨⟨i1, by omega⟩, fun v11 e11 => hK41 _ _ _ _ ⟨i1, by omega, e8, e11, hF, ⟨rk, hD⟩, i3, i4⟩ ?_⟩⟩
    have h10 := hN'.1.2.2.2.2.2 w1 i1 (by omega)
    have h6 := hD.1.2.1 w1 i1 (by omega)
    unfold mu_X2_drawWhatIsReady_41 mu_X2_drawWhatIsReady_2
    omega
set_option maxHeartbeats 1000000 in
theorem ok_X2_drawWhatIsReady_41 {M : Nat} {t : Int} {σ : Mem} {w1 w3 w4 : Int} {τ : Mem} {K2 : Int → Mem → Prop} {K41 : Int → Int → Int → Mem → Prop} (ht : t = 12 ∨ t = 19) (h : pre_X2_drawWhatIsReady M t σ) (hinv : inv_X2_drawWhatIsReady_41 M t σ w1 w3 w4 τ) (hK2 : ∀ (y1 : Int) (τ' : Mem), inv_X2_drawWhatIsReady_2 M t σ y1 τ' → mu_X2_drawWhatIsReady_2 t y1 τ' < mu_X2_drawWhatIsReady_41 t w1 w3 w4 τ → K2 y1 τ') (hK41 : ∀ (y1 y3 y4 : Int) (τ' : Mem), inv_X2_drawWhatIsReady_41 M t σ y1 y3 y4 τ' → mu_X2_drawWhatIsReady_41 t y1 y3 y4 τ' < mu_X2_drawWhatIsReady_41 t w1 w3 w4 τ → K41 y1 y3 y4 τ') : VC_X2_drawWhatIsReady_41 M K2 K41 (post_X2_drawWhatIsReady M t σ) t w1 w3 w4 τ := by
  obtain ⟨hN, hO, hA, hD0⟩ := h
  obtain ⟨i1, i2, rfl, rfl, hF, ⟨rk, hD⟩, i3, i4⟩ := hinv
  have hM : M ≤ 5 := hN.1.2.2.1
  have hN' := SE_WN (hF.SE ht) hN
  have hO' := SE_WO (hF.SE ht) hO
  have hA' := SE_AO (hF.SE ht) hN hA
  have h10 := hN'.1.2.2.2.2.2 w1 i1 (by omega)
  have h6 := hD.1.2.1 w1 i1 (by omega)
  refine ⟨⟨i1, i2⟩, ⟨⟨by omega, by omega⟩, ⟨by omega, by omega⟩⟩, fun g => ?_, fun g => ⟨⟨by omega, by omega⟩, ?_, fun g2 => ⟨?_, fun s9 e9 => ?_⟩, fun g2 => ?_⟩⟩
  · refine hK2 _ _ ⟨by omega, by omega, hF, ⟨rk, hD⟩, i3, fun e m q1 q2 q3 => ?_⟩ ?_
    · by_cases em : m = w1
      · subst em; omega
      · exact i4 e m q1 (by omega) q3
    · unfold mu_X2_drawWhatIsReady_41 mu_X2_drawWhatIsReady_2
      omega
  · have hb := VS_in hN'.1 (inO_VS hN' hO' (m := w1) (i := τ (t + 6) w1) ⟨i1, i2, h6.1, g⟩).1
    have h5 := hD.1.1 (τ (57 + w1) (τ (t + 6) w1) / 10) (by omega) (by omega)
    have h5' := hN'.1.2.2.2.2.1 (τ (57 + w1) (τ (t + 6) w1) / 10) (by omega) (by omega)
    exact ⟨by omega, by omega, by omega, by omega⟩
  · have hi : inO M τ w1 (τ (t + 6) w1) := ⟨i1, i2, h6.1, g⟩
    have hD' := DI_step ht hN' hO' hA' hD hi g2
    have hcn := DIc_cnt (SE_SB ((drawStep_acc ht w1 (τ (t + 6) w1) τ).1.SE ht) hN'.1) hD'.1
    rw [(drawStep_acc ht w1 (τ (t + 6) w1) τ).2.2.2.2.1] at hcn
    have hcn0 := DIc_cnt hN'.1 hD.1
    have hsp := DI_span hN' hO' hD
    refine ⟨hN', hO', hi, ⟨hcn0.1, by omega⟩, ⟨hsp.1, by omega⟩, fun q => ?_, fun q => ?_⟩
    · have hv := (inO_VS hN' hO' hi).1
      have hb := VS_in hN'.1 hv
      obtain ⟨m2, i2', p1, p2, -⟩ := VS_inO hN' hA' (VS_pred hN' hv q)
      have lt := (hD.1.2.2.1 m2 i2' p1).mpr (by
        rw [p2, show (τ (57 + w1) (τ (t + 6) w1) - 1) / 10 = τ (57 + w1) (τ (t + 6) w1) / 10 by omega]
        have : τ (t + 5) (τ (57 + w1) (τ (t + 6) w1) / 10) = τ (57 + w1) (τ (t + 6) w1) % 10 := g2
        omega)
      have dd := hD.2.1 m2 i2' p1 lt
      unfold DIs at dd
      rw [p2] at dd
      omega
    · have dd := hD.2.1 w1 (τ (t + 6) w1 - 1) ⟨i1, i2, by omega, by omega⟩ (by omega)
      unfold DIs at dd
      omega
  · have hi : inO M τ w1 (τ (t + 6) w1) := ⟨i1, i2, h6.1, g⟩
    have hD' := DI_step ht hN' hO' hA' hD hi g2
    obtain ⟨aF, a1, a3, ag, a6, a4, a5, am⟩ := drawStep_acc ht w1 (τ (t + 6) w1) τ
    rw [← e9] at hD' aF a6 am
    refine hK41 _ _ _ _ ⟨i1, i2, ?_, ?_, hF.trans aF, ⟨_, hD'⟩, by omega, fun e => by omega⟩ ?_
    · rw [aF 10 (by omega)]
    · rw [am, if_pos rfl]
    · unfold mu_X2_drawWhatIsReady_41
      omega
  · refine hK2 _ _ ⟨by omega, by omega, hF, ⟨rk, hD⟩, i3, fun e m q1 q2 q3 => ?_⟩ ?_
    · by_cases em : m = w1
      · subst em; exact g2
      · exact i4 e m q1 (by omega) q3
    · unfold mu_X2_drawWhatIsReady_41 mu_X2_drawWhatIsReady_2
      omega
theorem c_X2_drawWhatIsReady {G : GG} (hG : GI G) (l : Launch) (t : Int) (σ : Mem) (ht : t = 12 ∨ t = 19) (h : pre_X2_drawWhatIsReady (gM G) t σ) : CtV G l yX2_drawWhatIsReady cX2_drawWhatIsReady 5 none 2 [pR t] σ (post_X2_drawWhatIsReady (gM G) t σ) := by
  refine CtV.of hG (by decide) (Nat.le_of_ble_eq_true rfl) (fun X hl C => ?_)
  show RW G X 5 (QV G X _) 0 [(0, pR t)] [] σ
  have key : ∀ n : Nat, (∀ (w1 : Int) (τ : Mem), inv_X2_drawWhatIsReady_2 (gM G) t σ w1 τ → mu_X2_drawWhatIsReady_2 t w1 τ < n → RW G X 5 (QV G X (post_X2_drawWhatIsReady (gM G) t σ)) 2 [(0, pR t), (1, pI w1)] [] τ) ∧ (∀ (w1 w3 w4 : Int) (τ : Mem), inv_X2_drawWhatIsReady_41 (gM G) t σ w1 w3 w4 τ → mu_X2_drawWhatIsReady_41 t w1 w3 w4 τ < n → RW G X 5 (QV G X (post_X2_drawWhatIsReady (gM G) t σ)) 41 [(0, pR t), (1, pI w1), (2, pR (57 + w1)), (3, pI w3), (4, pI w4)] [] τ) := by
    intro n
    induction n with
    | zero => exact ⟨fun w1 τ _ h0 => absurd h0 (Nat.not_lt_zero _), fun w1 w3 w4 τ _ h0 => absurd h0 (Nat.not_lt_zero _)⟩
    | succ n ih =>
      exact ⟨(fun w1 τ hinv h0 => seg_X2_drawWhatIsReady_2 C ht w1 τ (ok_X2_drawWhatIsReady_2 ht h hinv (fun y1 y3 y4 τ' hi hm => ih.2 y1 y3 y4 τ' hi (Nat.lt_of_lt_of_le hm (Nat.le_of_lt_succ h0))))), (fun w1 w3 w4 τ hinv h0 => seg_X2_drawWhatIsReady_41 C ht w1 w3 w4 τ (ok_X2_drawWhatIsReady_41 ht h hinv (fun y1 τ' hi hm => ih.1 y1 τ' hi (Nat.lt_of_lt_of_le hm (Nat.le_of_lt_succ h0))) (fun y1 y3 y4 τ' hi hm => ih.2 y1 y3 y4 τ' hi (Nat.lt_of_lt_of_le hm (Nat.le_of_lt_succ h0)))))⟩
  exact seg_X2_drawWhatIsReady_0 C ht σ (ok_X2_drawWhatIsReady_0 ht h (fun y1 τ' hi => (key _).1 y1 τ' hi (Nat.lt_succ_self _)))

/-! X2_draw -/
def pre_X2_draw (M : Nat) (t : Int) (σ : Mem) : Prop := WF M σ
def post_X2_draw (M : Nat) (t : Int) (σ : Mem) (z : Int) (σ' : Mem) : Prop := (z = 1 ∧ σ 1 3 < σ 1 2 ∧ σ' = σ) ∨ (σ 1 2 ≤ σ 1 3 ∧ FR t σ σ' ∧ ∃ rk, DI M t rk σ' ∧ ((z = 0 ∧ ∀ j : Int, 0 ≤ j → j < 8 → σ' (t + 5) j = σ' 5 j) ∨ (z = 2 ∧ NR M t σ' M ∧ σ' t 6 ≠ σ' 1 2)))
def inv_X2_draw_49 (M : Nat) (t : Int) (σ : Mem) (w1 w2 : Int) (τ : Mem) : Prop := σ 1 2 ≤ σ 1 3 ∧ (w1 = 0 ∨ w1 = 1) ∧ 0 ≤ w2 ∧ w2 ≤ 48 ∧ FR t σ τ ∧ (∃ rk, DI M t rk τ) ∧ (w1 = 1 → w2 ≤ τ t 6) ∧ (w1 = 0 → NR M t τ M)
def mu_X2_draw_49 (t : Int) (w1 w2 : Int) (τ : Mem) : Nat := (49 - w2).toNat
theorem steps_in {M : Nat} {σ : Mem} (h : WF M σ) : 0 ≤ σ 1 2 ∧ σ 1 2 ≤ 48 ∧ 0 ≤ σ 1 3 ∧ σ 1 3 ≤ 80 := by
  obtain ⟨hN, hO, h1, h2, h3, h4, h5⟩ := h
  have a := sumI_bd (f := fun j => σ 5 j) (lo := 0) (hi := 8) (B := 6) (by omega) (fun j p q => hN.1.2.2.2.2.1 j p q) 8 (by omega)
  have b := sumI_bd (f := fun s => σ 8 s) (lo := 0) (hi := 80) (B := 1) (by omega) (fun s p q => by rcases h1 s p q with e | e <;> omega) 80 (by omega)
  omega
def VC_X2_draw_0 (M : Nat) (K49 : Int → Int → Mem → Prop) (post : Int → Mem → Prop) (t : Int) (σ : Mem) : Prop :=
 (inR (σ 1 3) ∧ inR (σ 1 2)) ∧ (((σ 1 2) ≤ (σ 1 3) → ∀ s4 : Mem, s4 = up σ t 1 0 → ∀ s5 : Mem, s5 = up s4 t 6 0 → (pre_J7_fill_53178 M (t + 5) 8 0 s5) ∧ ∀ s7 : Mem, s7 = m_J7_fill_53178 (t + 5) 8 0 s5 → (pre_J7_fill_53178 M (t + 6) 5 0 s7) ∧ ∀ s9 : Mem, s9 = m_J7_fill_53178 (t + 6) 5 0 s7 → K49 1 0 s9) ∧ ((σ 1 3) < (σ 1 2) → post 1 σ))
set_option maxRecDepth 20000 in
set_option maxHeartbeats 4000000 in
theorem seg_X2_draw_0 {G : GG} {X : XX} {post : Int → Mem → Prop} (C : CX G X cX2_draw RX2 4 (some .int) 3) {t : Int} (ht : t = 12 ∨ t = 19)  (σ : Mem) (vc : VC_X2_draw_0 (gM G) (fun w1 w2 σ => RW G X 4 (QI G X post) 49 [(0, pR t), (1, pI w1), (2, pI w2)] [] σ) post t  σ) : RW G X 4 (QI G X post) 0 [(0, pR t)] [] σ := by
  unfold VC_X2_draw_0 at vc
  refine w_aload_n C 0 dX2_draw_0 rfl ?_
  refine w_getR C dX2_draw_1 gf_X2_37 (ob_t ht) rfl ?_
  refine w_getI C 3 dX2_draw_4 gf_X2_41 ob_1 rfl rfl ?_
  refine w_aload_n C 0 dX2_draw_7 rfl ?_
  refine w_getR C dX2_draw_8 gf_X2_37 (ob_t ht) rfl ?_
  refine w_getI C 2 dX2_draw_11 gf_X2_46 ob_1 rfl rfl ?_
  obtain ⟨⟨sc1, sc2⟩, vc⟩ := vc
  refine w_icmp_ge C 19 dX2_draw_14 (by decide) sc1 sc2 (fun h3 => ?_) (fun h3 => ?_)
  · have vc := vc.1 h3
    refine w_aload_n C 0 dX2_draw_19 rfl ?_
    refine w_iconst C dX2_draw_20 ?_
    refine w_putI C 1 dX2_draw_21 pf_X2_9 (ob_t ht) rfl rfl ?_
    refine w_mem (fun s4 hs4 => ?_)
    have vc := vc s4 hs4
    refine w_aload_n C 0 dX2_draw_24 rfl ?_
    refine w_iconst C dX2_draw_25 ?_
    refine w_putI C 6 dX2_draw_26 pf_X2_28 (ob_t ht) rfl rfl ?_
    refine w_mem (fun s5 hs5 => ?_)
    have vc := vc s5 hs5
    refine w_aload_n C 0 dX2_draw_29 rfl ?_
    refine w_getR C dX2_draw_30 gf_X2_31 (ob_t ht) rfl ?_
    refine w_iconst C dX2_draw_33 ?_
    obtain ⟨sc6, vc⟩ := vc
    refine w_callSV C [pR (t + 5), pI 0] [] rfl dX2_draw_34 (c_J7_fill_53178 C.gi (xL X) (t + 5) 8 0 s5 (ia_t5 ht) sc6) mw_J7_fill_53178 ml_X2_49 ss_J7_fill_53178 (by decide) (Nat.le_of_ble_eq_true rfl) (fun s7 hs7 => ?_)
    have vc := vc s7 hs7
    refine w_aload_n C 0 dX2_draw_37 rfl ?_
    refine w_getR C dX2_draw_38 gf_X2_34 (ob_t ht) rfl ?_
    refine w_iconst C dX2_draw_41 ?_
    obtain ⟨sc8, vc⟩ := vc
    refine w_callSV C [pR (t + 6), pI 0] [] rfl dX2_draw_42 (c_J7_fill_53178 C.gi (xL X) (t + 6) 5 0 s7 (ia_t6 ht) sc8) mw_J7_fill_53178 ml_X2_49 ss_J7_fill_53178 (by decide) (Nat.le_of_ble_eq_true rfl) (fun s9 hs9 => ?_)
    have vc := vc s9 hs9
    refine w_iconst C dX2_draw_45 ?_
    refine w_istore_n C [(1, pI 1), (0, pR t)] dX2_draw_46 (by decide) rfl ?_
    refine w_iconst C dX2_draw_47 ?_
    refine w_istore_n C [(2, pI 0), (1, pI 1), (0, pR t)] dX2_draw_48 (by decide) rfl ?_
    exact w_sub _ [2, 1, 0] rfl vc
  · have vc := vc.2 h3
    refine w_iconst C dX2_draw_17 ?_
    exact w_ireturn C dX2_draw_18 vc
def VC_X2_draw_49 (M : Nat) (K49 : Int → Int → Mem → Prop) (post : Int → Mem → Prop) (t : Int) (w1 : Int) (w2 : Int) (σ : Mem) : Prop :=
 (inR w1) ∧ ((w1 = 0 → (inR (σ t 6) ∧ inR (σ 1 2)) ∧ ((¬ (σ t 6) = (σ 1 2) → post 2 σ) ∧ ((σ t 6) = (σ 1 2) → post 0 σ))) ∧ (¬ w1 = 0 → (inR w2) ∧ ((48 ≤ w2 → (inR (σ t 6) ∧ inR (σ 1 2)) ∧ ((¬ (σ t 6) = (σ 1 2) → post 2 σ) ∧ ((σ t 6) = (σ 1 2) → post 0 σ))) ∧ (w2 < 48 → ∀ v11 : Int, v11 = σ t 6 → (pre_X2_drawWhatIsReady M t σ) ∧ ∀ s13 : Mem, post_X2_drawWhatIsReady M t σ s13 → (inR (s13 t 6) ∧ inR v11) ∧ (((s13 t 6) ≤ v11 → K49 0 (w2 + 1) s13) ∧ (v11 < (s13 t 6) → K49 1 (w2 + 1) s13))))))
set_option maxRecDepth 20000 in
set_option maxHeartbeats 4000000 in
theorem seg_X2_draw_49 {G : GG} {X : XX} {post : Int → Mem → Prop} (C : CX G X cX2_draw RX2 4 (some .int) 3) {t : Int} (ht : t = 12 ∨ t = 19) (w1 : Int) (w2 : Int) (σ : Mem) (vc : VC_X2_draw_49 (gM G) (fun w1 w2 σ => RW G X 4 (QI G X post) 49 [(0, pR t), (1, pI w1), (2, pI w2)] [] σ) post t w1 w2 σ) : RW G X 4 (QI G X post) 49 [(0, pR t), (1, pI w1), (2, pI w2)] [] σ := by
  unfold VC_X2_draw_49 at vc
  refine w_iload_n C 1 dX2_draw_49 rfl ?_
  obtain ⟨sc1, vc⟩ := vc
  refine w_if_eq C 88 dX2_draw_50 (by decide) sc1 (fun h2 => ?_) (fun h2 => ?_)
  · have vc := vc.1 h2
    refine w_aload_n C 0 dX2_draw_88 rfl ?_
    refine w_getI C 6 dX2_draw_89 gf_X2_28 (ob_t ht) rfl rfl ?_
    refine w_aload_n C 0 dX2_draw_92 rfl ?_
    refine w_getR C dX2_draw_93 gf_X2_37 (ob_t ht) rfl ?_
    refine w_getI C 2 dX2_draw_96 gf_X2_46 ob_1 rfl rfl ?_
    obtain ⟨⟨sc3, sc4⟩, vc⟩ := vc
    refine w_icmp_ne C 106 dX2_draw_99 (by decide) sc3 sc4 (fun h5 => ?_) (fun h5 => ?_)
    · have vc := vc.1 h5
      refine w_iconst C dX2_draw_106 ?_
      exact w_ireturn C dX2_draw_107 vc
    · have vc := vc.2 h5
      refine w_iconst C dX2_draw_102 ?_
      refine w_goto C 107 dX2_draw_103 (by decide) ?_
      exact w_ireturn C dX2_draw_107 vc
  · have vc := vc.2 h2
    refine w_iload_n C 2 dX2_draw_53 rfl ?_
    refine w_bipush C dX2_draw_54 (by decide) ?_
    obtain ⟨sc6, vc⟩ := vc
    refine w_icmp_ge C 88 dX2_draw_56 (by decide) sc6 ⟨by omega, by omega⟩ (fun h7 => ?_) (fun h7 => ?_)
    · have vc := vc.1 h7
      refine w_aload_n C 0 dX2_draw_88 rfl ?_
      refine w_getI C 6 dX2_draw_89 gf_X2_28 (ob_t ht) rfl rfl ?_
      refine w_aload_n C 0 dX2_draw_92 rfl ?_
      refine w_getR C dX2_draw_93 gf_X2_37 (ob_t ht) rfl ?_
      refine w_getI C 2 dX2_draw_96 gf_X2_46 ob_1 rfl rfl ?_
      obtain ⟨⟨sc8, sc9⟩, vc⟩ := vc
      refine w_icmp_ne C 106 dX2_draw_99 (by decide) sc8 sc9 (fun h10 => ?_) (fun h10 => ?_)
      · have vc := vc.1 h10
        refine w_iconst C dX2_draw_106 ?_
        exact w_ireturn C dX2_draw_107 vc
      · have vc := vc.2 h10
        refine w_iconst C dX2_draw_102 ?_
        refine w_goto C 107 dX2_draw_103 (by decide) ?_
        exact w_ireturn C dX2_draw_107 vc
    · have vc := vc.2 h7
      refine w_aload_n C 0 dX2_draw_59 rfl ?_
      refine w_getI C 6 dX2_draw_60 gf_X2_28 (ob_t ht) rfl rfl ?_
      refine w_top (fun v11 hv11 => ?_)
      have vc := vc v11 hv11
      refine w_istore_n C [(3, pI v11), (0, pR t), (1, pI w1), (2, pI w2)] dX2_draw_63 (by decide) rfl ?_
      refine w_aload_n C 1 dX2_draw_64 rfl ?_
      obtain ⟨sc12, vc⟩ := vc
      refine w_callVV C [] [] rfl dX2_draw_65 (c_X2_drawWhatIsReady C.gi (xL X) t σ ht sc12) (oc_t ht) mw_X2_drawWhatIsReady ml_X2_55 im_X2_drawWhatIsReady se_X2_drawWhatIsReady (by decide) (Nat.le_of_ble_eq_true rfl) (fun s13 hs13 => ?_)
      have vc := vc s13 hs13
      refine w_aload_n C 1 dX2_draw_68 rfl ?_
      refine w_getI C 6 dX2_draw_69 gf_X2_28 (ob_t ht) rfl rfl ?_
      refine w_iload_n C 0 dX2_draw_72 rfl ?_
      obtain ⟨⟨sc14, sc15⟩, vc⟩ := vc
      refine w_icmp_le C 80 dX2_draw_73 (by decide) sc14 sc15 (fun h16 => ?_) (fun h16 => ?_)
      · have vc := vc.1 h16
        refine w_iconst C dX2_draw_80 ?_
        refine w_istore_n C [(1, pI 0), (3, pI v11), (0, pR t), (2, pI w2)] dX2_draw_81 (by decide) rfl ?_
        refine w_iinc C 3 [(2, pI (w2 + 1)), (1, pI 0), (3, pI v11), (0, pR t)] dX2_draw_82 rfl (by decide) rfl ?_
        refine w_goto C 49 dX2_draw_85 (by decide) ?_
        exact w_sub _ [3, 1, 0] rfl vc
      · have vc := vc.2 h16
        refine w_iconst C dX2_draw_76 ?_
        refine w_goto C 81 dX2_draw_77 (by decide) ?_
        refine w_istore_n C [(1, pI 1), (3, pI v11), (0, pR t), (2, pI w2)] dX2_draw_81 (by decide) rfl ?_
        refine w_iinc C 3 [(2, pI (w2 + 1)), (1, pI 1), (3, pI v11), (0, pR t)] dX2_draw_82 rfl (by decide) rfl ?_
        refine w_goto C 49 dX2_draw_85 (by decide) ?_
        exact w_sub _ [3, 1, 0] rfl vc
set_option maxHeartbeats 1000000 in
theorem ok_X2_draw_0 {M : Nat} {t : Int} {σ : Mem} {K49 : Int → Int → Mem → Prop} (ht : t = 12 ∨ t = 19) (h : pre_X2_draw M t σ) (hK49 : ∀ (y1 y2 : Int) (τ' : Mem), inv_X2_draw_49 M t σ y1 y2 τ' → K49 y1 y2 τ') : VC_X2_draw_0 M K49 (post_X2_draw M t σ) t σ := by
  have hs := steps_in h
  refine ⟨⟨⟨by omega, by omega⟩, ⟨by omega, by omega⟩⟩, fun g s4 e4 s5 e5 => ⟨by unfold pre_J7_fill_53178; omega, fun s7 e7 => ⟨by unfold pre_J7_fill_53178; omega, fun s9 e9 => hK49 _ _ _ ⟨g, Or.inr rfl, by omega, by omega, ?_, ⟨fun _ => 0, ?_⟩, ?_, fun e => by omega⟩⟩⟩, fun g => Or.inl ⟨rfl, g, rfl⟩⟩
  · intro c hc
    funext x
    rw [e9, e7, e5, e4]
    simp only [m_J7_fill_53178, up]
    rw [if_neg (by omega), if_neg (by omega), if_neg (by omega), if_neg (by omega)]
  · have hF : FR t σ s9 := by
      intro c hc
      funext x
      rw [e9, e7, e5, e4]
      simp only [m_J7_fill_53178, up]
      rw [if_neg (by omega), if_neg (by omega), if_neg (by omega), if_neg (by omega)]
    have q5 : ∀ j : Int, 0 ≤ j → j < 8 → s9 (t + 5) j = 0 := by
      intro j h1 h2
      rw [e9, e7]
      simp only [m_J7_fill_53178]
      grind
    have q6 : ∀ m : Int, 0 ≤ m → m < 5 → s9 (t + 6) m = 0 := by
      intro m h1 h2
      rw [e9]
      simp only [m_J7_fill_53178]
      grind
    have qg : s9 t 1 = 0 := by
      rw [e9, e7, e5, e4]
      simp only [m_J7_fill_53178, up]
      grind
    have qd : s9 t 6 = 0 := by
      rw [e9, e7, e5, e4]
      simp only [m_J7_fill_53178, up]
      grind
    have hN := SE_WN (hF.SE ht) h.1
    have hO := SE_WO (hF.SE ht) h.2.1
    have hM : M ≤ 5 := hN.1.2.2.1
    refine ⟨⟨fun j h1 h2 => ?_, fun m h1 h2 => ?_, fun m i hi => ?_, ?_⟩, fun m i hi hlt => ?_, fun q h1 h2 => by omega, by omega, fun m i hi hlt => ?_, Or.inl qg⟩
    · rw [q5 j h1 h2]; have := hN.1.2.2.2.2.1 j h1 h2; omega
    · rw [q6 m h1 (by omega)]; have := hN.1.2.2.2.2.2 m h1 h2; omega
    · have hb := VS_in hN.1 (inO_VS hN hO hi).1
      rw [q6 m hi.1 (by have := hi.2.1; omega), q5 _ hb.2.2.1 hb.2.2.2.1]
      have := hi.2.2.1
      omega
    · rw [qd, sumI_congr (g := fun _ => 0) (fun j h1 h2 => q5 j h1 h2)]
      decide
    · rw [q6 m hi.1 (by have := hi.2.1; omega)] at hlt; have := hi.2.2.1; omega
    · rw [q6 m hi.1 (by have := hi.2.1; omega)] at hlt; have := hi.2.2.1; omega
  · intro _
    rw [e9, e7, e5, e4]
    simp only [m_J7_fill_53178, up]
    grind
set_option maxHeartbeats 1000000 in
theorem ok_X2_draw_49 {M : Nat} {t : Int} {σ : Mem} {w1 w2 : Int} {τ : Mem} {K49 : Int → Int → Mem → Prop} (ht : t = 12 ∨ t = 19) (h : pre_X2_draw M t σ) (hinv : inv_X2_draw_49 M t σ w1 w2 τ) (hK49 : ∀ (y1 y2 : Int) (τ' : Mem), inv_X2_draw_49 M t σ y1 y2 τ' → mu_X2_draw_49 t y1 y2 τ' < mu_X2_draw_49 t w1 w2 τ → K49 y1 y2 τ') : VC_X2_draw_49 M K49 (post_X2_draw M t σ) t w1 w2 τ := by
  obtain ⟨hle, hw, w0, w1', hF, ⟨rk, hD⟩, hw1, hw0⟩ := hinv
  have hs := steps_in h
  have hN := SE_WN (hF.SE ht) h.1
  have hO := SE_WO (hF.SE ht) h.2.1
  have hA := SE_AO (hF.SE ht) h.1 (WF_AO h hle)
  have hcn := DIc_cnt hN.1 hD.1
  have e12 : τ 1 2 = σ 1 2 := by rw [hF 1 (by omega)]
  have e5 : τ 5 = σ 5 := hF 5 (by omega)
  have hst : σ 1 2 = sumI (τ 5) 0 8 := by rw [e5]; exact h.2.2.2.2.1
  have hall : τ t 6 = τ 1 2 → ∀ j : Int, 0 ≤ j → j < 8 → τ (t + 5) j = τ 5 j := by
    intro e
    have e' : sumI (τ 5) 0 8 ≤ sumI (τ (t + 5)) 0 8 := by rw [← hst, ← hD.1.2.2.2]; omega
    exact sumI_eq (fun j p q => (hD.1.1 j p q).2) e'
  have hle2 : τ t 6 ≤ τ 1 2 := by
    rw [hD.1.2.2.2, e12, hst]
    exact sumI_le (fun j p q => (hD.1.1 j p q).2)
  have r1 : inR (τ t 6) ∧ inR (τ 1 2) := ⟨⟨by omega, by omega⟩, ⟨by omega, by omega⟩⟩
  refine ⟨⟨by omega, by omega⟩, fun g => ⟨r1, fun g2 => ?_, fun g2 => ?_⟩, fun g => ⟨⟨by omega, by omega⟩, fun g3 => ⟨r1, fun g2 => ?_, fun g2 => ?_⟩, fun g3 v11 e11 => ⟨⟨hN, hO, hA, rk, hD⟩, fun s13 e13 => ?_⟩⟩⟩
  · exact Or.inr ⟨hle, hF, rk, hD, Or.inr ⟨rfl, hw0 g, g2⟩⟩
  · exact Or.inr ⟨hle, hF, rk, hD, Or.inl ⟨rfl, hall g2⟩⟩
  · exact absurd (show τ t 6 = τ 1 2 by have := hw1 (by omega); omega) g2
  · exact Or.inr ⟨hle, hF, rk, hD, Or.inl ⟨rfl, hall g2⟩⟩
  · obtain ⟨p1, ⟨rk', p2⟩, p3, p4⟩ := e13
    have hN' := SE_WN (p1.SE ht) hN
    have hcn' := DIc_cnt hN'.1 p2.1
    refine ⟨⟨⟨by omega, by omega⟩, ⟨by omega, by omega⟩⟩, fun g4 => hK49 _ _ _ ⟨hle, Or.inl rfl, by omega, by omega, hF.trans p1, ⟨rk', p2⟩, fun e => by omega, fun _ => p4 (by omega)⟩ ?_, fun g4 => hK49 _ _ _ ⟨hle, Or.inr rfl, by omega, by omega, hF.trans p1, ⟨rk', p2⟩, fun _ => ?_, fun e => by omega⟩ ?_⟩
    · unfold mu_X2_draw_49; omega
    · have := hw1 (by omega); omega
    · unfold mu_X2_draw_49; omega
theorem c_X2_draw {G : GG} (hG : GI G) (l : Launch) (t : Int) (σ : Mem) (ht : t = 12 ∨ t = 19) (h : pre_X2_draw (gM G) t σ) : CtI G l yX2_draw cX2_draw 4 (some .int) 3 [pR t] σ (post_X2_draw (gM G) t σ) := by
  refine CtI.of hG (by decide) (Nat.le_of_ble_eq_true rfl) (fun X hl C => ?_)
  show RW G X 4 (QI G X _) 0 [(0, pR t)] [] σ
  have key : ∀ n : Nat, (∀ (w1 w2 : Int) (τ : Mem), inv_X2_draw_49 (gM G) t σ w1 w2 τ → mu_X2_draw_49 t w1 w2 τ < n → RW G X 4 (QI G X (post_X2_draw (gM G) t σ)) 49 [(0, pR t), (1, pI w1), (2, pI w2)] [] τ) := by
    intro n
    induction n with
    | zero => exact fun w1 w2 τ _ h0 => absurd h0 (Nat.not_lt_zero _)
    | succ n ih =>
      exact (fun w1 w2 τ hinv h0 => seg_X2_draw_49 C ht w1 w2 τ (ok_X2_draw_49 ht h hinv (fun y1 y2 τ' hi hm => ih y1 y2 τ' hi (Nat.lt_of_lt_of_le hm (Nat.le_of_lt_succ h0)))))
  exact seg_X2_draw_0 C ht σ (ok_X2_draw_0 ht h (fun y1 y2 τ' hi => (key _) y1 y2 τ' hi (Nat.lt_succ_self _)))

/-! X2_measureRests -/
/-- all steps are drawn -/
def DA (M : Nat) (t : Int) (rk : Int → Int) (τ : Mem) : Prop := DI M t rk τ ∧ ∀ j : Int, 0 ≤ j → j < 8 → τ (t + 5) j = τ 5 j
def pre_X2_measureRests (M : Nat) (t : Int) (σ : Mem) : Prop := WN M σ ∧ WO M σ ∧ AO σ ∧ ∃ rk, DA M t rk σ
def post_X2_measureRests (M : Nat) (t : Int) (σ σ' : Mem) : Prop := (∀ c : Int, c ≠ t + 2 → σ' c = σ c) ∧ RS M σ (σ' (t + 2)) ∧ ∀ s : Int, VS σ s → 0 ≤ σ' (t + 2) s ∧ σ' (t + 2) s ≤ 4800
def inv_X2_measureRests_7 (M : Nat) (t : Int) (σ : Mem) (w1 : Int) (τ : Mem) : Prop := -1 ≤ w1 ∧ w1 < σ t 6 ∧ (∀ c : Int, c ≠ t + 2 → τ c = σ c) ∧ ∃ rk, DA M t rk σ ∧ ∀ m i : Int, inO M σ m i → w1 < rk (σ (57 + m) i) → τ (t + 2) (σ (57 + m) i) = rV σ (τ (t + 2)) m i ∧ 0 ≤ τ (t + 2) (σ (57 + m) i) ∧ τ (t + 2) (σ (57 + m) i) ≤ 100 * (48 - rk (σ (57 + m) i))
def mu_X2_measureRests_7 (t : Int) (w1 : Int) (τ : Mem) : Nat := (w1 + 1).toNat
theorem DA_lt {M : Nat} {t : Int} {rk : Int → Int} {τ : Mem} (hN : WN M τ) (hO : WO M τ) (h : DA M t rk τ) {m i : Int} (hi : inO M τ m i) : i < τ (t + 6) m := by
  have hv := (inO_VS hN hO hi).1
  have hb := VS_in hN.1 hv
  exact (h.1.1.2.2.1 m i hi).mpr (by rw [h.2 _ hb.2.2.1 hb.2.2.2.1]; exact hv.2.2)
theorem DA_next {M : Nat} {t : Int} {rk : Int → Int} {τ : Mem} (hN : WN M τ) (hO : WO M τ) (hA : AO τ) (h : DA M t rk τ) {m i : Int} (hi : inO M τ m i) : (τ (57 + m) i % 10 + 1 ≠ τ 5 (τ (57 + m) i / 10) → (∃ m2 i2, inO M τ m2 i2 ∧ τ (57 + m2) i2 = τ (57 + m) i + 1) ∧ rk (τ (57 + m) i) < rk (τ (57 + m) i + 1)) ∧ (i + 1 < τ 10 m → inO M τ m (i + 1) ∧ rk (τ (57 + m) i) < rk (τ (57 + m) (i + 1))) := by
  have hv := (inO_VS hN hO hi).1
  have hb := VS_in hN.1 hv
  constructor
  · intro q
    have hv' : VS τ (τ (57 + m) i + 1) := by
      obtain ⟨h1, h2, h3⟩ := hv
      have e2 : (τ (57 + m) i + 1) / 10 = τ (57 + m) i / 10 := by omega
      exact ⟨by omega, by rw [e2]; exact h2, by rw [e2]; omega⟩
    obtain ⟨m2, i2, p1, p2, -⟩ := VS_inO hN hA hv'
    have dd := h.1.2.1 m2 i2 p1 (DA_lt hN hO h p1)
    have := dd.2.2.2.1 (by rw [p2]; omega)
    rw [p2, show τ (57 + m) i + 1 - 1 = τ (57 + m) i by omega] at this
    exact ⟨⟨m2, i2, p1, p2⟩, this⟩
  · intro q
    have hi' : inO M τ m (i + 1) := ⟨hi.1, hi.2.1, by have := hi.2.2.1; omega, q⟩
    have dd := h.1.2.1 m (i + 1) hi' (DA_lt hN hO h hi')
    have := dd.2.2.1 (by have := hi.2.2.1; omega)
    rw [show i + 1 - 1 = i by omega] at this
    exact ⟨hi', this⟩
def VC_X2_measureRests_0 (M : Nat) (K7 : Int → Mem → Prop) (post : Mem → Prop) (t : Int) (σ : Mem) : Prop :=
  ∀ v1 : Int, v1 = (σ t 6) - 1 → K7 v1 σ
set_option maxRecDepth 20000 in
set_option maxHeartbeats 4000000 in
theorem seg_X2_measureRests_0 {G : GG} {X : XX} {post : Mem → Prop} (C : CX G X cX2_measureRests RX2 3 none 2) {t : Int} (ht : t = 12 ∨ t = 19)  (σ : Mem) (vc : VC_X2_measureRests_0 (gM G) (fun w1 σ => RW G X 3 (QV G X post) 7 [(0, pR t), (1, pI w1)] [] σ) post t  σ) : RW G X 3 (QV G X post) 0 [(0, pR t)] [] σ := by
  unfold VC_X2_measureRests_0 at vc
  refine w_aload_n C 0 dX2_measureRests_0 rfl ?_
  refine w_getI C 6 dX2_measureRests_1 gf_X2_28 (ob_t ht) rfl rfl ?_
  refine w_iconst C dX2_measureRests_4 ?_
  refine w_isub C dX2_measureRests_5 ?_
  refine w_top (fun v1 hv1 => ?_)
  have vc := vc v1 hv1
  refine w_istore_n C [(1, pI v1), (0, pR t)] dX2_measureRests_6 (by decide) rfl ?_
  exact w_sub _ [1, 0] rfl vc
def VC_X2_measureRests_7 (M : Nat) (K7 : Int → Mem → Prop) (post : Mem → Prop) (t : Int) (w1 : Int) (σ : Mem) : Prop :=
 (inR w1) ∧ ((w1 < 0 → post σ) ∧ (0 ≤ w1 → (0 ≤ w1 ∧ w1 < 48) ∧ ∀ v5 : Int, v5 = σ (t + 4) w1 → (0 ≤ v5 ∧ v5 < 80) ∧ (pre_X2_restInJob M t v5 σ) ∧ (pre_X2_restInOrder M t v5 σ) ∧ (inR (f_X2_restInJob t v5 σ) ∧ inR (f_X2_restInOrder t v5 σ)) ∧ (0 ≤ v5 ∧ v5 < 80) ∧ ∀ s14 : Mem, s14 = up σ (t + 2) v5 ((σ 7 v5) + (max (f_X2_restInJob t v5 σ) (f_X2_restInOrder t v5 σ))) → K7 (w1 + (-1)) s14))
set_option maxRecDepth 20000 in
set_option maxHeartbeats 4000000 in
theorem seg_X2_measureRests_7 {G : GG} {X : XX} {post : Mem → Prop} (C : CX G X cX2_measureRests RX2 3 none 2) {t : Int} (ht : t = 12 ∨ t = 19) (w1 : Int) (σ : Mem) (vc : VC_X2_measureRests_7 (gM G) (fun w1 σ => RW G X 3 (QV G X post) 7 [(0, pR t), (1, pI w1)] [] σ) post t w1 σ) : RW G X 3 (QV G X post) 7 [(0, pR t), (1, pI w1)] [] σ := by
  unfold VC_X2_measureRests_7 at vc
  refine w_iload_n C 1 dX2_measureRests_7 rfl ?_
  obtain ⟨sc1, vc⟩ := vc
  refine w_if_lt C 53 dX2_measureRests_8 (by decide) sc1 (fun h2 => ?_) (fun h2 => ?_)
  · have vc := vc.1 h2
    exact w_vreturn C dX2_measureRests_53 vc
  · have vc := vc.2 h2
    refine w_aload_n C 0 dX2_measureRests_11 rfl ?_
    refine w_getR C dX2_measureRests_12 gf_X2_25 (ob_t ht) rfl ?_
    refine w_iload_n C 1 dX2_measureRests_15 rfl ?_
    obtain ⟨⟨sc3, sc4⟩, vc⟩ := vc
    refine w_iald C dX2_measureRests_16 (ia_t4 ht) sc3 sc4 ?_
    refine w_top (fun v5 hv5 => ?_)
    have vc := vc v5 hv5
    refine w_istore_n C [(2, pI v5), (0, pR t), (1, pI w1)] dX2_measureRests_17 (by decide) rfl ?_
    refine w_aload_n C 1 dX2_measureRests_18 rfl ?_
    refine w_getR C dX2_measureRests_19 gf_X2_19 (ob_t ht) rfl ?_
    refine w_iload_n C 0 dX2_measureRests_22 rfl ?_
    refine w_aload_n C 1 dX2_measureRests_23 rfl ?_
    refine w_getR C dX2_measureRests_24 gf_X2_37 (ob_t ht) rfl ?_
    refine w_getR C dX2_measureRests_27 gf_X2_93 ob_1 rfl ?_
    refine w_iload_n C 0 dX2_measureRests_30 rfl ?_
    obtain ⟨⟨sc6, sc7⟩, vc⟩ := vc
    refine w_iald C dX2_measureRests_31 ia_7 sc6 sc7 ?_
    refine w_aload_n C 1 dX2_measureRests_32 rfl ?_
    refine w_iload_n C 0 dX2_measureRests_33 rfl ?_
    obtain ⟨sc8, vc⟩ := vc
    refine w_callVI C [pI v5] [pI (σ 7 v5), pI v5, pR (t + 2)] rfl dX2_measureRests_34 (c_X2_restInJob C.gi (xL X) t v5 σ ht sc8) (oc_t ht) mw_X2_restInJob ml_X2_99 im_X2_restInJob se_X2_restInJob (by decide) (Nat.le_of_ble_eq_true rfl) (fun z σ' hz => ?_)
    obtain ⟨rfl, hz2⟩ := hz
    have hz2 := hz2.symm
    subst hz2
    refine w_aload_n C 1 dX2_measureRests_37 rfl ?_
    refine w_iload_n C 0 dX2_measureRests_38 rfl ?_
    obtain ⟨sc9, vc⟩ := vc
    refine w_callVI C [pI v5] [pI (f_X2_restInJob t v5 σ), pI (σ 7 v5), pI v5, pR (t + 2)] rfl dX2_measureRests_39 (c_X2_restInOrder C.gi (xL X) t v5 σ ht sc9) (oc_t ht) mw_X2_restInOrder ml_X2_102 im_X2_restInOrder se_X2_restInOrder (by decide) (Nat.le_of_ble_eq_true rfl) (fun z σ' hz => ?_)
    obtain ⟨rfl, hz2⟩ := hz
    have hz2 := hz2.symm
    subst hz2
    obtain ⟨⟨sc10, sc11⟩, vc⟩ := vc
    refine w_max C dX2_measureRests_42 ml_X2_87 mt_max sc10 sc11 (Nat.le_of_ble_eq_true rfl) ?_
    refine w_iadd C dX2_measureRests_45 ?_
    obtain ⟨⟨sc12, sc13⟩, vc⟩ := vc
    refine w_iast C dX2_measureRests_46 (ia_t2 ht) sc12 sc13 ?_
    refine w_mem (fun s14 hs14 => ?_)
    have vc := vc s14 hs14
    refine w_iinc C 2 [(1, pI (w1 + (-1))), (2, pI v5), (0, pR t)] dX2_measureRests_47 rfl (by decide) rfl ?_
    refine w_goto C 7 dX2_measureRests_50 (by decide) ?_
    exact w_sub _ [2, 0] rfl vc
set_option maxHeartbeats 1000000 in
theorem ok_X2_measureRests_0 {M : Nat} {t : Int} {σ : Mem} {K7 : Int → Mem → Prop} (ht : t = 12 ∨ t = 19) (h : pre_X2_measureRests M t σ) (hK7 : ∀ (y1 : Int) (τ' : Mem), inv_X2_measureRests_7 M t σ y1 τ' → K7 y1 τ') : VC_X2_measureRests_0 M K7 (post_X2_measureRests M t σ) t σ := by
  obtain ⟨hN, hO, hA, rk, hD⟩ := h
  have hcn := DIc_cnt hN.1 hD.1.1
  intro v e
  refine hK7 _ _ ⟨by omega, by omega, fun _ _ => rfl, rk, hD, fun m i hi hlt => ?_⟩
  have := (hD.1.2.1 m i hi (DA_lt hN hO hD hi)).1.2
  omega
set_option maxHeartbeats 1000000 in
theorem ok_X2_measureRests_7 {M : Nat} {t : Int} {σ : Mem} {w1 : Int} {τ : Mem} {K7 : Int → Mem → Prop} (ht : t = 12 ∨ t = 19) (h : pre_X2_measureRests M t σ) (hinv : inv_X2_measureRests_7 M t σ w1 τ) (hK7 : ∀ (y1 : Int) (τ' : Mem), inv_X2_measureRests_7 M t σ y1 τ' → mu_X2_measureRests_7 t y1 τ' < mu_X2_measureRests_7 t w1 τ → K7 y1 τ') : VC_X2_measureRests_7 M K7 (post_X2_measureRests M t σ) t w1 τ := by
  obtain ⟨hN, hO, hA, -⟩ := h
  obtain ⟨w0, w1', hF, rk, hD, hR⟩ := hinv
  have hcn := DIc_cnt hN.1 hD.1.1
  have hSE : SE σ τ := fun c hc => (hF c (by omega)).symm
  have hN' := SE_WN hSE hN
  have hO' := SE_WO hSE hO
  have f5 := hF 5 (by omega)
  have f6 := hF 6 (by omega)
  have f7 := hF 7 (by omega)
  have f10 := hF 10 (by omega)
  have f11 := hF 11 (by omega)
  have f3 := hF (t + 3) (by omega)
  have f4 := hF (t + 4) (by omega)
  have fr : ∀ m : Int, 0 ≤ m → τ (57 + m) = σ (57 + m) := fun m hm => hF _ (by omega)
  refine ⟨⟨by omega, by omega⟩, fun g => ⟨hF, fun m i hi => ?_, fun s hs => ?_⟩, fun g => ⟨⟨g, by omega⟩, fun v5 e5 => ?_⟩⟩
  · have := (hD.1.2.1 m i hi (DA_lt hN hO hD hi)).1.1
    exact (hR m i hi (by omega)).1
  · obtain ⟨m, i, hi, e, -⟩ := VS_inO hN hA hs
    have := (hD.1.2.1 m i hi (DA_lt hN hO hD hi)).1
    have := (hR m i hi (by omega)).2
    rw [e] at *
    omega
  · obtain ⟨m, i, hi, hlt, q3, q4⟩ := hD.1.2.2.1 w1 g w1'
    rw [f4, q3] at e5
    have hv := (inO_VS hN hO hi).1
    have hmac := (inO_VS hN hO hi).2
    have hb := VS_in hN.1 hv
    have hnx := DA_next hN hO hA hD hi
    have e3 : τ (t + 3) v5 = i := by rw [f3, e5]; exact (hD.1.2.1 m i hi hlt).2.2.2.2.2.1
    have e6 : τ 6 v5 = m := by rw [f6, e5]; exact hmac
    have hz := hN.1.2.2.2.2.2 m hi.1 hi.2.1
    have hi4 := hi.2.2.2
    have hi3 := hi.2.2.1
    have h7 := (hN.2.2.2.1 _ hb.1 hb.2.1).2
    have ej : f_X2_restInJob t v5 τ = if σ (57 + m) i % 10 + 1 = σ 5 (σ (57 + m) i / 10) then 0 else τ (t + 2) (σ (57 + m) i + 1) := by
      unfold f_X2_restInJob
      rw [f5, e5]
    have eo : f_X2_restInOrder t v5 τ = if i + 1 < σ 10 m then σ 11 ((m * 8 + σ (57 + m) i / 10) * 8 + σ (57 + m) (i + 1) / 10) + τ (t + 2) (σ (57 + m) (i + 1)) else 0 := by
      unfold f_X2_restInOrder
      rw [e3, e6, f10, f11, fr m hi.1, e5]
    have bj : 0 ≤ f_X2_restInJob t v5 τ ∧ f_X2_restInJob t v5 τ ≤ 100 * (47 - w1) := by
      rw [ej]
      by_cases q : σ (57 + m) i % 10 + 1 = σ 5 (σ (57 + m) i / 10)
      · rw [if_pos q]; omega
      · rw [if_neg q]
        obtain ⟨⟨m2, i2, p1, p2⟩, p3⟩ := hnx.1 q
        have := hR m2 i2 p1 (by rw [p2]; omega)
        rw [p2] at this
        omega
    have bo : 0 ≤ f_X2_restInOrder t v5 τ ∧ f_X2_restInOrder t v5 τ ≤ 100 * (47 - w1) + 50 := by
      rw [eo]
      by_cases q : i + 1 < σ 10 m
      · rw [if_pos q]
        obtain ⟨p1, p2⟩ := hnx.2 q
        have := hR m (i + 1) p1 (by omega)
        have pb := VS_in hN.1 (inO_VS hN hO p1).1
        have h11 := hN.2.2.2.2.1 ((m * 8 + σ (57 + m) i / 10) * 8 + σ (57 + m) (i + 1) / 10) (by have := hi.1; omega) (by have := hi.2.1; have := hi.1; omega)
        omega
      · rw [if_neg q]; omega
    refine ⟨⟨by omega, by omega⟩, ⟨hN'.1, by omega, by omega⟩, ⟨hN', hO', by omega, by omega, by omega, by omega⟩, ⟨⟨by omega, by omega⟩, ⟨by omega, by omega⟩⟩, ⟨by omega, by omega⟩, fun s14 e14 => ?_⟩
    have a2 : ∀ x, s14 (t + 2) x = if x = σ (57 + m) i then σ 7 (σ (57 + m) i) + max (f_X2_restInJob t v5 τ) (f_X2_restInOrder t v5 τ) else τ (t + 2) x := by
      intro x
      rw [e14, f7, e5]
      simp only [up]
      by_cases q : x = σ (57 + m) i
      · simp [q]
      · simp [q]
    refine hK7 _ _ ⟨by omega, by omega, fun c hc => ?_, rk, hD, fun m' i' hi' hlt' => ?_⟩ ?_
    · rw [e14, up_other _ _ _ hc, hF c hc]
    · -- what follows a step of rank at least w1 is not this one
      have hnx' := DA_next hN hO hA hD hi'
      have same : rV σ (s14 (t + 2)) m' i' = rV σ (τ (t + 2)) m' i' := by
        unfold rV
        have x1 : (if σ (57 + m') i' % 10 + 1 = σ 5 (σ (57 + m') i' / 10) then 0 else s14 (t + 2) (σ (57 + m') i' + 1)) = if σ (57 + m') i' % 10 + 1 = σ 5 (σ (57 + m') i' / 10) then 0 else τ (t + 2) (σ (57 + m') i' + 1) := by
          by_cases q : σ (57 + m') i' % 10 + 1 = σ 5 (σ (57 + m') i' / 10)
          · rw [if_pos q, if_pos q]
          · rw [if_neg q, if_neg q, a2, if_neg (fun z => by have := (hnx'.1 q).2; rw [z, q4] at this; omega)]
        have x2 : (if i' + 1 < σ 10 m' then σ 11 ((m' * 8 + σ (57 + m') i' / 10) * 8 + σ (57 + m') (i' + 1) / 10) + s14 (t + 2) (σ (57 + m') (i' + 1)) else 0) = if i' + 1 < σ 10 m' then σ 11 ((m' * 8 + σ (57 + m') i' / 10) * 8 + σ (57 + m') (i' + 1) / 10) + τ (t + 2) (σ (57 + m') (i' + 1)) else 0 := by
          by_cases q : i' + 1 < σ 10 m'
          · rw [if_pos q, if_pos q, a2, if_neg (fun z => by have := (hnx'.2 q).2; rw [z, q4] at this; omega)]
          · rw [if_neg q, if_neg q]
        rw [x1, x2]
      rw [same, a2]
      by_cases q : σ (57 + m') i' = σ (57 + m) i
      · have em : m' = m := by rw [← (inO_VS hN hO hi').2, q, hmac]
        subst em
        have ei : i' = i := hO.2 m' i' i hi'.1 hi'.2.1 hi'.2.2.1 hi'.2.2.2 hi3 hi4 q
        subst ei
        rw [if_pos rfl, ej, eo, q4]
        refine ⟨rfl, ?_⟩
        rw [ej] at bj
        rw [eo] at bo
        generalize (if σ (57 + m') i' % 10 + 1 = σ 5 (σ (57 + m') i' / 10) then 0 else τ (t + 2) (σ (57 + m') i' + 1)) = u1 at *
        generalize (if i' + 1 < σ 10 m' then σ 11 ((m' * 8 + σ (57 + m') i' / 10) * 8 + σ (57 + m') (i' + 1) / 10) + τ (t + 2) (σ (57 + m') (i' + 1)) else 0) = u2 at *
        clear hnx hnx' hR
        omega
      · rw [if_neg q]
        refine hR m' i' hi' ?_
        by_cases q5 : rk (σ (57 + m') i') = w1
        · exfalso
          have z1 := (hD.1.2.1 m' i' hi' (DA_lt hN hO hD hi')).2.1
          have z2 := (hD.1.2.1 m i hi hlt).2.1
          rw [q5] at z1
          rw [q4] at z2
          exact q (z1.symm.trans z2)
        · omega
    · unfold mu_X2_measureRests_7; omega
theorem c_X2_measureRests {G : GG} (hG : GI G) (l : Launch) (t : Int) (σ : Mem) (ht : t = 12 ∨ t = 19) (h : pre_X2_measureRests (gM G) t σ) : CtV G l yX2_measureRests cX2_measureRests 3 none 2 [pR t] σ (post_X2_measureRests (gM G) t σ) := by
  refine CtV.of hG (by decide) (Nat.le_of_ble_eq_true rfl) (fun X hl C => ?_)
  show RW G X 3 (QV G X _) 0 [(0, pR t)] [] σ
  have key : ∀ n : Nat, (∀ (w1 : Int) (τ : Mem), inv_X2_measureRests_7 (gM G) t σ w1 τ → mu_X2_measureRests_7 t w1 τ < n → RW G X 3 (QV G X (post_X2_measureRests (gM G) t σ)) 7 [(0, pR t), (1, pI w1)] [] τ) := by
    intro n
    induction n with
    | zero => exact fun w1 τ _ h0 => absurd h0 (Nat.not_lt_zero _)
    | succ n ih =>
      exact (fun w1 τ hinv h0 => seg_X2_measureRests_7 C ht w1 τ (ok_X2_measureRests_7 ht h hinv (fun y1 τ' hi hm => ih y1 τ' hi (Nat.lt_of_lt_of_le hm (Nat.le_of_lt_succ h0)))))
  exact seg_X2_measureRests_0 C ht σ (ok_X2_measureRests_0 ht h (fun y1 τ' hi => (key _) y1 τ' hi (Nat.lt_succ_self _)))
end
section
/-! what the shop's own changes keep -/
theorem ins_acc (s p : Int) (a : Mem) (hm0 : 0 ≤ a 6 s) : (∀ c : Int, 2 ≤ c ∧ c ≤ 7 ∨ c = 9 ∨ c = 11 → m_X3_insert s p a c = a c)
  ∧ (∀ x, m_X3_insert s p a 1 x = if x = 3 then a 1 3 + 1 else a 1 x) ∧ (∀ x, m_X3_insert s p a 8 x = if x = s then 1 else a 8 x) ∧ (∀ x, m_X3_insert s p a 10 x = if x = a 6 s then a 10 x + 1 else a 10 x)
  ∧ (∀ m i : Int, 0 ≤ m → m_X3_insert s p a (57 + m) i = if m = a 6 s then (if i = p then s else if p < i ∧ i ≤ a 10 m then a (57 + m) (i - 1) else a (57 + m) i) else a (57 + m) i)
  ∧ (∀ c : Int, 12 ≤ c → c < 57 → m_X3_insert s p a c = a c) := by
  refine ⟨fun c hc => ?_, fun x => ?_, fun x => ?_, fun x => ?_, fun m i hm => ?_, fun c h1 h2 => ?_⟩
  · funext x; simp only [m_X3_insert]; grind
  · simp only [m_X3_insert]; grind
  · simp only [m_X3_insert]; grind
  · simp only [m_X3_insert]; grind
  · simp only [m_X3_insert]; grind
  · funext x; simp only [m_X3_insert]; grind
/-- an open step leaves room -/
theorem size_lt {M : Nat} {a : Mem} (h : WF M a) {s m : Int} (hs : VS a s) (h8 : a 8 s = 0) (hm : 0 ≤ m) (hm2 : m < M) : a 10 m < 48 := by
  obtain ⟨hN, hO, h1, h2, h3, h4, h5⟩ := h
  have hb := VS_in hN.1 hs
  have e := count80 (c := fun _ => 6) (fun _ _ _ => by omega)
  have e2 : sumI (fun x => if x % 10 < (6 : Int) then 1 else 0) 0 80 = 48 := e.trans (by decide)
  have k : sumI (fun x => if x = s then 0 else if x % 10 < (6 : Int) then 1 else 0) 0 80 = 48 - 1 := by
    have z := sumI_up (f := fun x => if x % 10 < (6 : Int) then (1 : Int) else 0) (g := fun x => if x = s then (0 : Int) else if x % 10 < (6 : Int) then 1 else 0) (lo := 0) (hi := 80) (k := s) (d := -1) hb.1 hb.2.1 (by rw [if_pos rfl, if_pos hb.2.2.2.2.2]; rfl) (fun i q => by rw [if_neg q])
    rw [z, e2]
    rfl
  rw [h5 m hm hm2]
  refine Int.lt_of_le_of_lt (sumI_le (g := fun x => if x = s then 0 else if x % 10 < (6 : Int) then 1 else 0) (fun x q1 q2 => ?_)) (by rw [k]; omega)
  by_cases ex : x = s
  · subst ex; simp [h8]
  · rcases h1 x q1 q2 with e | ⟨e, v⟩
    · simp only [ex, e, if_false]; split <;> split <;> omega
    · have := VS_in hN.1 v
      simp only [ex, e, this.2.2.2.2.2, if_false, if_true]; split <;> omega
set_option maxHeartbeats 1000000 in
theorem WF_insert {M : Nat} {a : Mem} (h : WF M a) {s p : Int} (hs : VS a s) (h8 : a 8 s = 0) (p0 : 0 ≤ p) (p1 : p ≤ a 10 (a 6 s)) : WF M (m_X3_insert s p a) := by
  have hsz := fun m q1 q2 => size_lt (m := m) h hs h8 q1 q2
  obtain ⟨hN, ⟨o1, o2⟩, h1, h2, h3, h4, h5⟩ := id h
  have hb := VS_in hN.1 hs
  have hm := (hN.2.2.2.1 s hb.1 hb.2.1).1
  obtain ⟨af, a1, a8, a10, ar, -⟩ := ins_acc s p a hm.1
  generalize m_X3_insert s p a = T at *
  have hV : ∀ x, VS T x ↔ VS a x := fun x => by unfold VS; rw [a1, af 5 (by omega)]; simp
  have e5 := af 5 (by omega)
  have e6 := af 6 (by omega)
  obtain ⟨⟨b1, b2, b3, b4, b5, b6⟩, n2, n3, n4, n5, n6⟩ := id hN
  refine ⟨⟨⟨?_, b2, b3, ?_, ?_, ?_⟩, ?_, ?_, ?_, ?_, ?_⟩, ⟨?_, ?_⟩, ?_, ?_, ?_, ?_, ?_⟩
  · rw [a1]; simpa using b1
  · rw [a1]; simpa using b4
  · rw [e5]; exact b5
  · intro m q1 q2
    rw [a10]
    have := b6 m q1 q2
    have := hsz m q1 q2
    split <;> omega
  · rw [af 2 (by omega), af 3 (by omega), af 4 (by omega)]; exact n2
  · rw [a1, e5]; simpa using n3
  · rw [e6, af 7 (by omega)]; exact n4
  · rw [af 11 (by omega)]; exact n5
  · rw [af 11 (by omega)]; exact n6
  · intro m i q1 q2 q3 q4
    rw [a10] at q4
    rw [ar m i q1, hV, e6, a8]
    by_cases e : m = a 6 s
    · rw [if_pos e] at q4 ⊢
      subst e
      by_cases e2 : i = p
      · rw [if_pos e2]; simp [hs]
      · rw [if_neg e2]
        by_cases e3 : p < i ∧ i ≤ a 10 (a 6 s)
        · rw [if_pos e3]
          have := o1 (a 6 s) (i - 1) q1 q2 (by omega) (by omega)
          refine ⟨this.1, this.2.1, ?_⟩
          rw [this.2.2]; simp
        · rw [if_neg e3]
          have := o1 (a 6 s) i q1 q2 q3 (by omega)
          refine ⟨this.1, this.2.1, ?_⟩
          rw [this.2.2]; simp
    · rw [if_neg e] at q4 ⊢
      have := o1 m i q1 q2 q3 q4
      refine ⟨this.1, this.2.1, ?_⟩
      rw [this.2.2]; simp
  · intro m i i' q1 q2 q3 q4 q5 q6 q7
    rw [a10] at q4 q6
    rw [ar m i q1, ar m i' q1] at q7
    by_cases e : m = a 6 s
    · rw [if_pos e] at q4 q6 q7
      rw [if_pos e] at q7
      subst e
      have ns : ∀ k : Int, 0 ≤ k → k < a 10 (a 6 s) → a (57 + a 6 s) k ≠ s := fun k k1 k2 z => by
        have := (o1 (a 6 s) k q1 q2 k1 k2).2.2
        rw [z, h8] at this
        omega
      have inj := fun k k' k1 k2 k3 k4 => o2 (a 6 s) k k' q1 q2 k1 k2 k3 k4
      by_cases e2 : i = p
      · by_cases e2' : i' = p
        · omega
        · rw [if_pos e2, if_neg e2'] at q7
          by_cases e3 : p < i' ∧ i' ≤ a 10 (a 6 s)
          · rw [if_pos e3] at q7
            exact absurd q7.symm (ns (i' - 1) (by omega) (by omega))
          · rw [if_neg e3] at q7
            exact absurd q7.symm (ns i' (by omega) (by omega))
      · rw [if_neg e2] at q7
        by_cases e2' : i' = p
        · rw [if_pos e2'] at q7
          by_cases e3 : p < i ∧ i ≤ a 10 (a 6 s)
          · rw [if_pos e3] at q7
            exact absurd q7 (ns (i - 1) (by omega) (by omega))
          · rw [if_neg e3] at q7
            exact absurd q7 (ns i (by omega) (by omega))
        · rw [if_neg e2'] at q7
          by_cases e3 : p < i ∧ i ≤ a 10 (a 6 s)
          · rw [if_pos e3] at q7
            by_cases e4 : p < i' ∧ i' ≤ a 10 (a 6 s)
            · rw [if_pos e4] at q7
              have := inj (i - 1) (i' - 1) (by omega) (by omega) (by omega) (by omega) q7
              omega
            · rw [if_neg e4] at q7
              have := inj (i - 1) i' (by omega) (by omega) (by omega) (by omega) q7
              omega
          · rw [if_neg e3] at q7
            by_cases e4 : p < i' ∧ i' ≤ a 10 (a 6 s)
            · rw [if_pos e4] at q7
              have := inj i (i' - 1) (by omega) (by omega) (by omega) (by omega) q7
              omega
            · rw [if_neg e4] at q7
              exact inj i i' (by omega) (by omega) (by omega) (by omega) q7
    · rw [if_neg e] at q4 q6 q7
      rw [if_neg e] at q7
      exact o2 m i i' q1 q2 q3 q4 q5 q6 q7
  · intro x q1 q2
    rw [a8, hV]
    by_cases e : x = s
    · subst e; simp [hs]
    · rw [if_neg e]; exact h1 x q1 q2
  · intro x hv q
    rw [hV] at hv
    rw [a8] at q
    rw [e6, a10]
    have hxb := VS_in hN.1 hv
    have hxm := (hN.2.2.2.1 x hxb.1 hxb.2.1).1
    by_cases e : x = s
    · subst e
      refine ⟨p, p0, by rw [if_pos rfl]; omega, ?_⟩
      rw [ar _ _ hxm.1, if_pos rfl, if_pos rfl]
    · rw [if_neg e] at q
      obtain ⟨i, i1, i2, i3⟩ := h2 x hv q
      by_cases em : a 6 x = a 6 s
      · rw [if_pos em]
        by_cases ei : i < p
        · refine ⟨i, i1, by omega, ?_⟩
          rw [ar _ _ hxm.1, if_pos em, if_neg (by omega), if_neg (by omega), i3]
        · refine ⟨i + 1, by omega, by omega, ?_⟩
          rw [ar _ _ hxm.1, if_pos em, if_neg (by omega), if_pos (by omega), show i + 1 - 1 = i by omega, i3]
      · rw [if_neg em]
        refine ⟨i, i1, i2, ?_⟩
        rw [ar _ _ hxm.1, if_neg em, i3]
  · rw [a1, e5]; simpa using h3
  · rw [a1, if_pos rfl, h4]
    exact (sumI_up (k := s) hb.1 hb.2.1 (by rw [a8, if_pos rfl, h8]; rfl) (fun i q => by rw [a8, if_neg q])).symm
  · intro m q1 q2
    rw [a10, h5 m q1 q2, e6]
    by_cases e : m = a 6 s
    · rw [if_pos e]
      refine (sumI_up (k := s) hb.1 hb.2.1 ?_ (fun i q => ?_)).symm
      · rw [if_pos e.symm, if_pos e.symm, a8, if_pos rfl, h8]; rfl
      · rw [a8, if_neg q]
    · rw [if_neg e]
      refine sumI_congr (fun x _ _ => ?_)
      by_cases ex : x = s
      · subst ex
        rw [if_neg (fun z => e z.symm), if_neg (fun z => e z.symm)]
      · rw [a8, if_neg ex]
end
section
/-! filling by a rule -/
def nxt (f : Mem) (j : Int) : Int := 10 * j + f 27 j
def rdF (f : Mem) (m j : Int) : Int := if f 10 m = 0 then 0 else f 29 m + f 11 ((m * 8 + f (57 + m) (f 10 m - 1) / 10) * 8 + j)
def bgF (f : Mem) (j : Int) : Int := max (f 28 j) (rdF f (f 6 (nxt f j)) j)
def enF (f : Mem) (j : Int) : Int := bgF f j + f 7 (nxt f j)
def hN (f : Mem) (j : Int) : Prop := 0 ≤ j ∧ j < f 1 1 ∧ f 27 j < f 5 j
def fsF (f : Mem) (j : Int) : Prop := hN f j ∧ ∀ i : Int, hN f i → enF f j < enF f i ∨ (enF f j = enF f i ∧ j ≤ i)
def rvF (f : Mem) (j0 j : Int) : Prop := hN f j ∧ f 6 (nxt f j) = f 6 (nxt f j0) ∧ (j = j0 ∨ bgF f j < enF f j0)
def msF (rule : Int) (f : Mem) (j : Int) : Int := if rule = 0 then f 7 (nxt f j) else if rule = 1 then f 3 j else if rule = 2 then -(sumI (fun p => f 7 (10 * j + p)) (f 27 j) (f 5 j)) else bgF f j
def chF (rule : Int) (f : Mem) (j0 j : Int) : Prop := rvF f j0 j ∧ ∀ i : Int, rvF f j0 i → msF rule f j < msF rule f i ∨ (msF rule f j = msF rule f i ∧ j ≤ i)
def apF (f : Mem) (j : Int) : Mem := up (up (up (m_X3_insert (nxt f j) (f 10 (f 6 (nxt f j))) f) 28 j (enF f j)) 29 (f 6 (nxt f j)) (enF f j)) 27 j (f 27 j + 1)
noncomputable def nextF (rule : Int) (f : Mem) : Mem := apF f (Classical.epsilon (fun j => ∃ j0, fsF f j0 ∧ chF rule f j0 j))
noncomputable def fillN (rule : Int) (f : Mem) : Nat → Mem
  | 0 => f
  | n + 1 => nextF rule (fillN rule f n)
theorem fsF_uniq {f : Mem} {i j : Int} (h : fsF f i) (g : fsF f j) : i = j := by
  have a := h.2 j g.1
  have b := g.2 i h.1
  omega
theorem chF_uniq {rule : Int} {f : Mem} {j0 i j : Int} (h : chF rule f j0 i) (g : chF rule f j0 j) : i = j := by
  have a := h.2 j g.1
  have b := g.2 i h.1
  omega
theorem nextF_eq {rule : Int} {f : Mem} {j0 j : Int} (h : fsF f j0) (g : chF rule f j0 j) : nextF rule f = apF f j := by
  have e := Classical.epsilon_spec (p := fun j => ∃ j0, fsF f j0 ∧ chF rule f j0 j) ⟨j, j0, h, g⟩
  obtain ⟨k0, e1, e2⟩ := e
  rw [fsF_uniq e1 h] at e2
  unfold nextF
  rw [chF_uniq e2 g]
/-- what holds while orders are filled, after n rounds -/
def FI (M : Nat) (f : Mem) (n : Int) : Prop := WF M f
  ∧ (∀ j : Int, 0 ≤ j → j < 8 → 0 ≤ f 27 j ∧ f 27 j ≤ f 5 j)
  ∧ (∀ s : Int, VS f s → (f 8 s = 1 ↔ s % 10 < f 27 (s / 10)))
  ∧ (∀ j : Int, 0 ≤ j → j < 8 → 0 ≤ f 28 j ∧ f 28 j ≤ 1000 + 100 * n)
  ∧ (∀ m : Int, 0 ≤ m → m < 5 → 0 ≤ f 29 m ∧ f 29 m ≤ 1000 + 100 * n)
  ∧ (∀ j : Int, 0 ≤ j → j < 8 → f 27 j = 0 → f 28 j = f 2 j)
  ∧ sumI (f 27) 0 8 = n
theorem FI_n {M : Nat} {f : Mem} {n : Int} (h : FI M f n) : 0 ≤ n ∧ n ≤ f 1 2 ∧ f 1 2 ≤ 48 := by
  obtain ⟨hW, h1, h2, h3, h4, h5, h6⟩ := h
  have a := steps_in hW
  have b := sumI_bd (f := f 27) (lo := 0) (hi := 8) (B := 6) (by omega) (fun j p q => ⟨(h1 j p q).1, by have := (h1 j p q).2; have := (hW.1.1.2.2.2.2.1 j p q).2; omega⟩) 8 (by omega)
  have c := sumI_le (f := f 27) (g := f 5) (lo := 0) (hi := 8) (fun j p q => (h1 j p q).2)
  have d : f 1 2 = sumI (f 5) 0 8 := hW.2.2.2.2.1
  omega
theorem hN_in {M : Nat} {f : Mem} {n : Int} (h : FI M f n) {j : Int} (hj : hN f j) : 0 ≤ j ∧ j < 8 ∧ VS f (nxt f j) ∧ nxt f j / 10 = j ∧ nxt f j % 10 = f 27 j ∧ 0 ≤ f 27 j ∧ f 27 j < 6 ∧ f 8 (nxt f j) = 0 ∧ (0 ≤ f 6 (nxt f j) ∧ f 6 (nxt f j) < M) ∧ (0 ≤ f 7 (nxt f j) ∧ f 7 (nxt f j) ≤ 50) := by
  obtain ⟨hW, h1, h2, h3, h4, h5, h6⟩ := h
  obtain ⟨j0, j1, j2⟩ := hj
  have hB := hW.1.1
  have j8 : j < 8 := by have := hB.2.2.2.1.2; omega
  have a := h1 j j0 j8
  have b := hB.2.2.2.2.1 j j0 j8
  have e1 : nxt f j / 10 = j := by unfold nxt; omega
  have e2 : nxt f j % 10 = f 27 j := by unfold nxt; omega
  have v : VS f (nxt f j) := ⟨by unfold nxt; omega, by rw [e1]; exact j1, by rw [e1, e2]; exact j2⟩
  have vb := VS_in hB v
  have n4 := hW.1.2.2.2.1 _ vb.1 vb.2.1
  have e8 : f 8 (nxt f j) = 0 := by
    rcases hW.2.2.1 _ vb.1 vb.2.1 with e | ⟨e, -⟩
    · exact e
    · have := (h2 _ v).mp e
      rw [e1, e2] at this
      omega
  exact ⟨j0, j8, v, e1, e2, a.1, by omega, e8, n4.1, n4.2⟩
theorem bgF_in {M : Nat} {f : Mem} {n : Int} (h : FI M f n) {j : Int} (hj : hN f j) : 0 ≤ bgF f j ∧ bgF f j ≤ 1050 + 100 * n := by
  have hi := hN_in h hj
  obtain ⟨hW, h1, h2, h3, h4, h5, h6⟩ := h
  have a := h3 j hi.1 hi.2.1
  have hm := hi.2.2.2.2.2.2.2.2.1
  have hM : M ≤ 5 := hW.1.1.2.2.1
  have b := h4 (f 6 (nxt f j)) hm.1 (by omega)
  unfold bgF rdF
  by_cases e : f 10 (f 6 (nxt f j)) = 0
  · rw [if_pos e]; omega
  · rw [if_neg e]
    have hz := hW.1.1.2.2.2.2.2 _ hm.1 hm.2
    have hv := VS_in hW.1.1 (hW.2.1.1 (f 6 (nxt f j)) (f 10 (f 6 (nxt f j)) - 1) hm.1 hm.2 (by omega) (by omega)).1
    have c := hW.1.2.2.2.2.1 ((f 6 (nxt f j) * 8 + f (57 + f 6 (nxt f j)) (f 10 (f 6 (nxt f j)) - 1) / 10) * 8 + j) (by omega) (by omega)
    omega
theorem apF_acc (f : Mem) (j : Int) (hm : 0 ≤ f 6 (nxt f j)) : (∀ c : Int, c ≠ 27 → c ≠ 28 → c ≠ 29 → apF f j c = m_X3_insert (nxt f j) (f 10 (f 6 (nxt f j))) f c) ∧ (∀ x, apF f j 27 x = if x = j then f 27 x + 1 else f 27 x) ∧ (∀ x, apF f j 28 x = if x = j then enF f j else f 28 x) ∧ (∀ x, apF f j 29 x = if x = f 6 (nxt f j) then enF f j else f 29 x) := by
  have ai := (ins_acc (nxt f j) (f 10 (f 6 (nxt f j))) f hm).2.2.2.2.2
  refine ⟨fun c h1 h2 h3 => ?_, fun x => ?_, fun x => ?_, fun x => ?_⟩
  · unfold apF
    rw [up_other _ _ _ h1, up_other _ _ _ h3, up_other _ _ _ h2]
  · unfold apF
    simp only [up]
    rw [ai 27 (by omega) (by omega)]
    grind
  · unfold apF
    simp only [up]
    rw [ai 28 (by omega) (by omega)]
    grind
  · unfold apF
    simp only [up]
    rw [ai 29 (by omega) (by omega)]
    grind
theorem FI_step {M : Nat} {f : Mem} {n : Int} (h : FI M f n) {j : Int} (hj : hN f j) : FI M (apF f j) (n + 1) := by
  have hi := hN_in h hj
  have hbg := bgF_in h hj
  have hn := FI_n h
  obtain ⟨hW, h1, h2, h3, h4, h5, h6⟩ := id h
  obtain ⟨i1, i2, i3, i4, i5, i6, i7, i8, i9, i10⟩ := hi
  obtain ⟨ac, a27, a28, a29⟩ := apF_acc f j i9.1
  obtain ⟨af, a1, a8, a10, ar, -⟩ := ins_acc (nxt f j) (f 10 (f 6 (nxt f j))) f i9.1
  have hz := hW.1.1.2.2.2.2.2 _ i9.1 i9.2
  have hWi := WF_insert hW i3 i8 (p := f 10 (f 6 (nxt f j))) hz.1 (Int.le_refl _)
  have hSE : SE (m_X3_insert (nxt f j) (f 10 (f 6 (nxt f j))) f) (apF f j) := fun c hc => (ac c (by omega) (by omega) (by omega)).symm
  have e5 : apF f j 5 = f 5 := by rw [ac 5 (by omega) (by omega) (by omega), af 5 (by omega)]
  have e2 : apF f j 2 = f 2 := by rw [ac 2 (by omega) (by omega) (by omega), af 2 (by omega)]
  have e8 : ∀ x, apF f j 8 x = if x = nxt f j then 1 else f 8 x := fun x => by rw [ac 8 (by omega) (by omega) (by omega), a8]
  have eV : ∀ x, VS (apF f j) x ↔ VS f x := fun x => by
    unfold VS
    rw [e5, ac 1 (by omega) (by omega) (by omega), a1]
    simp
  have hen : 0 ≤ enF f j ∧ enF f j ≤ 1100 + 100 * n := by unfold enF; omega
  refine ⟨SE_WF hSE hWi, fun x q1 q2 => ?_, fun s hs => ?_, fun x q1 q2 => ?_, fun m q1 q2 => ?_, fun x q1 q2 q3 => ?_, ?_⟩
  · rw [a27, e5]
    have := h1 x q1 q2
    by_cases e : x = j
    · rw [if_pos e]; subst e; have := hj.2.2; omega
    · rw [if_neg e]; exact this
  · rw [eV] at hs
    rw [e8, a27]
    have key := h2 s hs
    have sb := VS_in hW.1.1 hs
    by_cases e : s = nxt f j
    · rw [if_pos e, e, i4, i5, if_pos rfl]
      omega
    · rw [if_neg e]
      by_cases e3 : s / 10 = j
      · rw [if_pos e3]
        have : s % 10 ≠ f 27 j := fun z => e (by unfold nxt; omega)
        rw [e3] at key ⊢
        omega
      · rw [if_neg e3]; exact key
  · rw [a28]
    have := h3 x q1 q2
    split <;> omega
  · rw [a29]
    have := h4 m q1 q2
    split <;> omega
  · rw [a27] at q3
    have := h1 x q1 q2
    by_cases e : x = j
    · rw [if_pos e] at q3; subst e; omega
    · rw [if_neg e] at q3
      rw [a28, if_neg e, e2]
      exact h5 x q1 q2 q3
  · rw [← h6]
    exact sumI_up (k := j) i1 i2 (by rw [a27, if_pos rfl]) (fun i q => by rw [a27, if_neg q])
/-- while fewer rounds than steps went by there is a next step -/
theorem FI_more {M : Nat} {f : Mem} {n : Int} (h : FI M f n) (g : n < f 1 2) : ∃ j, hN f j := by
  obtain ⟨hW, h1, h2, h3, h4, h5, h6⟩ := h
  apply Classical.byContradiction
  intro hn
  have key : ∀ j : Int, 0 ≤ j → j < 8 → f 5 j ≤ f 27 j := by
    intro j q1 q2
    apply Classical.byContradiction
    intro q3
    by_cases q4 : j < f 1 1
    · exact hn ⟨j, q1, q4, by omega⟩
    · have := hW.1.2.2.1 j (by omega) q2
      have := (h1 j q1 q2).1
      omega
  have c := sumI_le (f := f 5) (g := f 27) (lo := 0) (hi := 8) key
  have d : f 1 2 = sumI (f 5) 0 8 := hW.2.2.2.2.1
  omega
def fill0 (a : Mem) : Mem := m_J7_fill_53178 29 5 0 (cpM (m_J7_fill_53178 27 8 0 (m_X3_emptyOrders a)) 2 28 8)
theorem fill0_acc (a : Mem) : (∀ c : Int, 2 ≤ c ∧ c ≤ 7 ∨ c = 11 ∨ 57 ≤ c → fill0 a c = a c) ∧ (∀ x, fill0 a 1 x = if x = 3 then 0 else a 1 x) ∧ (∀ x : Int, 0 ≤ x → x < 80 → fill0 a 8 x = 0) ∧ (∀ x : Int, 0 ≤ x → x < a 1 0 → fill0 a 10 x = 0) ∧ (∀ x : Int, 0 ≤ x → x < 8 → fill0 a 27 x = 0) ∧ (∀ x : Int, 0 ≤ x → x < 8 → fill0 a 28 x = a 2 x) ∧ (∀ x : Int, 0 ≤ x → x < 5 → fill0 a 29 x = 0) ∧ (∀ c : Int, 12 ≤ c → c < 27 ∨ 29 < c → fill0 a c = a c) := by
  refine ⟨fun c hc => ?_, fun x => ?_, fun x h1 h2 => ?_, fun x h1 h2 => ?_, fun x h1 h2 => ?_, fun x h1 h2 => ?_, fun x h1 h2 => ?_, fun c h1 h2 => ?_⟩
  · funext x; simp only [fill0, m_J7_fill_53178, cpM, m_X3_emptyOrders]; grind
  · simp only [fill0, m_J7_fill_53178, cpM, m_X3_emptyOrders]; grind
  · simp only [fill0, m_J7_fill_53178, cpM, m_X3_emptyOrders]; grind
  · simp only [fill0, m_J7_fill_53178, cpM, m_X3_emptyOrders]; grind
  · simp only [fill0, m_J7_fill_53178, cpM, m_X3_emptyOrders]; grind
  · simp only [fill0, m_J7_fill_53178, cpM, m_X3_emptyOrders]; grind
  · simp only [fill0, m_J7_fill_53178, cpM, m_X3_emptyOrders]; grind
  · funext x; simp only [fill0, m_J7_fill_53178, cpM, m_X3_emptyOrders]; grind
theorem FI_0 {M : Nat} {a : Mem} (h : WF M a) : FI M (fill0 a) 0 := by
  obtain ⟨hN0, ⟨o1, o2⟩, h1, h2, h3, h4, h5⟩ := id h
  obtain ⟨af, a1, a8, a10, a27, a28, a29, -⟩ := fill0_acc a
  generalize fill0 a = T at *
  have e5 := af 5 (by omega)
  have e6 := af 6 (by omega)
  obtain ⟨⟨b1, b2, b3, b4, b5, b6⟩, n2, n3, n4, n5, n6⟩ := id hN0
  rw [b1] at a10
  have hV : ∀ x, VS T x ↔ VS a x := fun x => by unfold VS; rw [a1, e5]; simp
  refine ⟨⟨⟨⟨?_, b2, b3, ?_, ?_, ?_⟩, ?_, ?_, ?_, ?_, ?_⟩, ⟨?_, ?_⟩, ?_, ?_, ?_, ?_, ?_⟩, ?_, ?_, ?_, ?_, ?_, ?_⟩
  · rw [a1]; simpa using b1
  · rw [a1]; simpa using b4
  · rw [e5]; exact b5
  · intro m q1 q2; rw [a10 m q1 q2]; omega
  · rw [af 2 (by omega), af 3 (by omega), af 4 (by omega)]; exact n2
  · rw [a1, e5]; simpa using n3
  · rw [e6, af 7 (by omega)]; exact n4
  · rw [af 11 (by omega)]; exact n5
  · rw [af 11 (by omega)]; exact n6
  · intro m i q1 q2 q3 q4; rw [a10 m q1 q2] at q4; omega
  · intro m i i' q1 q2 q3 q4; rw [a10 m q1 q2] at q4; omega
  · intro s q1 q2; left; exact a8 s q1 q2
  · intro s hs q
    rw [hV] at hs
    have hb := VS_in hN0.1 hs
    rw [a8 s hb.1 hb.2.1] at q
    omega
  · rw [a1, e5]; simpa using h3
  · rw [a1, if_pos rfl, sumI_congr (g := fun _ => 0) (fun s q1 q2 => a8 s q1 q2)]
    decide
  · intro m q1 q2
    rw [a10 m q1 q2, sumI_congr (g := fun _ => 0) (fun s q1 q2 => by rw [a8 s q1 q2]; simp)]
    decide
  · intro j q1 q2; rw [a27 j q1 q2, e5]; have := b5 j q1 q2; omega
  · intro s hs
    rw [hV] at hs
    have hb := VS_in hN0.1 hs
    rw [a8 s hb.1 hb.2.1, a27 _ hb.2.2.1 hb.2.2.2.1]
    omega
  · intro j q1 q2; rw [a28 j q1 q2]; have := (n2 j q1 q2).1; omega
  · intro m q1 q2; rw [a29 m q1 q2]; omega
  · intro j q1 q2 _; rw [a28 j q1 q2, af 2 (by omega)]
  · rw [sumI_congr (g := fun _ => 0) (fun s q1 q2 => a27 s q1 q2)]
    decide
/-- but for the class's own begins -/
def C30 (f τ : Mem) : Prop := ∀ c : Int, c ≠ 30 → τ c = f c
theorem C30.trans {a b c : Mem} (h : C30 a b) (g : C30 b c) : C30 a c := fun d hd => (g d hd).trans (h d hd)
theorem nxt_c {f τ : Mem} (h : C30 f τ) (j : Int) : nxt τ j = nxt f j := by unfold nxt; rw [h 27 (by omega)]
theorem hN_c {f τ : Mem} (h : C30 f τ) (j : Int) : hN τ j ↔ hN f j := by unfold hN; rw [h 1 (by omega), h 27 (by omega), h 5 (by omega)]
theorem rdF_c {f τ : Mem} (h : C30 f τ) {m : Int} (hm : 0 ≤ m) (j : Int) : rdF τ m j = rdF f m j := by unfold rdF; rw [h 10 (by omega), h 29 (by omega), h 11 (by omega), h (57 + m) (by omega)]
theorem bgF_c {f τ : Mem} (h : C30 f τ) {j : Int} (hm : 0 ≤ f 6 (nxt f j)) : bgF τ j = bgF f j := by
  unfold bgF
  rw [nxt_c h, h 6 (by omega), h 28 (by omega), rdF_c h hm]
theorem enF_c {f τ : Mem} (h : C30 f τ) {j : Int} (hm : 0 ≤ f 6 (nxt f j)) : enF τ j = enF f j := by
  unfold enF
  rw [bgF_c h hm, nxt_c h, h 7 (by omega)]
theorem C30_SE {f τ : Mem} (h : C30 f τ) : SE f τ := fun c hc => (h c (by omega)).symm
theorem FI_c {M : Nat} {f τ : Mem} {n : Int} (h : C30 f τ) (g : FI M f n) : FI M τ n := by
  obtain ⟨hW, h1, h2, h3, h4, h5, h6⟩ := g
  refine ⟨SE_WF (C30_SE h) hW, ?_, fun s hs => ?_, ?_, ?_, ?_, ?_⟩
  · rw [h 27 (by omega), h 5 (by omega)]; exact h1
  · rw [h 8 (by omega), h 27 (by omega)]
    exact h2 s ((SE_VS (C30_SE h) s).mpr hs)
  · rw [h 28 (by omega)]; exact h3
  · rw [h 29 (by omega)]; exact h4
  · rw [h 27 (by omega), h 28 (by omega), h 2 (by omega)]; exact h5
  · rw [h 27 (by omega)]; exact h6
theorem ins_c30 {f τ : Mem} (h : C30 f τ) (s p : Int) : C30 (m_X3_insert s p f) (m_X3_insert s p τ) := by
  intro c hc
  funext i
  unfold m_X3_insert
  rw [h 6 (by omega), h 10 (by omega), h 1 (by omega), h c hc]
theorem up_c30 {f τ : Mem} (h : C30 f τ) (k i v : Int) : C30 (up f k i v) (up τ k i v) := by
  intro c hc
  funext x
  unfold up
  rw [h c hc]

/-! X1_hasNext -/
def P_X1_hasNext (x1 : Int) (σ : Mem) : Prop := σ 27 x1 < σ 5 x1
def pre_X1_hasNext (M : Nat) (x1 : Int) (σ : Mem) : Prop := 0 ≤ x1 ∧ x1 < 8 ∧ 0 ≤ σ 27 x1 ∧ σ 27 x1 ≤ 6 ∧ 0 ≤ σ 5 x1 ∧ σ 5 x1 ≤ 6
theorem FI_hasNext {M : Nat} {f : Mem} {n : Int} (h : FI M f n) {j : Int} (h0 : 0 ≤ j) (h1 : j < 8) : pre_X1_hasNext M j f := by
  have a := h.2.1 j h0 h1
  have b := h.1.1.1.2.2.2.2.1 j h0 h1
  exact ⟨h0, h1, by omega, by omega, by omega, by omega⟩
def VC_X1_hasNext_0 (M : Nat) (post : Int → Mem → Prop) (x1 : Int) (σ : Mem) : Prop :=
 (0 ≤ x1 ∧ x1 < 8) ∧ (0 ≤ x1 ∧ x1 < 8) ∧ (inR (σ 27 x1) ∧ inR (σ 5 x1)) ∧ (((σ 5 x1) ≤ (σ 27 x1) → post 0 σ) ∧ ((σ 27 x1) < (σ 5 x1) → post 1 σ))
set_option maxRecDepth 20000 in
set_option maxHeartbeats 4000000 in
theorem seg_X1_hasNext_0 {G : GG} {X : XX} {post : Int → Mem → Prop} (C : CX G X cX1_hasNext RX1 2 (some .boolean) 0)   (x1 : Int) (σ : Mem) (vc : VC_X1_hasNext_0 (gM G)  post  x1 σ) : RW G X 2 (QI G X post) 0 [(0, pR 26), (1, pI x1)] [] σ := by
  unfold VC_X1_hasNext_0 at vc
  refine w_aload_n C 0 dX1_hasNext_0 rfl ?_
  refine w_getR C dX1_hasNext_1 gf_X1_9 ob_26 rfl ?_
  refine w_iload_n C 1 dX1_hasNext_4 rfl ?_
  obtain ⟨⟨sc1, sc2⟩, vc⟩ := vc
  refine w_iald C dX1_hasNext_5 ia_27 sc1 sc2 ?_
  refine w_aload_n C 0 dX1_hasNext_6 rfl ?_
  refine w_getR C dX1_hasNext_7 gf_X1_24 ob_26 rfl ?_
  refine w_getR C dX1_hasNext_10 gf_X1_67 ob_1 rfl ?_
  refine w_iload_n C 1 dX1_hasNext_13 rfl ?_
  obtain ⟨⟨sc3, sc4⟩, vc⟩ := vc
  refine w_iald C dX1_hasNext_14 ia_5 sc3 sc4 ?_
  obtain ⟨⟨sc5, sc6⟩, vc⟩ := vc
  refine w_icmp_ge C 22 dX1_hasNext_15 (by decide) sc5 sc6 (fun h7 => ?_) (fun h7 => ?_)
  · have vc := vc.1 h7
    refine w_iconst C dX1_hasNext_22 ?_
    exact w_zreturn C dX1_hasNext_23 (Or.inl rfl) vc
  · have vc := vc.2 h7
    refine w_iconst C dX1_hasNext_18 ?_
    refine w_goto C 23 dX1_hasNext_19 (by decide) ?_
    exact w_zreturn C dX1_hasNext_23 (Or.inr rfl) vc
set_option maxHeartbeats 1000000 in
theorem ok_X1_hasNext_0 {M : Nat} {x1 : Int} {σ : Mem} (h : pre_X1_hasNext M x1 σ) : VC_X1_hasNext_0 M (fun z σ' => σ' = σ ∧ (P_X1_hasNext x1 σ ∧ z = 1 ∨ ¬ P_X1_hasNext x1 σ ∧ z = 0)) x1 σ := by
  obtain ⟨a1, a2, a3, a4, a5, a6⟩ := h
  exact ⟨⟨a1, a2⟩, ⟨a1, a2⟩, ⟨⟨by omega, by omega⟩, ⟨by omega, by omega⟩⟩, fun g => ⟨rfl, Or.inr ⟨Int.not_lt.mpr g, rfl⟩⟩, fun g => ⟨rfl, Or.inl ⟨g, rfl⟩⟩⟩
theorem c_X1_hasNext {G : GG} (hG : GI G) (l : Launch) (x1 : Int) (σ : Mem) (h : pre_X1_hasNext (gM G) x1 σ) : CtI G l yX1_hasNext cX1_hasNext 2 (some .boolean) 0 [pR 26, pI x1] σ (fun z σ' => σ' = σ ∧ (P_X1_hasNext x1 σ ∧ z = 1 ∨ ¬ P_X1_hasNext x1 σ ∧ z = 0)) := by
  refine CtI.of hG (by decide) (Nat.le_of_ble_eq_true rfl) (fun X hl C => ?_)
  show RW G X 2 (QI G X _) 0 [(0, pR 26), (1, pI x1)] [] σ
  exact seg_X1_hasNext_0 C x1 σ (ok_X1_hasNext_0 h)

/-! X1_nextOf -/
abbrev f_X1_nextOf (x1 : Int) (σ : Mem) : Int := nxt σ x1
def pre_X1_nextOf (M : Nat) (x1 : Int) (σ : Mem) : Prop := 0 ≤ x1 ∧ x1 < 8
def VC_X1_nextOf_0 (M : Nat) (post : Int → Mem → Prop) (x1 : Int) (σ : Mem) : Prop :=
 (0 ≤ x1 ∧ x1 < 8) ∧ post ((10 * x1) + (σ 27 x1)) σ
set_option maxRecDepth 20000 in
set_option maxHeartbeats 4000000 in
theorem seg_X1_nextOf_0 {G : GG} {X : XX} {post : Int → Mem → Prop} (C : CX G X cX1_nextOf RX1 2 (some .int) 0)   (x1 : Int) (σ : Mem) (vc : VC_X1_nextOf_0 (gM G)  post  x1 σ) : RW G X 2 (QI G X post) 0 [(0, pR 26), (1, pI x1)] [] σ := by
  unfold VC_X1_nextOf_0 at vc
  refine w_bipush C dX1_nextOf_0 (by decide) ?_
  refine w_iload_n C 1 dX1_nextOf_2 rfl ?_
  refine w_imul C dX1_nextOf_3 ?_
  refine w_aload_n C 0 dX1_nextOf_4 rfl ?_
  refine w_getR C dX1_nextOf_5 gf_X1_9 ob_26 rfl ?_
  refine w_iload_n C 1 dX1_nextOf_8 rfl ?_
  obtain ⟨⟨sc1, sc2⟩, vc⟩ := vc
  refine w_iald C dX1_nextOf_9 ia_27 sc1 sc2 ?_
  refine w_iadd C dX1_nextOf_10 ?_
  exact w_ireturn C dX1_nextOf_11 vc
set_option maxHeartbeats 1000000 in
theorem ok_X1_nextOf_0 {M : Nat} {x1 : Int} {σ : Mem} (h : pre_X1_nextOf M x1 σ) : VC_X1_nextOf_0 M (fun z σ' => z = f_X1_nextOf x1 σ ∧ σ' = σ) x1 σ := by
  exact ⟨h, rfl, rfl⟩
theorem c_X1_nextOf {G : GG} (hG : GI G) (l : Launch) (x1 : Int) (σ : Mem) (h : pre_X1_nextOf (gM G) x1 σ) : CtI G l yX1_nextOf cX1_nextOf 2 (some .int) 0 [pR 26, pI x1] σ (fun z σ' => z = f_X1_nextOf x1 σ ∧ σ' = σ) := by
  refine CtI.of hG (by decide) (Nat.le_of_ble_eq_true rfl) (fun X hl C => ?_)
  show RW G X 2 (QI G X _) 0 [(0, pR 26), (1, pI x1)] [] σ
  exact seg_X1_nextOf_0 C x1 σ (ok_X1_nextOf_0 h)

/-! X1_machineOfNext -/
abbrev f_X1_machineOfNext (x1 : Int) (σ : Mem) : Int := σ 6 (nxt σ x1)
def pre_X1_machineOfNext (M : Nat) (x1 : Int) (σ : Mem) : Prop := 0 ≤ x1 ∧ x1 < 8 ∧ 0 ≤ nxt σ x1 ∧ nxt σ x1 < 80
def VC_X1_machineOfNext_0 (M : Nat) (post : Int → Mem → Prop) (x1 : Int) (σ : Mem) : Prop :=
 (pre_X1_nextOf M x1 σ) ∧ (0 ≤ (f_X1_nextOf x1 σ) ∧ (f_X1_nextOf x1 σ) < 80) ∧ post (σ 6 (f_X1_nextOf x1 σ)) σ
set_option maxRecDepth 20000 in
set_option maxHeartbeats 4000000 in
theorem seg_X1_machineOfNext_0 {G : GG} {X : XX} {post : Int → Mem → Prop} (C : CX G X cX1_machineOfNext RX1 2 (some .int) 1)   (x1 : Int) (σ : Mem) (vc : VC_X1_machineOfNext_0 (gM G)  post  x1 σ) : RW G X 2 (QI G X post) 0 [(0, pR 26), (1, pI x1)] [] σ := by
  unfold VC_X1_machineOfNext_0 at vc
  refine w_aload_n C 0 dX1_machineOfNext_0 rfl ?_
  refine w_getR C dX1_machineOfNext_1 gf_X1_24 ob_26 rfl ?_
  refine w_getR C dX1_machineOfNext_4 gf_X1_70 ob_1 rfl ?_
  refine w_aload_n C 0 dX1_machineOfNext_7 rfl ?_
  refine w_iload_n C 1 dX1_machineOfNext_8 rfl ?_
  obtain ⟨sc1, vc⟩ := vc
  refine w_callVI C [pI x1] [pR 6] rfl dX1_machineOfNext_9 (c_X1_nextOf C.gi (xL X) x1 σ sc1) oc_26 mw_X1_nextOf ml_X1_73 im_X1_nextOf se_X1_nextOf (by decide) (Nat.le_of_ble_eq_true rfl) (fun z σ' hz => ?_)
  obtain ⟨rfl, hz2⟩ := hz
  have hz2 := hz2.symm
  subst hz2
  obtain ⟨⟨sc2, sc3⟩, vc⟩ := vc
  refine w_iald C dX1_machineOfNext_12 ia_6 sc2 sc3 ?_
  exact w_ireturn C dX1_machineOfNext_13 vc
set_option maxHeartbeats 1000000 in
theorem ok_X1_machineOfNext_0 {M : Nat} {x1 : Int} {σ : Mem} (h : pre_X1_machineOfNext M x1 σ) : VC_X1_machineOfNext_0 M (fun z σ' => z = f_X1_machineOfNext x1 σ ∧ σ' = σ) x1 σ := by
  obtain ⟨a1, a2, a3, a4⟩ := h
  exact ⟨⟨a1, a2⟩, ⟨a3, a4⟩, rfl, rfl⟩
theorem c_X1_machineOfNext {G : GG} (hG : GI G) (l : Launch) (x1 : Int) (σ : Mem) (h : pre_X1_machineOfNext (gM G) x1 σ) : CtI G l yX1_machineOfNext cX1_machineOfNext 2 (some .int) 1 [pR 26, pI x1] σ (fun z σ' => z = f_X1_machineOfNext x1 σ ∧ σ' = σ) := by
  refine CtI.of hG (by decide) (Nat.le_of_ble_eq_true rfl) (fun X hl C => ?_)
  show RW G X 2 (QI G X _) 0 [(0, pR 26), (1, pI x1)] [] σ
  exact seg_X1_machineOfNext_0 C x1 σ (ok_X1_machineOfNext_0 h)

/-! X1_wouldEnd -/
def f_X1_wouldEnd (x1 : Int) (σ : Mem) : Int := σ 30 x1 + σ 7 (nxt σ x1)
def pre_X1_wouldEnd (M : Nat) (x1 : Int) (σ : Mem) : Prop := 0 ≤ x1 ∧ x1 < 8 ∧ 0 ≤ nxt σ x1 ∧ nxt σ x1 < 80
def VC_X1_wouldEnd_0 (M : Nat) (post : Int → Mem → Prop) (x1 : Int) (σ : Mem) : Prop :=
 (0 ≤ x1 ∧ x1 < 8) ∧ (pre_X1_nextOf M x1 σ) ∧ (0 ≤ (f_X1_nextOf x1 σ) ∧ (f_X1_nextOf x1 σ) < 80) ∧ post ((σ 30 x1) + (σ 7 (f_X1_nextOf x1 σ))) σ
set_option maxRecDepth 20000 in
set_option maxHeartbeats 4000000 in
theorem seg_X1_wouldEnd_0 {G : GG} {X : XX} {post : Int → Mem → Prop} (C : CX G X cX1_wouldEnd RX1 2 (some .int) 1)   (x1 : Int) (σ : Mem) (vc : VC_X1_wouldEnd_0 (gM G)  post  x1 σ) : RW G X 2 (QI G X post) 0 [(0, pR 26), (1, pI x1)] [] σ := by
  unfold VC_X1_wouldEnd_0 at vc
  refine w_aload_n C 0 dX1_wouldEnd_0 rfl ?_
  refine w_getR C dX1_wouldEnd_1 gf_X1_21 ob_26 rfl ?_
  refine w_iload_n C 1 dX1_wouldEnd_4 rfl ?_
  obtain ⟨⟨sc1, sc2⟩, vc⟩ := vc
  refine w_iald C dX1_wouldEnd_5 ia_30 sc1 sc2 ?_
  refine w_aload_n C 0 dX1_wouldEnd_6 rfl ?_
  refine w_getR C dX1_wouldEnd_7 gf_X1_24 ob_26 rfl ?_
  refine w_getR C dX1_wouldEnd_10 gf_X1_77 ob_1 rfl ?_
  refine w_aload_n C 0 dX1_wouldEnd_13 rfl ?_
  refine w_iload_n C 1 dX1_wouldEnd_14 rfl ?_
  obtain ⟨sc3, vc⟩ := vc
  refine w_callVI C [pI x1] [pR 7, pI (σ 30 x1)] rfl dX1_wouldEnd_15 (c_X1_nextOf C.gi (xL X) x1 σ sc3) oc_26 mw_X1_nextOf ml_X1_73 im_X1_nextOf se_X1_nextOf (by decide) (Nat.le_of_ble_eq_true rfl) (fun z σ' hz => ?_)
  obtain ⟨rfl, hz2⟩ := hz
  have hz2 := hz2.symm
  subst hz2
  obtain ⟨⟨sc4, sc5⟩, vc⟩ := vc
  refine w_iald C dX1_wouldEnd_18 ia_7 sc4 sc5 ?_
  refine w_iadd C dX1_wouldEnd_19 ?_
  exact w_ireturn C dX1_wouldEnd_20 vc
set_option maxHeartbeats 1000000 in
theorem ok_X1_wouldEnd_0 {M : Nat} {x1 : Int} {σ : Mem} (h : pre_X1_wouldEnd M x1 σ) : VC_X1_wouldEnd_0 M (fun z σ' => z = f_X1_wouldEnd x1 σ ∧ σ' = σ) x1 σ := by
  obtain ⟨a1, a2, a3, a4⟩ := h
  exact ⟨⟨a1, a2⟩, ⟨a1, a2⟩, ⟨a3, a4⟩, rfl, rfl⟩
theorem c_X1_wouldEnd {G : GG} (hG : GI G) (l : Launch) (x1 : Int) (σ : Mem) (h : pre_X1_wouldEnd (gM G) x1 σ) : CtI G l yX1_wouldEnd cX1_wouldEnd 2 (some .int) 1 [pR 26, pI x1] σ (fun z σ' => z = f_X1_wouldEnd x1 σ ∧ σ' = σ) := by
  refine CtI.of hG (by decide) (Nat.le_of_ble_eq_true rfl) (fun X hl C => ?_)
  show RW G X 2 (QI G X _) 0 [(0, pR 26), (1, pI x1)] [] σ
  exact seg_X1_wouldEnd_0 C x1 σ (ok_X1_wouldEnd_0 h)

/-! X1_readyFor -/
abbrev f_X1_readyFor (x1 x2 : Int) (σ : Mem) : Int := rdF σ x1 x2
def pre_X1_readyFor (M : Nat) (x1 x2 : Int) (σ : Mem) : Prop := WN M σ ∧ WO M σ ∧ 0 ≤ x1 ∧ x1 < M ∧ 0 ≤ x2 ∧ x2 < 8
def VC_X1_readyFor_0 (M : Nat) (post : Int → Mem → Prop) (x1 : Int) (x2 : Int) (σ : Mem) : Prop :=
 (0 ≤ x1 ∧ x1 < M) ∧ ∀ v3 : Int, v3 = σ 10 x1 → (inR v3) ∧ ((¬ v3 = 0 → (0 ≤ x1 ∧ x1 < M) ∧ (0 ≤ (v3 - 1) ∧ (v3 - 1) < 48) ∧ ∀ v10 : Int, v10 = σ (57 + x1) (v3 - 1) → (0 ≤ x1 ∧ x1 < 5) ∧ (0 ≤ v10 ∧ inR v10) ∧ (pre_X3_changeBetween M x1 (v10 / 10) x2 σ) ∧ post ((σ 29 x1) + (f_X3_changeBetween x1 (v10 / 10) x2 σ)) σ) ∧ (v3 = 0 → post 0 σ))
set_option maxRecDepth 20000 in
set_option maxHeartbeats 4000000 in
theorem seg_X1_readyFor_0 {G : GG} {X : XX} {post : Int → Mem → Prop} (C : CX G X cX1_readyFor RX1 5 (some .int) 1)   (x1 : Int) (x2 : Int) (σ : Mem) (vc : VC_X1_readyFor_0 (gM G)  post  x1 x2 σ) : RW G X 5 (QI G X post) 0 [(0, pR 26), (1, pI x1), (2, pI x2)] [] σ := by
  unfold VC_X1_readyFor_0 at vc
  refine w_aload_n C 0 dX1_readyFor_0 rfl ?_
  refine w_getR C dX1_readyFor_1 gf_X1_24 ob_26 rfl ?_
  refine w_getR C dX1_readyFor_4 gf_X1_98 ob_1 rfl ?_
  refine w_iload_n C 1 dX1_readyFor_7 rfl ?_
  obtain ⟨⟨sc1, sc2⟩, vc⟩ := vc
  refine w_iald C dX1_readyFor_8 (ia_10 C.gi) sc1 sc2 ?_
  refine w_top (fun v3 hv3 => ?_)
  have vc := vc v3 hv3
  refine w_istore_n C [(3, pI v3), (0, pR 26), (1, pI x1), (2, pI x2)] dX1_readyFor_9 (by decide) rfl ?_
  refine w_iload_n C 0 dX1_readyFor_10 rfl ?_
  obtain ⟨sc4, vc⟩ := vc
  refine w_if_ne C 16 dX1_readyFor_11 (by decide) sc4 (fun h5 => ?_) (fun h5 => ?_)
  · have vc := vc.1 h5
    refine w_aload_n C 1 dX1_readyFor_16 rfl ?_
    refine w_getR C dX1_readyFor_17 gf_X1_24 ob_26 rfl ?_
    refine w_getR C dX1_readyFor_20 gf_X1_101 ob_1 rfl ?_
    refine w_iload_n C 2 dX1_readyFor_23 rfl ?_
    obtain ⟨⟨sc6, sc7⟩, vc⟩ := vc
    refine w_aald C dX1_readyFor_24 (ra_9 C.gi) sc6 sc7 ?_
    refine w_iload_n C 0 dX1_readyFor_25 rfl ?_
    refine w_iconst C dX1_readyFor_26 ?_
    refine w_isub C dX1_readyFor_27 ?_
    obtain ⟨⟨sc8, sc9⟩, vc⟩ := vc
    refine w_iald C dX1_readyFor_28 (ia_row sc6 sc7) sc8 sc9 ?_
    refine w_top (fun v10 hv10 => ?_)
    have vc := vc v10 hv10
    refine w_istore C [(4, pI v10), (3, pI v3), (0, pR 26), (1, pI x1), (2, pI x2)] dX1_readyFor_29 (by decide) rfl ?_
    refine w_aload_n C 2 dX1_readyFor_31 rfl ?_
    refine w_getR C dX1_readyFor_32 gf_X1_18 ob_26 rfl ?_
    refine w_iload_n C 3 dX1_readyFor_35 rfl ?_
    obtain ⟨⟨sc11, sc12⟩, vc⟩ := vc
    refine w_iald C dX1_readyFor_36 ia_29 sc11 sc12 ?_
    refine w_aload_n C 2 dX1_readyFor_37 rfl ?_
    refine w_getR C dX1_readyFor_38 gf_X1_24 ob_26 rfl ?_
    refine w_iload_n C 3 dX1_readyFor_41 rfl ?_
    refine w_iload C 0 dX1_readyFor_42 rfl ?_
    refine w_bipush C dX1_readyFor_44 (by decide) ?_
    obtain ⟨⟨sc13, sc14⟩, vc⟩ := vc
    refine w_idivN C dX1_readyFor_46 sc13 sc14 ⟨by omega, by omega⟩ (by omega) ?_
    refine w_iload_n C 4 dX1_readyFor_47 rfl ?_
    obtain ⟨sc15, vc⟩ := vc
    refine w_callVI C [pI x1, pI (v10 / 10), pI x2] [pI (σ 29 x1)] rfl dX1_readyFor_48 (c_X3_changeBetween C.gi (xL X) x1 (v10 / 10) x2 σ sc15) oc_1 mw_X3_changeBetween ml_X1_105 im_X3_changeBetween se_X3_changeBetween (by decide) (Nat.le_of_ble_eq_true rfl) (fun z σ' hz => ?_)
    obtain ⟨rfl, hz2⟩ := hz
    have hz2 := hz2.symm
    subst hz2
    refine w_iadd C dX1_readyFor_51 ?_
    exact w_ireturn C dX1_readyFor_52 vc
  · have vc := vc.2 h5
    refine w_iconst C dX1_readyFor_14 ?_
    exact w_ireturn C dX1_readyFor_15 vc
set_option maxHeartbeats 1000000 in
theorem ok_X1_readyFor_0 {M : Nat} {x1 : Int} {x2 : Int} {σ : Mem} (h : pre_X1_readyFor M x1 x2 σ) : VC_X1_readyFor_0 M (fun z σ' => z = f_X1_readyFor x1 x2 σ ∧ σ' = σ) x1 x2 σ := by
  obtain ⟨hN, hO, a1, a2, a3, a4⟩ := h
  have hz := hN.1.2.2.2.2.2 x1 a1 a2
  have hM : M ≤ 5 := hN.1.2.2.1
  refine ⟨⟨a1, a2⟩, fun v e => ?_⟩
  subst e
  refine ⟨⟨by omega, by omega⟩, fun g => ⟨⟨a1, a2⟩, ⟨by omega, by omega⟩, fun v e => ?_⟩, fun g => ⟨?_, rfl⟩⟩
  · subst e
    have hv := VS_in hN.1 (hO.1 x1 (σ 10 x1 - 1) a1 a2 (by omega) (by omega)).1
    refine ⟨⟨a1, by omega⟩, ⟨hv.1, by omega, by omega⟩, ⟨a1, a2, by omega, by omega, a3, a4⟩, ?_, rfl⟩
    show _ = rdF σ x1 x2
    unfold rdF
    rw [if_neg g]
    rfl
  · show _ = rdF σ x1 x2
    unfold rdF
    rw [if_pos g]
theorem c_X1_readyFor {G : GG} (hG : GI G) (l : Launch) (x1 : Int) (x2 : Int) (σ : Mem) (h : pre_X1_readyFor (gM G) x1 x2 σ) : CtI G l yX1_readyFor cX1_readyFor 5 (some .int) 1 [pR 26, pI x1, pI x2] σ (fun z σ' => z = f_X1_readyFor x1 x2 σ ∧ σ' = σ) := by
  refine CtI.of hG (by decide) (Nat.le_of_ble_eq_true rfl) (fun X hl C => ?_)
  show RW G X 5 (QI G X _) 0 [(0, pR 26), (1, pI x1), (2, pI x2)] [] σ
  exact seg_X1_readyFor_0 C x1 x2 σ (ok_X1_readyFor_0 h)

/-! X1_measure -/
def f_X1_measure (x1 x2 : Int) (σ : Mem) : Int := if x1 = 0 then σ 7 (nxt σ x2) else if x1 = 1 then σ 3 x2 else if x1 = 2 then -(sumI (fun p => σ 7 (10 * x2 + p)) (σ 27 x2) (σ 5 x2)) else σ 30 x2
def pre_X1_measure (M : Nat) (x1 x2 : Int) (σ : Mem) : Prop := inR x1 ∧ 0 ≤ x2 ∧ x2 < 8 ∧ 0 ≤ σ 27 x2 ∧ σ 27 x2 ≤ 6 ∧ 0 ≤ σ 5 x2 ∧ σ 5 x2 ≤ 6
def VC_X1_measure_0 (M : Nat) (post : Int → Mem → Prop) (x1 : Int) (x2 : Int) (σ : Mem) : Prop :=
 (inR x1) ∧ ((x1 = 0 → (pre_X1_nextOf M x2 σ) ∧ (0 ≤ (f_X1_nextOf x2 σ) ∧ (f_X1_nextOf x2 σ) < 80) ∧ post (σ 7 (f_X1_nextOf x2 σ)) σ) ∧ (x1 = 1 → (0 ≤ x2 ∧ x2 < 8) ∧ post (σ 3 x2) σ) ∧ (x1 = 2 → (0 ≤ x2 ∧ x2 < 8) ∧ (0 ≤ x2 ∧ x2 < 8) ∧ (pre_X3_timeOf M x2 (σ 27 x2) (σ 5 x2) σ) ∧ post (-(f_X3_timeOf x2 (σ 27 x2) (σ 5 x2) σ)) σ) ∧ ((x1 < 0 ∨ 2 < x1) → (0 ≤ x2 ∧ x2 < 8) ∧ post (σ 30 x2) σ))
set_option maxRecDepth 20000 in
set_option maxHeartbeats 4000000 in
theorem seg_X1_measure_0 {G : GG} {X : XX} {post : Int → Mem → Prop} (C : CX G X cX1_measure RX1 3 (some .int) 1)   (x1 : Int) (x2 : Int) (σ : Mem) (vc : VC_X1_measure_0 (gM G)  post  x1 x2 σ) : RW G X 3 (QI G X post) 0 [(0, pR 26), (1, pI x1), (2, pI x2)] [] σ := by
  unfold VC_X1_measure_0 at vc
  refine w_iload_n C 1 dX1_measure_0 rfl ?_
  obtain ⟨sc1, vc⟩ := vc
  rcases (by omega : x1 = 0 ∨ x1 = 1 ∨ x1 = 2 ∨ (x1 < 0 ∨ 2 < x1)) with h2 | h2 | h2 | h2
  · have vc := vc.1 h2
    refine w_tabIn C 28 dX1_measure_1 sc1 (by omega) (by omega) (by rw [h2]; rfl) (by decide) ?_
    refine w_aload_n C 0 dX1_measure_28 rfl ?_
    refine w_getR C dX1_measure_29 gf_X1_24 ob_26 rfl ?_
    refine w_getR C dX1_measure_32 gf_X1_77 ob_1 rfl ?_
    refine w_aload_n C 0 dX1_measure_35 rfl ?_
    refine w_iload_n C 2 dX1_measure_36 rfl ?_
    obtain ⟨sc3, vc⟩ := vc
    refine w_callVI C [pI x2] [pR 7] rfl dX1_measure_37 (c_X1_nextOf C.gi (xL X) x2 σ sc3) oc_26 mw_X1_nextOf ml_X1_73 im_X1_nextOf se_X1_nextOf (by decide) (Nat.le_of_ble_eq_true rfl) (fun z σ' hz => ?_)
    obtain ⟨rfl, hz2⟩ := hz
    have hz2 := hz2.symm
    subst hz2
    obtain ⟨⟨sc4, sc5⟩, vc⟩ := vc
    refine w_iald C dX1_measure_40 ia_7 sc4 sc5 ?_
    exact w_ireturn C dX1_measure_41 vc
  · have vc := vc.2.1 h2
    refine w_tabIn C 42 dX1_measure_1 sc1 (by omega) (by omega) (by rw [h2]; rfl) (by decide) ?_
    refine w_aload_n C 0 dX1_measure_42 rfl ?_
    refine w_getR C dX1_measure_43 gf_X1_24 ob_26 rfl ?_
    refine w_getR C dX1_measure_46 gf_X1_116 ob_1 rfl ?_
    refine w_iload_n C 2 dX1_measure_49 rfl ?_
    obtain ⟨⟨sc6, sc7⟩, vc⟩ := vc
    refine w_iald C dX1_measure_50 ia_3 sc6 sc7 ?_
    exact w_ireturn C dX1_measure_51 vc
  · have vc := vc.2.2.1 h2
    refine w_tabIn C 52 dX1_measure_1 sc1 (by omega) (by omega) (by rw [h2]; rfl) (by decide) ?_
    refine w_aload_n C 0 dX1_measure_52 rfl ?_
    refine w_getR C dX1_measure_53 gf_X1_24 ob_26 rfl ?_
    refine w_iload_n C 2 dX1_measure_56 rfl ?_
    refine w_aload_n C 0 dX1_measure_57 rfl ?_
    refine w_getR C dX1_measure_58 gf_X1_9 ob_26 rfl ?_
    refine w_iload_n C 2 dX1_measure_61 rfl ?_
    obtain ⟨⟨sc8, sc9⟩, vc⟩ := vc
    refine w_iald C dX1_measure_62 ia_27 sc8 sc9 ?_
    refine w_aload_n C 0 dX1_measure_63 rfl ?_
    refine w_getR C dX1_measure_64 gf_X1_24 ob_26 rfl ?_
    refine w_getR C dX1_measure_67 gf_X1_67 ob_1 rfl ?_
    refine w_iload_n C 2 dX1_measure_70 rfl ?_
    obtain ⟨⟨sc10, sc11⟩, vc⟩ := vc
    refine w_iald C dX1_measure_71 ia_5 sc10 sc11 ?_
    obtain ⟨sc12, vc⟩ := vc
    refine w_callVI C [pI x2, pI (σ 27 x2), pI (σ 5 x2)] [] rfl dX1_measure_72 (c_X3_timeOf C.gi (xL X) x2 (σ 27 x2) (σ 5 x2) σ sc12) oc_1 mw_X3_timeOf ml_X1_119 im_X3_timeOf se_X3_timeOf (by decide) (Nat.le_of_ble_eq_true rfl) (fun z σ' hz => ?_)
    obtain ⟨rfl, hz2⟩ := hz
    have hz2 := hz2.symm
    subst hz2
    refine w_ineg C dX1_measure_75 ?_
    exact w_ireturn C dX1_measure_76 vc
  · have vc := vc.2.2.2 h2
    refine w_tabOut C 77 dX1_measure_1 sc1 h2 (by decide) ?_
    refine w_aload_n C 0 dX1_measure_77 rfl ?_
    refine w_getR C dX1_measure_78 gf_X1_21 ob_26 rfl ?_
    refine w_iload_n C 2 dX1_measure_81 rfl ?_
    obtain ⟨⟨sc13, sc14⟩, vc⟩ := vc
    refine w_iald C dX1_measure_82 ia_30 sc13 sc14 ?_
    exact w_ireturn C dX1_measure_83 vc
set_option maxHeartbeats 1000000 in
theorem ok_X1_measure_0 {M : Nat} {x1 : Int} {x2 : Int} {σ : Mem} (h : pre_X1_measure M x1 x2 σ) : VC_X1_measure_0 M (fun z σ' => z = f_X1_measure x1 x2 σ ∧ σ' = σ) x1 x2 σ := by
  obtain ⟨a0, a1, a2, a3, a4, a5, a6⟩ := h
  have hn : 0 ≤ nxt σ x2 ∧ nxt σ x2 < 80 := by unfold nxt; omega
  refine ⟨a0, fun g => ⟨⟨a1, a2⟩, hn, ?_, rfl⟩, fun g => ⟨⟨a1, a2⟩, ?_, rfl⟩, fun g => ⟨⟨a1, a2⟩, ⟨a1, a2⟩, ⟨a1, a2, by omega, by omega, by omega, by omega⟩, ?_, rfl⟩, fun g => ⟨⟨a1, a2⟩, ?_, rfl⟩⟩
  · unfold f_X1_measure; rw [if_pos g]
  · unfold f_X1_measure; rw [if_neg (by omega), if_pos g]
  · unfold f_X1_measure; rw [if_neg (by omega), if_neg (by omega), if_pos g]; rfl
  · unfold f_X1_measure; rw [if_neg (by omega), if_neg (by omega), if_neg (by omega)]
theorem c_X1_measure {G : GG} (hG : GI G) (l : Launch) (x1 : Int) (x2 : Int) (σ : Mem) (h : pre_X1_measure (gM G) x1 x2 σ) : CtI G l yX1_measure cX1_measure 3 (some .int) 1 [pR 26, pI x1, pI x2] σ (fun z σ' => z = f_X1_measure x1 x2 σ ∧ σ' = σ) := by
  refine CtI.of hG (by decide) (Nat.le_of_ble_eq_true rfl) (fun X hl C => ?_)
  show RW G X 3 (QI G X _) 0 [(0, pR 26), (1, pI x1), (2, pI x2)] [] σ
  exact seg_X1_measure_0 C x1 x2 σ (ok_X1_measure_0 h)

/-! X1_lookAhead -/
def laM (σ : Mem) (w : Int) : Mem := fun c i => if c = 30 ∧ 0 ≤ i ∧ i < w ∧ σ 27 i < σ 5 i then bgF σ i else σ c i
theorem laM_c (σ : Mem) (w : Int) : C30 σ (laM σ w) := fun c hc => by funext i; unfold laM; rw [if_neg (fun z => hc z.1)]
def pre_X1_lookAhead (M : Nat) (σ : Mem) : Prop := ∃ n, FI M σ n
def post_X1_lookAhead (M : Nat) (σ σ' : Mem) : Prop := C30 σ σ' ∧ ∀ j, hN σ j → σ' 30 j = bgF σ j
def inv_X1_lookAhead_2 (M : Nat) (σ : Mem) (w1 : Int) (τ : Mem) : Prop := 0 ≤ w1 ∧ w1 ≤ σ 1 1 ∧ τ = laM σ w1
def mu_X1_lookAhead_2 (w1 : Int) (τ : Mem) : Nat := (8 - w1).toNat
def VC_X1_lookAhead_0 (M : Nat) (K2 : Int → Mem → Prop) (post : Mem → Prop)  (σ : Mem) : Prop :=
  K2 0 σ
set_option maxRecDepth 20000 in
set_option maxHeartbeats 4000000 in
theorem seg_X1_lookAhead_0 {G : GG} {X : XX} {post : Mem → Prop} (C : CX G X cX1_lookAhead RX1 2 none 2)    (σ : Mem) (vc : VC_X1_lookAhead_0 (gM G) (fun w1 σ => RW G X 2 (QV G X post) 2 [(0, pR 26), (1, pI w1)] [] σ) post   σ) : RW G X 2 (QV G X post) 0 [(0, pR 26)] [] σ := by
  unfold VC_X1_lookAhead_0 at vc
  refine w_iconst C dX1_lookAhead_0 ?_
  refine w_istore_n C [(1, pI 0), (0, pR 26)] dX1_lookAhead_1 (by decide) rfl ?_
  exact w_sub _ [1, 0] rfl vc
def VC_X1_lookAhead_2 (M : Nat) (K2 : Int → Mem → Prop) (post : Mem → Prop) (w1 : Int) (σ : Mem) : Prop :=
 (inR w1 ∧ inR (σ 1 1)) ∧ (((σ 1 1) ≤ w1 → post σ) ∧ (w1 < (σ 1 1) → (pre_X1_hasNext M w1 σ) ∧ ((P_X1_hasNext w1 σ → (0 ≤ w1 ∧ w1 < 8) ∧ (pre_X1_machineOfNext M w1 σ) ∧ (pre_X1_readyFor M (f_X1_machineOfNext w1 σ) w1 σ) ∧ (inR (σ 28 w1) ∧ inR (f_X1_readyFor (f_X1_machineOfNext w1 σ) w1 σ)) ∧ (0 ≤ w1 ∧ w1 < 8) ∧ ∀ s14 : Mem, s14 = up σ 30 w1 (max (σ 28 w1) (f_X1_readyFor (f_X1_machineOfNext w1 σ) w1 σ)) → K2 (w1 + 1) s14) ∧ (¬ P_X1_hasNext w1 σ → K2 (w1 + 1) σ))))
set_option maxRecDepth 20000 in
set_option maxHeartbeats 4000000 in
theorem seg_X1_lookAhead_2 {G : GG} {X : XX} {post : Mem → Prop} (C : CX G X cX1_lookAhead RX1 2 none 2)   (w1 : Int) (σ : Mem) (vc : VC_X1_lookAhead_2 (gM G) (fun w1 σ => RW G X 2 (QV G X post) 2 [(0, pR 26), (1, pI w1)] [] σ) post  w1 σ) : RW G X 2 (QV G X post) 2 [(0, pR 26), (1, pI w1)] [] σ := by
  unfold VC_X1_lookAhead_2 at vc
  refine w_iload_n C 1 dX1_lookAhead_2 rfl ?_
  refine w_aload_n C 0 dX1_lookAhead_3 rfl ?_
  refine w_getR C dX1_lookAhead_4 gf_X1_24 ob_26 rfl ?_
  refine w_getI C 1 dX1_lookAhead_7 gf_X1_80 ob_1 rfl rfl ?_
  obtain ⟨⟨sc1, sc2⟩, vc⟩ := vc
  refine w_icmp_ge C 52 dX1_lookAhead_10 (by decide) sc1 sc2 (fun h3 => ?_) (fun h3 => ?_)
  · have vc := vc.1 h3
    exact w_vreturn C dX1_lookAhead_52 vc
  · have vc := vc.2 h3
    refine w_aload_n C 0 dX1_lookAhead_13 rfl ?_
    refine w_iload_n C 1 dX1_lookAhead_14 rfl ?_
    obtain ⟨sc4, vc⟩ := vc
    refine w_callVI C [pI w1] [] rfl dX1_lookAhead_15 (c_X1_hasNext C.gi (xL X) w1 σ sc4) oc_26 mw_X1_hasNext ml_X1_83 im_X1_hasNext se_X1_hasNext (by decide) (Nat.le_of_ble_eq_true rfl) (fun z σ' hz => ?_)
    obtain ⟨hz2, hz⟩ := hz
    have hz2 := hz2.symm
    subst hz2
    rcases hz with ⟨h5, rfl⟩ | ⟨h5, rfl⟩
    · have vc := vc.1 h5
      refine w_if_eq C 46 dX1_lookAhead_18 (by decide) ⟨by omega, by omega⟩ (fun q => absurd q (by decide)) (fun _ => ?_)
      refine w_aload_n C 0 dX1_lookAhead_21 rfl ?_
      refine w_getR C dX1_lookAhead_22 gf_X1_21 ob_26 rfl ?_
      refine w_iload_n C 1 dX1_lookAhead_25 rfl ?_
      refine w_aload_n C 0 dX1_lookAhead_26 rfl ?_
      refine w_getR C dX1_lookAhead_27 gf_X1_15 ob_26 rfl ?_
      refine w_iload_n C 1 dX1_lookAhead_30 rfl ?_
      obtain ⟨⟨sc6, sc7⟩, vc⟩ := vc
      refine w_iald C dX1_lookAhead_31 ia_28 sc6 sc7 ?_
      refine w_aload_n C 0 dX1_lookAhead_32 rfl ?_
      refine w_aload_n C 0 dX1_lookAhead_33 rfl ?_
      refine w_iload_n C 1 dX1_lookAhead_34 rfl ?_
      obtain ⟨sc8, vc⟩ := vc
      refine w_callVI C [pI w1] [pR 26, pI (σ 28 w1), pI w1, pR 30] rfl dX1_lookAhead_35 (c_X1_machineOfNext C.gi (xL X) w1 σ sc8) oc_26 mw_X1_machineOfNext ml_X1_87 im_X1_machineOfNext se_X1_machineOfNext (by decide) (Nat.le_of_ble_eq_true rfl) (fun z σ' hz => ?_)
      obtain ⟨rfl, hz2⟩ := hz
      have hz2 := hz2.symm
      subst hz2
      refine w_iload_n C 1 dX1_lookAhead_38 rfl ?_
      obtain ⟨sc9, vc⟩ := vc
      refine w_callVI C [pI (f_X1_machineOfNext w1 σ), pI w1] [pI (σ 28 w1), pI w1, pR 30] rfl dX1_lookAhead_39 (c_X1_readyFor C.gi (xL X) (f_X1_machineOfNext w1 σ) w1 σ sc9) oc_26 mw_X1_readyFor ml_X1_90 im_X1_readyFor se_X1_readyFor (by decide) (Nat.le_of_ble_eq_true rfl) (fun z σ' hz => ?_)
      obtain ⟨rfl, hz2⟩ := hz
      have hz2 := hz2.symm
      subst hz2
      obtain ⟨⟨sc10, sc11⟩, vc⟩ := vc
      refine w_max C dX1_lookAhead_42 ml_X1_93 mt_max sc10 sc11 (Nat.le_of_ble_eq_true rfl) ?_
      obtain ⟨⟨sc12, sc13⟩, vc⟩ := vc
      refine w_iast C dX1_lookAhead_45 ia_30 sc12 sc13 ?_
      refine w_mem (fun s14 hs14 => ?_)
      have vc := vc s14 hs14
      refine w_iinc C 1 [(1, pI (w1 + 1)), (0, pR 26)] dX1_lookAhead_46 rfl (by decide) rfl ?_
      refine w_goto C 2 dX1_lookAhead_49 (by decide) ?_
      exact w_sub _ [1, 0] rfl vc
    · have vc := vc.2 h5
      refine w_if_eq C 46 dX1_lookAhead_18 (by decide) ⟨by omega, by omega⟩ (fun _ => ?_) (fun q => absurd q (by decide))
      refine w_iinc C 1 [(1, pI (w1 + 1)), (0, pR 26)] dX1_lookAhead_46 rfl (by decide) rfl ?_
      refine w_goto C 2 dX1_lookAhead_49 (by decide) ?_
      exact w_sub _ [1, 0] rfl vc
set_option maxHeartbeats 1000000 in
theorem ok_X1_lookAhead_0 {M : Nat} {σ : Mem} {K2 : Int → Mem → Prop} (h : pre_X1_lookAhead M σ) (hK2 : ∀ (y1 : Int) (τ' : Mem), inv_X1_lookAhead_2 M σ y1 τ' → K2 y1 τ') : VC_X1_lookAhead_0 M K2 (post_X1_lookAhead M σ) σ := by
  obtain ⟨n, h⟩ := h
  have := h.1.1.1.2.2.2.1
  refine hK2 _ _ ⟨by omega, by omega, ?_⟩
  funext c i
  unfold laM
  rw [if_neg (by omega)]
set_option maxHeartbeats 1000000 in
theorem ok_X1_lookAhead_2 {M : Nat} {σ : Mem} {w1 : Int} {τ : Mem} {K2 : Int → Mem → Prop} (h : pre_X1_lookAhead M σ) (hinv : inv_X1_lookAhead_2 M σ w1 τ) (hK2 : ∀ (y1 : Int) (τ' : Mem), inv_X1_lookAhead_2 M σ y1 τ' → mu_X1_lookAhead_2 y1 τ' < mu_X1_lookAhead_2 w1 τ → K2 y1 τ') : VC_X1_lookAhead_2 M K2 (post_X1_lookAhead M σ) w1 τ := by
  obtain ⟨n, h⟩ := h
  obtain ⟨i1, i2, rfl⟩ := hinv
  have hj := h.1.1.1.2.2.2.1
  have hc := laM_c σ w1
  have hF := FI_c hc h
  have hn := FI_n h
  have e1 : laM σ w1 1 1 = σ 1 1 := by rw [hc 1 (by omega)]
  refine ⟨⟨⟨by omega, by omega⟩, ⟨by omega, by omega⟩⟩, fun g => ⟨hc, fun j q => ?_⟩, fun g => ⟨FI_hasNext hF i1 (by omega), fun g2 => ?_, fun g2 => hK2 _ _ ⟨by omega, by omega, ?_⟩ ?_⟩⟩
  · unfold laM
    rw [if_pos ⟨rfl, q.1, by have := q.2.1; omega, q.2.2⟩]
  · have g2' : σ 27 w1 < σ 5 w1 := by
      have : laM σ w1 27 w1 < laM σ w1 5 w1 := g2
      rw [hc 27 (by omega), hc 5 (by omega)] at this
      exact this
    have q : hN σ w1 := ⟨i1, by omega, g2'⟩
    have qi := hN_in h q
    have qb := bgF_in h q
    have vb := VS_in h.1.1.1 qi.2.2.1
    have ev : max (laM σ w1 28 w1) (rdF (laM σ w1) (laM σ w1 6 (nxt (laM σ w1) w1)) w1) = bgF σ w1 := bgF_c hc qi.2.2.2.2.2.2.2.2.1.1
    have a28 := hF.2.2.2.1 w1 i1 qi.2.1
    have em : laM σ w1 6 (nxt (laM σ w1) w1) = σ 6 (nxt σ w1) := by rw [nxt_c hc, hc 6 (by omega)]
    refine ⟨⟨i1, by omega⟩, ⟨i1, by omega, by rw [nxt_c hc]; exact vb.1, by rw [nxt_c hc]; exact vb.2.1⟩, ⟨hF.1.1, hF.1.2.1, (show 0 ≤ laM σ w1 6 (nxt (laM σ w1) w1) from by rw [em]; exact qi.2.2.2.2.2.2.2.2.1.1), (show laM σ w1 6 (nxt (laM σ w1) w1) < M from by rw [em]; exact qi.2.2.2.2.2.2.2.2.1.2), i1, by omega⟩, ⟨⟨by omega, by omega⟩, ?_⟩, ⟨i1, by omega⟩, fun s14 e14 => hK2 _ _ ⟨by omega, by omega, ?_⟩ ?_⟩
    · show inR (rdF (laM σ w1) (laM σ w1 6 (nxt (laM σ w1) w1)) w1)
      have r0 : 0 ≤ rdF (laM σ w1) (laM σ w1 6 (nxt (laM σ w1) w1)) w1 := by
        have hm := qi.2.2.2.2.2.2.2.2.1
        have hM : M ≤ 5 := h.1.1.1.2.2.1
        rw [em]
        unfold rdF
        split
        · omega
        · have b := hF.2.2.2.2.1 (σ 6 (nxt σ w1)) hm.1 (by omega)
          have hz := hF.1.1.1.2.2.2.2.2 _ hm.1 hm.2
          have hv := VS_in hF.1.1.1 (hF.1.2.1.1 (σ 6 (nxt σ w1)) (laM σ w1 10 (σ 6 (nxt σ w1)) - 1) hm.1 hm.2 (by omega) (by omega)).1
          have c := hF.1.1.2.2.2.2.1 ((σ 6 (nxt σ w1) * 8 + laM σ w1 (57 + σ 6 (nxt σ w1)) (laM σ w1 10 (σ 6 (nxt σ w1)) - 1) / 10) * 8 + w1) (by omega) (by omega)
          omega
      exact ⟨by omega, by omega⟩
    · rw [e14]
      funext c i
      have : up (laM σ w1) 30 w1 (max (laM σ w1 28 w1) (rdF (laM σ w1) (laM σ w1 6 (nxt (laM σ w1) w1)) w1)) c i = up (laM σ w1) 30 w1 (bgF σ w1) c i := by rw [ev]
      refine this.trans ?_
      unfold up laM
      grind
    · unfold mu_X1_lookAhead_2; omega
  · funext c i
    have g2' : ¬ σ 27 w1 < σ 5 w1 := by
      have : ¬ laM σ w1 27 w1 < laM σ w1 5 w1 := g2
      rw [hc 27 (by omega), hc 5 (by omega)] at this
      exact this
    unfold laM
    grind
  · unfold mu_X1_lookAhead_2; omega
theorem c_X1_lookAhead {G : GG} (hG : GI G) (l : Launch) (σ : Mem) (h : pre_X1_lookAhead (gM G) σ) : CtV G l yX1_lookAhead cX1_lookAhead 2 none 2 [pR 26] σ (post_X1_lookAhead (gM G) σ) := by
  refine CtV.of hG (by decide) (Nat.le_of_ble_eq_true rfl) (fun X hl C => ?_)
  show RW G X 2 (QV G X _) 0 [(0, pR 26)] [] σ
  have key : ∀ n : Nat, (∀ (w1 : Int) (τ : Mem), inv_X1_lookAhead_2 (gM G) σ w1 τ → mu_X1_lookAhead_2 w1 τ < n → RW G X 2 (QV G X (post_X1_lookAhead (gM G) σ)) 2 [(0, pR 26), (1, pI w1)] [] τ) := by
    intro n
    induction n with
    | zero => exact fun w1 τ _ h0 => absurd h0 (Nat.not_lt_zero _)
    | succ n ih =>
      exact (fun w1 τ hinv h0 => seg_X1_lookAhead_2 C w1 τ (ok_X1_lookAhead_2 h hinv (fun y1 τ' hi hm => ih y1 τ' hi (Nat.lt_of_lt_of_le hm (Nat.le_of_lt_succ h0)))))
  exact seg_X1_lookAhead_0 C σ (ok_X1_lookAhead_0 h (fun y1 τ' hi => (key _) y1 τ' hi (Nat.lt_succ_self _)))

/-! X1_firstToEnd -/
def pre_X1_firstToEnd (M : Nat) (σ : Mem) : Prop := ∃ n, FI M σ n ∧ (∃ j, hN σ j) ∧ ∀ j, hN σ j → 0 ≤ σ 30 j ∧ σ 30 j ≤ 20000
def post_X1_firstToEnd (M : Nat) (σ : Mem) (z : Int) (σ' : Mem) : Prop := σ' = σ ∧ hN σ z ∧ ∀ i, hN σ i → f_X1_wouldEnd z σ < f_X1_wouldEnd i σ ∨ (f_X1_wouldEnd z σ = f_X1_wouldEnd i σ ∧ z ≤ i)
def inv_X1_firstToEnd_7 (M : Nat) (σ : Mem) (w1 w2 w3 : Int) (τ : Mem) : Prop := τ = σ ∧ 0 ≤ w3 ∧ w3 ≤ σ 1 1 ∧ ((w2 = 1000000 ∧ ∀ i, i < w3 → ¬ hN σ i) ∨ (hN σ w1 ∧ w1 < w3 ∧ w2 = f_X1_wouldEnd w1 σ ∧ ∀ i, i < w3 → hN σ i → f_X1_wouldEnd w1 σ < f_X1_wouldEnd i σ ∨ (f_X1_wouldEnd w1 σ = f_X1_wouldEnd i σ ∧ w1 ≤ i)))
def mu_X1_firstToEnd_7 (w1 w2 w3 : Int) (τ : Mem) : Nat := (8 - w3).toNat
theorem wE_in {M : Nat} {σ : Mem} {n : Int} (h : FI M σ n) (hb : ∀ j, hN σ j → 0 ≤ σ 30 j ∧ σ 30 j ≤ 20000) {j : Int} (q : hN σ j) : 0 ≤ f_X1_wouldEnd j σ ∧ f_X1_wouldEnd j σ ≤ 20050 ∧ pre_X1_wouldEnd M j σ := by
  have qi := hN_in h q
  have vb := VS_in h.1.1.1 qi.2.2.1
  have := hb j q
  unfold f_X1_wouldEnd
  exact ⟨by omega, by omega, qi.1, qi.2.1, vb.1, vb.2.1⟩
def VC_X1_firstToEnd_0 (M : Nat) (K7 : Int → Int → Int → Mem → Prop) (post : Int → Mem → Prop)  (σ : Mem) : Prop :=
  K7 0 1000000 0 σ
set_option maxRecDepth 20000 in
set_option maxHeartbeats 4000000 in
theorem seg_X1_firstToEnd_0 {G : GG} {X : XX} {post : Int → Mem → Prop} (C : CX G X cX1_firstToEnd RX1 4 (some .int) 2)    (σ : Mem) (vc : VC_X1_firstToEnd_0 (gM G) (fun w1 w2 w3 σ => RW G X 4 (QI G X post) 7 [(0, pR 26), (1, pI w1), (2, pI w2), (3, pI w3)] [] σ) post   σ) : RW G X 4 (QI G X post) 0 [(0, pR 26)] [] σ := by
  unfold VC_X1_firstToEnd_0 at vc
  refine w_iconst C dX1_firstToEnd_0 ?_
  refine w_istore_n C [(1, pI 0), (0, pR 26)] dX1_firstToEnd_1 (by decide) rfl ?_
  refine w_ldc (n := 1000000) C dX1_firstToEnd_2 cs_X1_109 ?_
  refine w_istore_n C [(2, pI 1000000), (1, pI 0), (0, pR 26)] dX1_firstToEnd_4 (by decide) rfl ?_
  refine w_iconst C dX1_firstToEnd_5 ?_
  refine w_istore_n C [(3, pI 0), (2, pI 1000000), (1, pI 0), (0, pR 26)] dX1_firstToEnd_6 (by decide) rfl ?_
  exact w_sub _ [3, 2, 1, 0] rfl vc
def VC_X1_firstToEnd_7 (M : Nat) (K7 : Int → Int → Int → Mem → Prop) (post : Int → Mem → Prop) (w1 : Int) (w2 : Int) (w3 : Int) (σ : Mem) : Prop :=
 (inR w3 ∧ inR (σ 1 1)) ∧ (((σ 1 1) ≤ w3 → post w1 σ) ∧ (w3 < (σ 1 1) → (pre_X1_hasNext M w3 σ) ∧ ((P_X1_hasNext w3 σ → (pre_X1_wouldEnd M w3 σ) ∧ (inR (f_X1_wouldEnd w3 σ) ∧ inR w2) ∧ ((w2 ≤ (f_X1_wouldEnd w3 σ) → K7 w1 w2 (w3 + 1) σ) ∧ ((f_X1_wouldEnd w3 σ) < w2 → (pre_X1_wouldEnd M w3 σ) ∧ ∀ v11 : Int, v11 = f_X1_wouldEnd w3 σ → K7 w3 v11 (w3 + 1) σ))) ∧ (¬ P_X1_hasNext w3 σ → K7 w1 w2 (w3 + 1) σ))))
set_option maxRecDepth 20000 in
set_option maxHeartbeats 4000000 in
theorem seg_X1_firstToEnd_7 {G : GG} {X : XX} {post : Int → Mem → Prop} (C : CX G X cX1_firstToEnd RX1 4 (some .int) 2)   (w1 : Int) (w2 : Int) (w3 : Int) (σ : Mem) (vc : VC_X1_firstToEnd_7 (gM G) (fun w1 w2 w3 σ => RW G X 4 (QI G X post) 7 [(0, pR 26), (1, pI w1), (2, pI w2), (3, pI w3)] [] σ) post  w1 w2 w3 σ) : RW G X 4 (QI G X post) 7 [(0, pR 26), (1, pI w1), (2, pI w2), (3, pI w3)] [] σ := by
  unfold VC_X1_firstToEnd_7 at vc
  refine w_iload_n C 3 dX1_firstToEnd_7 rfl ?_
  refine w_aload_n C 0 dX1_firstToEnd_8 rfl ?_
  refine w_getR C dX1_firstToEnd_9 gf_X1_24 ob_26 rfl ?_
  refine w_getI C 1 dX1_firstToEnd_12 gf_X1_80 ob_1 rfl rfl ?_
  obtain ⟨⟨sc1, sc2⟩, vc⟩ := vc
  refine w_icmp_ge C 49 dX1_firstToEnd_15 (by decide) sc1 sc2 (fun h3 => ?_) (fun h3 => ?_)
  · have vc := vc.1 h3
    refine w_iload_n C 1 dX1_firstToEnd_49 rfl ?_
    exact w_ireturn C dX1_firstToEnd_50 vc
  · have vc := vc.2 h3
    refine w_aload_n C 0 dX1_firstToEnd_18 rfl ?_
    refine w_iload_n C 3 dX1_firstToEnd_19 rfl ?_
    obtain ⟨sc4, vc⟩ := vc
    refine w_callVI C [pI w3] [] rfl dX1_firstToEnd_20 (c_X1_hasNext C.gi (xL X) w3 σ sc4) oc_26 mw_X1_hasNext ml_X1_83 im_X1_hasNext se_X1_hasNext (by decide) (Nat.le_of_ble_eq_true rfl) (fun z σ' hz => ?_)
    obtain ⟨hz2, hz⟩ := hz
    have hz2 := hz2.symm
    subst hz2
    rcases hz with ⟨h5, rfl⟩ | ⟨h5, rfl⟩
    · have vc := vc.1 h5
      refine w_if_eq C 43 dX1_firstToEnd_23 (by decide) ⟨by omega, by omega⟩ (fun q => absurd q (by decide)) (fun _ => ?_)
      refine w_aload_n C 0 dX1_firstToEnd_26 rfl ?_
      refine w_iload_n C 3 dX1_firstToEnd_27 rfl ?_
      obtain ⟨sc6, vc⟩ := vc
      refine w_callVI C [pI w3] [] rfl dX1_firstToEnd_28 (c_X1_wouldEnd C.gi (xL X) w3 σ sc6) oc_26 mw_X1_wouldEnd ml_X1_110 im_X1_wouldEnd se_X1_wouldEnd (by decide) (Nat.le_of_ble_eq_true rfl) (fun z σ' hz => ?_)
      obtain ⟨rfl, hz2⟩ := hz
      have hz2 := hz2.symm
      subst hz2
      refine w_iload_n C 2 dX1_firstToEnd_31 rfl ?_
      obtain ⟨⟨sc7, sc8⟩, vc⟩ := vc
      refine w_icmp_ge C 43 dX1_firstToEnd_32 (by decide) sc7 sc8 (fun h9 => ?_) (fun h9 => ?_)
      · have vc := vc.1 h9
        refine w_iinc C 3 [(3, pI (w3 + 1)), (0, pR 26), (1, pI w1), (2, pI w2)] dX1_firstToEnd_43 rfl (by decide) rfl ?_
        refine w_goto C 7 dX1_firstToEnd_46 (by decide) ?_
        exact w_sub _ [1, 2, 3, 0] rfl vc
      · have vc := vc.2 h9
        refine w_iload_n C 3 dX1_firstToEnd_35 rfl ?_
        refine w_istore_n C [(1, pI w3), (0, pR 26), (2, pI w2), (3, pI w3)] dX1_firstToEnd_36 (by decide) rfl ?_
        refine w_aload_n C 1 dX1_firstToEnd_37 rfl ?_
        refine w_iload_n C 3 dX1_firstToEnd_38 rfl ?_
        obtain ⟨sc10, vc⟩ := vc
        refine w_callVI C [pI w3] [] rfl dX1_firstToEnd_39 (c_X1_wouldEnd C.gi (xL X) w3 σ sc10) oc_26 mw_X1_wouldEnd ml_X1_110 im_X1_wouldEnd se_X1_wouldEnd (by decide) (Nat.le_of_ble_eq_true rfl) (fun z σ' hz => ?_)
        obtain ⟨rfl, hz2⟩ := hz
        have hz2 := hz2.symm
        subst hz2
        refine w_top (fun v11 hv11 => ?_)
        have vc := vc v11 hv11
        refine w_istore_n C [(2, pI v11), (1, pI w3), (0, pR 26), (3, pI w3)] dX1_firstToEnd_42 (by decide) rfl ?_
        refine w_iinc C 3 [(3, pI (w3 + 1)), (2, pI v11), (1, pI w3), (0, pR 26)] dX1_firstToEnd_43 rfl (by decide) rfl ?_
        refine w_goto C 7 dX1_firstToEnd_46 (by decide) ?_
        exact w_sub _ [3, 2, 1, 0] rfl vc
    · have vc := vc.2 h5
      refine w_if_eq C 43 dX1_firstToEnd_23 (by decide) ⟨by omega, by omega⟩ (fun _ => ?_) (fun q => absurd q (by decide))
      refine w_iinc C 3 [(3, pI (w3 + 1)), (0, pR 26), (1, pI w1), (2, pI w2)] dX1_firstToEnd_43 rfl (by decide) rfl ?_
      refine w_goto C 7 dX1_firstToEnd_46 (by decide) ?_
      exact w_sub _ [1, 2, 3, 0] rfl vc
set_option maxHeartbeats 1000000 in
theorem ok_X1_firstToEnd_0 {M : Nat} {σ : Mem} {K7 : Int → Int → Int → Mem → Prop} (h : pre_X1_firstToEnd M σ) (hK7 : ∀ (y1 y2 y3 : Int) (τ' : Mem), inv_X1_firstToEnd_7 M σ y1 y2 y3 τ' → K7 y1 y2 y3 τ') : VC_X1_firstToEnd_0 M K7 (post_X1_firstToEnd M σ) σ := by
  obtain ⟨n, h, hex, hb⟩ := h
  have := h.1.1.1.2.2.2.1
  exact hK7 _ _ _ _ ⟨rfl, by omega, by omega, Or.inl ⟨rfl, fun i q1 q2 => by have := q2.1; omega⟩⟩
set_option maxHeartbeats 1000000 in
theorem ok_X1_firstToEnd_7 {M : Nat} {σ : Mem} {w1 w2 w3 : Int} {τ : Mem} {K7 : Int → Int → Int → Mem → Prop} (h : pre_X1_firstToEnd M σ) (hinv : inv_X1_firstToEnd_7 M σ w1 w2 w3 τ) (hK7 : ∀ (y1 y2 y3 : Int) (τ' : Mem), inv_X1_firstToEnd_7 M σ y1 y2 y3 τ' → mu_X1_firstToEnd_7 y1 y2 y3 τ' < mu_X1_firstToEnd_7 w1 w2 w3 τ → K7 y1 y2 y3 τ') : VC_X1_firstToEnd_7 M K7 (post_X1_firstToEnd M σ) w1 w2 w3 τ := by
  obtain ⟨n, h, ⟨j1, hj1⟩, hb⟩ := h
  obtain ⟨rfl, i1, i2, hor⟩ := hinv
  have hj := h.1.1.1.2.2.2.1
  refine ⟨⟨⟨by omega, by omega⟩, ⟨by omega, by omega⟩⟩, fun g => ?_, fun g => ⟨FI_hasNext h i1 (by omega), fun g2 => ?_, fun g2 => ?_⟩⟩
  · rcases hor with ⟨-, q⟩ | ⟨q1, q2, q3, q4⟩
    · exact absurd hj1 (q j1 (by have := hj1.2.1; omega))
    · exact ⟨rfl, q1, fun i q => q4 i (by have := q.2.1; omega) q⟩
  · have q : hN τ w3 := ⟨i1, g, g2⟩
    obtain ⟨e0, e1, e2⟩ := wE_in h hb q
    have hw2 : 0 ≤ w2 ∧ w2 ≤ 1000000 := by
      rcases hor with ⟨q, -⟩ | ⟨q1, q2, q3, q4⟩
      · omega
      · have := wE_in h hb q1; omega
    refine ⟨e2, ⟨⟨by omega, by omega⟩, ⟨by omega, by omega⟩⟩, fun g3 => hK7 _ _ _ _ ⟨rfl, by omega, by omega, ?_⟩ ?_, fun g3 => ⟨e2, fun v ev => hK7 _ _ _ _ ⟨rfl, by omega, by omega, Or.inr ⟨q, by omega, ev, fun i p1 p2 => ?_⟩⟩ ?_⟩⟩
    · rcases hor with ⟨q1, -⟩ | ⟨q1, q2, q3, q4⟩
      · omega
      · refine Or.inr ⟨q1, by omega, q3, fun i p1 p2 => ?_⟩
        by_cases ei : i = w3
        · subst ei; omega
        · exact q4 i (by omega) p2
    · unfold mu_X1_firstToEnd_7; omega
    · by_cases ei : i = w3
      · subst ei; omega
      · rcases hor with ⟨-, q1⟩ | ⟨q1, q2, q3, q4⟩
        · exact absurd p2 (q1 i (by omega))
        · have := q4 i (by omega) p2
          omega
    · unfold mu_X1_firstToEnd_7; omega
  · have nq : ¬ hN τ w3 := fun z => g2 z.2.2
    refine hK7 _ _ _ _ ⟨rfl, by omega, by omega, ?_⟩ ?_
    · rcases hor with ⟨q1, q⟩ | ⟨q1, q2, q3, q4⟩
      · refine Or.inl ⟨q1, fun i p1 => ?_⟩
        by_cases ei : i = w3
        · subst ei; exact nq
        · exact q i (by omega)
      · refine Or.inr ⟨q1, by omega, q3, fun i p1 p2 => ?_⟩
        by_cases ei : i = w3
        · subst ei; exact absurd p2 nq
        · exact q4 i (by omega) p2
    · unfold mu_X1_firstToEnd_7; omega
theorem c_X1_firstToEnd {G : GG} (hG : GI G) (l : Launch) (σ : Mem) (h : pre_X1_firstToEnd (gM G) σ) : CtI G l yX1_firstToEnd cX1_firstToEnd 4 (some .int) 2 [pR 26] σ (post_X1_firstToEnd (gM G) σ) := by
  refine CtI.of hG (by decide) (Nat.le_of_ble_eq_true rfl) (fun X hl C => ?_)
  show RW G X 4 (QI G X _) 0 [(0, pR 26)] [] σ
  have key : ∀ n : Nat, (∀ (w1 w2 w3 : Int) (τ : Mem), inv_X1_firstToEnd_7 (gM G) σ w1 w2 w3 τ → mu_X1_firstToEnd_7 w1 w2 w3 τ < n → RW G X 4 (QI G X (post_X1_firstToEnd (gM G) σ)) 7 [(0, pR 26), (1, pI w1), (2, pI w2), (3, pI w3)] [] τ) := by
    intro n
    induction n with
    | zero => exact fun w1 w2 w3 τ _ h0 => absurd h0 (Nat.not_lt_zero _)
    | succ n ih =>
      exact (fun w1 w2 w3 τ hinv h0 => seg_X1_firstToEnd_7 C w1 w2 w3 τ (ok_X1_firstToEnd_7 h hinv (fun y1 y2 y3 τ' hi hm => ih y1 y2 y3 τ' hi (Nat.lt_of_lt_of_le hm (Nat.le_of_lt_succ h0)))))
  exact seg_X1_firstToEnd_0 C σ (ok_X1_firstToEnd_0 h (fun y1 y2 y3 τ' hi => (key _) y1 y2 y3 τ' hi (Nat.lt_succ_self _)))

/-! X1_choose -/
def rvC (j0 j : Int) (σ : Mem) : Prop := hN σ j ∧ σ 6 (nxt σ j) = σ 6 (nxt σ j0) ∧ (j = j0 ∨ σ 30 j < f_X1_wouldEnd j0 σ)
def pre_X1_choose (M : Nat) (x1 x2 : Int) (σ : Mem) : Prop := inR x1 ∧ hN σ x2 ∧ ∃ n, FI M σ n ∧ ∀ j, hN σ j → 0 ≤ σ 30 j ∧ σ 30 j ≤ 20000
def post_X1_choose (M : Nat) (x1 x2 : Int) (σ : Mem) (z : Int) (σ' : Mem) : Prop := σ' = σ ∧ rvC x2 z σ ∧ ∀ i, rvC x2 i σ → f_X1_measure x1 z σ < f_X1_measure x1 i σ ∨ (f_X1_measure x1 z σ = f_X1_measure x1 i σ ∧ z ≤ i)
def inv_X1_choose_23 (M : Nat) (x1 x2 : Int) (σ : Mem) (w3 w4 w5 w6 w7 : Int) (τ : Mem) : Prop := τ = σ ∧ w3 = σ 6 (nxt σ x2) ∧ w4 = f_X1_wouldEnd x2 σ ∧ 0 ≤ w7 ∧ w7 ≤ σ 1 1 ∧ ((w6 = 1000000 ∧ ∀ i, i < w7 → ¬ rvC x2 i σ) ∨ (rvC x2 w5 σ ∧ w5 < w7 ∧ w6 = f_X1_measure x1 w5 σ ∧ ∀ i, i < w7 → rvC x2 i σ → f_X1_measure x1 w5 σ < f_X1_measure x1 i σ ∨ (f_X1_measure x1 w5 σ = f_X1_measure x1 i σ ∧ w5 ≤ i)))
def mu_X1_choose_23 (x1 x2 : Int) (w3 w4 w5 w6 w7 : Int) (τ : Mem) : Nat := (8 - w7).toNat
theorem ms_in {M : Nat} {σ : Mem} {n : Int} (h : FI M σ n) (hb : ∀ j, hN σ j → 0 ≤ σ 30 j ∧ σ 30 j ≤ 20000) {j : Int} (q : hN σ j) {r : Int} (hr : inR r) : -20000 ≤ f_X1_measure r j σ ∧ f_X1_measure r j σ ≤ 20000 ∧ pre_X1_measure M r j σ := by
  have qi := hN_in h q
  have a := h.2.1 j qi.1 qi.2.1
  have b := h.1.1.1.2.2.2.2.1 j qi.1 qi.2.1
  have c := (h.1.1.2.1 j qi.1 qi.2.1).2.1
  have d := hb j q
  have e := sumI_bd (f := fun p => σ 7 (10 * j + p)) (lo := σ 27 j) (hi := σ 5 j) (B := 50) (by omega) (fun p p1 p2 => (h.1.1.2.2.2.1 (10 * j + p) (by omega) (by omega)).2) 6 (by omega)
  refine ⟨?_, ?_, hr, qi.1, qi.2.1, by omega, by omega, by omega, by omega⟩
  · unfold f_X1_measure; split
    · omega
    · split
      · omega
      · split <;> omega
  · unfold f_X1_measure; split
    · omega
    · split
      · omega
      · split <;> omega
def VC_X1_choose_0 (M : Nat) (K23 : Int → Int → Int → Int → Int → Mem → Prop) (post : Int → Mem → Prop) (x1 : Int) (x2 : Int) (σ : Mem) : Prop :=
 (pre_X1_machineOfNext M x2 σ) ∧ ∀ v2 : Int, v2 = f_X1_machineOfNext x2 σ → (pre_X1_wouldEnd M x2 σ) ∧ ∀ v4 : Int, v4 = f_X1_wouldEnd x2 σ → K23 v2 v4 x2 1000000 0 σ
set_option maxRecDepth 20000 in
set_option maxHeartbeats 4000000 in
theorem seg_X1_choose_0 {G : GG} {X : XX} {post : Int → Mem → Prop} (C : CX G X cX1_choose RX1 9 (some .int) 2)   (x1 : Int) (x2 : Int) (σ : Mem) (vc : VC_X1_choose_0 (gM G) (fun w3 w4 w5 w6 w7 σ => RW G X 9 (QI G X post) 23 [(0, pR 26), (1, pI x1), (2, pI x2), (3, pI w3), (4, pI w4), (5, pI w5), (6, pI w6), (7, pI w7)] [] σ) post  x1 x2 σ) : RW G X 9 (QI G X post) 0 [(0, pR 26), (1, pI x1), (2, pI x2)] [] σ := by
  unfold VC_X1_choose_0 at vc
  refine w_aload_n C 0 dX1_choose_0 rfl ?_
  refine w_iload_n C 2 dX1_choose_1 rfl ?_
  obtain ⟨sc1, vc⟩ := vc
  refine w_callVI C [pI x2] [] rfl dX1_choose_2 (c_X1_machineOfNext C.gi (xL X) x2 σ sc1) oc_26 mw_X1_machineOfNext ml_X1_87 im_X1_machineOfNext se_X1_machineOfNext (by decide) (Nat.le_of_ble_eq_true rfl) (fun z σ' hz => ?_)
  obtain ⟨rfl, hz2⟩ := hz
  have hz2 := hz2.symm
  subst hz2
  refine w_top (fun v2 hv2 => ?_)
  have vc := vc v2 hv2
  refine w_istore_n C [(3, pI v2), (0, pR 26), (1, pI x1), (2, pI x2)] dX1_choose_5 (by decide) rfl ?_
  refine w_aload_n C 1 dX1_choose_6 rfl ?_
  refine w_iload_n C 3 dX1_choose_7 rfl ?_
  obtain ⟨sc3, vc⟩ := vc
  refine w_callVI C [pI x2] [] rfl dX1_choose_8 (c_X1_wouldEnd C.gi (xL X) x2 σ sc3) oc_26 mw_X1_wouldEnd ml_X1_110 im_X1_wouldEnd se_X1_wouldEnd (by decide) (Nat.le_of_ble_eq_true rfl) (fun z σ' hz => ?_)
  obtain ⟨rfl, hz2⟩ := hz
  have hz2 := hz2.symm
  subst hz2
  refine w_top (fun v4 hv4 => ?_)
  have vc := vc v4 hv4
  refine w_istore C [(4, pI v4), (3, pI v2), (0, pR 26), (1, pI x1), (2, pI x2)] dX1_choose_11 (by decide) rfl ?_
  refine w_iload_n C 4 dX1_choose_13 rfl ?_
  refine w_istore C [(5, pI x2), (4, pI v4), (3, pI v2), (0, pR 26), (1, pI x1), (2, pI x2)] dX1_choose_14 (by decide) rfl ?_
  refine w_ldc (n := 1000000) C dX1_choose_16 cs_X1_109 ?_
  refine w_istore C [(6, pI 1000000), (5, pI x2), (4, pI v4), (3, pI v2), (0, pR 26), (1, pI x1), (2, pI x2)] dX1_choose_18 (by decide) rfl ?_
  refine w_iconst C dX1_choose_20 ?_
  refine w_istore C [(7, pI 0), (6, pI 1000000), (5, pI x2), (4, pI v4), (3, pI v2), (0, pR 26), (1, pI x1), (2, pI x2)] dX1_choose_21 (by decide) rfl ?_
  exact w_sub _ [5, 6, 7, 4, 3, 2, 1, 0] rfl vc
def VC_X1_choose_23 (M : Nat) (K23 : Int → Int → Int → Int → Int → Mem → Prop) (post : Int → Mem → Prop) (x1 : Int) (x2 : Int) (w3 : Int) (w4 : Int) (w5 : Int) (w6 : Int) (w7 : Int) (σ : Mem) : Prop :=
 (inR w7 ∧ inR (σ 1 1)) ∧ (((σ 1 1) ≤ w7 → post w5 σ) ∧ (w7 < (σ 1 1) → (pre_X1_hasNext M w7 σ) ∧ ((P_X1_hasNext w7 σ → (pre_X1_machineOfNext M w7 σ) ∧ (inR (f_X1_machineOfNext w7 σ) ∧ inR w3) ∧ (((f_X1_machineOfNext w7 σ) = w3 → (inR w7 ∧ inR x2) ∧ ((w7 = x2 → (pre_X1_measure M x1 w7 σ) ∧ (inR (f_X1_measure x1 w7 σ) ∧ inR w6) ∧ ((w6 ≤ (f_X1_measure x1 w7 σ) → K23 w3 w4 w5 w6 (w7 + 1) σ) ∧ ((f_X1_measure x1 w7 σ) < w6 → (pre_X1_measure M x1 w7 σ) ∧ ∀ v18 : Int, v18 = f_X1_measure x1 w7 σ → K23 w3 w4 w7 v18 (w7 + 1) σ))) ∧ (¬ w7 = x2 → (0 ≤ w7 ∧ w7 < 8) ∧ (inR (σ 30 w7) ∧ inR w4) ∧ ((w4 ≤ (σ 30 w7) → K23 w3 w4 w5 w6 (w7 + 1) σ) ∧ ((σ 30 w7) < w4 → (pre_X1_measure M x1 w7 σ) ∧ (inR (f_X1_measure x1 w7 σ) ∧ inR w6) ∧ ((w6 ≤ (f_X1_measure x1 w7 σ) → K23 w3 w4 w5 w6 (w7 + 1) σ) ∧ ((f_X1_measure x1 w7 σ) < w6 → (pre_X1_measure M x1 w7 σ) ∧ ∀ v29 : Int, v29 = f_X1_measure x1 w7 σ → K23 w3 w4 w7 v29 (w7 + 1) σ))))))) ∧ (¬ (f_X1_machineOfNext w7 σ) = w3 → K23 w3 w4 w5 w6 (w7 + 1) σ))) ∧ (¬ P_X1_hasNext w7 σ → K23 w3 w4 w5 w6 (w7 + 1) σ))))
set_option maxRecDepth 20000 in
set_option maxHeartbeats 4000000 in
theorem seg_X1_choose_23 {G : GG} {X : XX} {post : Int → Mem → Prop} (C : CX G X cX1_choose RX1 9 (some .int) 2)   (x1 : Int) (x2 : Int) (w3 : Int) (w4 : Int) (w5 : Int) (w6 : Int) (w7 : Int) (σ : Mem) (vc : VC_X1_choose_23 (gM G) (fun w3 w4 w5 w6 w7 σ => RW G X 9 (QI G X post) 23 [(0, pR 26), (1, pI x1), (2, pI x2), (3, pI w3), (4, pI w4), (5, pI w5), (6, pI w6), (7, pI w7)] [] σ) post  x1 x2 w3 w4 w5 w6 w7 σ) : RW G X 9 (QI G X post) 23 [(0, pR 26), (1, pI x1), (2, pI x2), (3, pI w3), (4, pI w4), (5, pI w5), (6, pI w6), (7, pI w7)] [] σ := by
  unfold VC_X1_choose_23 at vc
  refine w_iload C 7 dX1_choose_23 rfl ?_
  refine w_aload_n C 0 dX1_choose_25 rfl ?_
  refine w_getR C dX1_choose_26 gf_X1_24 ob_26 rfl ?_
  refine w_getI C 1 dX1_choose_29 gf_X1_80 ob_1 rfl rfl ?_
  obtain ⟨⟨sc1, sc2⟩, vc⟩ := vc
  refine w_icmp_ge C 118 dX1_choose_32 (by decide) sc1 sc2 (fun h3 => ?_) (fun h3 => ?_)
  · have vc := vc.1 h3
    refine w_iload C 5 dX1_choose_118 rfl ?_
    exact w_ireturn C dX1_choose_120 vc
  · have vc := vc.2 h3
    refine w_aload_n C 0 dX1_choose_35 rfl ?_
    refine w_iload C 7 dX1_choose_36 rfl ?_
    obtain ⟨sc4, vc⟩ := vc
    refine w_callVI C [pI w7] [] rfl dX1_choose_38 (c_X1_hasNext C.gi (xL X) w7 σ sc4) oc_26 mw_X1_hasNext ml_X1_83 im_X1_hasNext se_X1_hasNext (by decide) (Nat.le_of_ble_eq_true rfl) (fun z σ' hz => ?_)
    obtain ⟨hz2, hz⟩ := hz
    have hz2 := hz2.symm
    subst hz2
    rcases hz with ⟨h5, rfl⟩ | ⟨h5, rfl⟩
    · have vc := vc.1 h5
      refine w_if_eq C 112 dX1_choose_41 (by decide) ⟨by omega, by omega⟩ (fun q => absurd q (by decide)) (fun _ => ?_)
      refine w_aload_n C 0 dX1_choose_44 rfl ?_
      refine w_iload C 7 dX1_choose_45 rfl ?_
      obtain ⟨sc6, vc⟩ := vc
      refine w_callVI C [pI w7] [] rfl dX1_choose_47 (c_X1_machineOfNext C.gi (xL X) w7 σ sc6) oc_26 mw_X1_machineOfNext ml_X1_87 im_X1_machineOfNext se_X1_machineOfNext (by decide) (Nat.le_of_ble_eq_true rfl) (fun z σ' hz => ?_)
      obtain ⟨rfl, hz2⟩ := hz
      have hz2 := hz2.symm
      subst hz2
      refine w_iload_n C 3 dX1_choose_50 rfl ?_
      obtain ⟨⟨sc7, sc8⟩, vc⟩ := vc
      refine w_icmp_eq C 57 dX1_choose_51 (by decide) sc7 sc8 (fun h9 => ?_) (fun h9 => ?_)
      · have vc := vc.1 h9
        refine w_iload C 7 dX1_choose_57 rfl ?_
        refine w_iload_n C 2 dX1_choose_59 rfl ?_
        obtain ⟨⟨sc10, sc11⟩, vc⟩ := vc
        refine w_icmp_eq C 75 dX1_choose_60 (by decide) sc10 sc11 (fun h12 => ?_) (fun h12 => ?_)
        · have vc := vc.1 h12
          refine w_iconst C dX1_choose_75 ?_
          refine w_goto C 80 dX1_choose_76 (by decide) ?_
          refine w_istore C [(8, pI 1), (0, pR 26), (1, pI x1), (2, pI x2), (3, pI w3), (4, pI w4), (5, pI w5), (6, pI w6), (7, pI w7)] dX1_choose_80 (by decide) rfl ?_
          refine w_iload C 0 dX1_choose_82 rfl ?_
          refine w_if_eq C 112 dX1_choose_84 (by decide) ⟨by omega, by omega⟩ (fun q => absurd q (by decide)) (fun _ => ?_)
          refine w_aload_n C 1 dX1_choose_87 rfl ?_
          refine w_iload_n C 2 dX1_choose_88 rfl ?_
          refine w_iload C 8 dX1_choose_89 rfl ?_
          obtain ⟨sc13, vc⟩ := vc
          refine w_callVI C [pI x1, pI w7] [] rfl dX1_choose_91 (c_X1_measure C.gi (xL X) x1 w7 σ sc13) oc_26 mw_X1_measure ml_X1_113 im_X1_measure se_X1_measure (by decide) (Nat.le_of_ble_eq_true rfl) (fun z σ' hz => ?_)
          obtain ⟨rfl, hz2⟩ := hz
          have hz2 := hz2.symm
          subst hz2
          refine w_iload C 7 dX1_choose_94 rfl ?_
          obtain ⟨⟨sc14, sc15⟩, vc⟩ := vc
          refine w_icmp_ge C 112 dX1_choose_96 (by decide) sc14 sc15 (fun h16 => ?_) (fun h16 => ?_)
          · have vc := vc.1 h16
            refine w_iinc C 8 [(7, pI (w7 + 1)), (8, pI 1), (0, pR 26), (1, pI x1), (2, pI x2), (3, pI w3), (4, pI w4), (5, pI w5), (6, pI w6)] dX1_choose_112 rfl (by decide) rfl ?_
            refine w_goto C 23 dX1_choose_115 (by decide) ?_
            exact w_sub _ [2, 3, 4, 5, 6, 7, 8, 0] rfl vc
          · have vc := vc.2 h16
            refine w_iload C 8 dX1_choose_99 rfl ?_
            refine w_istore C [(5, pI w7), (8, pI 1), (0, pR 26), (1, pI x1), (2, pI x2), (3, pI w3), (4, pI w4), (6, pI w6), (7, pI w7)] dX1_choose_101 (by decide) rfl ?_
            refine w_aload_n C 2 dX1_choose_103 rfl ?_
            refine w_iload_n C 3 dX1_choose_104 rfl ?_
            refine w_iload C 8 dX1_choose_105 rfl ?_
            obtain ⟨sc17, vc⟩ := vc
            refine w_callVI C [pI x1, pI w7] [] rfl dX1_choose_107 (c_X1_measure C.gi (xL X) x1 w7 σ sc17) oc_26 mw_X1_measure ml_X1_113 im_X1_measure se_X1_measure (by decide) (Nat.le_of_ble_eq_true rfl) (fun z σ' hz => ?_)
            obtain ⟨rfl, hz2⟩ := hz
            have hz2 := hz2.symm
            subst hz2
            refine w_top (fun v18 hv18 => ?_)
            have vc := vc v18 hv18
            refine w_istore C [(6, pI v18), (5, pI w7), (8, pI 1), (0, pR 26), (1, pI x1), (2, pI x2), (3, pI w3), (4, pI w4), (7, pI w7)] dX1_choose_110 (by decide) rfl ?_
            refine w_iinc C 8 [(7, pI (w7 + 1)), (6, pI v18), (5, pI w7), (8, pI 1), (0, pR 26), (1, pI x1), (2, pI x2), (3, pI w3), (4, pI w4)] dX1_choose_112 rfl (by decide) rfl ?_
            refine w_goto C 23 dX1_choose_115 (by decide) ?_
            exact w_sub _ [4, 5, 6, 7, 8, 2, 1, 0] rfl vc
        · have vc := vc.2 h12
          refine w_aload_n C 0 dX1_choose_63 rfl ?_
          refine w_getR C dX1_choose_64 gf_X1_21 ob_26 rfl ?_
          refine w_iload C 7 dX1_choose_67 rfl ?_
          obtain ⟨⟨sc19, sc20⟩, vc⟩ := vc
          refine w_iald C dX1_choose_69 ia_30 sc19 sc20 ?_
          refine w_iload C 4 dX1_choose_70 rfl ?_
          obtain ⟨⟨sc21, sc22⟩, vc⟩ := vc
          refine w_icmp_ge C 79 dX1_choose_72 (by decide) sc21 sc22 (fun h23 => ?_) (fun h23 => ?_)
          · have vc := vc.1 h23
            refine w_iconst C dX1_choose_79 ?_
            refine w_istore C [(8, pI 0), (0, pR 26), (1, pI x1), (2, pI x2), (3, pI w3), (4, pI w4), (5, pI w5), (6, pI w6), (7, pI w7)] dX1_choose_80 (by decide) rfl ?_
            refine w_iload C 0 dX1_choose_82 rfl ?_
            refine w_if_eq C 112 dX1_choose_84 (by decide) ⟨by omega, by omega⟩ (fun _ => ?_) (fun q => absurd q (by decide))
            refine w_iinc C 8 [(7, pI (w7 + 1)), (8, pI 0), (0, pR 26), (1, pI x1), (2, pI x2), (3, pI w3), (4, pI w4), (5, pI w5), (6, pI w6)] dX1_choose_112 rfl (by decide) rfl ?_
            refine w_goto C 23 dX1_choose_115 (by decide) ?_
            exact w_sub _ [2, 3, 4, 5, 6, 7, 8, 0] rfl vc
          · have vc := vc.2 h23
            refine w_iconst C dX1_choose_75 ?_
            refine w_goto C 80 dX1_choose_76 (by decide) ?_
            refine w_istore C [(8, pI 1), (0, pR 26), (1, pI x1), (2, pI x2), (3, pI w3), (4, pI w4), (5, pI w5), (6, pI w6), (7, pI w7)] dX1_choose_80 (by decide) rfl ?_
            refine w_iload C 0 dX1_choose_82 rfl ?_
            refine w_if_eq C 112 dX1_choose_84 (by decide) ⟨by omega, by omega⟩ (fun q => absurd q (by decide)) (fun _ => ?_)
            refine w_aload_n C 1 dX1_choose_87 rfl ?_
            refine w_iload_n C 2 dX1_choose_88 rfl ?_
            refine w_iload C 8 dX1_choose_89 rfl ?_
            obtain ⟨sc24, vc⟩ := vc
            refine w_callVI C [pI x1, pI w7] [] rfl dX1_choose_91 (c_X1_measure C.gi (xL X) x1 w7 σ sc24) oc_26 mw_X1_measure ml_X1_113 im_X1_measure se_X1_measure (by decide) (Nat.le_of_ble_eq_true rfl) (fun z σ' hz => ?_)
            obtain ⟨rfl, hz2⟩ := hz
            have hz2 := hz2.symm
            subst hz2
            refine w_iload C 7 dX1_choose_94 rfl ?_
            obtain ⟨⟨sc25, sc26⟩, vc⟩ := vc
            refine w_icmp_ge C 112 dX1_choose_96 (by decide) sc25 sc26 (fun h27 => ?_) (fun h27 => ?_)
            · have vc := vc.1 h27
              refine w_iinc C 8 [(7, pI (w7 + 1)), (8, pI 1), (0, pR 26), (1, pI x1), (2, pI x2), (3, pI w3), (4, pI w4), (5, pI w5), (6, pI w6)] dX1_choose_112 rfl (by decide) rfl ?_
              refine w_goto C 23 dX1_choose_115 (by decide) ?_
              exact w_sub _ [2, 3, 4, 5, 6, 7, 8, 0] rfl vc
            · have vc := vc.2 h27
              refine w_iload C 8 dX1_choose_99 rfl ?_
              refine w_istore C [(5, pI w7), (8, pI 1), (0, pR 26), (1, pI x1), (2, pI x2), (3, pI w3), (4, pI w4), (6, pI w6), (7, pI w7)] dX1_choose_101 (by decide) rfl ?_
              refine w_aload_n C 2 dX1_choose_103 rfl ?_
              refine w_iload_n C 3 dX1_choose_104 rfl ?_
              refine w_iload C 8 dX1_choose_105 rfl ?_
              obtain ⟨sc28, vc⟩ := vc
              refine w_callVI C [pI x1, pI w7] [] rfl dX1_choose_107 (c_X1_measure C.gi (xL X) x1 w7 σ sc28) oc_26 mw_X1_measure ml_X1_113 im_X1_measure se_X1_measure (by decide) (Nat.le_of_ble_eq_true rfl) (fun z σ' hz => ?_)
              obtain ⟨rfl, hz2⟩ := hz
              have hz2 := hz2.symm
              subst hz2
              refine w_top (fun v29 hv29 => ?_)
              have vc := vc v29 hv29
              refine w_istore C [(6, pI v29), (5, pI w7), (8, pI 1), (0, pR 26), (1, pI x1), (2, pI x2), (3, pI w3), (4, pI w4), (7, pI w7)] dX1_choose_110 (by decide) rfl ?_
              refine w_iinc C 8 [(7, pI (w7 + 1)), (6, pI v29), (5, pI w7), (8, pI 1), (0, pR 26), (1, pI x1), (2, pI x2), (3, pI w3), (4, pI w4)] dX1_choose_112 rfl (by decide) rfl ?_
              refine w_goto C 23 dX1_choose_115 (by decide) ?_
              exact w_sub _ [4, 5, 6, 7, 8, 2, 1, 0] rfl vc
      · have vc := vc.2 h9
        refine w_goto C 112 dX1_choose_54 (by decide) ?_
        refine w_iinc C 7 [(7, pI (w7 + 1)), (0, pR 26), (1, pI x1), (2, pI x2), (3, pI w3), (4, pI w4), (5, pI w5), (6, pI w6)] dX1_choose_112 rfl (by decide) rfl ?_
        refine w_goto C 23 dX1_choose_115 (by decide) ?_
        exact w_sub _ [1, 2, 3, 4, 5, 6, 7, 0] rfl vc
    · have vc := vc.2 h5
      refine w_if_eq C 112 dX1_choose_41 (by decide) ⟨by omega, by omega⟩ (fun _ => ?_) (fun q => absurd q (by decide))
      refine w_iinc C 7 [(7, pI (w7 + 1)), (0, pR 26), (1, pI x1), (2, pI x2), (3, pI w3), (4, pI w4), (5, pI w5), (6, pI w6)] dX1_choose_112 rfl (by decide) rfl ?_
      refine w_goto C 23 dX1_choose_115 (by decide) ?_
      exact w_sub _ [1, 2, 3, 4, 5, 6, 7, 0] rfl vc
set_option maxHeartbeats 1000000 in
theorem ok_X1_choose_0 {M : Nat} {x1 : Int} {x2 : Int} {σ : Mem} {K23 : Int → Int → Int → Int → Int → Mem → Prop} (h : pre_X1_choose M x1 x2 σ) (hK23 : ∀ (y3 y4 y5 y6 y7 : Int) (τ' : Mem), inv_X1_choose_23 M x1 x2 σ y3 y4 y5 y6 y7 τ' → K23 y3 y4 y5 y6 y7 τ') : VC_X1_choose_0 M K23 (post_X1_choose M x1 x2 σ) x1 x2 σ := by
  obtain ⟨hr, hq, n, h, hb⟩ := h
  have qi := hN_in h hq
  have vb := VS_in h.1.1.1 qi.2.2.1
  have := h.1.1.1.2.2.2.1
  exact ⟨⟨qi.1, qi.2.1, vb.1, vb.2.1⟩, fun v e => ⟨⟨qi.1, qi.2.1, vb.1, vb.2.1⟩, fun v4 e4 => hK23 _ _ _ _ _ _ ⟨rfl, e, e4, by omega, by omega, Or.inl ⟨rfl, fun i p1 p2 => by have := p2.1.1; omega⟩⟩⟩⟩
set_option maxHeartbeats 1000000 in
theorem ok_X1_choose_23 {M : Nat} {x1 : Int} {x2 : Int} {σ : Mem} {w3 w4 w5 w6 w7 : Int} {τ : Mem} {K23 : Int → Int → Int → Int → Int → Mem → Prop} (h : pre_X1_choose M x1 x2 σ) (hinv : inv_X1_choose_23 M x1 x2 σ w3 w4 w5 w6 w7 τ) (hK23 : ∀ (y3 y4 y5 y6 y7 : Int) (τ' : Mem), inv_X1_choose_23 M x1 x2 σ y3 y4 y5 y6 y7 τ' → mu_X1_choose_23 x1 x2 y3 y4 y5 y6 y7 τ' < mu_X1_choose_23 x1 x2 w3 w4 w5 w6 w7 τ → K23 y3 y4 y5 y6 y7 τ') : VC_X1_choose_23 M K23 (post_X1_choose M x1 x2 σ) x1 x2 w3 w4 w5 w6 w7 τ := by
  obtain ⟨hr, hq, n, h, hb⟩ := h
  obtain ⟨rfl, rfl, rfl, i1, i2, hor⟩ := hinv
  have hj := h.1.1.1.2.2.2.1
  have qi := hN_in h hq
  obtain ⟨x0, x1', x2'⟩ := wE_in h hb hq
  have hw6 : -20000 ≤ w6 ∧ w6 ≤ 1000000 := by
    rcases hor with ⟨q, -⟩ | ⟨q1, q2, q3, q4⟩
    · omega
    · have := ms_in h hb q1.1 hr; omega
  -- the step that is looked at is no rival: nothing changes
  have skip : ¬ rvC x2 w7 τ → w7 < τ 1 1 → K23 (τ 6 (nxt τ x2)) (f_X1_wouldEnd x2 τ) w5 w6 (w7 + 1) τ := by
    intro nq g
    refine hK23 _ _ _ _ _ _ ⟨rfl, rfl, rfl, by omega, by omega, ?_⟩ (by unfold mu_X1_choose_23; omega)
    rcases hor with ⟨q1, q⟩ | ⟨q1, q2, q3, q4⟩
    · refine Or.inl ⟨q1, fun i p1 => ?_⟩
      by_cases ei : i = w7
      · subst ei; exact nq
      · exact q i (by omega)
    · refine Or.inr ⟨q1, by omega, q3, fun i p1 p2 => ?_⟩
      by_cases ei : i = w7
      · subst ei; exact absurd p2 nq
      · exact q4 i (by omega) p2
  have riv : rvC x2 w7 τ → w7 < τ 1 1 → (pre_X1_measure M x1 w7 τ) ∧ (inR (f_X1_measure x1 w7 τ) ∧ inR w6) ∧ ((w6 ≤ (f_X1_measure x1 w7 τ) → K23 (τ 6 (nxt τ x2)) (f_X1_wouldEnd x2 τ) w5 w6 (w7 + 1) τ) ∧ ((f_X1_measure x1 w7 τ) < w6 → (pre_X1_measure M x1 w7 τ) ∧ ∀ v18 : Int, v18 = f_X1_measure x1 w7 τ → K23 (τ 6 (nxt τ x2)) (f_X1_wouldEnd x2 τ) w7 v18 (w7 + 1) τ)) := by
    intro q g
    obtain ⟨m0, m1, m2⟩ := ms_in h hb q.1 hr
    refine ⟨m2, ⟨⟨by omega, by omega⟩, ⟨by omega, by omega⟩⟩, fun g3 => hK23 _ _ _ _ _ _ ⟨rfl, rfl, rfl, by omega, by omega, ?_⟩ (by unfold mu_X1_choose_23; omega), fun g3 => ⟨m2, fun v ev => hK23 _ _ _ _ _ _ ⟨rfl, rfl, rfl, by omega, by omega, Or.inr ⟨q, by omega, ev, fun i p1 p2 => ?_⟩⟩ (by unfold mu_X1_choose_23; omega)⟩⟩
    · rcases hor with ⟨q1, -⟩ | ⟨q1, q2, q3, q4⟩
      · omega
      · refine Or.inr ⟨q1, by omega, q3, fun i p1 p2 => ?_⟩
        by_cases ei : i = w7
        · subst ei; omega
        · exact q4 i (by omega) p2
    · by_cases ei : i = w7
      · subst ei; omega
      · rcases hor with ⟨-, q1⟩ | ⟨q1, q2, q3, q4⟩
        · exact absurd p2 (q1 i (by omega))
        · have := q4 i (by omega) p2
          omega
  refine ⟨⟨⟨by omega, by omega⟩, ⟨by omega, by omega⟩⟩, fun g => ?_, fun g => ⟨FI_hasNext h i1 (by omega), fun g2 => ?_, fun g2 => skip (fun z => g2 z.1.2.2) g⟩⟩
  · rcases hor with ⟨-, q⟩ | ⟨q1, q2, q3, q4⟩
    · exact absurd ⟨hq, rfl, Or.inl rfl⟩ (q x2 (by have := hq.2.1; omega))
    · exact ⟨rfl, q1, fun i q => q4 i (by have := q.1.2.1; omega) q⟩
  · have q : hN τ w7 := ⟨i1, g, g2⟩
    have q7 := hN_in h q
    have vb := VS_in h.1.1.1 q7.2.2.1
    have hM : M ≤ 5 := h.1.1.1.2.2.1
    have hm7 := q7.2.2.2.2.2.2.2.2.1
    have hm2 := qi.2.2.2.2.2.2.2.2.1
    refine ⟨⟨q7.1, q7.2.1, vb.1, vb.2.1⟩, ⟨(show inR (τ 6 (nxt τ w7)) from ⟨by omega, by omega⟩), ⟨by omega, by omega⟩⟩, fun g3 => ⟨⟨⟨by omega, by omega⟩, ⟨by omega, by omega⟩⟩, fun g4 => riv ⟨q, g3, Or.inl g4⟩ g, fun g4 => ⟨⟨q7.1, q7.2.1⟩, ⟨?_, ⟨by omega, by omega⟩⟩, fun g5 => skip (fun z => ?_) g, fun g5 => riv ⟨q, g3, Or.inr g5⟩ g⟩⟩, fun g3 => skip (fun z => g3 z.2.1) g⟩
    · have := hb w7 q
      exact ⟨by omega, by omega⟩
    · rcases z.2.2 with z | z <;> omega
theorem c_X1_choose {G : GG} (hG : GI G) (l : Launch) (x1 : Int) (x2 : Int) (σ : Mem) (h : pre_X1_choose (gM G) x1 x2 σ) : CtI G l yX1_choose cX1_choose 9 (some .int) 2 [pR 26, pI x1, pI x2] σ (post_X1_choose (gM G) x1 x2 σ) := by
  refine CtI.of hG (by decide) (Nat.le_of_ble_eq_true rfl) (fun X hl C => ?_)
  show RW G X 9 (QI G X _) 0 [(0, pR 26), (1, pI x1), (2, pI x2)] [] σ
  have key : ∀ n : Nat, (∀ (w3 w4 w5 w6 w7 : Int) (τ : Mem), inv_X1_choose_23 (gM G) x1 x2 σ w3 w4 w5 w6 w7 τ → mu_X1_choose_23 x1 x2 w3 w4 w5 w6 w7 τ < n → RW G X 9 (QI G X (post_X1_choose (gM G) x1 x2 σ)) 23 [(0, pR 26), (1, pI x1), (2, pI x2), (3, pI w3), (4, pI w4), (5, pI w5), (6, pI w6), (7, pI w7)] [] τ) := by
    intro n
    induction n with
    | zero => exact fun w3 w4 w5 w6 w7 τ _ h0 => absurd h0 (Nat.not_lt_zero _)
    | succ n ih =>
      exact (fun w3 w4 w5 w6 w7 τ hinv h0 => seg_X1_choose_23 C x1 x2 w3 w4 w5 w6 w7 τ (ok_X1_choose_23 h hinv (fun y3 y4 y5 y6 y7 τ' hi hm => ih y3 y4 y5 y6 y7 τ' hi (Nat.lt_of_lt_of_le hm (Nat.le_of_lt_succ h0)))))
  exact seg_X1_choose_0 C x1 x2 σ (ok_X1_choose_0 h (fun y3 y4 y5 y6 y7 τ' hi => (key _) y3 y4 y5 y6 y7 τ' hi (Nat.lt_succ_self _)))

/-! X1_append -/
def m_X1_append (x1 : Int) (σ : Mem) : Mem := up (up (up (m_X3_insert (nxt σ x1) (σ 10 (σ 6 (nxt σ x1))) σ) 28 x1 (f_X1_wouldEnd x1 σ)) 29 (σ 6 (nxt σ x1)) (f_X1_wouldEnd x1 σ)) 27 x1 (σ 27 x1 + 1)
def pre_X1_append (M : Nat) (x1 : Int) (σ : Mem) : Prop := hN σ x1 ∧ ∃ n, FI M σ n
def VC_X1_append_0 (M : Nat) (post : Mem → Prop) (x1 : Int) (σ : Mem) : Prop :=
 (pre_X1_machineOfNext M x1 σ) ∧ ∀ v2 : Int, v2 = f_X1_machineOfNext x1 σ → (pre_X1_wouldEnd M x1 σ) ∧ ∀ v4 : Int, v4 = f_X1_wouldEnd x1 σ → (pre_X1_nextOf M x1 σ) ∧ (0 ≤ v2 ∧ v2 < M) ∧ (pre_X3_insert M (f_X1_nextOf x1 σ) (σ 10 v2) σ) ∧ ∀ s9 : Mem, s9 = m_X3_insert (f_X1_nextOf x1 σ) (σ 10 v2) σ → (0 ≤ x1 ∧ x1 < 8) ∧ ∀ s12 : Mem, s12 = up s9 28 x1 v4 → (0 ≤ v2 ∧ v2 < 5) ∧ ∀ s15 : Mem, s15 = up s12 29 v2 v4 → (0 ≤ x1 ∧ x1 < 8) ∧ (0 ≤ x1 ∧ x1 < 8) ∧ ∀ s20 : Mem, s20 = up s15 27 x1 ((s15 27 x1) + 1) → post s20
set_option maxRecDepth 20000 in
set_option maxHeartbeats 4000000 in
theorem seg_X1_append_0 {G : GG} {X : XX} {post : Mem → Prop} (C : CX G X cX1_append RX1 4 none 2)   (x1 : Int) (σ : Mem) (vc : VC_X1_append_0 (gM G)  post  x1 σ) : RW G X 4 (QV G X post) 0 [(0, pR 26), (1, pI x1)] [] σ := by
  unfold VC_X1_append_0 at vc
  refine w_aload_n C 0 dX1_append_0 rfl ?_
  refine w_iload_n C 1 dX1_append_1 rfl ?_
  obtain ⟨sc1, vc⟩ := vc
  refine w_callVI C [pI x1] [] rfl dX1_append_2 (c_X1_machineOfNext C.gi (xL X) x1 σ sc1) oc_26 mw_X1_machineOfNext ml_X1_87 im_X1_machineOfNext se_X1_machineOfNext (by decide) (Nat.le_of_ble_eq_true rfl) (fun z σ' hz => ?_)
  obtain ⟨rfl, hz2⟩ := hz
  have hz2 := hz2.symm
  subst hz2
  refine w_top (fun v2 hv2 => ?_)
  have vc := vc v2 hv2
  refine w_istore_n C [(2, pI v2), (0, pR 26), (1, pI x1)] dX1_append_5 (by decide) rfl ?_
  refine w_aload_n C 1 dX1_append_6 rfl ?_
  refine w_iload_n C 2 dX1_append_7 rfl ?_
  obtain ⟨sc3, vc⟩ := vc
  refine w_callVI C [pI x1] [] rfl dX1_append_8 (c_X1_wouldEnd C.gi (xL X) x1 σ sc3) oc_26 mw_X1_wouldEnd ml_X1_110 im_X1_wouldEnd se_X1_wouldEnd (by decide) (Nat.le_of_ble_eq_true rfl) (fun z σ' hz => ?_)
  obtain ⟨rfl, hz2⟩ := hz
  have hz2 := hz2.symm
  subst hz2
  refine w_top (fun v4 hv4 => ?_)
  have vc := vc v4 hv4
  refine w_istore_n C [(3, pI v4), (2, pI v2), (0, pR 26), (1, pI x1)] dX1_append_11 (by decide) rfl ?_
  refine w_aload_n C 2 dX1_append_12 rfl ?_
  refine w_getR C dX1_append_13 gf_X1_24 ob_26 rfl ?_
  refine w_aload_n C 2 dX1_append_16 rfl ?_
  refine w_iload_n C 3 dX1_append_17 rfl ?_
  obtain ⟨sc5, vc⟩ := vc
  refine w_callVI C [pI x1] [pR 1] rfl dX1_append_18 (c_X1_nextOf C.gi (xL X) x1 σ sc5) oc_26 mw_X1_nextOf ml_X1_73 im_X1_nextOf se_X1_nextOf (by decide) (Nat.le_of_ble_eq_true rfl) (fun z σ' hz => ?_)
  obtain ⟨rfl, hz2⟩ := hz
  have hz2 := hz2.symm
  subst hz2
  refine w_aload_n C 2 dX1_append_21 rfl ?_
  refine w_getR C dX1_append_22 gf_X1_24 ob_26 rfl ?_
  refine w_getR C dX1_append_25 gf_X1_98 ob_1 rfl ?_
  refine w_iload_n C 1 dX1_append_28 rfl ?_
  obtain ⟨⟨sc6, sc7⟩, vc⟩ := vc
  refine w_iald C dX1_append_29 (ia_10 C.gi) sc6 sc7 ?_
  obtain ⟨sc8, vc⟩ := vc
  refine w_callVV C [pI (f_X1_nextOf x1 σ), pI (σ 10 v2)] [] rfl dX1_append_30 (c_X3_insert C.gi (xL X) (f_X1_nextOf x1 σ) (σ 10 v2) σ sc8) oc_1 mw_X3_insert ml_X1_122 im_X3_insert se_X3_insert (by decide) (Nat.le_of_ble_eq_true rfl) (fun s9 hs9 => ?_)
  have vc := vc s9 hs9
  refine w_aload_n C 2 dX1_append_33 rfl ?_
  refine w_getR C dX1_append_34 gf_X1_15 ob_26 rfl ?_
  refine w_iload_n C 3 dX1_append_37 rfl ?_
  refine w_iload_n C 0 dX1_append_38 rfl ?_
  obtain ⟨⟨sc10, sc11⟩, vc⟩ := vc
  refine w_iast C dX1_append_39 ia_28 sc10 sc11 ?_
  refine w_mem (fun s12 hs12 => ?_)
  have vc := vc s12 hs12
  refine w_aload_n C 2 dX1_append_40 rfl ?_
  refine w_getR C dX1_append_41 gf_X1_18 ob_26 rfl ?_
  refine w_iload_n C 1 dX1_append_44 rfl ?_
  refine w_iload_n C 0 dX1_append_45 rfl ?_
  obtain ⟨⟨sc13, sc14⟩, vc⟩ := vc
  refine w_iast C dX1_append_46 ia_29 sc13 sc14 ?_
  refine w_mem (fun s15 hs15 => ?_)
  have vc := vc s15 hs15
  refine w_aload_n C 2 dX1_append_47 rfl ?_
  refine w_getR C dX1_append_48 gf_X1_9 ob_26 rfl ?_
  refine w_iload_n C 3 dX1_append_51 rfl ?_
  refine w_dup2 C dX1_append_52 rfl rfl ?_
  obtain ⟨⟨sc16, sc17⟩, vc⟩ := vc
  refine w_iald C dX1_append_53 ia_27 sc16 sc17 ?_
  refine w_iconst C dX1_append_54 ?_
  refine w_iadd C dX1_append_55 ?_
  obtain ⟨⟨sc18, sc19⟩, vc⟩ := vc
  refine w_iast C dX1_append_56 ia_27 sc18 sc19 ?_
  refine w_mem (fun s20 hs20 => ?_)
  have vc := vc s20 hs20
  exact w_vreturn C dX1_append_57 vc
set_option maxHeartbeats 1000000 in
theorem ok_X1_append_0 {M : Nat} {x1 : Int} {σ : Mem} (h : pre_X1_append M x1 σ) : VC_X1_append_0 M (fun σ' => σ' = m_X1_append x1 σ) x1 σ := by
  obtain ⟨hq, n, h⟩ := h
  have qi := hN_in h hq
  have vb := VS_in h.1.1.1 qi.2.2.1
  have hm := qi.2.2.2.2.2.2.2.2.1
  have hM : M ≤ 5 := h.1.1.1.2.2.1
  have hz := h.1.1.1.2.2.2.2.2 _ hm.1 hm.2
  have hlt := size_lt h.1 qi.2.2.1 qi.2.2.2.2.2.2.2.1 hm.1 hm.2
  refine ⟨⟨qi.1, qi.2.1, vb.1, vb.2.1⟩, fun v2 e2 => ⟨⟨qi.1, qi.2.1, vb.1, vb.2.1⟩, fun v4 e4 => ?_⟩⟩
  subst e2
  subst e4
  refine ⟨⟨qi.1, qi.2.1⟩, hm, ⟨vb.1, vb.2.1, hm.1, hm.2, hz.1, Int.le_refl _, hlt⟩, fun s9 e9 => ⟨⟨qi.1, qi.2.1⟩, fun s12 e12 => ⟨⟨hm.1, (show σ 6 (nxt σ x1) < 5 from by omega)⟩, fun s15 e15 => ⟨⟨qi.1, qi.2.1⟩, ⟨qi.1, qi.2.1⟩, fun s20 e20 => ?_⟩⟩⟩⟩
  have q27 : s15 27 x1 = σ 27 x1 := by
    rw [e15, e12, e9]
    rw [up_ne _ _ (Or.inl (by omega)), up_ne _ _ (Or.inl (by omega)), (ins_acc _ _ σ hm.1).2.2.2.2.2 27 (by omega) (by omega)]
  unfold m_X1_append
  rw [e20, q27, e15, e12, e9]
theorem c_X1_append {G : GG} (hG : GI G) (l : Launch) (x1 : Int) (σ : Mem) (h : pre_X1_append (gM G) x1 σ) : CtV G l yX1_append cX1_append 4 none 2 [pR 26, pI x1] σ (fun σ' => σ' = m_X1_append x1 σ) := by
  refine CtV.of hG (by decide) (Nat.le_of_ble_eq_true rfl) (fun X hl C => ?_)
  show RW G X 4 (QV G X _) 0 [(0, pR 26), (1, pI x1)] [] σ
  exact seg_X1_append_0 C x1 σ (ok_X1_append_0 h)

/-! X1_run -/
def pre_X1_run (M : Nat) (x1 : Int) (σ : Mem) : Prop := WF M σ ∧ inR x1
def post_X1_run (M : Nat) (x1 : Int) (σ σ' : Mem) : Prop := C30 (fillN x1 (fill0 σ) (σ 1 2).toNat) σ' ∧ FI M (fillN x1 (fill0 σ) (σ 1 2).toNat) (σ 1 2) ∧ ∀ c : Int, (12 ≤ c ∧ c ≤ 26) ∨ (31 ≤ c ∧ c ≤ 56) → σ' c = σ c
def inv_X1_run_43 (M : Nat) (x1 : Int) (σ : Mem) (w2 : Int) (τ : Mem) : Prop := 0 ≤ w2 ∧ w2 ≤ σ 1 2 ∧ C30 (fillN x1 (fill0 σ) w2.toNat) τ ∧ FI M (fillN x1 (fill0 σ) w2.toNat) w2 ∧ τ 1 2 = σ 1 2 ∧ ∀ c : Int, (12 ≤ c ∧ c ≤ 26) ∨ (31 ≤ c ∧ c ≤ 56) → τ c = σ c
def mu_X1_run_43 (x1 : Int) (w2 : Int) (τ : Mem) : Nat := (48 - w2).toNat
def VC_X1_run_0 (M : Nat) (K43 : Int → Mem → Prop) (post : Mem → Prop) (x1 : Int) (σ : Mem) : Prop :=
 (pre_X3_emptyOrders M σ) ∧ ∀ s2 : Mem, s2 = m_X3_emptyOrders σ → (pre_J7_fill_53178 M 27 8 0 s2) ∧ ∀ s4 : Mem, s4 = m_J7_fill_53178 27 8 0 s2 → ∀ s5 : Mem, s5 = cpM s4 2 28 8 → (pre_J7_fill_53178 M 29 5 0 s5) ∧ ∀ s7 : Mem, s7 = m_J7_fill_53178 29 5 0 s5 → K43 0 s7
set_option maxRecDepth 20000 in
set_option maxHeartbeats 4000000 in
theorem seg_X1_run_0 {G : GG} {X : XX} {post : Mem → Prop} (C : CX G X cX1_run RX1 3 none 3)   (x1 : Int) (σ : Mem) (vc : VC_X1_run_0 (gM G) (fun w2 σ => RW G X 3 (QV G X post) 43 [(0, pR 26), (1, pI x1), (2, pI w2)] [] σ) post  x1 σ) : RW G X 3 (QV G X post) 0 [(0, pR 26), (1, pI x1)] [] σ := by
  unfold VC_X1_run_0 at vc
  refine w_aload_n C 0 dX1_run_0 rfl ?_
  refine w_getR C dX1_run_1 gf_X1_24 ob_26 rfl ?_
  obtain ⟨sc1, vc⟩ := vc
  refine w_callVV C [] [] rfl dX1_run_4 (c_X3_emptyOrders C.gi (xL X)  σ sc1) oc_1 mw_X3_emptyOrders ml_X1_28 im_X3_emptyOrders se_X3_emptyOrders (by decide) (Nat.le_of_ble_eq_true rfl) (fun s2 hs2 => ?_)
  have vc := vc s2 hs2
  refine w_aload_n C 0 dX1_run_7 rfl ?_
  refine w_getR C dX1_run_8 gf_X1_9 ob_26 rfl ?_
  refine w_iconst C dX1_run_11 ?_
  obtain ⟨sc3, vc⟩ := vc
  refine w_callSV C [pR 27, pI 0] [] rfl dX1_run_12 (c_J7_fill_53178 C.gi (xL X) 27 8 0 s2 ia_27 sc3) mw_J7_fill_53178 ml_X1_33 ss_J7_fill_53178 (by decide) (Nat.le_of_ble_eq_true rfl) (fun s4 hs4 => ?_)
  have vc := vc s4 hs4
  refine w_aload_n C 0 dX1_run_15 rfl ?_
  refine w_getR C dX1_run_16 gf_X1_24 ob_26 rfl ?_
  refine w_getR C dX1_run_19 gf_X1_39 ob_1 rfl ?_
  refine w_iconst C dX1_run_22 ?_
  refine w_aload_n C 0 dX1_run_23 rfl ?_
  refine w_getR C dX1_run_24 gf_X1_15 ob_26 rfl ?_
  refine w_iconst C dX1_run_27 ?_
  refine w_bipush C dX1_run_28 (by decide) ?_
  refine w_acopy (n := 8) C rfl dX1_run_30 ml_X1_42 mt_copy ia_2 ia_28 (by decide) (by decide) (Nat.le_of_ble_eq_true rfl) ?_
  refine w_mem (fun s5 hs5 => ?_)
  have vc := vc s5 hs5
  refine w_aload_n C 0 dX1_run_33 rfl ?_
  refine w_getR C dX1_run_34 gf_X1_18 ob_26 rfl ?_
  refine w_iconst C dX1_run_37 ?_
  obtain ⟨sc6, vc⟩ := vc
  refine w_callSV C [pR 29, pI 0] [] rfl dX1_run_38 (c_J7_fill_53178 C.gi (xL X) 29 5 0 s5 ia_29 sc6) mw_J7_fill_53178 ml_X1_33 ss_J7_fill_53178 (by decide) (Nat.le_of_ble_eq_true rfl) (fun s7 hs7 => ?_)
  have vc := vc s7 hs7
  refine w_iconst C dX1_run_41 ?_
  refine w_istore_n C [(2, pI 0), (0, pR 26), (1, pI x1)] dX1_run_42 (by decide) rfl ?_
  exact w_sub _ [1, 2, 0] rfl vc
def VC_X1_run_43 (M : Nat) (K43 : Int → Mem → Prop) (post : Mem → Prop) (x1 : Int) (w2 : Int) (σ : Mem) : Prop :=
 (inR w2 ∧ inR (σ 1 2)) ∧ (((σ 1 2) ≤ w2 → post σ) ∧ (w2 < (σ 1 2) → (pre_X1_lookAhead M σ) ∧ ∀ s5 : Mem, post_X1_lookAhead M σ s5 → (pre_X1_firstToEnd M s5) ∧ ∀ (z8 : Int) (s7 : Mem), post_X1_firstToEnd M s5 z8 s7 → (pre_X1_choose M x1 z8 s7) ∧ ∀ (z11 : Int) (s10 : Mem), post_X1_choose M x1 z8 s7 z11 s10 → (pre_X1_append M z11 s10) ∧ ∀ s13 : Mem, s13 = m_X1_append z11 s10 → K43 (w2 + 1) s13))
set_option maxRecDepth 20000 in
set_option maxHeartbeats 4000000 in
theorem seg_X1_run_43 {G : GG} {X : XX} {post : Mem → Prop} (C : CX G X cX1_run RX1 3 none 3)   (x1 : Int) (w2 : Int) (σ : Mem) (vc : VC_X1_run_43 (gM G) (fun w2 σ => RW G X 3 (QV G X post) 43 [(0, pR 26), (1, pI x1), (2, pI w2)] [] σ) post  x1 w2 σ) : RW G X 3 (QV G X post) 43 [(0, pR 26), (1, pI x1), (2, pI w2)] [] σ := by
  unfold VC_X1_run_43 at vc
  refine w_iload_n C 2 dX1_run_43 rfl ?_
  refine w_aload_n C 0 dX1_run_44 rfl ?_
  refine w_getR C dX1_run_45 gf_X1_24 ob_26 rfl ?_
  refine w_getI C 2 dX1_run_48 gf_X1_48 ob_1 rfl rfl ?_
  obtain ⟨⟨sc1, sc2⟩, vc⟩ := vc
  refine w_icmp_ge C 77 dX1_run_51 (by decide) sc1 sc2 (fun h3 => ?_) (fun h3 => ?_)
  · have vc := vc.1 h3
    exact w_vreturn C dX1_run_77 vc
  · have vc := vc.2 h3
    refine w_aload_n C 0 dX1_run_54 rfl ?_
    obtain ⟨sc4, vc⟩ := vc
    refine w_callVV C [] [] rfl dX1_run_55 (c_X1_lookAhead C.gi (xL X)  σ sc4) oc_26 mw_X1_lookAhead ml_X1_52 im_X1_lookAhead se_X1_lookAhead (by decide) (Nat.le_of_ble_eq_true rfl) (fun s5 hs5 => ?_)
    have vc := vc s5 hs5
    refine w_aload_n C 0 dX1_run_58 rfl ?_
    refine w_aload_n C 0 dX1_run_59 rfl ?_
    refine w_iload_n C 1 dX1_run_60 rfl ?_
    refine w_aload_n C 0 dX1_run_61 rfl ?_
    obtain ⟨sc6, vc⟩ := vc
    refine w_callVI C [] [pI x1, pR 26, pR 26] rfl dX1_run_62 (c_X1_firstToEnd C.gi (xL X)  s5 sc6) oc_26 mw_X1_firstToEnd ml_X1_55 im_X1_firstToEnd se_X1_firstToEnd (by decide) (Nat.le_of_ble_eq_true rfl) (fun z8 s7 hs7 => ?_)
    have vc := vc z8 s7 hs7
    obtain ⟨sc9, vc⟩ := vc
    refine w_callVI C [pI x1, pI z8] [pR 26] rfl dX1_run_65 (c_X1_choose C.gi (xL X) x1 z8 s7 sc9) oc_26 mw_X1_choose ml_X1_59 im_X1_choose se_X1_choose (by decide) (Nat.le_of_ble_eq_true rfl) (fun z11 s10 hs10 => ?_)
    have vc := vc z11 s10 hs10
    obtain ⟨sc12, vc⟩ := vc
    refine w_callVV C [pI z11] [] rfl dX1_run_68 (c_X1_append C.gi (xL X) z11 s10 sc12) oc_26 mw_X1_append ml_X1_63 im_X1_append se_X1_append (by decide) (Nat.le_of_ble_eq_true rfl) (fun s13 hs13 => ?_)
    have vc := vc s13 hs13
    refine w_iinc C 2 [(2, pI (w2 + 1)), (0, pR 26), (1, pI x1)] dX1_run_71 rfl (by decide) rfl ?_
    refine w_goto C 43 dX1_run_74 (by decide) ?_
    exact w_sub _ [1, 2, 0] rfl vc
set_option maxHeartbeats 1000000 in
theorem ok_X1_run_0 {M : Nat} {x1 : Int} {σ : Mem} {K43 : Int → Mem → Prop} (h : pre_X1_run M x1 σ) (hK43 : ∀ (y2 : Int) (τ' : Mem), inv_X1_run_43 M x1 σ y2 τ' → K43 y2 τ') : VC_X1_run_0 M K43 (post_X1_run M x1 σ) x1 σ := by
  obtain ⟨h, hr⟩ := h
  have hs := steps_in h
  have hF := FI_0 h
  obtain ⟨af, a1, a8, a10, a27, a28, a29, ao⟩ := fill0_acc σ
  refine ⟨⟨h.1.1.1, h.1.1.2.2.1⟩, fun s2 e2 => ⟨by unfold pre_J7_fill_53178; omega, fun s4 e4 s5 e5 => ⟨by unfold pre_J7_fill_53178; omega, fun s7 e7 => ?_⟩⟩⟩
  have e : s7 = fill0 σ := by rw [e7, e5, e4, e2]; rfl
  rw [e]
  refine hK43 _ _ ⟨by omega, by omega, fun c _ => rfl, hF, by rw [a1]; simp, fun c hc => ao c (by omega) (by omega)⟩
set_option maxHeartbeats 1000000 in
theorem ok_X1_run_43 {M : Nat} {x1 : Int} {σ : Mem} {w2 : Int} {τ : Mem} {K43 : Int → Mem → Prop} (h : pre_X1_run M x1 σ) (hinv : inv_X1_run_43 M x1 σ w2 τ) (hK43 : ∀ (y2 : Int) (τ' : Mem), inv_X1_run_43 M x1 σ y2 τ' → mu_X1_run_43 x1 y2 τ' < mu_X1_run_43 x1 w2 τ → K43 y2 τ') : VC_X1_run_43 M K43 (post_X1_run M x1 σ) x1 w2 τ := by
  obtain ⟨h, hr⟩ := h
  have hs := steps_in h
  obtain ⟨i1, i2, hc, hF, e12, ho⟩ := hinv
  have hFτ := FI_c hc hF
  refine ⟨⟨⟨by omega, by omega⟩, ⟨by omega, by omega⟩⟩, fun g => ?_, fun g => ⟨⟨w2, hFτ⟩, fun s5 h5 => ?_⟩⟩
  · have : w2 = σ 1 2 := by omega
    subst this
    exact ⟨hc, hF, ho⟩
  · obtain ⟨c5, b5⟩ := h5
    have hF5 := FI_c c5 hFτ
    obtain ⟨f, hf⟩ : ∃ f, f = fillN x1 (fill0 σ) w2.toNat := ⟨_, rfl⟩
    rw [← hf] at hc hF
    have cf : C30 f s5 := hc.trans c5
    have hm : ∀ j, hN f j → 0 ≤ f 6 (nxt f j) := fun j q => (hN_in hF q).2.2.2.2.2.2.2.2.1.1
    have b5' : ∀ j, hN s5 j → s5 30 j = bgF f j := fun j q => by
      have q' := (hN_c cf j).mp q
      rw [b5 j ((hN_c c5 j).mp q), bgF_c hc (hm j q')]
    have hb : ∀ j, hN s5 j → 0 ≤ s5 30 j ∧ s5 30 j ≤ 20000 := fun j q => by
      have := bgF_in hF ((hN_c cf j).mp q)
      rw [b5' j q]
      omega
    have eE : ∀ j, hN s5 j → f_X1_wouldEnd j s5 = enF f j := fun j q => by
      unfold f_X1_wouldEnd enF
      rw [b5' j q, nxt_c cf, cf 7 (by omega)]
    have eM : ∀ j, hN s5 j → f_X1_measure x1 j s5 = msF x1 f j := fun j q => by
      unfold f_X1_measure msF
      rw [nxt_c cf, cf 7 (by omega), cf 3 (by omega), cf 27 (by omega), cf 5 (by omega), b5' j q]
    have hmore := FI_more hF5 (n := w2) (by rw [c5 1 (by omega), e12]; omega)
    refine ⟨⟨w2, hF5, hmore, hb⟩, fun z8 s7 h7 => ?_⟩
    obtain ⟨e7, q8, m8⟩ := h7
    subst e7
    have fs8 : fsF f z8 := ⟨(hN_c cf z8).mp q8, fun i q => by
      have q' := (hN_c cf i).mpr q
      have := m8 i q'
      rw [eE z8 q8, eE i q'] at this
      exact this⟩
    refine ⟨⟨hr, q8, w2, hF5, hb⟩, fun z11 s10 h10 => ?_⟩
    obtain ⟨e10, r11, m11⟩ := h10
    subst e10
    have rveq : ∀ i, rvC z8 i s10 ↔ rvF f z8 i := fun i => by
      unfold rvC rvF
      rw [hN_c cf, nxt_c cf, nxt_c cf, cf 6 (by omega), eE z8 q8]
      constructor
      · rintro ⟨p1, p2, p3⟩
        refine ⟨p1, p2, ?_⟩
        rw [← b5' i ((hN_c cf i).mpr p1)]
        exact p3
      · rintro ⟨p1, p2, p3⟩
        refine ⟨p1, p2, ?_⟩
        rw [b5' i ((hN_c cf i).mpr p1)]
        exact p3
    have q11 := r11.1
    have ch11 : chF x1 f z8 z11 := ⟨(rveq z11).mp r11, fun i q => by
      have q' := (rveq i).mpr q
      have := m11 i q'
      rw [eM z11 q11, eM i q'.1] at this
      exact this⟩
    refine ⟨⟨q11, w2, hF5⟩, fun s13 e13 => ?_⟩
    have q11f := (hN_c cf z11).mp q11
    have hap : C30 (apF f z11) s13 := by
      rw [e13]
      unfold m_X1_append apF
      rw [nxt_c cf, cf 10 (by omega), cf 6 (by omega), cf 27 (by omega), eE z11 q11]
      exact up_c30 (up_c30 (up_c30 (ins_c30 cf _ _) _ _ _) _ _ _) _ _ _
    have hnx : fillN x1 (fill0 σ) (w2 + 1).toNat = apF f z11 := by
      rw [show (w2 + 1).toNat = w2.toNat + 1 by omega]
      show nextF x1 (fillN x1 (fill0 σ) w2.toNat) = _
      rw [← hf]
      exact nextF_eq fs8 ch11
    have hF' := FI_step hF q11f
    have hmf := hm z11 q11f
    obtain ⟨ac, a27, a28, a29⟩ := apF_acc f z11 hmf
    obtain ⟨af, a1, a8, a10, ar, ao⟩ := ins_acc (nxt f z11) (f 10 (f 6 (nxt f z11))) f hmf
    refine hK43 _ _ ⟨by omega, by omega, by rw [hnx]; exact hap, by rw [hnx]; exact hF', ?_, fun c hcc => ?_⟩ ?_
    · rw [hap 1 (by omega), ac 1 (by omega) (by omega) (by omega), a1]
      simp only [show ¬ (2 : Int) = 3 by omega, if_false]
      rw [← hc 1 (by omega)]
      exact e12
    · rw [hap c (by omega), ac c (by omega) (by omega) (by omega), ao c (by omega) (by omega), ← hc c (by omega)]
      exact ho c hcc
    · unfold mu_X1_run_43; omega
theorem c_X1_run {G : GG} (hG : GI G) (l : Launch) (x1 : Int) (σ : Mem) (h : pre_X1_run (gM G) x1 σ) : CtV G l yX1_run cX1_run 3 none 3 [pR 26, pI x1] σ (post_X1_run (gM G) x1 σ) := by
  refine CtV.of hG (by decide) (Nat.le_of_ble_eq_true rfl) (fun X hl C => ?_)
  show RW G X 3 (QV G X _) 0 [(0, pR 26), (1, pI x1)] [] σ
  have key : ∀ n : Nat, (∀ (w2 : Int) (τ : Mem), inv_X1_run_43 (gM G) x1 σ w2 τ → mu_X1_run_43 x1 w2 τ < n → RW G X 3 (QV G X (post_X1_run (gM G) x1 σ)) 43 [(0, pR 26), (1, pI x1), (2, pI w2)] [] τ) := by
    intro n
    induction n with
    | zero => exact fun w2 τ _ h0 => absurd h0 (Nat.not_lt_zero _)
    | succ n ih =>
      exact (fun w2 τ hinv h0 => seg_X1_run_43 C x1 w2 τ (ok_X1_run_43 h hinv (fun y2 τ' hi hm => ih y2 τ' hi (Nat.lt_of_lt_of_le hm (Nat.le_of_lt_succ h0)))))
  exact seg_X1_run_0 C x1 σ (ok_X1_run_0 h (fun y2 τ' hi => (key _) y2 τ' hi (Nat.lt_succ_self _)))
end
section
/-! sets as numbers -/
def pw (k : Int) : Int := 2 ^ k.toNat
def bt (S k : Int) : Prop := S / pw k % 2 = 1
theorem pw_c : pw 0 = 1 ∧ pw 1 = 2 ∧ pw 2 = 4 ∧ pw 3 = 8 ∧ pw 4 = 16 ∧ pw 5 = 32 ∧ pw 6 = 64 ∧ pw 7 = 128 ∧ pw 8 = 256 := by decide
theorem k_cases {k : Int} (h0 : 0 ≤ k) (h1 : k < 8) : k = 0 ∨ k = 1 ∨ k = 2 ∨ k = 3 ∨ k = 4 ∨ k = 5 ∨ k = 6 ∨ k = 7 := by omega
theorem bits_or0 : ∀ s : Nat, s < 256 → ∀ k : Nat, k < 8 → bOr (s : Int) (bShl 1 (k : Int)) = if (s : Int) / pw k % 2 = 1 then (s : Int) else s + pw k := by decide +kernel
theorem bits_shl0 : ∀ k : Nat, k < 9 → bShl 1 (k : Int) = pw k := by decide +kernel
theorem bits_and0 : ∀ s : Nat, s < 256 → ∀ k : Nat, k < 8 → bAnd (bShr (s : Int) (k : Int)) 1 = (s : Int) / pw k % 2 := by decide +kernel
theorem bits_not0 : ∀ s : Nat, s < 256 → ∀ k : Nat, k < 8 → (s : Int) / pw k % 2 = 1 → bAnd (s : Int) (bXor (bShl 1 (k : Int)) (-1)) = (s : Int) - pw k := by decide +kernel
theorem bits_or {S k : Int} (h0 : 0 ≤ S) (h1 : S < 256) (k0 : 0 ≤ k) (k1 : k < 8) : (bt S k → bOr S (bShl 1 k) = S) ∧ (¬ bt S k → bOr S (bShl 1 k) = S + pw k) := by
  obtain ⟨s, rfl⟩ := Int.eq_ofNat_of_zero_le h0
  obtain ⟨j, rfl⟩ := Int.eq_ofNat_of_zero_le k0
  have := bits_or0 s (by omega) j (by omega)
  rw [this]
  exact ⟨fun h => if_pos h, fun h => if_neg h⟩
theorem bits_shl {k : Int} (k0 : 0 ≤ k) (k1 : k < 9) : bShl 1 k = pw k := by
  obtain ⟨j, rfl⟩ := Int.eq_ofNat_of_zero_le k0
  exact bits_shl0 j (by omega)
theorem bits_and {S k : Int} (h0 : 0 ≤ S) (h1 : S < 256) (k0 : 0 ≤ k) (k1 : k < 8) : bAnd (bShr S k) 1 = S / pw k % 2 := by
  obtain ⟨s, rfl⟩ := Int.eq_ofNat_of_zero_le h0
  obtain ⟨j, rfl⟩ := Int.eq_ofNat_of_zero_le k0
  exact bits_and0 s (by omega) j (by omega)
theorem bits_not {S k : Int} (h0 : 0 ≤ S) (h1 : S < 256) (k0 : 0 ≤ k) (k1 : k < 8) (h : bt S k) : bAnd S (bXor (bShl 1 k) (-1)) = S - pw k := by
  obtain ⟨s, rfl⟩ := Int.eq_ofNat_of_zero_le h0
  obtain ⟨j, rfl⟩ := Int.eq_ofNat_of_zero_le k0
  exact bits_not0 s (by omega) j (by omega) h
theorem pw_pos {k : Int} (k0 : 0 ≤ k) (k1 : k < 9) : 1 ≤ pw k ∧ pw k ≤ 256 := by
  obtain ⟨e0, e1, e2, e3, e4, e5, e6, e7, e8⟩ := pw_c
  rcases (show k = 8 ∨ k < 8 by omega) with rfl | h
  · omega
  · rcases k_cases k0 h with rfl | rfl | rfl | rfl | rfl | rfl | rfl | rfl <;> omega
theorem pw_s {k : Int} (k0 : 0 ≤ k) (k1 : k < 8) : pw (k + 1) = 2 * pw k := by
  unfold pw
  rw [show (k + 1).toNat = k.toNat + 1 by omega, Int.pow_succ]
  omega
/-- adding a bit that isn't there -/
theorem bt_add {S k : Int} (h0 : 0 ≤ S) (k0 : 0 ≤ k) (k1 : k < 8) (h : ¬ bt S k) : bt (S + pw k) k := by
  obtain ⟨e0, e1, e2, e3, e4, e5, e6, e7, e8⟩ := pw_c
  unfold bt at *
  rcases k_cases k0 k1 with rfl | rfl | rfl | rfl | rfl | rfl | rfl | rfl <;> simp only [e0, e1, e2, e3, e4, e5, e6, e7] at * <;> omega
theorem bt_add_ne {S k i : Int} (h0 : 0 ≤ S) (k0 : 0 ≤ k) (k1 : k < 8) (i0 : 0 ≤ i) (i1 : i < 8) (h : ¬ bt S k) (hne : i ≠ k) : bt (S + pw k) i ↔ bt S i := by
  obtain ⟨e0, e1, e2, e3, e4, e5, e6, e7, e8⟩ := pw_c
  unfold bt at *
  rcases k_cases k0 k1 with rfl | rfl | rfl | rfl | rfl | rfl | rfl | rfl <;> rcases k_cases i0 i1 with rfl | rfl | rfl | rfl | rfl | rfl | rfl | rfl <;> simp only [e0, e1, e2, e3, e4, e5, e6, e7] at * <;> omega
theorem bt_sub {S k : Int} (h0 : 0 ≤ S) (k0 : 0 ≤ k) (k1 : k < 8) (h : bt S k) : pw k ≤ S ∧ ¬ bt (S - pw k) k := by
  obtain ⟨e0, e1, e2, e3, e4, e5, e6, e7, e8⟩ := pw_c
  unfold bt at *
  rcases k_cases k0 k1 with rfl | rfl | rfl | rfl | rfl | rfl | rfl | rfl <;> simp only [e0, e1, e2, e3, e4, e5, e6, e7] at * <;> omega
theorem bt_room {S k n : Int} (h0 : 0 ≤ S) (n0 : 0 ≤ n) (n1 : n ≤ 8) (hS : S < pw n) (k0 : 0 ≤ k) (k1 : k < n) (h : ¬ bt S k) : S + pw k < pw n := by
  obtain ⟨e0, e1, e2, e3, e4, e5, e6, e7, e8⟩ := pw_c
  unfold bt at *
  rcases (show n = 0 ∨ n = 1 ∨ n = 2 ∨ n = 3 ∨ n = 4 ∨ n = 5 ∨ n = 6 ∨ n = 7 ∨ n = 8 by omega) with rfl | rfl | rfl | rfl | rfl | rfl | rfl | rfl | rfl <;> rcases k_cases k0 (by omega) with rfl | rfl | rfl | rfl | rfl | rfl | rfl | rfl <;> simp only [e0, e1, e2, e3, e4, e5, e6, e7, e8] at * <;> omega
theorem bt_full {k n : Int} (n1 : n ≤ 8) (k0 : 0 ≤ k) (k1 : k < n) : bt (pw n - 1) k := by
  obtain ⟨e0, e1, e2, e3, e4, e5, e6, e7, e8⟩ := pw_c
  unfold bt
  rcases (show n = 1 ∨ n = 2 ∨ n = 3 ∨ n = 4 ∨ n = 5 ∨ n = 6 ∨ n = 7 ∨ n = 8 by omega) with rfl | rfl | rfl | rfl | rfl | rfl | rfl | rfl <;> rcases k_cases k0 (by omega) with rfl | rfl | rfl | rfl | rfl | rfl | rfl | rfl <;> simp only [e0, e1, e2, e3, e4, e5, e6, e7, e8] <;> omega
theorem bt_low {k : Int} (k0 : 0 ≤ k) (k1 : k < 8) : ¬ bt (pw k - 1) k := by
  obtain ⟨e0, e1, e2, e3, e4, e5, e6, e7, e8⟩ := pw_c
  unfold bt
  rcases k_cases k0 k1 with rfl | rfl | rfl | rfl | rfl | rfl | rfl | rfl <;> simp only [e0, e1, e2, e3, e4, e5, e6, e7, e8] <;> omega
theorem bt_zero (k : Int) : ¬ bt 0 k := by unfold bt; simp
/-! orders of one machine's steps, the last one first -/
def sqE (h t : Int → Int) : List Int → Int
  | [] => 0
  | k :: ks => max (sqE h t ks) (h k) + t k
def sqOk (h t q : Int → Int) (L : Int) : List Int → Prop
  | [] => True
  | k :: ks => sqOk h t q L ks ∧ sqE h t (k :: ks) + q k ≤ L
def sqS : List Int → Int
  | [] => 0
  | k :: ks => sqS ks + pw k
def sqW (n : Int) : List Int → Prop
  | [] => True
  | k :: ks => sqW n ks ∧ 0 ≤ k ∧ k < n ∧ ¬ bt (sqS ks) k
def Fit (n : Int) (h t q : Int → Int) (L : Int) : Prop := ∃ l : List Int, sqW n l ∧ sqOk h t q L l ∧ sqS l = pw n - 1
/-- the machine's bound -/
def IsB (n : Int) (h t q : Int → Int) (b : Int) : Prop := 0 ≤ b ∧ Fit n h t q b ∧ ∀ L : Int, 0 ≤ L → L < b → ¬ Fit n h t q L
theorem IsB_uniq {n : Int} {h t q : Int → Int} {b b' : Int} (x : IsB n h t q b) (y : IsB n h t q b') : b = b' := by
  apply Classical.byContradiction
  intro e
  rcases (show b < b' ∨ b' < b by omega) with z | z
  · exact y.2.2 b x.1 z x.2.1
  · exact x.2.2 b' y.1 z y.2.1
theorem sqS_in {n : Int} (n0 : 0 ≤ n) (n1 : n ≤ 8) : ∀ l : List Int, sqW n l → 0 ≤ sqS l ∧ sqS l < pw n
  | [], _ => by have := pw_pos n0 (by omega); simp only [sqS]; omega
  | k :: ks, h => by
    obtain ⟨h1, h2, h3, h4⟩ := h
    have ih := sqS_in n0 n1 ks h1
    have := bt_room ih.1 n0 n1 ih.2 h2 h3 h4
    have := pw_pos h2 (by omega)
    simp only [sqS]
    omega
theorem sqOk_mono {h t q : Int → Int} {L L' : Int} (hL : L ≤ L') : ∀ l : List Int, sqOk h t q L l → sqOk h t q L' l
  | [], _ => trivial
  | k :: ks, x => ⟨sqOk_mono hL ks x.1, by have := x.2; omega⟩
theorem Fit_mono {n : Int} {h t q : Int → Int} {L L' : Int} (hL : L ≤ L') : Fit n h t q L → Fit n h t q L' := fun ⟨l, a, b, c⟩ => ⟨l, a, sqOk_mono hL l b, c⟩
theorem sqE_ge {h t : Int → Int} (ht : ∀ k, 0 ≤ t k) : ∀ l : List Int, 0 ≤ sqE h t l
  | [] => Int.le_refl _
  | k :: ks => by have := sqE_ge (h := h) ht ks; have := ht k; simp only [sqE]; omega
theorem sqE_ge' {n : Int} {h t : Int → Int} (ht : ∀ k, 0 ≤ k → k < n → 0 ≤ t k) : ∀ l : List Int, sqW n l → 0 ≤ sqE h t l
  | [], _ => Int.le_refl _
  | k :: ks, w => by have := sqE_ge' (h := h) ht ks w.1; have := ht k w.2.1 w.2.2.1; simp only [sqE]; omega
theorem Fit_low {n : Int} {h t q : Int → Int} {L : Int} (n0 : 0 ≤ n) (n1 : n ≤ 8) (x : Fit n h t q L) {k : Int} (k0 : 0 ≤ k) (k1 : k < n) : h k + t k + q k ≤ L := by
  obtain ⟨l, a, b, c⟩ := x
  have key : ∀ l : List Int, sqW n l → sqOk h t q L l → bt (sqS l) k → h k + t k + q k ≤ L := by
    intro l
    induction l with
    | nil => intro _ _ z; exact absurd z (bt_zero k)
    | cons k' ks ih =>
      intro w o z
      obtain ⟨w1, w2, w3, w4⟩ := w
      have hb := sqS_in n0 n1 ks w1
      by_cases e : k = k'
      · subst e
        have := o.2
        simp only [sqE] at this
        omega
      · exact ih w1 o.1 ((bt_add_ne hb.1 w2 (by omega) k0 (by omega) w4 e).mp z)
  exact key l a b (by rw [c]; exact bt_full n1 k0 k1)
/-- one behind the other in the order of their numbers -/
def preL : Nat → List Int
  | 0 => []
  | k + 1 => (k : Int) :: preL k
theorem preL_ok {n : Int} (n1 : n ≤ 8) : ∀ k : Nat, (k : Int) ≤ n → sqW n (preL k) ∧ sqS (preL k) = pw k - 1
  | 0, _ => ⟨trivial, by decide⟩
  | k + 1, hk => by
    have ih := preL_ok n1 k (by omega)
    have e := pw_s (k := (k : Int)) (by omega) (by omega)
    refine ⟨⟨ih.1, by omega, by omega, ?_⟩, ?_⟩
    · rw [ih.2]; exact bt_low (by omega) (by omega)
    · show sqS (preL k) + pw k = pw ((k + 1 : Nat) : Int) - 1
      rw [ih.2, show ((k + 1 : Nat) : Int) = (k : Int) + 1 by omega, e]
      omega
theorem Fit_congr {n : Int} {h t q h' t' q' : Int → Int} {L : Int} (e : ∀ k : Int, 0 ≤ k → k < n → h k = h' k ∧ t k = t' k ∧ q k = q' k) (x : Fit n h t q L) : Fit n h' t' q' L := by
  obtain ⟨l, a, b, c⟩ := x
  have key : ∀ l : List Int, sqW n l → sqE h t l = sqE h' t' l ∧ (sqOk h t q L l → sqOk h' t' q' L l) := by
    intro l
    induction l with
    | nil => intro _; exact ⟨rfl, id⟩
    | cons k ks ih =>
      intro w
      obtain ⟨w1, w2, w3, w4⟩ := w
      obtain ⟨i1, i2⟩ := ih w1
      obtain ⟨e1, e2, e3⟩ := e k w2 w3
      have ee : sqE h t (k :: ks) = sqE h' t' (k :: ks) := by simp only [sqE]; rw [i1, e1, e2]
      exact ⟨ee, fun o => ⟨i2 o.1, by rw [← ee, ← e3]; exact o.2⟩⟩
  exact ⟨l, a, (key l a).2 b, c⟩
theorem IsB_congr {n : Int} {h t q h' t' q' : Int → Int} {b : Int} (e : ∀ k : Int, 0 ≤ k → k < n → h k = h' k ∧ t k = t' k ∧ q k = q' k) (x : IsB n h t q b) : IsB n h' t' q' b :=
  ⟨x.1, Fit_congr e x.2.1, fun L l0 l1 z => x.2.2 L l0 l1 (Fit_congr (fun k k0 k1 => ⟨(e k k0 k1).1.symm, (e k k0 k1).2.1.symm, (e k k0 k1).2.2.symm⟩) z)⟩
/-! the steps of a machine, in the order of their numbers -/
def oc (a : Mem) (m s : Int) : Int := if s / 10 < a 1 1 ∧ s % 10 < a 5 (s / 10) ∧ a 6 s = m then 1 else 0
def cU (a : Mem) (m u : Int) : Int := sumI (oc a m) 0 u
def ow (a : Mem) (m s : Int) : Prop := VS a s ∧ a 6 s = m
def hdA (a : Mem) (s : Int) : Int := a 2 (s / 10) + sumI (fun p => a 7 (10 * (s / 10) + p)) 0 (s % 10)
def tlA (a : Mem) (s : Int) : Int := sumI (fun p => a 7 (10 * (s / 10) + p)) (s % 10 + 1) (a 5 (s / 10))
def colR (a : Mem) (m : Int) (h t q : Int → Int) : Prop := ∀ s : Int, ow a m s → h (cU a m s) = hdA a s ∧ t (cU a m s) = a 7 s ∧ q (cU a m s) = tlA a s
/-- THE BOUND of machine m is b -/
def BND (a : Mem) (m b : Int) : Prop := ∃ h t q : Int → Int, colR a m h t q ∧ IsB (cU a m 80) h t q b
theorem cU_s (a : Mem) (m : Int) {u : Int} (h : 0 ≤ u) : cU a m (u + 1) = cU a m u + oc a m u := sumI_s _ h
theorem oc_ow {a : Mem} {m s : Int} (h : ow a m s) : oc a m s = 1 := if_pos ⟨h.1.2.1, h.1.2.2, h.2⟩
theorem oc_no {a : Mem} {m s : Int} (h0 : 0 ≤ s) (h : ¬ ow a m s) : oc a m s = 0 := if_neg (fun z => h ⟨⟨h0, z.1, z.2.1⟩, z.2.2⟩)
theorem oc_in (a : Mem) (m s : Int) : 0 ≤ oc a m s ∧ oc a m s ≤ 1 := by unfold oc; split <;> omega
theorem cU_mono {a : Mem} {m u v : Int} (h0 : 0 ≤ u) (h : u ≤ v) : cU a m u ≤ cU a m v := by
  obtain ⟨k, hk⟩ : ∃ k : Nat, v = u + k := ⟨(v - u).toNat, by omega⟩
  subst hk
  clear h
  induction k with
  | zero => simp
  | succ k ih =>
    rw [show u + ((k + 1 : Nat) : Int) = u + k + 1 by omega, cU_s _ _ (by omega)]
    have := oc_in a m (u + k)
    omega
theorem cU_0 (a : Mem) (m : Int) : cU a m 0 = 0 := sumI_0 _ (by omega)
theorem cU_ge {a : Mem} {m u : Int} (h : 0 ≤ u) : 0 ≤ cU a m u := by have := cU_mono (a := a) (m := m) (Int.le_refl 0) h; rw [cU_0] at this; exact this
/-- each number below the count is a step's -/
theorem cU_sur {a : Mem} {m : Int} : ∀ n : Nat, ∀ k : Int, 0 ≤ k → k < cU a m n → ∃ s : Int, 0 ≤ s ∧ s < n ∧ ow a m s ∧ cU a m s = k := by
  intro n
  induction n with
  | zero => intro k h0 h1; rw [show ((0 : Nat) : Int) = 0 from rfl, cU_0] at h1; omega
  | succ n ih =>
    intro k h0 h1
    rw [show ((n + 1 : Nat) : Int) = (n : Int) + 1 by omega, cU_s _ _ (by omega)] at h1
    by_cases e : k < cU a m n
    · obtain ⟨s, s0, s1, s2, s3⟩ := ih k h0 e
      exact ⟨s, s0, by omega, s2, s3⟩
    · have hi := oc_in a m n
      have e1 : oc a m n = 1 := by omega
      have : ow a m n := by
        apply Classical.byContradiction
        intro z
        have := oc_no (a := a) (m := m) (s := (n : Int)) (by omega) z
        omega
      exact ⟨n, by omega, by omega, this, by omega⟩
theorem cU_in {M : Nat} {a : Mem} {m s : Int} (hB : SB M a) (h : ow a m s) : 0 ≤ cU a m s ∧ cU a m s < cU a m 80 := by
  have hb := VS_in hB h.1
  refine ⟨cU_ge hb.1, ?_⟩
  have := cU_mono (a := a) (m := m) (u := s + 1) (v := 80) (by omega) (by omega)
  rw [cU_s _ _ hb.1, oc_ow h] at this
  omega
theorem BND_uniq {a : Mem} {m b b' : Int} (x : BND a m b) (y : BND a m b') : b = b' := by
  obtain ⟨h, t, q, c, z⟩ := x
  obtain ⟨h', t', q', c', z'⟩ := y
  refine IsB_uniq z (IsB_congr (fun k k0 k1 => ?_) z')
  obtain ⟨s, s0, s1, s2, s3⟩ := cU_sur (a := a) (m := m) 80 k k0 k1
  have x1 := c s s2
  have x2 := c' s s2
  rw [s3] at x1 x2
  exact ⟨x2.1.trans x1.1.symm, x2.2.1.trans x1.2.1.symm, x2.2.2.trans x1.2.2.symm⟩
theorem SE_ow {a b : Mem} (h : SE a b) (m s : Int) : ow a m s ↔ ow b m s := by unfold ow; rw [SE_VS h, h 6 (by omega)]
theorem SE_cU {a b : Mem} (h : SE a b) (m u : Int) : cU a m u = cU b m u := by
  unfold cU
  refine sumI_congr (fun i _ _ => ?_)
  unfold oc
  rw [h 1 (by omega), h 5 (by omega), h 6 (by omega)]
theorem SE_BND {a b : Mem} (g : SE a b) {m z : Int} (x : BND a m z) : BND b m z := by
  obtain ⟨h, t, q, c, y⟩ := x
  refine ⟨h, t, q, fun s hs => ?_, by rw [← SE_cU g]; exact y⟩
  have := c s ((SE_ow g m s).mpr hs)
  unfold hdA tlA at *
  rw [← SE_cU g, ← g 2 (by omega), ← g 7 (by omega), ← g 5 (by omega)]
  exact this
theorem hd_in {M : Nat} {a : Mem} (hN : WN M a) {s : Int} (hs : VS a s) : (0 ≤ hdA a s ∧ hdA a s ≤ 1300) ∧ (0 ≤ tlA a s ∧ tlA a s ≤ 300) ∧ (0 ≤ a 7 s ∧ a 7 s ≤ 50) := by
  have hb := VS_in hN.1 hs
  have h2 := (hN.2.1 _ hb.2.2.1 hb.2.2.2.1).1
  have h5 := hN.1.2.2.2.2.1 _ hb.2.2.1 hb.2.2.2.1
  have a1 := sumI_bd (f := fun p => a 7 (10 * (s / 10) + p)) (lo := 0) (hi := s % 10) (B := 50) (by omega) (fun p p1 p2 => (hN.2.2.2.1 (10 * (s / 10) + p) (by omega) (by omega)).2) 6 (by omega)
  have a2 := sumI_bd (f := fun p => a 7 (10 * (s / 10) + p)) (lo := s % 10 + 1) (hi := a 5 (s / 10)) (B := 50) (by omega) (fun p p1 p2 => (hN.2.2.2.1 (10 * (s / 10) + p) (by omega) (by omega)).2) 6 (by omega)
  unfold hdA tlA
  exact ⟨⟨by omega, by omega⟩, ⟨by omega, by omega⟩, (hN.2.2.2.1 s hb.1 hb.2.1).2⟩
end
