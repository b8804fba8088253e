abbrev dfX0 : List Value := [.null, .null, .int (oI 0), .null, .null, .null, .null]
abbrev dfX1 : List Value := [.null, .null, .null, .null, .null]
abbrev dfX2 : List Value := [.null, .int (oI 0), .null, .null, .null, .null, .int (oI 0), .null, .null]
abbrev dfX3 : List Value := [.int (oI 0), .int (oI 0), .int (oI 0), .int (oI 0), .null, .null, .null, .null, .null, .null, .null, .null, .null, .null]
abbrev dfX4 : List Value := [.null, .null, .null, .null, .null]
abbrev dfX5 : List Value := [.int (oI 0), .int (oI 0), .int (oI 0), .null, .null, .null, .null, .null, .null, .null, .null, .null, .null, .null, .null, .int (oI 0), .int (oI 0), .null, .null, .null, .null, .int (oI 0), .null, .null]
theorem pr_X0_9 : PFr RX0 9 0 1 (.array .int) := ⟨RX0, TX0, 7, tyX0, rfl, inB0, by decide, TB_of 222 (by decide +kernel) rfl, tyX0_ok, nmX0, rfl, rfl, by decide +kernel⟩
theorem pr_X0_19 : PFr RX0 19 0 3 (.array .int) := ⟨RX0, TX0, 7, tyX0, rfl, inB0, by decide, TB_of 224 (by decide +kernel) rfl, tyX0_ok, nmX0, rfl, rfl, by decide +kernel⟩
theorem pr_X0_22 : PFr RX0 22 0 4 (.array .int) := ⟨RX0, TX0, 7, tyX0, rfl, inB0, by decide, TB_of 225 (by decide +kernel) rfl, tyX0_ok, nmX0, rfl, rfl, by decide +kernel⟩
theorem pr_X0_25 : PFr RX0 25 0 5 (.array .int) := ⟨RX0, TX0, 7, tyX0, rfl, inB0, by decide, TB_of 226 (by decide +kernel) rfl, tyX0_ok, nmX0, rfl, rfl, by decide +kernel⟩
theorem pr_X0_28 : PFr RX0 28 0 6 (.array .int) := ⟨RX0, TX0, 7, tyX0, rfl, inB0, by decide, TB_of 227 (by decide +kernel) rfl, tyX0_ok, nmX0, rfl, rfl, by decide +kernel⟩
theorem pr_X0_31 : PFr RX0 31 0 0 (.object "ShopRules$Shop") := ⟨RX0, TX0, 7, tyX0, rfl, inB0, by decide, TB_of 221 (by decide +kernel) rfl, tyX0_ok, nmX0, rfl, rfl, by decide +kernel⟩
theorem pr_X1_9 : PFr RX1 9 1 1 (.array .int) := ⟨RX1, TX1, 5, tyX1, rfl, inB1, by decide, TB_of 197 (by decide +kernel) rfl, tyX1_ok, nmX1, rfl, rfl, by decide +kernel⟩
theorem pr_X1_15 : PFr RX1 15 1 2 (.array .int) := ⟨RX1, TX1, 5, tyX1, rfl, inB1, by decide, TB_of 198 (by decide +kernel) rfl, tyX1_ok, nmX1, rfl, rfl, by decide +kernel⟩
theorem pr_X1_18 : PFr RX1 18 1 3 (.array .int) := ⟨RX1, TX1, 5, tyX1, rfl, inB1, by decide, TB_of 199 (by decide +kernel) rfl, tyX1_ok, nmX1, rfl, rfl, by decide +kernel⟩
theorem pr_X1_21 : PFr RX1 21 1 4 (.array .int) := ⟨RX1, TX1, 5, tyX1, rfl, inB1, by decide, TB_of 200 (by decide +kernel) rfl, tyX1_ok, nmX1, rfl, rfl, by decide +kernel⟩
theorem pr_X1_24 : PFr RX1 24 1 0 (.object "ShopRules$Shop") := ⟨RX1, TX1, 5, tyX1, rfl, inB1, by decide, TB_of 196 (by decide +kernel) rfl, tyX1_ok, nmX1, rfl, rfl, by decide +kernel⟩
theorem pr_X2_15 : PFr RX2 15 2 2 (.array .int) := ⟨RX2, TX2, 9, tyX2, rfl, inB2, by decide, TB_of 163 (by decide +kernel) rfl, tyX2_ok, nmX2, rfl, rfl, by decide +kernel⟩
theorem pr_X2_19 : PFr RX2 19 2 3 (.array .int) := ⟨RX2, TX2, 9, tyX2, rfl, inB2, by decide, TB_of 165 (by decide +kernel) rfl, tyX2_ok, nmX2, rfl, rfl, by decide +kernel⟩
theorem pr_X2_22 : PFr RX2 22 2 4 (.array .int) := ⟨RX2, TX2, 9, tyX2, rfl, inB2, by decide, TB_of 166 (by decide +kernel) rfl, tyX2_ok, nmX2, rfl, rfl, by decide +kernel⟩
theorem pr_X2_25 : PFr RX2 25 2 5 (.array .int) := ⟨RX2, TX2, 9, tyX2, rfl, inB2, by decide, TB_of 167 (by decide +kernel) rfl, tyX2_ok, nmX2, rfl, rfl, by decide +kernel⟩
theorem pr_X2_31 : PFr RX2 31 2 7 (.array .int) := ⟨RX2, TX2, 9, tyX2, rfl, inB2, by decide, TB_of 169 (by decide +kernel) rfl, tyX2_ok, nmX2, rfl, rfl, by decide +kernel⟩
theorem pr_X2_34 : PFr RX2 34 2 8 (.array .int) := ⟨RX2, TX2, 9, tyX2, rfl, inB2, by decide, TB_of 170 (by decide +kernel) rfl, tyX2_ok, nmX2, rfl, rfl, by decide +kernel⟩
theorem pr_X2_37 : PFr RX2 37 2 0 (.object "ShopRules$Shop") := ⟨RX2, TX2, 9, tyX2, rfl, inB2, by decide, TB_of 160 (by decide +kernel) rfl, tyX2_ok, nmX2, rfl, rfl, by decide +kernel⟩
theorem pr_X3_21 : PFr RX3 21 3 4 (.array .int) := ⟨RX3, TX3, 14, tyX3, rfl, inB3, by decide, TB_of 89 (by decide +kernel) rfl, tyX3_ok, nmX3, rfl, rfl, by decide +kernel⟩
theorem pr_X3_25 : PFr RX3 25 3 5 (.array .int) := ⟨RX3, TX3, 14, tyX3, rfl, inB3, by decide, TB_of 93 (by decide +kernel) rfl, tyX3_ok, nmX3, rfl, rfl, by decide +kernel⟩
theorem pr_X3_28 : PFr RX3 28 3 6 (.array .int) := ⟨RX3, TX3, 14, tyX3, rfl, inB3, by decide, TB_of 96 (by decide +kernel) rfl, tyX3_ok, nmX3, rfl, rfl, by decide +kernel⟩
theorem pr_X3_31 : PFr RX3 31 3 7 (.array .int) := ⟨RX3, TX3, 14, tyX3, rfl, inB3, by decide, TB_of 98 (by decide +kernel) rfl, tyX3_ok, nmX3, rfl, rfl, by decide +kernel⟩
theorem pr_X3_34 : PFr RX3 34 3 8 (.array .int) := ⟨RX3, TX3, 14, tyX3, rfl, inB3, by decide, TB_of 103 (by decide +kernel) rfl, tyX3_ok, nmX3, rfl, rfl, by decide +kernel⟩
theorem pr_X3_37 : PFr RX3 37 3 9 (.array .int) := ⟨RX3, TX3, 14, tyX3, rfl, inB3, by decide, TB_of 108 (by decide +kernel) rfl, tyX3_ok, nmX3, rfl, rfl, by decide +kernel⟩
theorem pr_X3_40 : PFr RX3 40 3 10 (.array .boolean) := ⟨RX3, TX3, 14, tyX3, rfl, inB3, by decide, TB_of 112 (by decide +kernel) rfl, tyX3_ok, nmX3, rfl, rfl, by decide +kernel⟩
theorem pr_X3_44 : PFr RX3 44 3 0 .int := ⟨RX3, TX3, 14, tyX3, rfl, inB3, by decide, TB_of 75 (by decide +kernel) rfl, tyX3_ok, nmX3, rfl, rfl, by decide +kernel⟩
theorem pr_X3_49 : PFr RX3 49 3 11 (.array (.array .int)) := ⟨RX3, TX3, 14, tyX3, rfl, inB3, by decide, TB_of 114 (by decide +kernel) rfl, tyX3_ok, nmX3, rfl, rfl, by decide +kernel⟩
theorem pr_X3_52 : PFr RX3 52 3 12 (.array .int) := ⟨RX3, TX3, 14, tyX3, rfl, inB3, by decide, TB_of 118 (by decide +kernel) rfl, tyX3_ok, nmX3, rfl, rfl, by decide +kernel⟩
theorem pr_X3_55 : PFr RX3 55 3 13 (.array .int) := ⟨RX3, TX3, 14, tyX3, rfl, inB3, by decide, TB_of 122 (by decide +kernel) rfl, tyX3_ok, nmX3, rfl, rfl, by decide +kernel⟩
theorem pr_X4_25 : PFr RX4 25 4 0 (.object "ShopRules$Shop") := ⟨RX4, TX4, 5, tyX4, rfl, inB4, by decide, TB_of 243 (by decide +kernel) rfl, tyX4_ok, nmX4, rfl, rfl, by decide +kernel⟩
theorem pr_X4_34 : PFr RX4 34 4 1 (.object "ShopRules$Plan") := ⟨RX4, TX4, 5, tyX4, rfl, inB4, by decide, TB_of 244 (by decide +kernel) rfl, tyX4_ok, nmX4, rfl, rfl, by decide +kernel⟩
theorem pr_X4_38 : PFr RX4 38 4 2 (.object "ShopRules$Plan") := ⟨RX4, TX4, 5, tyX4, rfl, inB4, by decide, TB_of 245 (by decide +kernel) rfl, tyX4_ok, nmX4, rfl, rfl, by decide +kernel⟩
theorem pr_X4_44 : PFr RX4 44 4 3 (.object "ShopRules$Filling") := ⟨RX4, TX4, 5, tyX4, rfl, inB4, by decide, TB_of 246 (by decide +kernel) rfl, tyX4_ok, nmX4, rfl, rfl, by decide +kernel⟩
theorem pr_X4_51 : PFr RX4 51 4 4 (.object "ShopRules$Bounds") := ⟨RX4, TX4, 5, tyX4, rfl, inB4, by decide, TB_of 247 (by decide +kernel) rfl, tyX4_ok, nmX4, rfl, rfl, by decide +kernel⟩
theorem pr_X5_7 : PFr RX5 7 5 3 (.array .int) := ⟨RX5, TX5, 24, tyX5, rfl, inB5, by decide, TB_of 621 (by decide +kernel) rfl, tyX5_ok, nmX5, rfl, rfl, by decide +kernel⟩
theorem pr_X5_13 : PFr RX5 13 5 4 (.array .int) := ⟨RX5, TX5, 24, tyX5, rfl, inB5, by decide, TB_of 622 (by decide +kernel) rfl, tyX5_ok, nmX5, rfl, rfl, by decide +kernel⟩
theorem pr_X5_16 : PFr RX5 16 5 5 (.array .int) := ⟨RX5, TX5, 24, tyX5, rfl, inB5, by decide, TB_of 623 (by decide +kernel) rfl, tyX5_ok, nmX5, rfl, rfl, by decide +kernel⟩
theorem pr_X5_19 : PFr RX5 19 5 6 (.array .int) := ⟨RX5, TX5, 24, tyX5, rfl, inB5, by decide, TB_of 624 (by decide +kernel) rfl, tyX5_ok, nmX5, rfl, rfl, by decide +kernel⟩
theorem pr_X5_22 : PFr RX5 22 5 7 (.array .int) := ⟨RX5, TX5, 24, tyX5, rfl, inB5, by decide, TB_of 625 (by decide +kernel) rfl, tyX5_ok, nmX5, rfl, rfl, by decide +kernel⟩
theorem pr_X5_25 : PFr RX5 25 5 8 (.array .int) := ⟨RX5, TX5, 24, tyX5, rfl, inB5, by decide, TB_of 626 (by decide +kernel) rfl, tyX5_ok, nmX5, rfl, rfl, by decide +kernel⟩
theorem pr_X5_28 : PFr RX5 28 5 9 (.array .boolean) := ⟨RX5, TX5, 24, tyX5, rfl, inB5, by decide, TB_of 627 (by decide +kernel) rfl, tyX5_ok, nmX5, rfl, rfl, by decide +kernel⟩
theorem pr_X5_32 : PFr RX5 32 5 10 (.array .int) := ⟨RX5, TX5, 24, tyX5, rfl, inB5, by decide, TB_of 628 (by decide +kernel) rfl, tyX5_ok, nmX5, rfl, rfl, by decide +kernel⟩
theorem pr_X5_35 : PFr RX5 35 5 11 (.array .int) := ⟨RX5, TX5, 24, tyX5, rfl, inB5, by decide, TB_of 629 (by decide +kernel) rfl, tyX5_ok, nmX5, rfl, rfl, by decide +kernel⟩
theorem pr_X5_38 : PFr RX5 38 5 12 (.array .int) := ⟨RX5, TX5, 24, tyX5, rfl, inB5, by decide, TB_of 630 (by decide +kernel) rfl, tyX5_ok, nmX5, rfl, rfl, by decide +kernel⟩
theorem pr_X5_41 : PFr RX5 41 5 13 (.array .int) := ⟨RX5, TX5, 24, tyX5, rfl, inB5, by decide, TB_of 631 (by decide +kernel) rfl, tyX5_ok, nmX5, rfl, rfl, by decide +kernel⟩
theorem pr_X5_44 : PFr RX5 44 5 14 (.array .int) := ⟨RX5, TX5, 24, tyX5, rfl, inB5, by decide, TB_of 632 (by decide +kernel) rfl, tyX5_ok, nmX5, rfl, rfl, by decide +kernel⟩
theorem pr_X5_47 : PFr RX5 47 5 17 (.array .boolean) := ⟨RX5, TX5, 24, tyX5, rfl, inB5, by decide, TB_of 635 (by decide +kernel) rfl, tyX5_ok, nmX5, rfl, rfl, by decide +kernel⟩
theorem pr_X5_50 : PFr RX5 50 5 18 (.array .int) := ⟨RX5, TX5, 24, tyX5, rfl, inB5, by decide, TB_of 636 (by decide +kernel) rfl, tyX5_ok, nmX5, rfl, rfl, by decide +kernel⟩
theorem pr_X5_53 : PFr RX5 53 5 19 (.array .int) := ⟨RX5, TX5, 24, tyX5, rfl, inB5, by decide, TB_of 637 (by decide +kernel) rfl, tyX5_ok, nmX5, rfl, rfl, by decide +kernel⟩
theorem pr_X5_56 : PFr RX5 56 5 20 (.array .int) := ⟨RX5, TX5, 24, tyX5, rfl, inB5, by decide, TB_of 638 (by decide +kernel) rfl, tyX5_ok, nmX5, rfl, rfl, by decide +kernel⟩
theorem pr_X5_59 : PFr RX5 59 5 22 (.array .int) := ⟨RX5, TX5, 24, tyX5, rfl, inB5, by decide, TB_of 640 (by decide +kernel) rfl, tyX5_ok, nmX5, rfl, rfl, by decide +kernel⟩
theorem pr_X5_62 : PFr RX5 62 5 23 (.array .int) := ⟨RX5, TX5, 24, tyX5, rfl, inB5, by decide, TB_of 641 (by decide +kernel) rfl, tyX5_ok, nmX5, rfl, rfl, by decide +kernel⟩
theorem pr_X5_65 : PFr RX5 65 5 1 .int := ⟨RX5, TX5, 24, tyX5, rfl, inB5, by decide, TB_of 619 (by decide +kernel) rfl, tyX5_ok, nmX5, rfl, rfl, by decide +kernel⟩
theorem nw_X4_11 : NWc RX4 11 3 dfX3 := ⟨RX3, TX3, 14, tyX3, rfl, inB3, tyX3_ok, TB_of 61 (by decide +kernel) rfl, TB_of 62 (by decide +kernel) rfl, TB_of 41 (by decide +kernel) rfl, fun j hj => by rcases (show j = 0 ∨ j = 1 ∨ j = 2 ∨ j = 3 ∨ j = 4 ∨ j = 5 ∨ j = 6 ∨ j = 7 ∨ j = 8 ∨ j = 9 ∨ j = 10 ∨ j = 11 ∨ j = 12 ∨ j = 13 by omega) with rfl | rfl | rfl | rfl | rfl | rfl | rfl | rfl | rfl | rfl | rfl | rfl | rfl | rfl <;> rfl, rfl⟩
theorem nw_X4_29 : NWc RX4 29 2 dfX2 := ⟨RX2, TX2, 9, tyX2, rfl, inB2, tyX2_ok, TB_of 154 (by decide +kernel) rfl, TB_of 155 (by decide +kernel) rfl, TB_of 43 (by decide +kernel) rfl, fun j hj => by rcases (show j = 0 ∨ j = 1 ∨ j = 2 ∨ j = 3 ∨ j = 4 ∨ j = 5 ∨ j = 6 ∨ j = 7 ∨ j = 8 by omega) with rfl | rfl | rfl | rfl | rfl | rfl | rfl | rfl | rfl <;> rfl, rfl⟩
theorem nw_X4_41 : NWc RX4 41 1 dfX1 := ⟨RX1, TX1, 5, tyX1, rfl, inB1, tyX1_ok, TB_of 190 (by decide +kernel) rfl, TB_of 191 (by decide +kernel) rfl, TB_of 44 (by decide +kernel) rfl, fun j hj => by rcases (show j = 0 ∨ j = 1 ∨ j = 2 ∨ j = 3 ∨ j = 4 by omega) with rfl | rfl | rfl | rfl | rfl <;> rfl, rfl⟩
theorem nw_X4_48 : NWc RX4 48 0 dfX0 := ⟨RX0, TX0, 7, tyX0, rfl, inB0, tyX0_ok, TB_of 212 (by decide +kernel) rfl, TB_of 213 (by decide +kernel) rfl, TB_of 45 (by decide +kernel) rfl, fun j hj => by rcases (show j = 0 ∨ j = 1 ∨ j = 2 ∨ j = 3 ∨ j = 4 ∨ j = 5 ∨ j = 6 by omega) with rfl | rfl | rfl | rfl | rfl | rfl | rfl <;> rfl, rfl⟩
theorem nw_L_8 : NWc RL 8 4 dfX4 := ⟨RX4, TX4, 5, tyX4, rfl, inB4, tyX4_ok, TB_of 53 (by decide +kernel) rfl, TB_of 54 (by decide +kernel) rfl, TB_of 40 (by decide +kernel) rfl, fun j hj => by rcases (show j = 0 ∨ j = 1 ∨ j = 2 ∨ j = 3 ∨ j = 4 by omega) with rfl | rfl | rfl | rfl | rfl <;> rfl, rfl⟩
theorem nw_L_24 : NWc RL 24 5 dfX5 := ⟨RX5, TX5, 24, tyX5, rfl, inB5, tyX5_ok, TB_of 612 (by decide +kernel) rfl, TB_of 613 (by decide +kernel) rfl, TB_of 47 (by decide +kernel) rfl, fun j hj => by rcases (show j = 0 ∨ j = 1 ∨ j = 2 ∨ j = 3 ∨ j = 4 ∨ j = 5 ∨ j = 6 ∨ j = 7 ∨ j = 8 ∨ j = 9 ∨ j = 10 ∨ j = 11 ∨ j = 12 ∨ j = 13 ∨ j = 14 ∨ j = 15 ∨ j = 16 ∨ j = 17 ∨ j = 18 ∨ j = 19 ∨ j = 20 ∨ j = 21 ∨ j = 22 ∨ j = 23 by omega) with rfl | rfl | rfl | rfl | rfl | rfl | rfl | rfl | rfl | rfl | rfl | rfl | rfl | rfl | rfl | rfl | rfl | rfl | rfl | rfl | rfl | rfl | rfl | rfl <;> rfl, rfl⟩
theorem mw_X0_init : MW yX0_init cX0_init 2 none 1 := ⟨TB_of 45 (by decide +kernel) rfl, TB_of 216 (by decide +kernel) rfl, by decide, by decide, by decide +kernel, by decide⟩
theorem im_X0_init : Cond.instanceMethod yX0_init ∈ TB := TB_of 215 (by decide +kernel) rfl
theorem mw_X1_init : MW yX1_init cX1_init 2 none 1 := ⟨TB_of 44 (by decide +kernel) rfl, TB_of 194 (by decide +kernel) rfl, by decide, by decide, by decide +kernel, by decide⟩
theorem im_X1_init : Cond.instanceMethod yX1_init ∈ TB := TB_of 193 (by decide +kernel) rfl
theorem mw_X2_init : MW yX2_init cX2_init 2 none 1 := ⟨TB_of 43 (by decide +kernel) rfl, TB_of 158 (by decide +kernel) rfl, by decide, by decide, by decide +kernel, by decide⟩
theorem im_X2_init : Cond.instanceMethod yX2_init ∈ TB := TB_of 157 (by decide +kernel) rfl
theorem mw_X3_init : MW yX3_init cX3_init 2 none 1 := ⟨TB_of 41 (by decide +kernel) rfl, TB_of 71 (by decide +kernel) rfl, by decide, by decide, by decide +kernel, by decide⟩
theorem im_X3_init : Cond.instanceMethod yX3_init ∈ TB := TB_of 70 (by decide +kernel) rfl
theorem mw_X4_init : MW yX4_init cX4_init 2 none 1 := ⟨TB_of 40 (by decide +kernel) rfl, TB_of 57 (by decide +kernel) rfl, by decide, by decide, by decide +kernel, by decide⟩
theorem im_X4_init : Cond.instanceMethod yX4_init ∈ TB := TB_of 56 (by decide +kernel) rfl
theorem mw_X5_init : MW yX5_init cX5_init 2 none 1 := ⟨TB_of 47 (by decide +kernel) rfl, TB_of 616 (by decide +kernel) rfl, by decide, by decide, by decide +kernel, by decide⟩
theorem im_X5_init : Cond.instanceMethod yX5_init ∈ TB := TB_of 615 (by decide +kernel) rfl
theorem cl_X3_47 : Cond.classLink RX3 47 ("[" ++ (FieldType.array .int).toString) ∈ TB := TB_of 73 (by decide +kernel) rfl
theorem r_cast {Y : YY} {nL : Nat} {Q : State → Prop} {pc : Nat} {lv : List (Nat × Value)} {st : List Value} {w : va_W} {ce sl : Nat} (ce' sl' : Nat) (h1 : ce' = ce) (h2 : sl' = sl) (k : RC Y nL Q pc lv st w ce' sl') : RC Y nL Q pc lv st w ce sl := by subst h1; subst h2; exact k
def wPlan (cy : Nat → ClassId) (h0 sh : Nat) (u : Nat → Nat) : va_W := [(h0, .inr (2, [.ref sh, .int (oI 0), .ref (u 1), .ref (u 2), .ref (u 3), .ref (u 4), .int (oI 0), .ref (u 5), .ref (u 6)])), (u 1, iaE (cy 0) 80 (fun _ => 0)), (u 2, iaE (cy 0) 80 (fun _ => 0)), (u 3, iaE (cy 0) 80 (fun _ => 0)), (u 4, iaE (cy 0) 48 (fun _ => 0)), (u 5, iaE (cy 0) 8 (fun _ => 0)), (u 6, iaE (cy 0) 5 (fun _ => 0))]
def wFill (cy : Nat → ClassId) (h0 sh : Nat) (u : Nat → Nat) : va_W := [(h0, .inr (1, [.ref sh, .ref (u 1), .ref (u 2), .ref (u 3), .ref (u 4)])), (u 1, iaE (cy 0) 8 (fun _ => 0)), (u 2, iaE (cy 0) 8 (fun _ => 0)), (u 3, iaE (cy 0) 5 (fun _ => 0)), (u 4, iaE (cy 0) 8 (fun _ => 0))]
def wBnd (cy : Nat → ClassId) (h0 sh : Nat) (u : Nat → Nat) : va_W := [(h0, .inr (0, [.ref sh, .ref (u 1), .int (oI 0), .ref (u 2), .ref (u 3), .ref (u 4), .ref (u 5)])), (u 1, iaE (cy 0) 5 (fun j => if j < ((5 : Nat) : Int) then -1 else 0)), (u 2, iaE (cy 0) 8 (fun _ => 0)), (u 3, iaE (cy 0) 8 (fun _ => 0)), (u 4, iaE (cy 0) 8 (fun _ => 0)), (u 5, iaE (cy 0) 256 (fun _ => 0))]
set_option maxRecDepth 100000 in
set_option maxHeartbeats 4000000 in
theorem c_X2_init (l : Launch) (D : va_G) (cy : Nat → ClassId) (h0 sh : Nat) : CtI9 l yX2_init cX2_init 2 0 6 301 D cy [.ref h0, .ref sh] h0 (.inr (2, dfX2)) (fun _ => True) (wPlan cy h0 sh) := by
  refine CtI9.of (by decide) (Nat.le_of_ble_eq_true rfl) (fun Y hY C hin hr hE hl sz hA => ?_)
  obtain ⟨⟨p, l9, e9, R, s⟩, ⟨m, args, below, meth, c⟩, A, D9, cy9⟩ := Y
  cases hY
  cases hA
  show RC _ 2 _ 0 [(0, .ref h0), (1, .ref sh)] [] _ 0 0
  refine r_aload_n C 0 dX2_init_0 rfl ?_
  refine r_objInit C dX2_init_1 ml_X2_3 (Nat.le_of_ble_eq_true rfl) ?_
  refine r_aload_n C 0 dX2_init_4 rfl ?_
  refine r_iconst C dX2_init_5 ?_
  refine r_putI C 0 ([(h0, .inr (2, [.null, .int (oI 0), .null, .null, .null, .null, .int (oI 0), .null, .null]))]) dX2_init_6 pf_X2_9 rfl (Nat.le_of_ble_eq_true rfl) rfl ?_
  refine r_aload_n C 0 dX2_init_9 rfl ?_
  refine r_bipush C dX2_init_10 (by decide) ?_
  refine r_newI C (N := 80) dX2_init_12 rfl (by decide) (by first | decide | omega) (by first | decide | omega) (fun a1 => ?_)
  refine r_putF C hin 0 ([(h0, .inr (2, [.null, .int (oI 0), .ref a1, .null, .null, .null, .int (oI 0), .null, .null])), (a1, iaE (cy 0) 80 (fun _ => 0))]) dX2_init_14 pr_X2_15 rfl rfl rfl (Nat.le_of_ble_eq_true rfl) rfl ?_
  refine r_aload_n C 0 dX2_init_17 rfl ?_
  refine r_bipush C dX2_init_18 (by decide) ?_
  refine r_newI C (N := 80) dX2_init_20 rfl (by decide) (by first | decide | omega) (by first | decide | omega) (fun a2 => ?_)
  refine r_putF C hin 0 ([(h0, .inr (2, [.null, .int (oI 0), .ref a1, .ref a2, .null, .null, .int (oI 0), .null, .null])), (a1, iaE (cy 0) 80 (fun _ => 0)), (a2, iaE (cy 0) 80 (fun _ => 0))]) dX2_init_22 pr_X2_19 rfl rfl rfl (Nat.le_of_ble_eq_true rfl) rfl ?_
  refine r_aload_n C 0 dX2_init_25 rfl ?_
  refine r_bipush C dX2_init_26 (by decide) ?_
  refine r_newI C (N := 80) dX2_init_28 rfl (by decide) (by first | decide | omega) (by first | decide | omega) (fun a3 => ?_)
  refine r_putF C hin 0 ([(h0, .inr (2, [.null, .int (oI 0), .ref a1, .ref a2, .ref a3, .null, .int (oI 0), .null, .null])), (a1, iaE (cy 0) 80 (fun _ => 0)), (a2, iaE (cy 0) 80 (fun _ => 0)), (a3, iaE (cy 0) 80 (fun _ => 0))]) dX2_init_30 pr_X2_22 rfl rfl rfl (Nat.le_of_ble_eq_true rfl) rfl ?_
  refine r_aload_n C 0 dX2_init_33 rfl ?_
  refine r_bipush C dX2_init_34 (by decide) ?_
  refine r_newI C (N := 48) dX2_init_36 rfl (by decide) (by first | decide | omega) (by first | decide | omega) (fun a4 => ?_)
  refine r_putF C hin 0 ([(h0, .inr (2, [.null, .int (oI 0), .ref a1, .ref a2, .ref a3, .ref a4, .int (oI 0), .null, .null])), (a1, iaE (cy 0) 80 (fun _ => 0)), (a2, iaE (cy 0) 80 (fun _ => 0)), (a3, iaE (cy 0) 80 (fun _ => 0)), (a4, iaE (cy 0) 48 (fun _ => 0))]) dX2_init_38 pr_X2_25 rfl rfl rfl (Nat.le_of_ble_eq_true rfl) rfl ?_
  refine r_aload_n C 0 dX2_init_41 rfl ?_
  refine r_iconst C dX2_init_42 ?_
  refine r_putI C 0 ([(h0, .inr (2, [.null, .int (oI 0), .ref a1, .ref a2, .ref a3, .ref a4, .int (oI 0), .null, .null])), (a1, iaE (cy 0) 80 (fun _ => 0)), (a2, iaE (cy 0) 80 (fun _ => 0)), (a3, iaE (cy 0) 80 (fun _ => 0)), (a4, iaE (cy 0) 48 (fun _ => 0))]) dX2_init_43 pf_X2_28 rfl (Nat.le_of_ble_eq_true rfl) rfl ?_
  refine r_aload_n C 0 dX2_init_46 rfl ?_
  refine r_bipush C dX2_init_47 (by decide) ?_
  refine r_newI C (N := 8) dX2_init_49 rfl (by decide) (by first | decide | omega) (by first | decide | omega) (fun a5 => ?_)
  refine r_putF C hin 0 ([(h0, .inr (2, [.null, .int (oI 0), .ref a1, .ref a2, .ref a3, .ref a4, .int (oI 0), .ref a5, .null])), (a1, iaE (cy 0) 80 (fun _ => 0)), (a2, iaE (cy 0) 80 (fun _ => 0)), (a3, iaE (cy 0) 80 (fun _ => 0)), (a4, iaE (cy 0) 48 (fun _ => 0)), (a5, iaE (cy 0) 8 (fun _ => 0))]) dX2_init_51 pr_X2_31 rfl rfl rfl (Nat.le_of_ble_eq_true rfl) rfl ?_
  refine r_aload_n C 0 dX2_init_54 rfl ?_
  refine r_iconst C dX2_init_55 ?_
  refine r_newI C (N := 5) dX2_init_56 rfl (by decide) (by first | decide | omega) (by first | decide | omega) (fun a6 => ?_)
  refine r_putF C hin 0 ([(h0, .inr (2, [.null, .int (oI 0), .ref a1, .ref a2, .ref a3, .ref a4, .int (oI 0), .ref a5, .ref a6])), (a1, iaE (cy 0) 80 (fun _ => 0)), (a2, iaE (cy 0) 80 (fun _ => 0)), (a3, iaE (cy 0) 80 (fun _ => 0)), (a4, iaE (cy 0) 48 (fun _ => 0)), (a5, iaE (cy 0) 8 (fun _ => 0)), (a6, iaE (cy 0) 5 (fun _ => 0))]) dX2_init_58 pr_X2_34 rfl rfl rfl (Nat.le_of_ble_eq_true rfl) rfl ?_
  refine r_aload_n C 0 dX2_init_61 rfl ?_
  refine r_aload_n C 1 dX2_init_62 rfl ?_
  refine r_putF C hin 0 ([(h0, .inr (2, [.ref sh, .int (oI 0), .ref a1, .ref a2, .ref a3, .ref a4, .int (oI 0), .ref a5, .ref a6])), (a1, iaE (cy 0) 80 (fun _ => 0)), (a2, iaE (cy 0) 80 (fun _ => 0)), (a3, iaE (cy 0) 80 (fun _ => 0)), (a4, iaE (cy 0) 48 (fun _ => 0)), (a5, iaE (cy 0) 8 (fun _ => 0)), (a6, iaE (cy 0) 5 (fun _ => 0))]) dX2_init_63 pr_X2_37 rfl rfl rfl (Nat.le_of_ble_eq_true rfl) rfl ?_
  refine r_cast (6) (301) (by omega) (by omega) ?_
  exact r_vret C hr dX2_init_66 (fun t H locs ht hw hP hD hS => ⟨⟨(fun k => match k with | 1 => a1 | 2 => a2 | 3 => a3 | 4 => a4 | 5 => a5 | _ => a6), rfl, trivial, by rw [ht]; exact hP, hD⟩, hS.F ht⟩)
set_option maxRecDepth 100000 in
set_option maxHeartbeats 4000000 in
theorem c_X1_init (l : Launch) (D : va_G) (cy : Nat → ClassId) (h0 sh : Nat) : CtI9 l yX1_init cX1_init 2 0 4 29 D cy [.ref h0, .ref sh] h0 (.inr (1, dfX1)) (fun _ => True) (wFill cy h0 sh) := by
  refine CtI9.of (by decide) (Nat.le_of_ble_eq_true rfl) (fun Y hY C hin hr hE hl sz hA => ?_)
  obtain ⟨⟨p, l9, e9, R, s⟩, ⟨m, args, below, meth, c⟩, A, D9, cy9⟩ := Y
  cases hY
  cases hA
  show RC _ 2 _ 0 [(0, .ref h0), (1, .ref sh)] [] _ 0 0
  refine r_aload_n C 0 dX1_init_0 rfl ?_
  refine r_objInit C dX1_init_1 ml_X1_3 (Nat.le_of_ble_eq_true rfl) ?_
  refine r_aload_n C 0 dX1_init_4 rfl ?_
  refine r_bipush C dX1_init_5 (by decide) ?_
  refine r_newI C (N := 8) dX1_init_7 rfl (by decide) (by first | decide | omega) (by first | decide | omega) (fun a1 => ?_)
  refine r_putF C hin 0 ([(h0, .inr (1, [.null, .ref a1, .null, .null, .null])), (a1, iaE (cy 0) 8 (fun _ => 0))]) dX1_init_9 pr_X1_9 rfl rfl rfl (Nat.le_of_ble_eq_true rfl) rfl ?_
  refine r_aload_n C 0 dX1_init_12 rfl ?_
  refine r_bipush C dX1_init_13 (by decide) ?_
  refine r_newI C (N := 8) dX1_init_15 rfl (by decide) (by first | decide | omega) (by first | decide | omega) (fun a2 => ?_)
  refine r_putF C hin 0 ([(h0, .inr (1, [.null, .ref a1, .ref a2, .null, .null])), (a1, iaE (cy 0) 8 (fun _ => 0)), (a2, iaE (cy 0) 8 (fun _ => 0))]) dX1_init_17 pr_X1_15 rfl rfl rfl (Nat.le_of_ble_eq_true rfl) rfl ?_
  refine r_aload_n C 0 dX1_init_20 rfl ?_
  refine r_iconst C dX1_init_21 ?_
  refine r_newI C (N := 5) dX1_init_22 rfl (by decide) (by first | decide | omega) (by first | decide | omega) (fun a3 => ?_)
  refine r_putF C hin 0 ([(h0, .inr (1, [.null, .ref a1, .ref a2, .ref a3, .null])), (a1, iaE (cy 0) 8 (fun _ => 0)), (a2, iaE (cy 0) 8 (fun _ => 0)), (a3, iaE (cy 0) 5 (fun _ => 0))]) dX1_init_24 pr_X1_18 rfl rfl rfl (Nat.le_of_ble_eq_true rfl) rfl ?_
  refine r_aload_n C 0 dX1_init_27 rfl ?_
  refine r_bipush C dX1_init_28 (by decide) ?_
  refine r_newI C (N := 8) dX1_init_30 rfl (by decide) (by first | decide | omega) (by first | decide | omega) (fun a4 => ?_)
  refine r_putF C hin 0 ([(h0, .inr (1, [.null, .ref a1, .ref a2, .ref a3, .ref a4])), (a1, iaE (cy 0) 8 (fun _ => 0)), (a2, iaE (cy 0) 8 (fun _ => 0)), (a3, iaE (cy 0) 5 (fun _ => 0)), (a4, iaE (cy 0) 8 (fun _ => 0))]) dX1_init_32 pr_X1_21 rfl rfl rfl (Nat.le_of_ble_eq_true rfl) rfl ?_
  refine r_aload_n C 0 dX1_init_35 rfl ?_
  refine r_aload_n C 1 dX1_init_36 rfl ?_
  refine r_putF C hin 0 ([(h0, .inr (1, [.ref sh, .ref a1, .ref a2, .ref a3, .ref a4])), (a1, iaE (cy 0) 8 (fun _ => 0)), (a2, iaE (cy 0) 8 (fun _ => 0)), (a3, iaE (cy 0) 5 (fun _ => 0)), (a4, iaE (cy 0) 8 (fun _ => 0))]) dX1_init_37 pr_X1_24 rfl rfl rfl (Nat.le_of_ble_eq_true rfl) rfl ?_
  refine r_cast (4) (29) (by omega) (by omega) ?_
  exact r_vret C hr dX1_init_40 (fun t H locs ht hw hP hD hS => ⟨⟨(fun k => match k with | 1 => a1 | 2 => a2 | 3 => a3 | _ => a4), rfl, trivial, by rw [ht]; exact hP, hD⟩, hS.F ht⟩)
set_option maxRecDepth 100000 in
set_option maxHeartbeats 4000000 in
theorem c_X0_init (l : Launch) (D : va_G) (cy : Nat → ClassId) (h0 sh : Nat) : CtI9 l yX0_init cX0_init 2 1 5 285 D cy [.ref h0, .ref sh] h0 (.inr (0, dfX0)) (fun _ => True) (wBnd cy h0 sh) := by
  refine CtI9.of (by decide) (Nat.le_of_ble_eq_true rfl) (fun Y hY C hin hr hE hl sz hA => ?_)
  obtain ⟨⟨p, l9, e9, R, s⟩, ⟨m, args, below, meth, c⟩, A, D9, cy9⟩ := Y
  cases hY
  cases hA
  show RC _ 2 _ 0 [(0, .ref h0), (1, .ref sh)] [] _ 0 0
  refine r_aload_n C 0 dX0_init_0 rfl ?_
  refine r_objInit C dX0_init_1 ml_X0_3 (Nat.le_of_ble_eq_true rfl) ?_
  refine r_aload_n C 0 dX0_init_4 rfl ?_
  refine r_iconst C dX0_init_5 ?_
  refine r_newI C (N := 5) dX0_init_6 rfl (by decide) (by first | decide | omega) (by first | decide | omega) (fun a1 => ?_)
  refine r_putF C hin 0 ([(h0, .inr (0, [.null, .ref a1, .int (oI 0), .null, .null, .null, .null])), (a1, iaE (cy 0) 5 (fun _ => 0))]) dX0_init_8 pr_X0_9 rfl rfl rfl (Nat.le_of_ble_eq_true rfl) rfl ?_
  refine r_aload_n C 0 dX0_init_11 rfl ?_
  refine r_iconst C dX0_init_12 ?_
  refine r_putI C 0 ([(h0, .inr (0, [.null, .ref a1, .int (oI 0), .null, .null, .null, .null])), (a1, iaE (cy 0) 5 (fun _ => 0))]) dX0_init_13 pf_X0_15 rfl (Nat.le_of_ble_eq_true rfl) rfl ?_
  refine r_aload_n C 0 dX0_init_16 rfl ?_
  refine r_bipush C dX0_init_17 (by decide) ?_
  refine r_newI C (N := 8) dX0_init_19 rfl (by decide) (by first | decide | omega) (by first | decide | omega) (fun a2 => ?_)
  refine r_putF C hin 0 ([(h0, .inr (0, [.null, .ref a1, .int (oI 0), .ref a2, .null, .null, .null])), (a1, iaE (cy 0) 5 (fun _ => 0)), (a2, iaE (cy 0) 8 (fun _ => 0))]) dX0_init_21 pr_X0_19 rfl rfl rfl (Nat.le_of_ble_eq_true rfl) rfl ?_
  refine r_aload_n C 0 dX0_init_24 rfl ?_
  refine r_bipush C dX0_init_25 (by decide) ?_
  refine r_newI C (N := 8) dX0_init_27 rfl (by decide) (by first | decide | omega) (by first | decide | omega) (fun a3 => ?_)
  refine r_putF C hin 0 ([(h0, .inr (0, [.null, .ref a1, .int (oI 0), .ref a2, .ref a3, .null, .null])), (a1, iaE (cy 0) 5 (fun _ => 0)), (a2, iaE (cy 0) 8 (fun _ => 0)), (a3, iaE (cy 0) 8 (fun _ => 0))]) dX0_init_29 pr_X0_22 rfl rfl rfl (Nat.le_of_ble_eq_true rfl) rfl ?_
  refine r_aload_n C 0 dX0_init_32 rfl ?_
  refine r_bipush C dX0_init_33 (by decide) ?_
  refine r_newI C (N := 8) dX0_init_35 rfl (by decide) (by first | decide | omega) (by first | decide | omega) (fun a4 => ?_)
  refine r_putF C hin 0 ([(h0, .inr (0, [.null, .ref a1, .int (oI 0), .ref a2, .ref a3, .ref a4, .null])), (a1, iaE (cy 0) 5 (fun _ => 0)), (a2, iaE (cy 0) 8 (fun _ => 0)), (a3, iaE (cy 0) 8 (fun _ => 0)), (a4, iaE (cy 0) 8 (fun _ => 0))]) dX0_init_37 pr_X0_25 rfl rfl rfl (Nat.le_of_ble_eq_true rfl) rfl ?_
  refine r_aload_n C 0 dX0_init_40 rfl ?_
  refine r_sipush C dX0_init_41 (by decide) ?_
  refine r_newI C (N := 256) dX0_init_44 rfl (by decide) (by first | decide | omega) (by first | decide | omega) (fun a5 => ?_)
  refine r_putF C hin 0 ([(h0, .inr (0, [.null, .ref a1, .int (oI 0), .ref a2, .ref a3, .ref a4, .ref a5])), (a1, iaE (cy 0) 5 (fun _ => 0)), (a2, iaE (cy 0) 8 (fun _ => 0)), (a3, iaE (cy 0) 8 (fun _ => 0)), (a4, iaE (cy 0) 8 (fun _ => 0)), (a5, iaE (cy 0) 256 (fun _ => 0))]) dX0_init_46 pr_X0_28 rfl rfl rfl (Nat.le_of_ble_eq_true rfl) rfl ?_
  refine r_aload_n C 0 dX0_init_49 rfl ?_
  refine r_aload_n C 1 dX0_init_50 rfl ?_
  refine r_putF C hin 0 ([(h0, .inr (0, [.ref sh, .ref a1, .int (oI 0), .ref a2, .ref a3, .ref a4, .ref a5])), (a1, iaE (cy 0) 5 (fun _ => 0)), (a2, iaE (cy 0) 8 (fun _ => 0)), (a3, iaE (cy 0) 8 (fun _ => 0)), (a4, iaE (cy 0) 8 (fun _ => 0)), (a5, iaE (cy 0) 256 (fun _ => 0))]) dX0_init_51 pr_X0_31 rfl rfl rfl (Nat.le_of_ble_eq_true rfl) rfl ?_
  refine r_aload_n C 0 dX0_init_54 rfl ?_
  refine r_get C 0 dX0_init_55 gf_X0_9 rfl rfl ?_
  refine r_iconst C dX0_init_58 ?_
  refine r_callS1 (as := [.ref a1, .int (oI (-1))]) C 1 rfl rfl dX0_init_59 (c_fillA _ _ _ a1 5 (fun _ => 0) (-1) (by decide)) mw_J7_fill_53178 ml_X0_35 ss_J7_fill_53178 (by decide) (Nat.le_of_ble_eq_true rfl) (by decide) (by decide) (fun _ => ?_)
  show RC _ _ _ _ _ _ ([(h0, .inr (0, [.ref sh, .ref a1, .int (oI 0), .ref a2, .ref a3, .ref a4, .ref a5])), (a1, iaE (cy 0) 5 (fun j => if j < ((5 : Nat) : Int) then -1 else 0)), (a2, iaE (cy 0) 8 (fun _ => 0)), (a3, iaE (cy 0) 8 (fun _ => 0)), (a4, iaE (cy 0) 8 (fun _ => 0)), (a5, iaE (cy 0) 256 (fun _ => 0))]) _ _
  refine r_cast (5) (285) (by omega) (by omega) ?_
  exact r_vret C hr dX0_init_62 (fun t H locs ht hw hP hD hS => ⟨⟨(fun k => match k with | 1 => a1 | 2 => a2 | 3 => a3 | 4 => a4 | _ => a5), rfl, trivial, by rw [ht]; exact hP, hD⟩, hS.F ht⟩)
def wShop (cy : Nat → ClassId) (h0 M : Nat) (u : (Nat → Nat) × (Nat → Nat)) : va_W := [(h0, .inr (3, [.int (oI M), .int (oI 0), .int (oI 0), .int (oI 0), .ref (u.1 2), .ref (u.1 3), .ref (u.1 4), .ref (u.1 5), .ref (u.1 6), .ref (u.1 7), .ref (u.1 8), .ref (u.1 9), .ref (u.1 10), .ref (u.1 11)])), (u.1 2, iaE (cy 0) 8 (fun _ => 0)), (u.1 3, iaE (cy 0) 8 (fun _ => 0)), (u.1 4, iaE (cy 0) 8 (fun _ => 0)), (u.1 5, iaE (cy 0) 8 (fun _ => 0)), (u.1 6, iaE (cy 0) 80 (fun _ => 0)), (u.1 7, iaE (cy 0) 80 (fun _ => 0)), (u.1 8, iaE (cy 1) 80 (fun _ => 0)), (u.1 9, .inl (cy 3, M, .inr (.inr (.inr (.inr (fun i => if i < M then some (u.2 i) else none))))))] ++ (List.range M).map (fun i => (u.2 i, iaE (cy 0) 48 (fun _ => 0))) ++ [(u.1 10, iaE (cy 0) M (fun _ => 0))] ++ [(u.1 11, iaE (cy 0) (64 * M) (fun _ => 0))]
set_option maxRecDepth 100000 in
set_option maxHeartbeats 4000000 in
theorem c_X3_init (l : Launch) (D : va_G) (cy : Nat → ClassId) (h0 M : Nat) (hM5 : M ≤ 5) : CtI9 l yX3_init cX3_init 2 0 (10 + M) (272 + 114 * M) D cy [.ref h0, .int (oI M)] h0 (.inr (3, dfX3)) (va_AOA .int) (wShop cy h0 M) := by
  refine CtI9.of (by decide) (Nat.le_of_ble_eq_true rfl) (fun Y hY C hin hr hE hl sz hA => ?_)
  obtain ⟨⟨p, l9, e9, R, s⟩, ⟨m, args, below, meth, c⟩, A, D9, cy9⟩ := Y
  cases hY
  cases hA
  show RC _ 2 _ 0 [(0, .ref h0), (1, .int (oI M))] [] _ 0 0
  refine r_aload_n C 0 dX3_init_0 rfl ?_
  refine r_objInit C dX3_init_1 ml_X3_3 (Nat.le_of_ble_eq_true rfl) ?_
  refine r_aload_n C 0 dX3_init_4 rfl ?_
  refine r_iconst C dX3_init_5 ?_
  refine r_putI C 0 ([(h0, .inr (3, [.int (oI 0), .int (oI 0), .int (oI 0), .int (oI 0), .null, .null, .null, .null, .null, .null, .null, .null, .null, .null]))]) dX3_init_6 pf_X3_9 rfl (Nat.le_of_ble_eq_true rfl) rfl ?_
  refine r_aload_n C 0 dX3_init_9 rfl ?_
  refine r_iconst C dX3_init_10 ?_
  refine r_putI C 0 ([(h0, .inr (3, [.int (oI 0), .int (oI 0), .int (oI 0), .int (oI 0), .null, .null, .null, .null, .null, .null, .null, .null, .null, .null]))]) dX3_init_11 pf_X3_15 rfl (Nat.le_of_ble_eq_true rfl) rfl ?_
  refine r_aload_n C 0 dX3_init_14 rfl ?_
  refine r_iconst C dX3_init_15 ?_
  refine r_putI C 0 ([(h0, .inr (3, [.int (oI 0), .int (oI 0), .int (oI 0), .int (oI 0), .null, .null, .null, .null, .null, .null, .null, .null, .null, .null]))]) dX3_init_16 pf_X3_18 rfl (Nat.le_of_ble_eq_true rfl) rfl ?_
  refine r_aload_n C 0 dX3_init_19 rfl ?_
  refine r_bipush C dX3_init_20 (by decide) ?_
  refine r_newI C (N := 8) dX3_init_22 rfl (by decide) (by first | decide | omega) (by first | decide | omega) (fun a1 => ?_)
  refine r_putF C hin 0 ([(h0, .inr (3, [.int (oI 0), .int (oI 0), .int (oI 0), .int (oI 0), .ref a1, .null, .null, .null, .null, .null, .null, .null, .null, .null])), (a1, iaE (cy 0) 8 (fun _ => 0))]) dX3_init_24 pr_X3_21 rfl rfl rfl (Nat.le_of_ble_eq_true rfl) rfl ?_
  refine r_aload_n C 0 dX3_init_27 rfl ?_
  refine r_bipush C dX3_init_28 (by decide) ?_
  refine r_newI C (N := 8) dX3_init_30 rfl (by decide) (by first | decide | omega) (by first | decide | omega) (fun a2 => ?_)
  refine r_putF C hin 0 ([(h0, .inr (3, [.int (oI 0), .int (oI 0), .int (oI 0), .int (oI 0), .ref a1, .ref a2, .null, .null, .null, .null, .null, .null, .null, .null])), (a1, iaE (cy 0) 8 (fun _ => 0)), (a2, iaE (cy 0) 8 (fun _ => 0))]) dX3_init_32 pr_X3_25 rfl rfl rfl (Nat.le_of_ble_eq_true rfl) rfl ?_
  refine r_aload_n C 0 dX3_init_35 rfl ?_
  refine r_bipush C dX3_init_36 (by decide) ?_
  refine r_newI C (N := 8) dX3_init_38 rfl (by decide) (by first | decide | omega) (by first | decide | omega) (fun a3 => ?_)
  refine r_putF C hin 0 ([(h0, .inr (3, [.int (oI 0), .int (oI 0), .int (oI 0), .int (oI 0), .ref a1, .ref a2, .ref a3, .null, .null, .null, .null, .null, .null, .null])), (a1, iaE (cy 0) 8 (fun _ => 0)), (a2, iaE (cy 0) 8 (fun _ => 0)), (a3, iaE (cy 0) 8 (fun _ => 0))]) dX3_init_40 pr_X3_28 rfl rfl rfl (Nat.le_of_ble_eq_true rfl) rfl ?_
  refine r_aload_n C 0 dX3_init_43 rfl ?_
  refine r_bipush C dX3_init_44 (by decide) ?_
  refine r_newI C (N := 8) dX3_init_46 rfl (by decide) (by first | decide | omega) (by first | decide | omega) (fun a4 => ?_)
  refine r_putF C hin 0 ([(h0, .inr (3, [.int (oI 0), .int (oI 0), .int (oI 0), .int (oI 0), .ref a1, .ref a2, .ref a3, .ref a4, .null, .null, .null, .null, .null, .null])), (a1, iaE (cy 0) 8 (fun _ => 0)), (a2, iaE (cy 0) 8 (fun _ => 0)), (a3, iaE (cy 0) 8 (fun _ => 0)), (a4, iaE (cy 0) 8 (fun _ => 0))]) dX3_init_48 pr_X3_31 rfl rfl rfl (Nat.le_of_ble_eq_true rfl) rfl ?_
  refine r_aload_n C 0 dX3_init_51 rfl ?_
  refine r_bipush C dX3_init_52 (by decide) ?_
  refine r_newI C (N := 80) dX3_init_54 rfl (by decide) (by first | decide | omega) (by first | decide | omega) (fun a5 => ?_)
  refine r_putF C hin 0 ([(h0, .inr (3, [.int (oI 0), .int (oI 0), .int (oI 0), .int (oI 0), .ref a1, .ref a2, .ref a3, .ref a4, .ref a5, .null, .null, .null, .null, .null])), (a1, iaE (cy 0) 8 (fun _ => 0)), (a2, iaE (cy 0) 8 (fun _ => 0)), (a3, iaE (cy 0) 8 (fun _ => 0)), (a4, iaE (cy 0) 8 (fun _ => 0)), (a5, iaE (cy 0) 80 (fun _ => 0))]) dX3_init_56 pr_X3_34 rfl rfl rfl (Nat.le_of_ble_eq_true rfl) rfl ?_
  refine r_aload_n C 0 dX3_init_59 rfl ?_
  refine r_bipush C dX3_init_60 (by decide) ?_
  refine r_newI C (N := 80) dX3_init_62 rfl (by decide) (by first | decide | omega) (by first | decide | omega) (fun a6 => ?_)
  refine r_putF C hin 0 ([(h0, .inr (3, [.int (oI 0), .int (oI 0), .int (oI 0), .int (oI 0), .ref a1, .ref a2, .ref a3, .ref a4, .ref a5, .ref a6, .null, .null, .null, .null])), (a1, iaE (cy 0) 8 (fun _ => 0)), (a2, iaE (cy 0) 8 (fun _ => 0)), (a3, iaE (cy 0) 8 (fun _ => 0)), (a4, iaE (cy 0) 8 (fun _ => 0)), (a5, iaE (cy 0) 80 (fun _ => 0)), (a6, iaE (cy 0) 80 (fun _ => 0))]) dX3_init_64 pr_X3_37 rfl rfl rfl (Nat.le_of_ble_eq_true rfl) rfl ?_
  refine r_aload_n C 0 dX3_init_67 rfl ?_
  refine r_bipush C dX3_init_68 (by decide) ?_
  refine r_newB C (N := 80) dX3_init_70 rfl (by decide) (by first | decide | omega) (by first | decide | omega) (fun a7 => ?_)
  refine r_putF C hin 0 ([(h0, .inr (3, [.int (oI 0), .int (oI 0), .int (oI 0), .int (oI 0), .ref a1, .ref a2, .ref a3, .ref a4, .ref a5, .ref a6, .ref a7, .null, .null, .null])), (a1, iaE (cy 0) 8 (fun _ => 0)), (a2, iaE (cy 0) 8 (fun _ => 0)), (a3, iaE (cy 0) 8 (fun _ => 0)), (a4, iaE (cy 0) 8 (fun _ => 0)), (a5, iaE (cy 0) 80 (fun _ => 0)), (a6, iaE (cy 0) 80 (fun _ => 0)), (a7, iaE (cy 1) 80 (fun _ => 0))]) dX3_init_72 pr_X3_40 rfl rfl rfl (Nat.le_of_ble_eq_true rfl) rfl ?_
  refine r_aload_n C 0 dX3_init_75 rfl ?_
  refine r_iload_n C 1 dX3_init_76 rfl ?_
  refine r_putF C hin 0 ([(h0, .inr (3, [.int (oI M), .int (oI 0), .int (oI 0), .int (oI 0), .ref a1, .ref a2, .ref a3, .ref a4, .ref a5, .ref a6, .ref a7, .null, .null, .null])), (a1, iaE (cy 0) 8 (fun _ => 0)), (a2, iaE (cy 0) 8 (fun _ => 0)), (a3, iaE (cy 0) 8 (fun _ => 0)), (a4, iaE (cy 0) 8 (fun _ => 0)), (a5, iaE (cy 0) 80 (fun _ => 0)), (a6, iaE (cy 0) 80 (fun _ => 0)), (a7, iaE (cy 1) 80 (fun _ => 0))]) dX3_init_77 pr_X3_44 rfl rfl rfl (Nat.le_of_ble_eq_true rfl) rfl ?_
  refine r_aload_n C 0 dX3_init_80 rfl ?_
  refine r_iload_n C 1 dX3_init_81 rfl ?_
  refine r_bipush C dX3_init_82 (by decide) ?_
  refine r_mna C hE dX3_init_84 cl_X3_47 (K := 48) (M := M) (by omega) (by decide) (by omega) (by omega) (fun a8 r => ?_)
  refine r_putF C hin 0 ([(h0, .inr (3, [.int (oI M), .int (oI 0), .int (oI 0), .int (oI 0), .ref a1, .ref a2, .ref a3, .ref a4, .ref a5, .ref a6, .ref a7, .ref a8, .null, .null])), (a1, iaE (cy 0) 8 (fun _ => 0)), (a2, iaE (cy 0) 8 (fun _ => 0)), (a3, iaE (cy 0) 8 (fun _ => 0)), (a4, iaE (cy 0) 8 (fun _ => 0)), (a5, iaE (cy 0) 80 (fun _ => 0)), (a6, iaE (cy 0) 80 (fun _ => 0)), (a7, iaE (cy 1) 80 (fun _ => 0)), (a8, .inl (cy 3, M, .inr (.inr (.inr (.inr (fun i => if i < M then some (r i) else none))))))] ++ (List.range M).map (fun i => (r i, iaE (cy 0) 48 (fun _ => 0)))) dX3_init_88 pr_X3_49 rfl rfl rfl (Nat.le_of_ble_eq_true rfl) rfl ?_
  refine r_aload_n C 0 dX3_init_91 rfl ?_
  refine r_iload_n C 1 dX3_init_92 rfl ?_
  refine r_newI C (N := M) dX3_init_93 rfl (by omega) (by omega) (by omega) (fun a9 => ?_)
  refine r_putF C hin 0 ([(h0, .inr (3, [.int (oI M), .int (oI 0), .int (oI 0), .int (oI 0), .ref a1, .ref a2, .ref a3, .ref a4, .ref a5, .ref a6, .ref a7, .ref a8, .ref a9, .null])), (a1, iaE (cy 0) 8 (fun _ => 0)), (a2, iaE (cy 0) 8 (fun _ => 0)), (a3, iaE (cy 0) 8 (fun _ => 0)), (a4, iaE (cy 0) 8 (fun _ => 0)), (a5, iaE (cy 0) 80 (fun _ => 0)), (a6, iaE (cy 0) 80 (fun _ => 0)), (a7, iaE (cy 1) 80 (fun _ => 0)), (a8, .inl (cy 3, M, .inr (.inr (.inr (.inr (fun i => if i < M then some (r i) else none))))))] ++ (List.range M).map (fun i => (r i, iaE (cy 0) 48 (fun _ => 0))) ++ [(a9, iaE (cy 0) M (fun _ => 0))]) dX3_init_95 pr_X3_52 rfl rfl rfl (Nat.le_of_ble_eq_true rfl) rfl ?_
  refine r_aload_n C 0 dX3_init_98 rfl ?_
  refine r_iload_n C 1 dX3_init_99 rfl ?_
  refine r_bipush C dX3_init_100 (by decide) ?_
  refine r_imul C dX3_init_102 ?_
  refine r_bipush C dX3_init_103 (by decide) ?_
  refine r_imul C dX3_init_105 ?_
  refine r_newI C (N := 64 * M) dX3_init_106 (by omega) (by omega) (by omega) (by omega) (fun a10 => ?_)
  refine r_putF C hin 0 ([(h0, .inr (3, [.int (oI M), .int (oI 0), .int (oI 0), .int (oI 0), .ref a1, .ref a2, .ref a3, .ref a4, .ref a5, .ref a6, .ref a7, .ref a8, .ref a9, .ref a10])), (a1, iaE (cy 0) 8 (fun _ => 0)), (a2, iaE (cy 0) 8 (fun _ => 0)), (a3, iaE (cy 0) 8 (fun _ => 0)), (a4, iaE (cy 0) 8 (fun _ => 0)), (a5, iaE (cy 0) 80 (fun _ => 0)), (a6, iaE (cy 0) 80 (fun _ => 0)), (a7, iaE (cy 1) 80 (fun _ => 0)), (a8, .inl (cy 3, M, .inr (.inr (.inr (.inr (fun i => if i < M then some (r i) else none))))))] ++ (List.range M).map (fun i => (r i, iaE (cy 0) 48 (fun _ => 0))) ++ [(a9, iaE (cy 0) M (fun _ => 0))] ++ [(a10, iaE (cy 0) (64 * M) (fun _ => 0))]) dX3_init_108 pr_X3_55 rfl rfl rfl (Nat.le_of_ble_eq_true rfl) rfl ?_
  refine r_cast (10 + M) (272 + 114 * M) (by omega) (by omega) ?_
  exact r_vret C hr dX3_init_111 (fun t H locs ht hw hP hD hS => ⟨⟨((fun k => match k with | 2 => a1 | 3 => a2 | 4 => a3 | 5 => a4 | 6 => a5 | 7 => a6 | 8 => a7 | 9 => a8 | 10 => a9 | _ => a10), r), rfl, trivial, by rw [ht]; exact hP, hD⟩, hS.F ht⟩)
def wSR (cy : Nat → ClassId) (h0 M : Nat) (u : Nat × ((Nat → Nat) × (Nat → Nat)) × Nat × (Nat → Nat) × Nat × (Nat → Nat) × Nat × (Nat → Nat) × Nat × (Nat → Nat)) : va_W := match u with
  | (q1, u1, q2, u2, q3, u3, q4, u4, q5, u5) => [(h0, .inr (4, [.ref q1, .ref q2, .ref q3, .ref q4, .ref q5]))] ++ wShop cy q1 M u1 ++ wPlan cy q2 q1 u2 ++ wPlan cy q3 q1 u3 ++ wFill cy q4 q1 u4 ++ wBnd cy q5 q1 u5
set_option maxRecDepth 100000 in
set_option maxHeartbeats 4000000 in
theorem c_X4_init (l : Launch) (D : va_G) (cy : Nat → ClassId) (h0 M : Nat) (x : Int) (hx : inR x) (hM : max 1 (min 5 x) = (M : Int)) : CtI9 l yX4_init cX4_init 2 2 (36 + M) (1232 + 114 * M) D cy [.ref h0, .int (oI x)] h0 (.inr (4, dfX4)) (va_AOA .int) (wSR cy h0 M) := by
  have hM5 : M ≤ 5 := by omega
  have n3 : dfX3.length = 14 := rfl
  have n2 : dfX2.length = 9 := rfl
  have n1 : dfX1.length = 5 := rfl
  have n0 : dfX0.length = 7 := rfl
  have hx5 : inR (min 5 x) := by have h1 := hx.1; have h2 := hx.2; exact ⟨by omega, by omega⟩
  refine CtI9.of (by decide) (Nat.le_of_ble_eq_true rfl) (fun Y hY C hin hr hE hl sz hA => ?_)
  obtain ⟨⟨p, l9, e9, R, s⟩, ⟨m, args, below, meth, c⟩, A, D9, cy9⟩ := Y
  cases hY
  cases hA
  show RC _ 2 _ 0 [(0, .ref h0), (1, .int (oI x))] [] _ 0 0
  refine r_aload_n C 0 dX4_init_0 rfl ?_
  refine r_objInit C dX4_init_1 ml_X4_5 (Nat.le_of_ble_eq_true rfl) ?_
  refine r_aload_n C 0 dX4_init_4 rfl ?_
  refine r_new C dX4_init_5 nw_X4_11 (by omega) (by show _ + 14 ≤ _; omega) (fun q1 => ?_)
  refine r_dup C dX4_init_8 rfl ?_
  refine r_iconst C dX4_init_9 ?_
  refine r_iconst C dX4_init_10 ?_
  refine r_iload_n C 1 dX4_init_11 rfl ?_
  refine r_min C dX4_init_12 ml_X4_13 ⟨by omega, by omega⟩ hx (Nat.le_of_ble_eq_true rfl) (by omega) (by omega) ?_
  refine r_max C dX4_init_15 ml_X4_19 ⟨by omega, by omega⟩ hx5 (Nat.le_of_ble_eq_true rfl) (by omega) (by omega) ?_
  rw [hM]
  refine r_callI (as := [.int (oI M)]) (E := va_AOA .int) C ([(h0, .inr (4, [.null, .null, .null, .null, .null]))]) rfl rfl dX4_init_18 (c_X3_init _ _ _ q1 M hM5) (fun _ _ h1 h2 => va_AOA.moved h1 h2) hE mw_X3_init ml_X4_22 im_X3_init rfl (by decide) (Nat.le_of_ble_eq_true rfl) (by omega) (by omega) (fun u1 => ?_)
  refine r_putF C hin 0 ([(h0, .inr (4, [.ref q1, .null, .null, .null, .null]))] ++ wShop cy q1 M u1) dX4_init_21 pr_X4_25 rfl rfl rfl (Nat.le_of_ble_eq_true rfl) rfl ?_
  refine r_aload_n C 0 dX4_init_24 rfl ?_
  refine r_new C dX4_init_25 nw_X4_29 (by omega) (by show _ + 9 ≤ _; omega) (fun q2 => ?_)
  refine r_dup C dX4_init_28 rfl ?_
  refine r_aload_n C 0 dX4_init_29 rfl ?_
  refine r_get C 0 dX4_init_30 gf_X4_25 rfl rfl ?_
  refine r_callI (as := [.ref q1]) (E := fun _ => True) C ([(h0, .inr (4, [.ref q1, .null, .null, .null, .null]))] ++ wShop cy q1 M u1) rfl rfl dX4_init_33 (c_X2_init _ _ _ q2 q1) (fun _ _ _ h => h) trivial mw_X2_init ml_X4_31 im_X2_init rfl (by decide) (Nat.le_of_ble_eq_true rfl) (by omega) (by omega) (fun u2 => ?_)
  refine r_putF C hin 0 ([(h0, .inr (4, [.ref q1, .ref q2, .null, .null, .null]))] ++ wShop cy q1 M u1 ++ wPlan cy q2 q1 u2) dX4_init_36 pr_X4_34 rfl rfl rfl (Nat.le_of_ble_eq_true rfl) rfl ?_
  refine r_aload_n C 0 dX4_init_39 rfl ?_
  refine r_new C dX4_init_40 nw_X4_29 (by omega) (by show _ + 9 ≤ _; omega) (fun q3 => ?_)
  refine r_dup C dX4_init_43 rfl ?_
  refine r_aload_n C 0 dX4_init_44 rfl ?_
  refine r_get C 0 dX4_init_45 gf_X4_25 rfl rfl ?_
  refine r_callI (as := [.ref q1]) (E := fun _ => True) C ([(h0, .inr (4, [.ref q1, .ref q2, .null, .null, .null]))] ++ wShop cy q1 M u1 ++ wPlan cy q2 q1 u2) rfl rfl dX4_init_48 (c_X2_init _ _ _ q3 q1) (fun _ _ _ h => h) trivial mw_X2_init ml_X4_31 im_X2_init rfl (by decide) (Nat.le_of_ble_eq_true rfl) (by omega) (by omega) (fun u3 => ?_)
  refine r_putF C hin 0 ([(h0, .inr (4, [.ref q1, .ref q2, .ref q3, .null, .null]))] ++ wShop cy q1 M u1 ++ wPlan cy q2 q1 u2 ++ wPlan cy q3 q1 u3) dX4_init_51 pr_X4_38 rfl rfl rfl (Nat.le_of_ble_eq_true rfl) rfl ?_
  refine r_aload_n C 0 dX4_init_54 rfl ?_
  refine r_new C dX4_init_55 nw_X4_41 (by omega) (by show _ + 5 ≤ _; omega) (fun q4 => ?_)
  refine r_dup C dX4_init_58 rfl ?_
  refine r_aload_n C 0 dX4_init_59 rfl ?_
  refine r_get C 0 dX4_init_60 gf_X4_25 rfl rfl ?_
  refine r_callI (as := [.ref q1]) (E := fun _ => True) C ([(h0, .inr (4, [.ref q1, .ref q2, .ref q3, .null, .null]))] ++ wShop cy q1 M u1 ++ wPlan cy q2 q1 u2 ++ wPlan cy q3 q1 u3) rfl rfl dX4_init_63 (c_X1_init _ _ _ q4 q1) (fun _ _ _ h => h) trivial mw_X1_init ml_X4_43 im_X1_init rfl (by decide) (Nat.le_of_ble_eq_true rfl) (by omega) (by omega) (fun u4 => ?_)
  refine r_putF C hin 0 ([(h0, .inr (4, [.ref q1, .ref q2, .ref q3, .ref q4, .null]))] ++ wShop cy q1 M u1 ++ wPlan cy q2 q1 u2 ++ wPlan cy q3 q1 u3 ++ wFill cy q4 q1 u4) dX4_init_66 pr_X4_44 rfl rfl rfl (Nat.le_of_ble_eq_true rfl) rfl ?_
  refine r_aload_n C 0 dX4_init_69 rfl ?_
  refine r_new C dX4_init_70 nw_X4_48 (by omega) (by show _ + 7 ≤ _; omega) (fun q5 => ?_)
  refine r_dup C dX4_init_73 rfl ?_
  refine r_aload_n C 0 dX4_init_74 rfl ?_
  refine r_get C 0 dX4_init_75 gf_X4_25 rfl rfl ?_
  refine r_callI (as := [.ref q1]) (E := fun _ => True) C ([(h0, .inr (4, [.ref q1, .ref q2, .ref q3, .ref q4, .null]))] ++ wShop cy q1 M u1 ++ wPlan cy q2 q1 u2 ++ wPlan cy q3 q1 u3 ++ wFill cy q4 q1 u4) rfl rfl dX4_init_78 (c_X0_init _ _ _ q5 q1) (fun _ _ _ h => h) trivial mw_X0_init ml_X4_50 im_X0_init rfl (by decide) (Nat.le_of_ble_eq_true rfl) (by omega) (by omega) (fun u5 => ?_)
  refine r_putF C hin 0 ([(h0, .inr (4, [.ref q1, .ref q2, .ref q3, .ref q4, .ref q5]))] ++ wShop cy q1 M u1 ++ wPlan cy q2 q1 u2 ++ wPlan cy q3 q1 u3 ++ wFill cy q4 q1 u4 ++ wBnd cy q5 q1 u5) dX4_init_81 pr_X4_51 rfl rfl rfl (Nat.le_of_ble_eq_true rfl) rfl ?_
  refine r_cast (36 + M) (1232 + 114 * M) (by omega) (by omega) ?_
  exact r_vret C hr dX4_init_84 (fun t H locs ht hw hP hD hS => ⟨⟨(q1, u1, q2, u2, q3, u3, q4, u4, q5, u5), rfl, trivial, by rw [ht]; exact hP, hD⟩, hS.F ht⟩)
def wMod (cy : Nat → ClassId) (h0 M : Nat) (u : Nat → Nat) : va_W := [(h0, .inr (5, [.int (oI 0), .int (oI M), .int (oI 0), .ref (u 1), .ref (u 2), .ref (u 3), .ref (u 4), .ref (u 5), .ref (u 6), .ref (u 7), .ref (u 8), .ref (u 9), .ref (u 10), .ref (u 11), .ref (u 12), .int (oI 0), .int (oI 0), .ref (u 13), .ref (u 14), .ref (u 15), .ref (u 16), .int (oI 0), .ref (u 17), .ref (u 18)])), (u 1, iaE (cy 0) 8 (fun _ => 0)), (u 2, iaE (cy 0) 8 (fun _ => 0)), (u 3, iaE (cy 0) 8 (fun _ => 0)), (u 4, iaE (cy 0) 8 (fun _ => 0)), (u 5, iaE (cy 0) 48 (fun _ => 0)), (u 6, iaE (cy 0) 48 (fun _ => 0)), (u 7, iaE (cy 1) 48 (fun _ => 0)), (u 8, iaE (cy 0) 320 (fun _ => 0)), (u 9, iaE (cy 0) 5 (fun _ => 0)), (u 10, iaE (cy 0) 240 (fun _ => 0)), (u 11, iaE (cy 0) 48 (fun _ => 0)), (u 12, iaE (cy 0) 8 (fun _ => 0)), (u 13, iaE (cy 1) 48 (fun _ => 0)), (u 14, iaE (cy 0) 48 (fun _ => 0)), (u 15, iaE (cy 0) 48 (fun _ => 0)), (u 16, iaE (cy 0) 48 (fun _ => 0)), (u 17, iaE (cy 0) 48 (fun _ => 0)), (u 18, iaE (cy 0) 256 (fun _ => 0))]
set_option maxRecDepth 100000 in
set_option maxHeartbeats 4000000 in
theorem c_X5_init (l : Launch) (D : va_G) (cy : Nat → ClassId) (h0 M : Nat) (x : Int) (hx : inR x) (hM : max 1 (min 5 x) = (M : Int)) : CtI9 l yX5_init cX5_init 2 0 18 1293 D cy [.ref h0, .int (oI x)] h0 (.inr (5, dfX5)) (fun _ => True) (wMod cy h0 M) := by
  refine CtI9.of (by decide) (Nat.le_of_ble_eq_true rfl) (fun Y hY C hin hr hE hl sz hA => ?_)
  obtain ⟨⟨p, l9, e9, R, s⟩, ⟨m, args, below, meth, c⟩, A, D9, cy9⟩ := Y
  cases hY
  cases hA
  show RC _ 2 _ 0 [(0, .ref h0), (1, .int (oI x))] [] _ 0 0
  refine r_aload_n C 0 dX5_init_0 rfl ?_
  refine r_objInit C dX5_init_1 ml_X5_1 (Nat.le_of_ble_eq_true rfl) ?_
  refine r_aload_n C 0 dX5_init_4 rfl ?_
  refine r_bipush C dX5_init_5 (by decide) ?_
  refine r_newI C (N := 8) dX5_init_7 rfl (by decide) (by first | decide | omega) (by first | decide | omega) (fun a1 => ?_)
  refine r_putF C hin 0 ([(h0, .inr (5, [.int (oI 0), .int (oI 0), .int (oI 0), .ref a1, .null, .null, .null, .null, .null, .null, .null, .null, .null, .null, .null, .int (oI 0), .int (oI 0), .null, .null, .null, .null, .int (oI 0), .null, .null])), (a1, iaE (cy 0) 8 (fun _ => 0))]) dX5_init_9 pr_X5_7 rfl rfl rfl (Nat.le_of_ble_eq_true rfl) rfl ?_
  refine r_aload_n C 0 dX5_init_12 rfl ?_
  refine r_bipush C dX5_init_13 (by decide) ?_
  refine r_newI C (N := 8) dX5_init_15 rfl (by decide) (by first | decide | omega) (by first | decide | omega) (fun a2 => ?_)
  refine r_putF C hin 0 ([(h0, .inr (5, [.int (oI 0), .int (oI 0), .int (oI 0), .ref a1, .ref a2, .null, .null, .null, .null, .null, .null, .null, .null, .null, .null, .int (oI 0), .int (oI 0), .null, .null, .null, .null, .int (oI 0), .null, .null])), (a1, iaE (cy 0) 8 (fun _ => 0)), (a2, iaE (cy 0) 8 (fun _ => 0))]) dX5_init_17 pr_X5_13 rfl rfl rfl (Nat.le_of_ble_eq_true rfl) rfl ?_
  refine r_aload_n C 0 dX5_init_20 rfl ?_
  refine r_bipush C dX5_init_21 (by decide) ?_
  refine r_newI C (N := 8) dX5_init_23 rfl (by decide) (by first | decide | omega) (by first | decide | omega) (fun a3 => ?_)
  refine r_putF C hin 0 ([(h0, .inr (5, [.int (oI 0), .int (oI 0), .int (oI 0), .ref a1, .ref a2, .ref a3, .null, .null, .null, .null, .null, .null, .null, .null, .null, .int (oI 0), .int (oI 0), .null, .null, .null, .null, .int (oI 0), .null, .null])), (a1, iaE (cy 0) 8 (fun _ => 0)), (a2, iaE (cy 0) 8 (fun _ => 0)), (a3, iaE (cy 0) 8 (fun _ => 0))]) dX5_init_25 pr_X5_16 rfl rfl rfl (Nat.le_of_ble_eq_true rfl) rfl ?_
  refine r_aload_n C 0 dX5_init_28 rfl ?_
  refine r_bipush C dX5_init_29 (by decide) ?_
  refine r_newI C (N := 8) dX5_init_31 rfl (by decide) (by first | decide | omega) (by first | decide | omega) (fun a4 => ?_)
  refine r_putF C hin 0 ([(h0, .inr (5, [.int (oI 0), .int (oI 0), .int (oI 0), .ref a1, .ref a2, .ref a3, .ref a4, .null, .null, .null, .null, .null, .null, .null, .null, .int (oI 0), .int (oI 0), .null, .null, .null, .null, .int (oI 0), .null, .null])), (a1, iaE (cy 0) 8 (fun _ => 0)), (a2, iaE (cy 0) 8 (fun _ => 0)), (a3, iaE (cy 0) 8 (fun _ => 0)), (a4, iaE (cy 0) 8 (fun _ => 0))]) dX5_init_33 pr_X5_19 rfl rfl rfl (Nat.le_of_ble_eq_true rfl) rfl ?_
  refine r_aload_n C 0 dX5_init_36 rfl ?_
  refine r_bipush C dX5_init_37 (by decide) ?_
  refine r_newI C (N := 48) dX5_init_39 rfl (by decide) (by first | decide | omega) (by first | decide | omega) (fun a5 => ?_)
  refine r_putF C hin 0 ([(h0, .inr (5, [.int (oI 0), .int (oI 0), .int (oI 0), .ref a1, .ref a2, .ref a3, .ref a4, .ref a5, .null, .null, .null, .null, .null, .null, .null, .int (oI 0), .int (oI 0), .null, .null, .null, .null, .int (oI 0), .null, .null])), (a1, iaE (cy 0) 8 (fun _ => 0)), (a2, iaE (cy 0) 8 (fun _ => 0)), (a3, iaE (cy 0) 8 (fun _ => 0)), (a4, iaE (cy 0) 8 (fun _ => 0)), (a5, iaE (cy 0) 48 (fun _ => 0))]) dX5_init_41 pr_X5_22 rfl rfl rfl (Nat.le_of_ble_eq_true rfl) rfl ?_
  refine r_aload_n C 0 dX5_init_44 rfl ?_
  refine r_bipush C dX5_init_45 (by decide) ?_
  refine r_newI C (N := 48) dX5_init_47 rfl (by decide) (by first | decide | omega) (by first | decide | omega) (fun a6 => ?_)
  refine r_putF C hin 0 ([(h0, .inr (5, [.int (oI 0), .int (oI 0), .int (oI 0), .ref a1, .ref a2, .ref a3, .ref a4, .ref a5, .ref a6, .null, .null, .null, .null, .null, .null, .int (oI 0), .int (oI 0), .null, .null, .null, .null, .int (oI 0), .null, .null])), (a1, iaE (cy 0) 8 (fun _ => 0)), (a2, iaE (cy 0) 8 (fun _ => 0)), (a3, iaE (cy 0) 8 (fun _ => 0)), (a4, iaE (cy 0) 8 (fun _ => 0)), (a5, iaE (cy 0) 48 (fun _ => 0)), (a6, iaE (cy 0) 48 (fun _ => 0))]) dX5_init_49 pr_X5_25 rfl rfl rfl (Nat.le_of_ble_eq_true rfl) rfl ?_
  refine r_aload_n C 0 dX5_init_52 rfl ?_
  refine r_bipush C dX5_init_53 (by decide) ?_
  refine r_newB C (N := 48) dX5_init_55 rfl (by decide) (by first | decide | omega) (by first | decide | omega) (fun a7 => ?_)
  refine r_putF C hin 0 ([(h0, .inr (5, [.int (oI 0), .int (oI 0), .int (oI 0), .ref a1, .ref a2, .ref a3, .ref a4, .ref a5, .ref a6, .ref a7, .null, .null, .null, .null, .null, .int (oI 0), .int (oI 0), .null, .null, .null, .null, .int (oI 0), .null, .null])), (a1, iaE (cy 0) 8 (fun _ => 0)), (a2, iaE (cy 0) 8 (fun _ => 0)), (a3, iaE (cy 0) 8 (fun _ => 0)), (a4, iaE (cy 0) 8 (fun _ => 0)), (a5, iaE (cy 0) 48 (fun _ => 0)), (a6, iaE (cy 0) 48 (fun _ => 0)), (a7, iaE (cy 1) 48 (fun _ => 0))]) dX5_init_57 pr_X5_28 rfl rfl rfl (Nat.le_of_ble_eq_true rfl) rfl ?_
  refine r_aload_n C 0 dX5_init_60 rfl ?_
  refine r_sipush C dX5_init_61 (by decide) ?_
  refine r_newI C (N := 320) dX5_init_64 rfl (by decide) (by first | decide | omega) (by first | decide | omega) (fun a8 => ?_)
  refine r_putF C hin 0 ([(h0, .inr (5, [.int (oI 0), .int (oI 0), .int (oI 0), .ref a1, .ref a2, .ref a3, .ref a4, .ref a5, .ref a6, .ref a7, .ref a8, .null, .null, .null, .null, .int (oI 0), .int (oI 0), .null, .null, .null, .null, .int (oI 0), .null, .null])), (a1, iaE (cy 0) 8 (fun _ => 0)), (a2, iaE (cy 0) 8 (fun _ => 0)), (a3, iaE (cy 0) 8 (fun _ => 0)), (a4, iaE (cy 0) 8 (fun _ => 0)), (a5, iaE (cy 0) 48 (fun _ => 0)), (a6, iaE (cy 0) 48 (fun _ => 0)), (a7, iaE (cy 1) 48 (fun _ => 0)), (a8, iaE (cy 0) 320 (fun _ => 0))]) dX5_init_66 pr_X5_32 rfl rfl rfl (Nat.le_of_ble_eq_true rfl) rfl ?_
  refine r_aload_n C 0 dX5_init_69 rfl ?_
  refine r_iconst C dX5_init_70 ?_
  refine r_newI C (N := 5) dX5_init_71 rfl (by decide) (by first | decide | omega) (by first | decide | omega) (fun a9 => ?_)
  refine r_putF C hin 0 ([(h0, .inr (5, [.int (oI 0), .int (oI 0), .int (oI 0), .ref a1, .ref a2, .ref a3, .ref a4, .ref a5, .ref a6, .ref a7, .ref a8, .ref a9, .null, .null, .null, .int (oI 0), .int (oI 0), .null, .null, .null, .null, .int (oI 0), .null, .null])), (a1, iaE (cy 0) 8 (fun _ => 0)), (a2, iaE (cy 0) 8 (fun _ => 0)), (a3, iaE (cy 0) 8 (fun _ => 0)), (a4, iaE (cy 0) 8 (fun _ => 0)), (a5, iaE (cy 0) 48 (fun _ => 0)), (a6, iaE (cy 0) 48 (fun _ => 0)), (a7, iaE (cy 1) 48 (fun _ => 0)), (a8, iaE (cy 0) 320 (fun _ => 0)), (a9, iaE (cy 0) 5 (fun _ => 0))]) dX5_init_73 pr_X5_35 rfl rfl rfl (Nat.le_of_ble_eq_true rfl) rfl ?_
  refine r_aload_n C 0 dX5_init_76 rfl ?_
  refine r_sipush C dX5_init_77 (by decide) ?_
  refine r_newI C (N := 240) dX5_init_80 rfl (by decide) (by first | decide | omega) (by first | decide | omega) (fun a10 => ?_)
  refine r_putF C hin 0 ([(h0, .inr (5, [.int (oI 0), .int (oI 0), .int (oI 0), .ref a1, .ref a2, .ref a3, .ref a4, .ref a5, .ref a6, .ref a7, .ref a8, .ref a9, .ref a10, .null, .null, .int (oI 0), .int (oI 0), .null, .null, .null, .null, .int (oI 0), .null, .null])), (a1, iaE (cy 0) 8 (fun _ => 0)), (a2, iaE (cy 0) 8 (fun _ => 0)), (a3, iaE (cy 0) 8 (fun _ => 0)), (a4, iaE (cy 0) 8 (fun _ => 0)), (a5, iaE (cy 0) 48 (fun _ => 0)), (a6, iaE (cy 0) 48 (fun _ => 0)), (a7, iaE (cy 1) 48 (fun _ => 0)), (a8, iaE (cy 0) 320 (fun _ => 0)), (a9, iaE (cy 0) 5 (fun _ => 0)), (a10, iaE (cy 0) 240 (fun _ => 0))]) dX5_init_82 pr_X5_38 rfl rfl rfl (Nat.le_of_ble_eq_true rfl) rfl ?_
  refine r_aload_n C 0 dX5_init_85 rfl ?_
  refine r_bipush C dX5_init_86 (by decide) ?_
  refine r_newI C (N := 48) dX5_init_88 rfl (by decide) (by first | decide | omega) (by first | decide | omega) (fun a11 => ?_)
  refine r_putF C hin 0 ([(h0, .inr (5, [.int (oI 0), .int (oI 0), .int (oI 0), .ref a1, .ref a2, .ref a3, .ref a4, .ref a5, .ref a6, .ref a7, .ref a8, .ref a9, .ref a10, .ref a11, .null, .int (oI 0), .int (oI 0), .null, .null, .null, .null, .int (oI 0), .null, .null])), (a1, iaE (cy 0) 8 (fun _ => 0)), (a2, iaE (cy 0) 8 (fun _ => 0)), (a3, iaE (cy 0) 8 (fun _ => 0)), (a4, iaE (cy 0) 8 (fun _ => 0)), (a5, iaE (cy 0) 48 (fun _ => 0)), (a6, iaE (cy 0) 48 (fun _ => 0)), (a7, iaE (cy 1) 48 (fun _ => 0)), (a8, iaE (cy 0) 320 (fun _ => 0)), (a9, iaE (cy 0) 5 (fun _ => 0)), (a10, iaE (cy 0) 240 (fun _ => 0)), (a11, iaE (cy 0) 48 (fun _ => 0))]) dX5_init_90 pr_X5_41 rfl rfl rfl (Nat.le_of_ble_eq_true rfl) rfl ?_
  refine r_aload_n C 0 dX5_init_93 rfl ?_
  refine r_bipush C dX5_init_94 (by decide) ?_
  refine r_newI C (N := 8) dX5_init_96 rfl (by decide) (by first | decide | omega) (by first | decide | omega) (fun a12 => ?_)
  refine r_putF C hin 0 ([(h0, .inr (5, [.int (oI 0), .int (oI 0), .int (oI 0), .ref a1, .ref a2, .ref a3, .ref a4, .ref a5, .ref a6, .ref a7, .ref a8, .ref a9, .ref a10, .ref a11, .ref a12, .int (oI 0), .int (oI 0), .null, .null, .null, .null, .int (oI 0), .null, .null])), (a1, iaE (cy 0) 8 (fun _ => 0)), (a2, iaE (cy 0) 8 (fun _ => 0)), (a3, iaE (cy 0) 8 (fun _ => 0)), (a4, iaE (cy 0) 8 (fun _ => 0)), (a5, iaE (cy 0) 48 (fun _ => 0)), (a6, iaE (cy 0) 48 (fun _ => 0)), (a7, iaE (cy 1) 48 (fun _ => 0)), (a8, iaE (cy 0) 320 (fun _ => 0)), (a9, iaE (cy 0) 5 (fun _ => 0)), (a10, iaE (cy 0) 240 (fun _ => 0)), (a11, iaE (cy 0) 48 (fun _ => 0)), (a12, iaE (cy 0) 8 (fun _ => 0))]) dX5_init_98 pr_X5_44 rfl rfl rfl (Nat.le_of_ble_eq_true rfl) rfl ?_
  refine r_aload_n C 0 dX5_init_101 rfl ?_
  refine r_bipush C dX5_init_102 (by decide) ?_
  refine r_newB C (N := 48) dX5_init_104 rfl (by decide) (by first | decide | omega) (by first | decide | omega) (fun a13 => ?_)
  refine r_putF C hin 0 ([(h0, .inr (5, [.int (oI 0), .int (oI 0), .int (oI 0), .ref a1, .ref a2, .ref a3, .ref a4, .ref a5, .ref a6, .ref a7, .ref a8, .ref a9, .ref a10, .ref a11, .ref a12, .int (oI 0), .int (oI 0), .ref a13, .null, .null, .null, .int (oI 0), .null, .null])), (a1, iaE (cy 0) 8 (fun _ => 0)), (a2, iaE (cy 0) 8 (fun _ => 0)), (a3, iaE (cy 0) 8 (fun _ => 0)), (a4, iaE (cy 0) 8 (fun _ => 0)), (a5, iaE (cy 0) 48 (fun _ => 0)), (a6, iaE (cy 0) 48 (fun _ => 0)), (a7, iaE (cy 1) 48 (fun _ => 0)), (a8, iaE (cy 0) 320 (fun _ => 0)), (a9, iaE (cy 0) 5 (fun _ => 0)), (a10, iaE (cy 0) 240 (fun _ => 0)), (a11, iaE (cy 0) 48 (fun _ => 0)), (a12, iaE (cy 0) 8 (fun _ => 0)), (a13, iaE (cy 1) 48 (fun _ => 0))]) dX5_init_106 pr_X5_47 rfl rfl rfl (Nat.le_of_ble_eq_true rfl) rfl ?_
  refine r_aload_n C 0 dX5_init_109 rfl ?_
  refine r_bipush C dX5_init_110 (by decide) ?_
  refine r_newI C (N := 48) dX5_init_112 rfl (by decide) (by first | decide | omega) (by first | decide | omega) (fun a14 => ?_)
  refine r_putF C hin 0 ([(h0, .inr (5, [.int (oI 0), .int (oI 0), .int (oI 0), .ref a1, .ref a2, .ref a3, .ref a4, .ref a5, .ref a6, .ref a7, .ref a8, .ref a9, .ref a10, .ref a11, .ref a12, .int (oI 0), .int (oI 0), .ref a13, .ref a14, .null, .null, .int (oI 0), .null, .null])), (a1, iaE (cy 0) 8 (fun _ => 0)), (a2, iaE (cy 0) 8 (fun _ => 0)), (a3, iaE (cy 0) 8 (fun _ => 0)), (a4, iaE (cy 0) 8 (fun _ => 0)), (a5, iaE (cy 0) 48 (fun _ => 0)), (a6, iaE (cy 0) 48 (fun _ => 0)), (a7, iaE (cy 1) 48 (fun _ => 0)), (a8, iaE (cy 0) 320 (fun _ => 0)), (a9, iaE (cy 0) 5 (fun _ => 0)), (a10, iaE (cy 0) 240 (fun _ => 0)), (a11, iaE (cy 0) 48 (fun _ => 0)), (a12, iaE (cy 0) 8 (fun _ => 0)), (a13, iaE (cy 1) 48 (fun _ => 0)), (a14, iaE (cy 0) 48 (fun _ => 0))]) dX5_init_114 pr_X5_50 rfl rfl rfl (Nat.le_of_ble_eq_true rfl) rfl ?_
  refine r_aload_n C 0 dX5_init_117 rfl ?_
  refine r_bipush C dX5_init_118 (by decide) ?_
  refine r_newI C (N := 48) dX5_init_120 rfl (by decide) (by first | decide | omega) (by first | decide | omega) (fun a15 => ?_)
  refine r_putF C hin 0 ([(h0, .inr (5, [.int (oI 0), .int (oI 0), .int (oI 0), .ref a1, .ref a2, .ref a3, .ref a4, .ref a5, .ref a6, .ref a7, .ref a8, .ref a9, .ref a10, .ref a11, .ref a12, .int (oI 0), .int (oI 0), .ref a13, .ref a14, .ref a15, .null, .int (oI 0), .null, .null])), (a1, iaE (cy 0) 8 (fun _ => 0)), (a2, iaE (cy 0) 8 (fun _ => 0)), (a3, iaE (cy 0) 8 (fun _ => 0)), (a4, iaE (cy 0) 8 (fun _ => 0)), (a5, iaE (cy 0) 48 (fun _ => 0)), (a6, iaE (cy 0) 48 (fun _ => 0)), (a7, iaE (cy 1) 48 (fun _ => 0)), (a8, iaE (cy 0) 320 (fun _ => 0)), (a9, iaE (cy 0) 5 (fun _ => 0)), (a10, iaE (cy 0) 240 (fun _ => 0)), (a11, iaE (cy 0) 48 (fun _ => 0)), (a12, iaE (cy 0) 8 (fun _ => 0)), (a13, iaE (cy 1) 48 (fun _ => 0)), (a14, iaE (cy 0) 48 (fun _ => 0)), (a15, iaE (cy 0) 48 (fun _ => 0))]) dX5_init_122 pr_X5_53 rfl rfl rfl (Nat.le_of_ble_eq_true rfl) rfl ?_
  refine r_aload_n C 0 dX5_init_125 rfl ?_
  refine r_bipush C dX5_init_126 (by decide) ?_
  refine r_newI C (N := 48) dX5_init_128 rfl (by decide) (by first | decide | omega) (by first | decide | omega) (fun a16 => ?_)
  refine r_putF C hin 0 ([(h0, .inr (5, [.int (oI 0), .int (oI 0), .int (oI 0), .ref a1, .ref a2, .ref a3, .ref a4, .ref a5, .ref a6, .ref a7, .ref a8, .ref a9, .ref a10, .ref a11, .ref a12, .int (oI 0), .int (oI 0), .ref a13, .ref a14, .ref a15, .ref a16, .int (oI 0), .null, .null])), (a1, iaE (cy 0) 8 (fun _ => 0)), (a2, iaE (cy 0) 8 (fun _ => 0)), (a3, iaE (cy 0) 8 (fun _ => 0)), (a4, iaE (cy 0) 8 (fun _ => 0)), (a5, iaE (cy 0) 48 (fun _ => 0)), (a6, iaE (cy 0) 48 (fun _ => 0)), (a7, iaE (cy 1) 48 (fun _ => 0)), (a8, iaE (cy 0) 320 (fun _ => 0)), (a9, iaE (cy 0) 5 (fun _ => 0)), (a10, iaE (cy 0) 240 (fun _ => 0)), (a11, iaE (cy 0) 48 (fun _ => 0)), (a12, iaE (cy 0) 8 (fun _ => 0)), (a13, iaE (cy 1) 48 (fun _ => 0)), (a14, iaE (cy 0) 48 (fun _ => 0)), (a15, iaE (cy 0) 48 (fun _ => 0)), (a16, iaE (cy 0) 48 (fun _ => 0))]) dX5_init_130 pr_X5_56 rfl rfl rfl (Nat.le_of_ble_eq_true rfl) rfl ?_
  refine r_aload_n C 0 dX5_init_133 rfl ?_
  refine r_bipush C dX5_init_134 (by decide) ?_
  refine r_newI C (N := 48) dX5_init_136 rfl (by decide) (by first | decide | omega) (by first | decide | omega) (fun a17 => ?_)
  refine r_putF C hin 0 ([(h0, .inr (5, [.int (oI 0), .int (oI 0), .int (oI 0), .ref a1, .ref a2, .ref a3, .ref a4, .ref a5, .ref a6, .ref a7, .ref a8, .ref a9, .ref a10, .ref a11, .ref a12, .int (oI 0), .int (oI 0), .ref a13, .ref a14, .ref a15, .ref a16, .int (oI 0), .ref a17, .null])), (a1, iaE (cy 0) 8 (fun _ => 0)), (a2, iaE (cy 0) 8 (fun _ => 0)), (a3, iaE (cy 0) 8 (fun _ => 0)), (a4, iaE (cy 0) 8 (fun _ => 0)), (a5, iaE (cy 0) 48 (fun _ => 0)), (a6, iaE (cy 0) 48 (fun _ => 0)), (a7, iaE (cy 1) 48 (fun _ => 0)), (a8, iaE (cy 0) 320 (fun _ => 0)), (a9, iaE (cy 0) 5 (fun _ => 0)), (a10, iaE (cy 0) 240 (fun _ => 0)), (a11, iaE (cy 0) 48 (fun _ => 0)), (a12, iaE (cy 0) 8 (fun _ => 0)), (a13, iaE (cy 1) 48 (fun _ => 0)), (a14, iaE (cy 0) 48 (fun _ => 0)), (a15, iaE (cy 0) 48 (fun _ => 0)), (a16, iaE (cy 0) 48 (fun _ => 0)), (a17, iaE (cy 0) 48 (fun _ => 0))]) dX5_init_138 pr_X5_59 rfl rfl rfl (Nat.le_of_ble_eq_true rfl) rfl ?_
  refine r_aload_n C 0 dX5_init_141 rfl ?_
  refine r_sipush C dX5_init_142 (by decide) ?_
  refine r_newI C (N := 256) dX5_init_145 rfl (by decide) (by first | decide | omega) (by first | decide | omega) (fun a18 => ?_)
  refine r_putF C hin 0 ([(h0, .inr (5, [.int (oI 0), .int (oI 0), .int (oI 0), .ref a1, .ref a2, .ref a3, .ref a4, .ref a5, .ref a6, .ref a7, .ref a8, .ref a9, .ref a10, .ref a11, .ref a12, .int (oI 0), .int (oI 0), .ref a13, .ref a14, .ref a15, .ref a16, .int (oI 0), .ref a17, .ref a18])), (a1, iaE (cy 0) 8 (fun _ => 0)), (a2, iaE (cy 0) 8 (fun _ => 0)), (a3, iaE (cy 0) 8 (fun _ => 0)), (a4, iaE (cy 0) 8 (fun _ => 0)), (a5, iaE (cy 0) 48 (fun _ => 0)), (a6, iaE (cy 0) 48 (fun _ => 0)), (a7, iaE (cy 1) 48 (fun _ => 0)), (a8, iaE (cy 0) 320 (fun _ => 0)), (a9, iaE (cy 0) 5 (fun _ => 0)), (a10, iaE (cy 0) 240 (fun _ => 0)), (a11, iaE (cy 0) 48 (fun _ => 0)), (a12, iaE (cy 0) 8 (fun _ => 0)), (a13, iaE (cy 1) 48 (fun _ => 0)), (a14, iaE (cy 0) 48 (fun _ => 0)), (a15, iaE (cy 0) 48 (fun _ => 0)), (a16, iaE (cy 0) 48 (fun _ => 0)), (a17, iaE (cy 0) 48 (fun _ => 0)), (a18, iaE (cy 0) 256 (fun _ => 0))]) dX5_init_147 pr_X5_62 rfl rfl rfl (Nat.le_of_ble_eq_true rfl) rfl ?_
  refine r_aload_n C 0 dX5_init_150 rfl ?_
  refine r_iload_n C 1 dX5_init_151 rfl ?_
  refine r_iconst C dX5_init_152 ?_
  have fin : ∀ z : Int, z = (M : Int) → RC ((p, l9, e9, R, s), (m, args, below, meth, c), va_A [(h0, .inr (5, dfX5))] sz, D, cy) 2 (MQ below (va_Qv (fun _ : Nat → Nat => True) (fun u t => va_P D vwCl (wMod cy h0 M u) t.heap ∧ va_D (va_A [(h0, .inr (5, dfX5))] sz) (wMod cy h0 M u)) (va_A [(h0, .inr (5, dfX5))] sz)) args s 18 1293 (va_A [(h0, .inr (5, dfX5))] sz)) 170 [(0, .ref h0), (1, .int (oI x))] [.int (oI z), .ref h0] ([(h0, .inr (5, [.int (oI 0), .int (oI 0), .int (oI 0), .ref a1, .ref a2, .ref a3, .ref a4, .ref a5, .ref a6, .ref a7, .ref a8, .ref a9, .ref a10, .ref a11, .ref a12, .int (oI 0), .int (oI 0), .ref a13, .ref a14, .ref a15, .ref a16, .int (oI 0), .ref a17, .ref a18])), (a1, iaE (cy 0) 8 (fun _ => 0)), (a2, iaE (cy 0) 8 (fun _ => 0)), (a3, iaE (cy 0) 8 (fun _ => 0)), (a4, iaE (cy 0) 8 (fun _ => 0)), (a5, iaE (cy 0) 48 (fun _ => 0)), (a6, iaE (cy 0) 48 (fun _ => 0)), (a7, iaE (cy 1) 48 (fun _ => 0)), (a8, iaE (cy 0) 320 (fun _ => 0)), (a9, iaE (cy 0) 5 (fun _ => 0)), (a10, iaE (cy 0) 240 (fun _ => 0)), (a11, iaE (cy 0) 48 (fun _ => 0)), (a12, iaE (cy 0) 8 (fun _ => 0)), (a13, iaE (cy 1) 48 (fun _ => 0)), (a14, iaE (cy 0) 48 (fun _ => 0)), (a15, iaE (cy 0) 48 (fun _ => 0)), (a16, iaE (cy 0) 48 (fun _ => 0)), (a17, iaE (cy 0) 48 (fun _ => 0)), (a18, iaE (cy 0) 256 (fun _ => 0))]) 18 1293 := by
    intro z hz
    subst hz
    refine r_putF C hin 0 (wMod cy h0 M (fun k => match k with | 1 => a1 | 2 => a2 | 3 => a3 | 4 => a4 | 5 => a5 | 6 => a6 | 7 => a7 | 8 => a8 | 9 => a9 | 10 => a10 | 11 => a11 | 12 => a12 | 13 => a13 | 14 => a14 | 15 => a15 | 16 => a16 | 17 => a17 | _ => a18)) dX5_init_170 pr_X5_65 rfl rfl rfl (Nat.le_of_ble_eq_true rfl) rfl ?_
    exact r_vret C hr dX5_init_173 (fun t H locs ht hw hP hD hS => ⟨⟨(fun k => match k with | 1 => a1 | 2 => a2 | 3 => a3 | 4 => a4 | 5 => a5 | 6 => a6 | 7 => a7 | 8 => a8 | 9 => a9 | 10 => a10 | 11 => a11 | 12 => a12 | 13 => a13 | 14 => a14 | 15 => a15 | 16 => a16 | 17 => a17 | _ => a18), rfl, trivial, by rw [ht]; exact hP, hD⟩, hS.F ht⟩)
  refine r_cast 18 1293 (by omega) (by omega) ?_
  refine r_icmp_ge C 160 dX5_init_153 (by decide) hx ⟨by omega, by omega⟩ (fun g => ?_) (fun g => ?_)
  · refine r_iload_n C 1 dX5_init_160 rfl ?_
    refine r_iconst C dX5_init_161 ?_
    refine r_icmp_le C 169 dX5_init_162 (by decide) hx ⟨by omega, by omega⟩ (fun g2 => ?_) (fun g2 => ?_)
    · refine r_iload_n C 1 dX5_init_169 rfl ?_
      exact fin x (by omega)
    · refine r_iconst C dX5_init_165 ?_
      refine r_goto C 170 dX5_init_166 (by decide) ?_
      exact fin 5 (by omega)
  · refine r_iconst C dX5_init_156 ?_
    refine r_goto C 170 dX5_init_157 (by decide) ?_
    exact fin 1 (by omega)
