/-! printed by wip/whole/gen.py: what the tables say of each link -/
theorem uw_X0 : ∀ w ∈ u_ws RX0 TX0 7, w ∈ mj_G := by decide +kernel
theorem uw_X1 : ∀ w ∈ u_ws RX1 TX1 3, w ∈ mj_G := by decide +kernel
theorem uw_X2 : ∀ w ∈ u_ws RX2 TX2 3, w ∈ mj_G := by decide +kernel
theorem uw_X3 : ∀ w ∈ u_ws RX3 TX3 5, w ∈ mj_G := by decide +kernel
theorem uw_X4 : ∀ w ∈ u_ws RX4 TX4 9, w ∈ mj_G := by decide +kernel
theorem uw_X5 : ∀ w ∈ u_ws RX5 TX5 1, w ∈ mj_G := by decide +kernel
theorem uw_X6 : ∀ w ∈ u_ws RX6 TX6 3, w ∈ mj_G := by decide +kernel
theorem uw_X7 : ∀ w ∈ u_ws RX7 TX7 2, w ∈ mj_G := by decide +kernel
theorem uw_X8 : ∀ w ∈ u_ws RX8 TX8 14, w ∈ mj_G := by decide +kernel
theorem uw_X9 : ∀ w ∈ u_ws RX9 TX9 20, w ∈ mj_G := by decide +kernel
theorem ob_X5_3 : Jvm.Cond.methodLink RX5 3 Lib.objectInit ∈ mj_G ∧ Jvm.Cond.instanceMethod Lib.objectInit ∈ mj_G ∧ Jvm.Cond.code Lib.objectInit ⟨#[0xb1]⟩ 1 none ∈ mj_G := ⟨mj_inG 84 (by decide +kernel) (by decide +kernel), mj_inG 71 (by decide +kernel) (by decide +kernel), mj_inG 72 (by decide +kernel) (by decide +kernel)⟩
theorem aw_long : Jvm.Cond.arrayClass .long ∈ mj_G := mj_inG 89 (by decide +kernel) (by decide +kernel)
theorem fp_X5_9 : mj_FP RX5 "<init>" 9 5 0 (tyX5 0) := ⟨RX5, TX5, 1, tyX5, rfl, by decide, uw_X5, tyX5_ok, nmX5, rfl, Or.inr ⟨rfl, rfl, rfl, mj_inG 85 (by decide +kernel) (by decide +kernel)⟩⟩
theorem pl_X5 : plainName RX5 = true := by decide +kernel
theorem ob_X0_3 : Jvm.Cond.methodLink RX0 3 Lib.objectInit ∈ mj_G ∧ Jvm.Cond.instanceMethod Lib.objectInit ∈ mj_G ∧ Jvm.Cond.code Lib.objectInit ⟨#[0xb1]⟩ 1 none ∈ mj_G := ⟨mj_inG 78 (by decide +kernel) (by decide +kernel), mj_inG 71 (by decide +kernel) (by decide +kernel), mj_inG 72 (by decide +kernel) (by decide +kernel)⟩
theorem fp_X0_9 : mj_FP RX0 "<init>" 9 0 0 (tyX0 0) := ⟨RX0, TX0, 7, tyX0, rfl, by decide, uw_X0, tyX0_ok, nmX0, rfl, Or.inr ⟨rfl, rfl, rfl, mj_inG 91 (by decide +kernel) (by decide +kernel)⟩⟩
theorem aw_int : Jvm.Cond.arrayClass .int ∈ mj_G := mj_inG 90 (by decide +kernel) (by decide +kernel)
theorem fp_X0_15 : mj_FP RX0 "<init>" 15 0 1 (tyX0 1) := ⟨RX0, TX0, 7, tyX0, rfl, by decide, uw_X0, tyX0_ok, nmX0, rfl, Or.inr ⟨rfl, rfl, rfl, mj_inG 93 (by decide +kernel) (by decide +kernel)⟩⟩
theorem fp_X0_19 : mj_FP RX0 "<init>" 19 0 2 (tyX0 2) := ⟨RX0, TX0, 7, tyX0, rfl, by decide, uw_X0, tyX0_ok, nmX0, rfl, Or.inr ⟨rfl, rfl, rfl, mj_inG 94 (by decide +kernel) (by decide +kernel)⟩⟩
theorem nw_X0_22 : mj_NW RX0 22 5 1 [.null] := ⟨RX5, TX5, tyX5, rfl, uw_X5, tyX5_ok, mj_inG 79 (by decide +kernel) (by decide +kernel), mj_inG 80 (by decide +kernel) (by decide +kernel), mj_inG 50 (by decide +kernel) (by decide +kernel), fun j hj => by match j, hj with | 0, _ => rfl⟩
theorem ll_X0_24 : mj_LL RX0 24 mX5_init := Or.inr ⟨"RiverChoice", mj_inN 81 (by decide +kernel) (by decide +kernel)⟩
theorem lb_X5_init : mj_LB mX5_init 0 := ⟨mj_inG 83 (by decide +kernel) (by decide +kernel), mj_inG 50 (by decide +kernel) (by decide +kernel), by decide +kernel, by decide +kernel, by decide +kernel⟩
theorem li_X5_init : mX5_init.1.name = "<init>" ∧ mX5_init.2.2.2.1 = none ∧ Jvm.Cond.instanceMethod mX5_init.1 ∈ mj_G := ⟨rfl, rfl, mj_inG 82 (by decide +kernel) (by decide +kernel)⟩
theorem fp_X0_25 : mj_FP RX0 "<init>" 25 0 3 (tyX0 3) := ⟨RX0, TX0, 7, tyX0, rfl, by decide, uw_X0, tyX0_ok, nmX0, rfl, Or.inr ⟨rfl, rfl, rfl, mj_inG 95 (by decide +kernel) (by decide +kernel)⟩⟩
theorem fp_X0_29 {nm : String} : mj_FP RX0 nm 29 0 6 .int := ⟨RX0, TX0, 7, tyX0, rfl, by decide, uw_X0, tyX0_ok, nmX0, rfl, Or.inl ⟨rfl, Or.inl (mj_inG 102 (by decide +kernel) (by decide +kernel))⟩⟩
theorem pl_X0 : plainName RX0 = true := by decide +kernel
theorem fl_X0_33 : mj_FL RX0 33 0 4 := ⟨RX0, TX0, 7, rfl, by decide, uw_X0, Or.inl (mj_inG 96 (by decide +kernel) (by decide +kernel))⟩
theorem fp_X0_33 {nm : String} : mj_FP RX0 nm 33 0 4 .int := ⟨RX0, TX0, 7, tyX0, rfl, by decide, uw_X0, tyX0_ok, nmX0, rfl, Or.inl ⟨rfl, Or.inl (mj_inG 96 (by decide +kernel) (by decide +kernel))⟩⟩
theorem fp_X0_36 {nm : String} : mj_FP RX0 nm 36 0 5 .int := ⟨RX0, TX0, 7, tyX0, rfl, by decide, uw_X0, tyX0_ok, nmX0, rfl, Or.inl ⟨rfl, Or.inl (mj_inG 100 (by decide +kernel) (by decide +kernel))⟩⟩
theorem fl_X0_9 : mj_FL RX0 9 0 0 := ⟨RX0, TX0, 7, rfl, by decide, uw_X0, Or.inl (mj_inG 91 (by decide +kernel) (by decide +kernel))⟩
theorem fl_X0_15 : mj_FL RX0 15 0 1 := ⟨RX0, TX0, 7, rfl, by decide, uw_X0, Or.inl (mj_inG 93 (by decide +kernel) (by decide +kernel))⟩
theorem fl_X0_19 : mj_FL RX0 19 0 2 := ⟨RX0, TX0, 7, rfl, by decide, uw_X0, Or.inl (mj_inG 94 (by decide +kernel) (by decide +kernel))⟩
theorem ll_X0_43 : mj_LL RX0 43 mX0_setWeight := Or.inl (mj_inG 335 (by decide +kernel) (by decide +kernel))
theorem lb_X0_setWeight : mj_LB mX0_setWeight 3 := ⟨mj_inG 338 (by decide +kernel) (by decide +kernel), mj_inG 49 (by decide +kernel) (by decide +kernel), by decide +kernel, by decide +kernel, by decide +kernel⟩
theorem li_X0_setWeight : Jvm.Cond.instanceMethod mX0_setWeight.1 ∈ mj_G ∧ Jvm.Cond.selects mX0_setWeight.1.cls mX0_setWeight.1 mX0_setWeight.1 ∈ mj_G := ⟨mj_inG 336 (by decide +kernel) (by decide +kernel), mj_inG 337 (by decide +kernel) (by decide +kernel)⟩
theorem ll_X0_39 : mj_LL RX0 39 mX0_areWeights := Or.inl (mj_inG 332 (by decide +kernel) (by decide +kernel))
theorem lb_X0_areWeights : mj_LB mX0_areWeights 1 := ⟨mj_inG 334 (by decide +kernel) (by decide +kernel), mj_inG 49 (by decide +kernel) (by decide +kernel), by decide +kernel, by decide +kernel, by decide +kernel⟩
theorem li_X0_areWeights : Jvm.Cond.static mX0_areWeights.1 ∈ mj_G := mj_inG 333 (by decide +kernel) (by decide +kernel)
theorem ll_X0_47 : mj_LL RX0 47 mX0_has := Or.inl (mj_inG 347 (by decide +kernel) (by decide +kernel))
theorem lb_X0_has : mj_LB mX0_has 1 := ⟨mj_inG 350 (by decide +kernel) (by decide +kernel), mj_inG 49 (by decide +kernel) (by decide +kernel), by decide +kernel, by decide +kernel, by decide +kernel⟩
theorem li_X0_has : Jvm.Cond.instanceMethod mX0_has.1 ∈ mj_G ∧ Jvm.Cond.selects mX0_has.1.cls mX0_has.1 mX0_has.1 ∈ mj_G := ⟨mj_inG 348 (by decide +kernel) (by decide +kernel), mj_inG 349 (by decide +kernel) (by decide +kernel)⟩
theorem pl_X8 : plainName RX8 = true := by decide +kernel
theorem ll_X0_61 : mj_LL RX0 61 mX0_brothersOf := Or.inl (mj_inG 363 (by decide +kernel) (by decide +kernel))
theorem lb_X0_brothersOf : mj_LB mX0_brothersOf 1 := ⟨mj_inG 366 (by decide +kernel) (by decide +kernel), mj_inG 49 (by decide +kernel) (by decide +kernel), by decide +kernel, by decide +kernel, by decide +kernel⟩
theorem li_X0_brothersOf : Jvm.Cond.instanceMethod mX0_brothersOf.1 ∈ mj_G ∧ Jvm.Cond.selects mX0_brothersOf.1.cls mX0_brothersOf.1 mX0_brothersOf.1 ∈ mj_G := ⟨mj_inG 364 (by decide +kernel) (by decide +kernel), mj_inG 365 (by decide +kernel) (by decide +kernel)⟩
theorem ll_X0_58 : mj_LL RX0 58 mX8_isIn := Or.inr ⟨"RiverChoice", mj_inN 367 (by decide +kernel) (by decide +kernel)⟩
theorem lb_X8_isIn : mj_LB mX8_isIn 2 := ⟨mj_inG 369 (by decide +kernel) (by decide +kernel), mj_inG 48 (by decide +kernel) (by decide +kernel), by decide +kernel, by decide +kernel, by decide +kernel⟩
theorem li_X8_isIn : Jvm.Cond.static mX8_isIn.1 ∈ mj_G := mj_inG 368 (by decide +kernel) (by decide +kernel)
theorem ll_X0_51 : mj_LL RX0 51 mX0_areBrothers := Or.inl (mj_inG 359 (by decide +kernel) (by decide +kernel))
theorem lb_X0_areBrothers : mj_LB mX0_areBrothers 2 := ⟨mj_inG 362 (by decide +kernel) (by decide +kernel), mj_inG 49 (by decide +kernel) (by decide +kernel), by decide +kernel, by decide +kernel, by decide +kernel⟩
theorem li_X0_areBrothers : Jvm.Cond.instanceMethod mX0_areBrothers.1 ∈ mj_G ∧ Jvm.Cond.selects mX0_areBrothers.1.cls mX0_areBrothers.1 mX0_areBrothers.1 ∈ mj_G := ⟨mj_inG 360 (by decide +kernel) (by decide +kernel), mj_inG 361 (by decide +kernel) (by decide +kernel)⟩
theorem fl_X0_36 : mj_FL RX0 36 0 5 := ⟨RX0, TX0, 7, rfl, by decide, uw_X0, Or.inl (mj_inG 100 (by decide +kernel) (by decide +kernel))⟩
theorem ll_X0_55 : mj_LL RX0 55 mX0_knows := Or.inl (mj_inG 378 (by decide +kernel) (by decide +kernel))
theorem lb_X0_knows : mj_LB mX0_knows 1 := ⟨mj_inG 381 (by decide +kernel) (by decide +kernel), mj_inG 49 (by decide +kernel) (by decide +kernel), by decide +kernel, by decide +kernel, by decide +kernel⟩
theorem li_X0_knows : Jvm.Cond.instanceMethod mX0_knows.1 ∈ mj_G ∧ Jvm.Cond.selects mX0_knows.1.cls mX0_knows.1 mX0_knows.1 ∈ mj_G := ⟨mj_inG 379 (by decide +kernel) (by decide +kernel), mj_inG 380 (by decide +kernel) (by decide +kernel)⟩
theorem pl_J6 : plainName RJ6 = true := by decide +kernel
theorem ll_X0_65 : mj_LL RX0 65 mJ6_bitCount_0f7a4 := Or.inl (mj_inG 850 (by decide +kernel) (by decide +kernel))
theorem lb_J6_bitCount_0f7a4 : mj_LB mJ6_bitCount_0f7a4 1 := ⟨mj_inG 672 (by decide +kernel) (by decide +kernel), mj_inG 64 (by decide +kernel) (by decide +kernel), by decide +kernel, by decide +kernel, by decide +kernel⟩
theorem li_J6_bitCount_0f7a4 : Jvm.Cond.static mJ6_bitCount_0f7a4.1 ∈ mj_G := mj_inG 671 (by decide +kernel) (by decide +kernel)
theorem ll_X0_70 : mj_LL RX0 70 mX0_weightOf := Or.inl (mj_inG 644 (by decide +kernel) (by decide +kernel))
theorem lb_X0_weightOf : mj_LB mX0_weightOf 2 := ⟨mj_inG 546 (by decide +kernel) (by decide +kernel), mj_inG 49 (by decide +kernel) (by decide +kernel), by decide +kernel, by decide +kernel, by decide +kernel⟩
theorem li_X0_weightOf : Jvm.Cond.instanceMethod mX0_weightOf.1 ∈ mj_G ∧ Jvm.Cond.selects mX0_weightOf.1.cls mX0_weightOf.1 mX0_weightOf.1 ∈ mj_G := ⟨mj_inG 544 (by decide +kernel) (by decide +kernel), mj_inG 545 (by decide +kernel) (by decide +kernel)⟩
theorem fl_X5_9 : mj_FL RX5 9 5 0 := ⟨RX5, TX5, 1, rfl, by decide, uw_X5, Or.inl (mj_inG 85 (by decide +kernel) (by decide +kernel))⟩
theorem ll_X5_15 : mj_LL RX5 15 mX0_weightOf := Or.inl (mj_inG 543 (by decide +kernel) (by decide +kernel))
theorem gs_X8_337 : Jvm.Cond.fieldLink RX8 337 "RiverChoice" "CASES" "[I" ∈ mj_G := mj_inG 554 (by decide +kernel) (by decide +kernel)
theorem ll_X5_25 : mj_LL RX5 25 mX5_sum := Or.inl (mj_inG 560 (by decide +kernel) (by decide +kernel))
theorem lb_X5_sum : mj_LB mX5_sum 0 := ⟨mj_inG 563 (by decide +kernel) (by decide +kernel), mj_inG 50 (by decide +kernel) (by decide +kernel), by decide +kernel, by decide +kernel, by decide +kernel⟩
theorem li_X5_sum : Jvm.Cond.instanceMethod mX5_sum.1 ∈ mj_G ∧ Jvm.Cond.selects mX5_sum.1.cls mX5_sum.1 mX5_sum.1 ∈ mj_G := ⟨mj_inG 562 (by decide +kernel) (by decide +kernel), mj_inG 9 (by decide +kernel) (by decide +kernel)⟩
theorem ll_X5_29 : mj_LL RX5 29 mX8_casesOf := Or.inr ⟨"RiverChoice", mj_inN 551 (by decide +kernel) (by decide +kernel)⟩
theorem lb_X8_casesOf : mj_LB mX8_casesOf 3 := ⟨mj_inG 553 (by decide +kernel) (by decide +kernel), mj_inG 48 (by decide +kernel) (by decide +kernel), by decide +kernel, by decide +kernel, by decide +kernel⟩
theorem li_X8_casesOf : Jvm.Cond.static mX8_casesOf.1 ∈ mj_G := mj_inG 552 (by decide +kernel) (by decide +kernel)
theorem fl_X0_25 : mj_FL RX0 25 0 3 := ⟨RX0, TX0, 7, rfl, by decide, uw_X0, Or.inl (mj_inG 95 (by decide +kernel) (by decide +kernel))⟩
theorem ll_X0_74 : mj_LL RX0 74 mX5_load := Or.inl (mj_inG 539 (by decide +kernel) (by decide +kernel))
theorem lb_X5_load : mj_LB mX5_load 2 := ⟨mj_inG 542 (by decide +kernel) (by decide +kernel), mj_inG 50 (by decide +kernel) (by decide +kernel), by decide +kernel, by decide +kernel, by decide +kernel⟩
theorem li_X5_load : Jvm.Cond.instanceMethod mX5_load.1 ∈ mj_G ∧ Jvm.Cond.selects mX5_load.1.cls mX5_load.1 mX5_load.1 ∈ mj_G := ⟨mj_inG 540 (by decide +kernel) (by decide +kernel), mj_inG 541 (by decide +kernel) (by decide +kernel)⟩
theorem ll_X0_78 : mj_LL RX0 78 mX5_chance := Or.inl (mj_inG 594 (by decide +kernel) (by decide +kernel))
theorem lb_X5_chance : mj_LB mX5_chance 2 := ⟨mj_inG 597 (by decide +kernel) (by decide +kernel), mj_inG 50 (by decide +kernel) (by decide +kernel), by decide +kernel, by decide +kernel, by decide +kernel⟩
theorem li_X5_chance : Jvm.Cond.instanceMethod mX5_chance.1 ∈ mj_G ∧ Jvm.Cond.selects mX5_chance.1.cls mX5_chance.1 mX5_chance.1 ∈ mj_G := ⟨mj_inG 595 (by decide +kernel) (by decide +kernel), mj_inG 596 (by decide +kernel) (by decide +kernel)⟩
theorem mx_X5_56 : mj_maxW RX5 56 := ⟨mj_inG 575 (by decide +kernel) (by decide +kernel), mj_inG 576 (by decide +kernel) (by decide +kernel), mj_inG 63 (by decide +kernel) (by decide +kernel), mj_inG 577 (by decide +kernel) (by decide +kernel)⟩
theorem ll_X5_45 : mj_LL RX5 45 mX5_most := Or.inl (mj_inG 571 (by decide +kernel) (by decide +kernel))
theorem lb_X5_most : mj_LB mX5_most 0 := ⟨mj_inG 574 (by decide +kernel) (by decide +kernel), mj_inG 50 (by decide +kernel) (by decide +kernel), by decide +kernel, by decide +kernel, by decide +kernel⟩
theorem li_X5_most : Jvm.Cond.instanceMethod mX5_most.1 ∈ mj_G ∧ Jvm.Cond.selects mX5_most.1.cls mX5_most.1 mX5_most.1 ∈ mj_G := ⟨mj_inG 573 (by decide +kernel) (by decide +kernel), mj_inG 11 (by decide +kernel) (by decide +kernel)⟩
theorem ll_X5_41 : mj_LL RX5 41 mX5_cutBy := Or.inl (mj_inG 567 (by decide +kernel) (by decide +kernel))
theorem lb_X5_cutBy : mj_LB mX5_cutBy 1 := ⟨mj_inG 570 (by decide +kernel) (by decide +kernel), mj_inG 50 (by decide +kernel) (by decide +kernel), by decide +kernel, by decide +kernel, by decide +kernel⟩
theorem li_X5_cutBy : Jvm.Cond.instanceMethod mX5_cutBy.1 ∈ mj_G ∧ Jvm.Cond.selects mX5_cutBy.1.cls mX5_cutBy.1 mX5_cutBy.1 ∈ mj_G := ⟨mj_inG 569 (by decide +kernel) (by decide +kernel), mj_inG 10 (by decide +kernel) (by decide +kernel)⟩
theorem ll_X5_37 : mj_LL RX5 37 mX8_greatestCommon := Or.inr ⟨"RiverChoice", mj_inN 564 (by decide +kernel) (by decide +kernel)⟩
theorem lb_X8_greatestCommon : mj_LB mX8_greatestCommon 2 := ⟨mj_inG 566 (by decide +kernel) (by decide +kernel), mj_inG 48 (by decide +kernel) (by decide +kernel), by decide +kernel, by decide +kernel, by decide +kernel⟩
theorem li_X8_greatestCommon : Jvm.Cond.static mX8_greatestCommon.1 ∈ mj_G := mj_inG 565 (by decide +kernel) (by decide +kernel)
theorem ll_X5_33 : mj_LL RX5 33 mX5_isEmpty := Or.inl (mj_inG 556 (by decide +kernel) (by decide +kernel))
theorem lb_X5_isEmpty : mj_LB mX5_isEmpty 0 := ⟨mj_inG 559 (by decide +kernel) (by decide +kernel), mj_inG 50 (by decide +kernel) (by decide +kernel), by decide +kernel, by decide +kernel, by decide +kernel⟩
theorem li_X5_isEmpty : Jvm.Cond.instanceMethod mX5_isEmpty.1 ∈ mj_G ∧ Jvm.Cond.selects mX5_isEmpty.1.cls mX5_isEmpty.1 mX5_isEmpty.1 ∈ mj_G := ⟨mj_inG 557 (by decide +kernel) (by decide +kernel), mj_inG 558 (by decide +kernel) (by decide +kernel)⟩
theorem ll_X0_82 : mj_LL RX0 82 mX5_weigh := Or.inl (mj_inG 547 (by decide +kernel) (by decide +kernel))
theorem lb_X5_weigh : mj_LB mX5_weigh 3 := ⟨mj_inG 550 (by decide +kernel) (by decide +kernel), mj_inG 50 (by decide +kernel) (by decide +kernel), by decide +kernel, by decide +kernel, by decide +kernel⟩
theorem li_X5_weigh : Jvm.Cond.instanceMethod mX5_weigh.1 ∈ mj_G ∧ Jvm.Cond.selects mX5_weigh.1.cls mX5_weigh.1 mX5_weigh.1 ∈ mj_G := ⟨mj_inG 548 (by decide +kernel) (by decide +kernel), mj_inG 549 (by decide +kernel) (by decide +kernel)⟩
theorem ll_X5_21 : mj_LL RX5 21 mX0_setWeight := Or.inl (mj_inG 584 (by decide +kernel) (by decide +kernel))
theorem gs_X8_334 : Jvm.Cond.fieldLink RX8 334 "RiverChoice" "COSTS" "[I" ∈ mj_G := mj_inG 528 (by decide +kernel) (by decide +kernel)
theorem fl_X0_29 : mj_FL RX0 29 0 6 := ⟨RX0, TX0, 7, rfl, by decide, uw_X0, Or.inl (mj_inG 102 (by decide +kernel) (by decide +kernel))⟩
theorem ll_X0_92 : mj_LL RX0 92 mX8_costOf := Or.inr ⟨"RiverChoice", mj_inN 589 (by decide +kernel) (by decide +kernel)⟩
theorem lb_X8_costOf : mj_LB mX8_costOf 1 := ⟨mj_inG 527 (by decide +kernel) (by decide +kernel), mj_inG 48 (by decide +kernel) (by decide +kernel), by decide +kernel, by decide +kernel, by decide +kernel⟩
theorem li_X8_costOf : Jvm.Cond.static mX8_costOf.1 ∈ mj_G := mj_inG 526 (by decide +kernel) (by decide +kernel)
theorem ll_X0_86 : mj_LL RX0 86 mX5_store := Or.inl (mj_inG 580 (by decide +kernel) (by decide +kernel))
theorem lb_X5_store : mj_LB mX5_store 2 := ⟨mj_inG 583 (by decide +kernel) (by decide +kernel), mj_inG 50 (by decide +kernel) (by decide +kernel), by decide +kernel, by decide +kernel, by decide +kernel⟩
theorem li_X5_store : Jvm.Cond.instanceMethod mX5_store.1 ∈ mj_G ∧ Jvm.Cond.selects mX5_store.1.cls mX5_store.1 mX5_store.1 ∈ mj_G := ⟨mj_inG 581 (by decide +kernel) (by decide +kernel), mj_inG 582 (by decide +kernel) (by decide +kernel)⟩
theorem ll_X0_89 : mj_LL RX0 89 mX0_besides := Or.inl (mj_inG 585 (by decide +kernel) (by decide +kernel))
theorem lb_X0_besides : mj_LB mX0_besides 1 := ⟨mj_inG 588 (by decide +kernel) (by decide +kernel), mj_inG 49 (by decide +kernel) (by decide +kernel), by decide +kernel, by decide +kernel, by decide +kernel⟩
theorem li_X0_besides : Jvm.Cond.instanceMethod mX0_besides.1 ∈ mj_G ∧ Jvm.Cond.selects mX0_besides.1.cls mX0_besides.1 mX0_besides.1 ∈ mj_G := ⟨mj_inG 586 (by decide +kernel) (by decide +kernel), mj_inG 587 (by decide +kernel) (by decide +kernel)⟩
theorem ll_X0_95 : mj_LL RX0 95 mX0_signsOf := Or.inl (mj_inG 781 (by decide +kernel) (by decide +kernel))
theorem lb_X0_signsOf : mj_LB mX0_signsOf 1 := ⟨mj_inG 637 (by decide +kernel) (by decide +kernel), mj_inG 49 (by decide +kernel) (by decide +kernel), by decide +kernel, by decide +kernel, by decide +kernel⟩
theorem li_X0_signsOf : Jvm.Cond.instanceMethod mX0_signsOf.1 ∈ mj_G ∧ Jvm.Cond.selects mX0_signsOf.1.cls mX0_signsOf.1 mX0_signsOf.1 ∈ mj_G := ⟨mj_inG 635 (by decide +kernel) (by decide +kernel), mj_inG 636 (by decide +kernel) (by decide +kernel)⟩
theorem cp_X0_98 : mj_cpW RX0 98 := ⟨mj_inG 513 (by decide +kernel) (by decide +kernel), mj_inG 515 (by decide +kernel) (by decide +kernel), mj_inG 514 (by decide +kernel) (by decide +kernel), mj_inG 62 (by decide +kernel) (by decide +kernel)⟩
theorem ob_X3_3 : Jvm.Cond.methodLink RX3 3 Lib.objectInit ∈ mj_G ∧ Jvm.Cond.instanceMethod Lib.objectInit ∈ mj_G ∧ Jvm.Cond.code Lib.objectInit ⟨#[0xb1]⟩ 1 none ∈ mj_G := ⟨mj_inG 126 (by decide +kernel) (by decide +kernel), mj_inG 71 (by decide +kernel) (by decide +kernel), mj_inG 72 (by decide +kernel) (by decide +kernel)⟩
theorem fp_X3_11 : mj_FP RX3 "<init>" 11 3 0 (tyX3 0) := ⟨RX3, TX3, 5, tyX3, rfl, by decide, uw_X3, tyX3_ok, nmX3, rfl, Or.inr ⟨rfl, rfl, rfl, mj_inG 127 (by decide +kernel) (by decide +kernel)⟩⟩
theorem fp_X3_15 : mj_FP RX3 "<init>" 15 3 1 (tyX3 1) := ⟨RX3, TX3, 5, tyX3, rfl, by decide, uw_X3, tyX3_ok, nmX3, rfl, Or.inr ⟨rfl, rfl, rfl, mj_inG 128 (by decide +kernel) (by decide +kernel)⟩⟩
theorem fp_X3_19 : mj_FP RX3 "<init>" 19 3 2 (tyX3 2) := ⟨RX3, TX3, 5, tyX3, rfl, by decide, uw_X3, tyX3_ok, nmX3, rfl, Or.inr ⟨rfl, rfl, rfl, mj_inG 129 (by decide +kernel) (by decide +kernel)⟩⟩
theorem pl_X3 : plainName RX3 = true := by decide +kernel
theorem ob_X1_1 : Jvm.Cond.methodLink RX1 1 Lib.objectInit ∈ mj_G ∧ Jvm.Cond.instanceMethod Lib.objectInit ∈ mj_G ∧ Jvm.Cond.code Lib.objectInit ⟨#[0xb1]⟩ 1 none ∈ mj_G := ⟨mj_inG 149 (by decide +kernel) (by decide +kernel), mj_inG 71 (by decide +kernel) (by decide +kernel), mj_inG 72 (by decide +kernel) (by decide +kernel)⟩
theorem nw_X1_7 : mj_NW RX1 7 0 7 [.null, .null, .null, .null, .int 0, .int 0, .int 0] := ⟨RX0, TX0, tyX0, rfl, uw_X0, tyX0_ok, mj_inG 150 (by decide +kernel) (by decide +kernel), mj_inG 74 (by decide +kernel) (by decide +kernel), mj_inG 49 (by decide +kernel) (by decide +kernel), fun j hj => by match j, hj with | 0, _ => rfl | 1, _ => rfl | 2, _ => rfl | 3, _ => rfl | 4, _ => rfl | 5, _ => rfl | 6, _ => rfl⟩
theorem ll_X1_9 : mj_LL RX1 9 mX0_init := Or.inr ⟨"RiverChoice", mj_inN 151 (by decide +kernel) (by decide +kernel)⟩
theorem lb_X0_init : mj_LB mX0_init 0 := ⟨mj_inG 77 (by decide +kernel) (by decide +kernel), mj_inG 49 (by decide +kernel) (by decide +kernel), by decide +kernel, by decide +kernel, by decide +kernel⟩
theorem li_X0_init : mX0_init.1.name = "<init>" ∧ mX0_init.2.2.2.1 = none ∧ Jvm.Cond.instanceMethod mX0_init.1 ∈ mj_G := ⟨rfl, rfl, mj_inG 76 (by decide +kernel) (by decide +kernel)⟩
theorem fp_X1_10 : mj_FP RX1 "<init>" 10 1 0 (tyX1 0) := ⟨RX1, TX1, 3, tyX1, rfl, by decide, uw_X1, tyX1_ok, nmX1, rfl, Or.inr ⟨rfl, rfl, rfl, mj_inG 154 (by decide +kernel) (by decide +kernel)⟩⟩
theorem nw_X1_16 : mj_NW RX1 16 3 5 [.null, .null, .null, .int 0, .int 0] := ⟨RX3, TX3, tyX3, rfl, uw_X3, tyX3_ok, mj_inG 152 (by decide +kernel) (by decide +kernel), mj_inG 122 (by decide +kernel) (by decide +kernel), mj_inG 51 (by decide +kernel) (by decide +kernel), fun j hj => by match j, hj with | 0, _ => rfl | 1, _ => rfl | 2, _ => rfl | 3, _ => rfl | 4, _ => rfl⟩
theorem ll_X1_18 : mj_LL RX1 18 mX3_init := Or.inr ⟨"RiverChoice", mj_inN 153 (by decide +kernel) (by decide +kernel)⟩
theorem lb_X3_init : mj_LB mX3_init 0 := ⟨mj_inG 125 (by decide +kernel) (by decide +kernel), mj_inG 51 (by decide +kernel) (by decide +kernel), by decide +kernel, by decide +kernel, by decide +kernel⟩
theorem li_X3_init : mX3_init.1.name = "<init>" ∧ mX3_init.2.2.2.1 = none ∧ Jvm.Cond.instanceMethod mX3_init.1 ∈ mj_G := ⟨rfl, rfl, mj_inG 124 (by decide +kernel) (by decide +kernel)⟩
theorem fp_X1_19 : mj_FP RX1 "<init>" 19 1 1 (tyX1 1) := ⟨RX1, TX1, 3, tyX1, rfl, by decide, uw_X1, tyX1_ok, nmX1, rfl, Or.inr ⟨rfl, rfl, rfl, mj_inG 156 (by decide +kernel) (by decide +kernel)⟩⟩
theorem pl_X1 : plainName RX1 = true := by decide +kernel
theorem ob_X2_3 : Jvm.Cond.methodLink RX2 3 Lib.objectInit ∈ mj_G ∧ Jvm.Cond.instanceMethod Lib.objectInit ∈ mj_G ∧ Jvm.Cond.code Lib.objectInit ⟨#[0xb1]⟩ 1 none ∈ mj_G := ⟨mj_inG 224 (by decide +kernel) (by decide +kernel), mj_inG 71 (by decide +kernel) (by decide +kernel), mj_inG 72 (by decide +kernel) (by decide +kernel)⟩
theorem fp_X2_9 : mj_FP RX2 "<init>" 9 2 0 (tyX2 0) := ⟨RX2, TX2, 3, tyX2, rfl, by decide, uw_X2, tyX2_ok, nmX2, rfl, Or.inr ⟨rfl, rfl, rfl, mj_inG 225 (by decide +kernel) (by decide +kernel)⟩⟩
theorem fp_X2_15 : mj_FP RX2 "<init>" 15 2 1 (tyX2 1) := ⟨RX2, TX2, 3, tyX2, rfl, by decide, uw_X2, tyX2_ok, nmX2, rfl, Or.inr ⟨rfl, rfl, rfl, mj_inG 226 (by decide +kernel) (by decide +kernel)⟩⟩
theorem pl_X2 : plainName RX2 = true := by decide +kernel
theorem fl_X2_9 : mj_FL RX2 9 2 0 := ⟨RX2, TX2, 3, rfl, by decide, uw_X2, Or.inl (mj_inG 225 (by decide +kernel) (by decide +kernel))⟩
theorem fl_X2_19 : mj_FL RX2 19 0 4 := ⟨RX0, TX0, 7, rfl, by decide, uw_X0, Or.inr ⟨"RiverChoice", mj_inN 97 (by decide +kernel) (by decide +kernel)⟩⟩
theorem ll_X2_25 : mj_LL RX2 25 mX0_trustOf := Or.inl (mj_inG 660 (by decide +kernel) (by decide +kernel))
theorem lb_X0_trustOf : mj_LB mX0_trustOf 1 := ⟨mj_inG 593 (by decide +kernel) (by decide +kernel), mj_inG 49 (by decide +kernel) (by decide +kernel), by decide +kernel, by decide +kernel, by decide +kernel⟩
theorem li_X0_trustOf : Jvm.Cond.instanceMethod mX0_trustOf.1 ∈ mj_G ∧ Jvm.Cond.selects mX0_trustOf.1.cls mX0_trustOf.1 mX0_trustOf.1 ∈ mj_G := ⟨mj_inG 591 (by decide +kernel) (by decide +kernel), mj_inG 592 (by decide +kernel) (by decide +kernel)⟩
theorem ll_X2_29 : mj_LL RX2 29 mX0_trustBehind := Or.inl (mj_inG 710 (by decide +kernel) (by decide +kernel))
theorem lb_X0_trustBehind : mj_LB mX0_trustBehind 4 := ⟨mj_inG 713 (by decide +kernel) (by decide +kernel), mj_inG 49 (by decide +kernel) (by decide +kernel), by decide +kernel, by decide +kernel, by decide +kernel⟩
theorem li_X0_trustBehind : Jvm.Cond.instanceMethod mX0_trustBehind.1 ∈ mj_G ∧ Jvm.Cond.selects mX0_trustBehind.1.cls mX0_trustBehind.1 mX0_trustBehind.1 ∈ mj_G := ⟨mj_inG 711 (by decide +kernel) (by decide +kernel), mj_inG 712 (by decide +kernel) (by decide +kernel)⟩
theorem fl_X2_15 : mj_FL RX2 15 2 1 := ⟨RX2, TX2, 3, rfl, by decide, uw_X2, Or.inl (mj_inG 226 (by decide +kernel) (by decide +kernel))⟩
theorem ll_X2_33 : mj_LL RX2 33 mX8_isIn := Or.inr ⟨"RiverChoice", mj_inN 665 (by decide +kernel) (by decide +kernel)⟩
theorem ll_X2_37 : mj_LL RX2 37 mX2_addMan := Or.inl (mj_inG 666 (by decide +kernel) (by decide +kernel))
theorem lb_X2_addMan : mj_LB mX2_addMan 1 := ⟨mj_inG 669 (by decide +kernel) (by decide +kernel), mj_inG 55 (by decide +kernel) (by decide +kernel), by decide +kernel, by decide +kernel, by decide +kernel⟩
theorem li_X2_addMan : Jvm.Cond.instanceMethod mX2_addMan.1 ∈ mj_G ∧ Jvm.Cond.selects mX2_addMan.1.cls mX2_addMan.1 mX2_addMan.1 ∈ mj_G := ⟨mj_inG 668 (by decide +kernel) (by decide +kernel), mj_inG 12 (by decide +kernel) (by decide +kernel)⟩
theorem ll_X2_43 : mj_LL RX2 43 mJ6_bitCount_0f7a4 := Or.inl (mj_inG 687 (by decide +kernel) (by decide +kernel))
theorem ll_X2_48 : mj_LL RX2 48 mX2_waysToHold := Or.inl (mj_inG 688 (by decide +kernel) (by decide +kernel))
theorem lb_X2_waysToHold : mj_LB mX2_waysToHold 2 := ⟨mj_inG 664 (by decide +kernel) (by decide +kernel), mj_inG 55 (by decide +kernel) (by decide +kernel), by decide +kernel, by decide +kernel, by decide +kernel⟩
theorem li_X2_waysToHold : Jvm.Cond.instanceMethod mX2_waysToHold.1 ∈ mj_G ∧ Jvm.Cond.selects mX2_waysToHold.1.cls mX2_waysToHold.1 mX2_waysToHold.1 ∈ mj_G := ⟨mj_inG 662 (by decide +kernel) (by decide +kernel), mj_inG 663 (by decide +kernel) (by decide +kernel)⟩
theorem fp_X2_52 {nm : String} : mj_FP RX2 nm 52 2 2 .int := ⟨RX2, TX2, 3, tyX2, rfl, by decide, uw_X2, tyX2_ok, nmX2, rfl, Or.inl ⟨rfl, Or.inl (mj_inG 227 (by decide +kernel) (by decide +kernel))⟩⟩
theorem fl_X3_26 : mj_FL RX3 26 3 3 := ⟨RX3, TX3, 5, rfl, by decide, uw_X3, Or.inl (mj_inG 130 (by decide +kernel) (by decide +kernel))⟩
theorem fl_X3_22 : mj_FL RX3 22 3 4 := ⟨RX3, TX3, 5, rfl, by decide, uw_X3, Or.inl (mj_inG 131 (by decide +kernel) (by decide +kernel))⟩
theorem fl_X3_29 : mj_FL RX3 29 0 0 := ⟨RX0, TX0, 7, rfl, by decide, uw_X0, Or.inr ⟨"RiverChoice", mj_inN 92 (by decide +kernel) (by decide +kernel)⟩⟩
theorem fl_X3_11 : mj_FL RX3 11 3 0 := ⟨RX3, TX3, 5, rfl, by decide, uw_X3, Or.inl (mj_inG 127 (by decide +kernel) (by decide +kernel))⟩
theorem cp_X3_32 : mj_cpW RX3 32 := ⟨mj_inG 534 (by decide +kernel) (by decide +kernel), mj_inG 515 (by decide +kernel) (by decide +kernel), mj_inG 514 (by decide +kernel) (by decide +kernel), mj_inG 62 (by decide +kernel) (by decide +kernel)⟩
theorem fl_X3_15 : mj_FL RX3 15 3 1 := ⟨RX3, TX3, 5, rfl, by decide, uw_X3, Or.inl (mj_inG 128 (by decide +kernel) (by decide +kernel))⟩
theorem fl_X3_38 : mj_FL RX3 38 0 5 := ⟨RX0, TX0, 7, rfl, by decide, uw_X0, Or.inr ⟨"RiverChoice", mj_inN 99 (by decide +kernel) (by decide +kernel)⟩⟩
theorem fl_X3_19 : mj_FL RX3 19 3 2 := ⟨RX3, TX3, 5, rfl, by decide, uw_X3, Or.inl (mj_inG 129 (by decide +kernel) (by decide +kernel))⟩
theorem fl_X3_40 : mj_FL RX3 40 0 6 := ⟨RX0, TX0, 7, rfl, by decide, uw_X0, Or.inr ⟨"RiverChoice", mj_inN 103 (by decide +kernel) (by decide +kernel)⟩⟩
theorem fp_X3_22 {nm : String} : mj_FP RX3 nm 22 3 4 .int := ⟨RX3, TX3, 5, tyX3, rfl, by decide, uw_X3, tyX3_ok, nmX3, rfl, Or.inl ⟨rfl, Or.inl (mj_inG 131 (by decide +kernel) (by decide +kernel))⟩⟩
theorem fp_X3_26 {nm : String} : mj_FP RX3 nm 26 3 3 .int := ⟨RX3, TX3, 5, tyX3, rfl, by decide, uw_X3, tyX3_ok, nmX3, rfl, Or.inl ⟨rfl, Or.inl (mj_inG 130 (by decide +kernel) (by decide +kernel))⟩⟩
theorem fp_X3_38 {nm : String} : mj_FP RX3 nm 38 0 5 .int := ⟨RX0, TX0, 7, tyX0, rfl, by decide, uw_X0, tyX0_ok, nmX0, rfl, Or.inl ⟨rfl, Or.inr ⟨"RiverChoice", mj_inN 99 (by decide +kernel) (by decide +kernel)⟩⟩⟩
theorem fp_X3_40 {nm : String} : mj_FP RX3 nm 40 0 6 .int := ⟨RX0, TX0, 7, tyX0, rfl, by decide, uw_X0, tyX0_ok, nmX0, rfl, Or.inl ⟨rfl, Or.inr ⟨"RiverChoice", mj_inN 103 (by decide +kernel) (by decide +kernel)⟩⟩⟩
theorem ob_X7_3 : Jvm.Cond.methodLink RX7 3 Lib.objectInit ∈ mj_G ∧ Jvm.Cond.instanceMethod Lib.objectInit ∈ mj_G ∧ Jvm.Cond.code Lib.objectInit ⟨#[0xb1]⟩ 1 none ∈ mj_G := ⟨mj_inG 177 (by decide +kernel) (by decide +kernel), mj_inG 71 (by decide +kernel) (by decide +kernel), mj_inG 72 (by decide +kernel) (by decide +kernel)⟩
theorem fp_X7_11 : mj_FP RX7 "<init>" 11 7 0 (tyX7 0) := ⟨RX7, TX7, 2, tyX7, rfl, by decide, uw_X7, tyX7_ok, nmX7, rfl, Or.inr ⟨rfl, rfl, rfl, mj_inG 178 (by decide +kernel) (by decide +kernel)⟩⟩
theorem pl_X7 : plainName RX7 = true := by decide +kernel
theorem ob_X4_3 : Jvm.Cond.methodLink RX4 3 Lib.objectInit ∈ mj_G ∧ Jvm.Cond.instanceMethod Lib.objectInit ∈ mj_G ∧ Jvm.Cond.code Lib.objectInit ⟨#[0xb1]⟩ 1 none ∈ mj_G := ⟨mj_inG 171 (by decide +kernel) (by decide +kernel), mj_inG 71 (by decide +kernel) (by decide +kernel), mj_inG 72 (by decide +kernel) (by decide +kernel)⟩
theorem nw_X4_9 : mj_NW RX4 9 7 2 [.null, .int 0] := ⟨RX7, TX7, tyX7, rfl, uw_X7, tyX7_ok, mj_inG 172 (by decide +kernel) (by decide +kernel), mj_inG 173 (by decide +kernel) (by decide +kernel), mj_inG 54 (by decide +kernel) (by decide +kernel), fun j hj => by match j, hj with | 0, _ => rfl | 1, _ => rfl⟩
theorem ll_X4_11 : mj_LL RX4 11 mX7_init := Or.inr ⟨"RiverChoice", mj_inN 174 (by decide +kernel) (by decide +kernel)⟩
theorem lb_X7_init : mj_LB mX7_init 0 := ⟨mj_inG 176 (by decide +kernel) (by decide +kernel), mj_inG 54 (by decide +kernel) (by decide +kernel), by decide +kernel, by decide +kernel, by decide +kernel⟩
theorem li_X7_init : mX7_init.1.name = "<init>" ∧ mX7_init.2.2.2.1 = none ∧ Jvm.Cond.instanceMethod mX7_init.1 ∈ mj_G := ⟨rfl, rfl, mj_inG 175 (by decide +kernel) (by decide +kernel)⟩
theorem fp_X4_12 : mj_FP RX4 "<init>" 12 4 0 (tyX4 0) := ⟨RX4, TX4, 9, tyX4, rfl, by decide, uw_X4, tyX4_ok, nmX4, rfl, Or.inr ⟨rfl, rfl, rfl, mj_inG 188 (by decide +kernel) (by decide +kernel)⟩⟩
theorem nw_X4_18 : mj_NW RX4 18 0 7 [.null, .null, .null, .null, .int 0, .int 0, .int 0] := ⟨RX0, TX0, tyX0, rfl, uw_X0, tyX0_ok, mj_inG 186 (by decide +kernel) (by decide +kernel), mj_inG 74 (by decide +kernel) (by decide +kernel), mj_inG 49 (by decide +kernel) (by decide +kernel), fun j hj => by match j, hj with | 0, _ => rfl | 1, _ => rfl | 2, _ => rfl | 3, _ => rfl | 4, _ => rfl | 5, _ => rfl | 6, _ => rfl⟩
theorem ll_X4_20 : mj_LL RX4 20 mX0_init := Or.inr ⟨"RiverChoice", mj_inN 187 (by decide +kernel) (by decide +kernel)⟩
theorem fp_X4_21 : mj_FP RX4 "<init>" 21 4 1 (tyX4 1) := ⟨RX4, TX4, 9, tyX4, rfl, by decide, uw_X4, tyX4_ok, nmX4, rfl, Or.inr ⟨rfl, rfl, rfl, mj_inG 190 (by decide +kernel) (by decide +kernel)⟩⟩
theorem fp_X4_25 : mj_FP RX4 "<init>" 25 4 2 (tyX4 2) := ⟨RX4, TX4, 9, tyX4, rfl, by decide, uw_X4, tyX4_ok, nmX4, rfl, Or.inr ⟨rfl, rfl, rfl, mj_inG 192 (by decide +kernel) (by decide +kernel)⟩⟩
theorem pl_X4 : plainName RX4 = true := by decide +kernel
theorem fl_X7_15 : mj_FL RX7 15 7 1 := ⟨RX7, TX7, 2, rfl, by decide, uw_X7, Or.inl (mj_inG 179 (by decide +kernel) (by decide +kernel))⟩
theorem fl_X7_11 : mj_FL RX7 11 7 0 := ⟨RX7, TX7, 2, rfl, by decide, uw_X7, Or.inl (mj_inG 178 (by decide +kernel) (by decide +kernel))⟩
theorem fl_X4_12 : mj_FL RX4 12 4 0 := ⟨RX4, TX4, 9, rfl, by decide, uw_X4, Or.inl (mj_inG 188 (by decide +kernel) (by decide +kernel))⟩
theorem fl_X4_29 : mj_FL RX4 29 4 3 := ⟨RX4, TX4, 9, rfl, by decide, uw_X4, Or.inl (mj_inG 193 (by decide +kernel) (by decide +kernel))⟩
theorem ll_X4_39 : mj_LL RX4 39 mX7_byteAt := Or.inl (mj_inG 410 (by decide +kernel) (by decide +kernel))
theorem lb_X7_byteAt : mj_LB mX7_byteAt 1 := ⟨mj_inG 413 (by decide +kernel) (by decide +kernel), mj_inG 54 (by decide +kernel) (by decide +kernel), by decide +kernel, by decide +kernel, by decide +kernel⟩
theorem li_X7_byteAt : Jvm.Cond.instanceMethod mX7_byteAt.1 ∈ mj_G ∧ Jvm.Cond.selects mX7_byteAt.1.cls mX7_byteAt.1 mX7_byteAt.1 ∈ mj_G := ⟨mj_inG 411 (by decide +kernel) (by decide +kernel), mj_inG 412 (by decide +kernel) (by decide +kernel)⟩
theorem fp_X4_29 {nm : String} : mj_FP RX4 nm 29 4 3 .int := ⟨RX4, TX4, 9, tyX4, rfl, by decide, uw_X4, tyX4_ok, nmX4, rfl, Or.inl ⟨rfl, Or.inl (mj_inG 193 (by decide +kernel) (by decide +kernel))⟩⟩
theorem ll_X7_19 : mj_LL RX7 19 mJ0_length_8abf5 := Or.inl (mj_inG 434 (by decide +kernel) (by decide +kernel))
theorem lb_J0_length_8abf5 : mj_LB mJ0_length_8abf5 0 := ⟨mj_inG 437 (by decide +kernel) (by decide +kernel), mj_inG 58 (by decide +kernel) (by decide +kernel), by decide +kernel, by decide +kernel, by decide +kernel⟩
theorem li_J0_length_8abf5 : Jvm.Cond.instanceMethod mJ0_length_8abf5.1 ∈ mj_G ∧ Jvm.Cond.selects mJ0_length_8abf5.1.cls mJ0_length_8abf5.1 mJ0_length_8abf5.1 ∈ mj_G := ⟨mj_inG 435 (by decide +kernel) (by decide +kernel), mj_inG 436 (by decide +kernel) (by decide +kernel)⟩
theorem ll_X7_25 : mj_LL RX7 25 mX7_byteAt := Or.inl (mj_inG 444 (by decide +kernel) (by decide +kernel))
theorem ll_X7_29 : mj_LL RX7 29 mJ0_charAt_5068e := Or.inl (mj_inG 445 (by decide +kernel) (by decide +kernel))
theorem lb_J0_charAt_5068e : mj_LB mJ0_charAt_5068e 1 := ⟨mj_inG 448 (by decide +kernel) (by decide +kernel), mj_inG 58 (by decide +kernel) (by decide +kernel), by decide +kernel, by decide +kernel, by decide +kernel⟩
theorem li_J0_charAt_5068e : Jvm.Cond.instanceMethod mJ0_charAt_5068e.1 ∈ mj_G ∧ Jvm.Cond.selects mJ0_charAt_5068e.1.cls mJ0_charAt_5068e.1 mJ0_charAt_5068e.1 ∈ mj_G := ⟨mj_inG 446 (by decide +kernel) (by decide +kernel), mj_inG 447 (by decide +kernel) (by decide +kernel)⟩
theorem fp_X4_77 {nm : String} : mj_FP RX4 nm 77 4 5 .int := ⟨RX4, TX4, 9, tyX4, rfl, by decide, uw_X4, tyX4_ok, nmX4, rfl, Or.inl ⟨rfl, Or.inl (mj_inG 195 (by decide +kernel) (by decide +kernel))⟩⟩
theorem fl_X4_47 : mj_FL RX4 47 4 4 := ⟨RX4, TX4, 9, rfl, by decide, uw_X4, Or.inl (mj_inG 194 (by decide +kernel) (by decide +kernel))⟩
theorem ll_X4_101 : mj_LL RX4 101 mX7_spells := Or.inl (mj_inG 430 (by decide +kernel) (by decide +kernel))
theorem lb_X7_spells : mj_LB mX7_spells 3 := ⟨mj_inG 433 (by decide +kernel) (by decide +kernel), mj_inG 54 (by decide +kernel) (by decide +kernel), by decide +kernel, by decide +kernel, by decide +kernel⟩
theorem li_X7_spells : Jvm.Cond.instanceMethod mX7_spells.1 ∈ mj_G ∧ Jvm.Cond.selects mX7_spells.1.cls mX7_spells.1 mX7_spells.1 ∈ mj_G := ⟨mj_inG 431 (by decide +kernel) (by decide +kernel), mj_inG 432 (by decide +kernel) (by decide +kernel)⟩
theorem fp_X4_80 {nm : String} : mj_FP RX4 nm 80 4 6 .int := ⟨RX4, TX4, 9, tyX4, rfl, by decide, uw_X4, tyX4_ok, nmX4, rfl, Or.inl ⟨rfl, Or.inl (mj_inG 196 (by decide +kernel) (by decide +kernel))⟩⟩
theorem ll_X4_86 : mj_LL RX4 86 mX4_isLetter := Or.inl (mj_inG 422 (by decide +kernel) (by decide +kernel))
theorem lb_X4_isLetter : mj_LB mX4_isLetter 1 := ⟨mj_inG 424 (by decide +kernel) (by decide +kernel), mj_inG 53 (by decide +kernel) (by decide +kernel), by decide +kernel, by decide +kernel, by decide +kernel⟩
theorem li_X4_isLetter : Jvm.Cond.static mX4_isLetter.1 ∈ mj_G := mj_inG 423 (by decide +kernel) (by decide +kernel)
theorem ll_X4_93 : mj_LL RX4 93 mX4_isFigure := Or.inl (mj_inG 487 (by decide +kernel) (by decide +kernel))
theorem lb_X4_isFigure : mj_LB mX4_isFigure 1 := ⟨mj_inG 489 (by decide +kernel) (by decide +kernel), mj_inG 53 (by decide +kernel) (by decide +kernel), by decide +kernel, by decide +kernel, by decide +kernel⟩
theorem li_X4_isFigure : Jvm.Cond.static mX4_isFigure.1 ∈ mj_G := mj_inG 488 (by decide +kernel) (by decide +kernel)
theorem fl_X4_80 : mj_FL RX4 80 4 6 := ⟨RX4, TX4, 9, rfl, by decide, uw_X4, Or.inl (mj_inG 196 (by decide +kernel) (by decide +kernel))⟩
theorem ll_X4_36 : mj_LL RX4 36 mX4_skipBlanks := Or.inl (mj_inG 406 (by decide +kernel) (by decide +kernel))
theorem lb_X4_skipBlanks : mj_LB mX4_skipBlanks 0 := ⟨mj_inG 409 (by decide +kernel) (by decide +kernel), mj_inG 53 (by decide +kernel) (by decide +kernel), by decide +kernel, by decide +kernel, by decide +kernel⟩
theorem li_X4_skipBlanks : Jvm.Cond.instanceMethod mX4_skipBlanks.1 ∈ mj_G ∧ Jvm.Cond.selects mX4_skipBlanks.1.cls mX4_skipBlanks.1 mX4_skipBlanks.1 ∈ mj_G := ⟨mj_inG 408 (by decide +kernel) (by decide +kernel), mj_inG 3 (by decide +kernel) (by decide +kernel)⟩
theorem fp_X4_47 {nm : String} : mj_FP RX4 nm 47 4 4 .int := ⟨RX4, TX4, 9, tyX4, rfl, by decide, uw_X4, tyX4_ok, nmX4, rfl, Or.inl ⟨rfl, Or.inl (mj_inG 194 (by decide +kernel) (by decide +kernel))⟩⟩
theorem ll_X4_96 : mj_LL RX4 96 mX4_readNumber := Or.inl (mj_inG 490 (by decide +kernel) (by decide +kernel))
theorem lb_X4_readNumber : mj_LB mX4_readNumber 0 := ⟨mj_inG 493 (by decide +kernel) (by decide +kernel), mj_inG 53 (by decide +kernel) (by decide +kernel), by decide +kernel, by decide +kernel, by decide +kernel⟩
theorem li_X4_readNumber : Jvm.Cond.instanceMethod mX4_readNumber.1 ∈ mj_G ∧ Jvm.Cond.selects mX4_readNumber.1.cls mX4_readNumber.1 mX4_readNumber.1 ∈ mj_G := ⟨mj_inG 492 (by decide +kernel) (by decide +kernel), mj_inG 7 (by decide +kernel) (by decide +kernel)⟩
theorem ll_X4_90 : mj_LL RX4 90 mX4_readWord := Or.inl (mj_inG 425 (by decide +kernel) (by decide +kernel))
theorem lb_X4_readWord : mj_LB mX4_readWord 0 := ⟨mj_inG 428 (by decide +kernel) (by decide +kernel), mj_inG 53 (by decide +kernel) (by decide +kernel), by decide +kernel, by decide +kernel, by decide +kernel⟩
theorem li_X4_readWord : Jvm.Cond.instanceMethod mX4_readWord.1 ∈ mj_G ∧ Jvm.Cond.selects mX4_readWord.1.cls mX4_readWord.1 mX4_readWord.1 ∈ mj_G := ⟨mj_inG 427 (by decide +kernel) (by decide +kernel), mj_inG 6 (by decide +kernel) (by decide +kernel)⟩
theorem ll_X4_74 : mj_LL RX4 74 mX4_readToken := Or.inl (mj_inG 418 (by decide +kernel) (by decide +kernel))
theorem lb_X4_readToken : mj_LB mX4_readToken 0 := ⟨mj_inG 421 (by decide +kernel) (by decide +kernel), mj_inG 53 (by decide +kernel) (by decide +kernel), by decide +kernel, by decide +kernel, by decide +kernel⟩
theorem li_X4_readToken : Jvm.Cond.instanceMethod mX4_readToken.1 ∈ mj_G ∧ Jvm.Cond.selects mX4_readToken.1.cls mX4_readToken.1 mX4_readToken.1 ∈ mj_G := ⟨mj_inG 420 (by decide +kernel) (by decide +kernel), mj_inG 5 (by decide +kernel) (by decide +kernel)⟩
theorem fl_X4_77 : mj_FL RX4 77 4 5 := ⟨RX4, TX4, 9, rfl, by decide, uw_X4, Or.inl (mj_inG 195 (by decide +kernel) (by decide +kernel))⟩
theorem fl_X4_25 : mj_FL RX4 25 4 2 := ⟨RX4, TX4, 9, rfl, by decide, uw_X4, Or.inl (mj_inG 192 (by decide +kernel) (by decide +kernel))⟩
theorem fp_X4_54 {nm : String} : mj_FP RX4 nm 54 4 7 .int := ⟨RX4, TX4, 9, tyX4, rfl, by decide, uw_X4, tyX4_ok, nmX4, rfl, Or.inl ⟨rfl, Or.inl (mj_inG 197 (by decide +kernel) (by decide +kernel))⟩⟩
theorem fl_X4_54 : mj_FL RX4 54 4 7 := ⟨RX4, TX4, 9, rfl, by decide, uw_X4, Or.inl (mj_inG 197 (by decide +kernel) (by decide +kernel))⟩
theorem gs_X4_83 : Jvm.Cond.fieldLink RX4 83 "RiverChoice$Reader" "NEEDS" "[I" ∈ mj_G := mj_inG 494 (by decide +kernel) (by decide +kernel)
theorem ll_X4_43 : mj_LL RX4 43 mX4_readItem := Or.inl (mj_inG 414 (by decide +kernel) (by decide +kernel))
theorem lb_X4_readItem : mj_LB mX4_readItem 1 := ⟨mj_inG 417 (by decide +kernel) (by decide +kernel), mj_inG 53 (by decide +kernel) (by decide +kernel), by decide +kernel, by decide +kernel, by decide +kernel⟩
theorem li_X4_readItem : Jvm.Cond.instanceMethod mX4_readItem.1 ∈ mj_G ∧ Jvm.Cond.selects mX4_readItem.1.cls mX4_readItem.1 mX4_readItem.1 ∈ mj_G := ⟨mj_inG 416 (by decide +kernel) (by decide +kernel), mj_inG 4 (by decide +kernel) (by decide +kernel)⟩
theorem fl_X4_33 : mj_FL RX4 33 4 8 := ⟨RX4, TX4, 9, rfl, by decide, uw_X4, Or.inl (mj_inG 198 (by decide +kernel) (by decide +kernel))⟩
theorem fp_X4_33 {nm : String} : mj_FP RX4 nm 33 4 8 .int := ⟨RX4, TX4, 9, tyX4, rfl, by decide, uw_X4, tyX4_ok, nmX4, rfl, Or.inl ⟨rfl, Or.inl (mj_inG 198 (by decide +kernel) (by decide +kernel))⟩⟩
theorem fl_X4_21 : mj_FL RX4 21 4 1 := ⟨RX4, TX4, 9, rfl, by decide, uw_X4, Or.inl (mj_inG 190 (by decide +kernel) (by decide +kernel))⟩
theorem ll_X4_57 : mj_LL RX4 57 mX0_begin := Or.inl (mj_inG 504 (by decide +kernel) (by decide +kernel))
theorem lb_X0_begin : mj_LB mX0_begin 1 := ⟨mj_inG 307 (by decide +kernel) (by decide +kernel), mj_inG 49 (by decide +kernel) (by decide +kernel), by decide +kernel, by decide +kernel, by decide +kernel⟩
theorem li_X0_begin : Jvm.Cond.instanceMethod mX0_begin.1 ∈ mj_G ∧ Jvm.Cond.selects mX0_begin.1.cls mX0_begin.1 mX0_begin.1 ∈ mj_G := ⟨mj_inG 305 (by decide +kernel) (by decide +kernel), mj_inG 306 (by decide +kernel) (by decide +kernel)⟩
theorem ll_X4_60 : mj_LL RX4 60 mX0_enrol := Or.inl (mj_inG 505 (by decide +kernel) (by decide +kernel))
theorem lb_X0_enrol : mj_LB mX0_enrol 1 := ⟨mj_inG 331 (by decide +kernel) (by decide +kernel), mj_inG 49 (by decide +kernel) (by decide +kernel), by decide +kernel, by decide +kernel, by decide +kernel⟩
theorem li_X0_enrol : Jvm.Cond.instanceMethod mX0_enrol.1 ∈ mj_G ∧ Jvm.Cond.selects mX0_enrol.1.cls mX0_enrol.1 mX0_enrol.1 ∈ mj_G := ⟨mj_inG 329 (by decide +kernel) (by decide +kernel), mj_inG 330 (by decide +kernel) (by decide +kernel)⟩
theorem ll_X4_64 : mj_LL RX4 64 mX0_dress := Or.inl (mj_inG 506 (by decide +kernel) (by decide +kernel))
theorem lb_X0_dress : mj_LB mX0_dress 2 := ⟨mj_inG 346 (by decide +kernel) (by decide +kernel), mj_inG 49 (by decide +kernel) (by decide +kernel), by decide +kernel, by decide +kernel, by decide +kernel⟩
theorem li_X0_dress : Jvm.Cond.instanceMethod mX0_dress.1 ∈ mj_G ∧ Jvm.Cond.selects mX0_dress.1.cls mX0_dress.1 mX0_dress.1 ∈ mj_G := ⟨mj_inG 344 (by decide +kernel) (by decide +kernel), mj_inG 345 (by decide +kernel) (by decide +kernel)⟩
theorem ll_X4_68 : mj_LL RX4 68 mX0_bind := Or.inl (mj_inG 507 (by decide +kernel) (by decide +kernel))
theorem lb_X0_bind : mj_LB mX0_bind 2 := ⟨mj_inG 358 (by decide +kernel) (by decide +kernel), mj_inG 49 (by decide +kernel) (by decide +kernel), by decide +kernel, by decide +kernel, by decide +kernel⟩
theorem li_X0_bind : Jvm.Cond.instanceMethod mX0_bind.1 ∈ mj_G ∧ Jvm.Cond.selects mX0_bind.1.cls mX0_bind.1 mX0_bind.1 ∈ mj_G := ⟨mj_inG 356 (by decide +kernel) (by decide +kernel), mj_inG 357 (by decide +kernel) (by decide +kernel)⟩
theorem ll_X4_71 : mj_LL RX4 71 mX0_inform := Or.inl (mj_inG 508 (by decide +kernel) (by decide +kernel))
theorem lb_X0_inform : mj_LB mX0_inform 1 := ⟨mj_inG 377 (by decide +kernel) (by decide +kernel), mj_inG 49 (by decide +kernel) (by decide +kernel), by decide +kernel, by decide +kernel, by decide +kernel⟩
theorem li_X0_inform : Jvm.Cond.instanceMethod mX0_inform.1 ∈ mj_G ∧ Jvm.Cond.selects mX0_inform.1.cls mX0_inform.1 mX0_inform.1 ∈ mj_G := ⟨mj_inG 375 (by decide +kernel) (by decide +kernel), mj_inG 376 (by decide +kernel) (by decide +kernel)⟩
theorem ll_X4_50 : mj_LL RX4 50 mX4_tellItem := Or.inl (mj_inG 500 (by decide +kernel) (by decide +kernel))
theorem lb_X4_tellItem : mj_LB mX4_tellItem 0 := ⟨mj_inG 503 (by decide +kernel) (by decide +kernel), mj_inG 53 (by decide +kernel) (by decide +kernel), by decide +kernel, by decide +kernel, by decide +kernel⟩
theorem li_X4_tellItem : Jvm.Cond.instanceMethod mX4_tellItem.1 ∈ mj_G ∧ Jvm.Cond.selects mX4_tellItem.1.cls mX4_tellItem.1 mX4_tellItem.1 ∈ mj_G := ⟨mj_inG 502 (by decide +kernel) (by decide +kernel), mj_inG 8 (by decide +kernel) (by decide +kernel)⟩
theorem ob_X6_3 : Jvm.Cond.methodLink RX6 3 Lib.objectInit ∈ mj_G ∧ Jvm.Cond.instanceMethod Lib.objectInit ∈ mj_G ∧ Jvm.Cond.code Lib.objectInit ⟨#[0xb1]⟩ 1 none ∈ mj_G := ⟨mj_inG 243 (by decide +kernel) (by decide +kernel), mj_inG 71 (by decide +kernel) (by decide +kernel), mj_inG 72 (by decide +kernel) (by decide +kernel)⟩
theorem fp_X6_9 : mj_FP RX6 "<init>" 9 6 0 (tyX6 0) := ⟨RX6, TX6, 3, tyX6, rfl, by decide, uw_X6, tyX6_ok, nmX6, rfl, Or.inr ⟨rfl, rfl, rfl, mj_inG 246 (by decide +kernel) (by decide +kernel)⟩⟩
theorem nw_X6_15 : mj_NW RX6 15 5 1 [.null] := ⟨RX5, TX5, tyX5, rfl, uw_X5, tyX5_ok, mj_inG 244 (by decide +kernel) (by decide +kernel), mj_inG 80 (by decide +kernel) (by decide +kernel), mj_inG 50 (by decide +kernel) (by decide +kernel), fun j hj => by match j, hj with | 0, _ => rfl⟩
theorem ll_X6_17 : mj_LL RX6 17 mX5_init := Or.inr ⟨"RiverChoice", mj_inN 245 (by decide +kernel) (by decide +kernel)⟩
theorem fp_X6_18 : mj_FP RX6 "<init>" 18 6 1 (tyX6 1) := ⟨RX6, TX6, 3, tyX6, rfl, by decide, uw_X6, tyX6_ok, nmX6, rfl, Or.inr ⟨rfl, rfl, rfl, mj_inG 247 (by decide +kernel) (by decide +kernel)⟩⟩
theorem pl_X6 : plainName RX6 = true := by decide +kernel
theorem fl_X6_9 : mj_FL RX6 9 6 0 := ⟨RX6, TX6, 3, rfl, by decide, uw_X6, Or.inl (mj_inG 246 (by decide +kernel) (by decide +kernel))⟩
theorem fp_X6_30 {nm : String} : mj_FP RX6 nm 30 6 2 .int := ⟨RX6, TX6, 3, tyX6, rfl, by decide, uw_X6, tyX6_ok, nmX6, rfl, Or.inl ⟨rfl, Or.inl (mj_inG 248 (by decide +kernel) (by decide +kernel))⟩⟩
theorem fl_X6_52 : mj_FL RX6 52 0 6 := ⟨RX0, TX0, 7, rfl, by decide, uw_X0, Or.inr ⟨"RiverChoice", mj_inN 104 (by decide +kernel) (by decide +kernel)⟩⟩
theorem fl_X6_18 : mj_FL RX6 18 6 1 := ⟨RX6, TX6, 3, rfl, by decide, uw_X6, Or.inl (mj_inG 247 (by decide +kernel) (by decide +kernel))⟩
theorem ll_X6_55 : mj_LL RX6 55 mX5_chance := Or.inl (mj_inG 738 (by decide +kernel) (by decide +kernel))
theorem fl_X6_30 : mj_FL RX6 30 6 2 := ⟨RX6, TX6, 3, rfl, by decide, uw_X6, Or.inl (mj_inG 248 (by decide +kernel) (by decide +kernel))⟩
theorem ll_X6_38 : mj_LL RX6 38 mX8_costOf := Or.inr ⟨"RiverChoice", mj_inN 735 (by decide +kernel) (by decide +kernel)⟩
theorem ll_X6_42 : mj_LL RX6 42 mX0_knows := Or.inl (mj_inG 736 (by decide +kernel) (by decide +kernel))
theorem ll_X6_48 : mj_LL RX6 48 mX5_weigh := Or.inl (mj_inG 737 (by decide +kernel) (by decide +kernel))
theorem ll_X6_34 : mj_LL RX6 34 mX5_load := Or.inl (mj_inG 734 (by decide +kernel) (by decide +kernel))
theorem ll_X6_22 : mj_LL RX6 22 mX6_decode := Or.inl (mj_inG 726 (by decide +kernel) (by decide +kernel))
theorem lb_X6_decode : mj_LB mX6_decode 2 := ⟨mj_inG 729 (by decide +kernel) (by decide +kernel), mj_inG 56 (by decide +kernel) (by decide +kernel), by decide +kernel, by decide +kernel, by decide +kernel⟩
theorem li_X6_decode : Jvm.Cond.instanceMethod mX6_decode.1 ∈ mj_G ∧ Jvm.Cond.selects mX6_decode.1.cls mX6_decode.1 mX6_decode.1 ∈ mj_G := ⟨mj_inG 728 (by decide +kernel) (by decide +kernel), mj_inG 15 (by decide +kernel) (by decide +kernel)⟩
theorem ll_X6_26 : mj_LL RX6 26 mX6_fits := Or.inl (mj_inG 730 (by decide +kernel) (by decide +kernel))
theorem lb_X6_fits : mj_LB mX6_fits 3 := ⟨mj_inG 733 (by decide +kernel) (by decide +kernel), mj_inG 56 (by decide +kernel) (by decide +kernel), by decide +kernel, by decide +kernel, by decide +kernel⟩
theorem li_X6_fits : Jvm.Cond.instanceMethod mX6_fits.1 ∈ mj_G ∧ Jvm.Cond.selects mX6_fits.1.cls mX6_fits.1 mX6_fits.1 ∈ mj_G := ⟨mj_inG 732 (by decide +kernel) (by decide +kernel), mj_inG 16 (by decide +kernel) (by decide +kernel)⟩
theorem fp_X7_15 {nm : String} : mj_FP RX7 nm 15 7 1 .int := ⟨RX7, TX7, 2, tyX7, rfl, by decide, uw_X7, tyX7_ok, nmX7, rfl, Or.inl ⟨rfl, Or.inl (mj_inG 179 (by decide +kernel) (by decide +kernel))⟩⟩
theorem ob_X8_1 : Jvm.Cond.methodLink RX8 1 Lib.objectInit ∈ mj_G ∧ Jvm.Cond.instanceMethod Lib.objectInit ∈ mj_G ∧ Jvm.Cond.code Lib.objectInit ⟨#[0xb1]⟩ 1 none ∈ mj_G := ⟨mj_inG 70 (by decide +kernel) (by decide +kernel), mj_inG 71 (by decide +kernel) (by decide +kernel), mj_inG 72 (by decide +kernel) (by decide +kernel)⟩
theorem nw_X8_7 : mj_NW RX8 7 0 7 [.null, .null, .null, .null, .int 0, .int 0, .int 0] := ⟨RX0, TX0, tyX0, rfl, uw_X0, tyX0_ok, mj_inG 73 (by decide +kernel) (by decide +kernel), mj_inG 74 (by decide +kernel) (by decide +kernel), mj_inG 49 (by decide +kernel) (by decide +kernel), fun j hj => by match j, hj with | 0, _ => rfl | 1, _ => rfl | 2, _ => rfl | 3, _ => rfl | 4, _ => rfl | 5, _ => rfl | 6, _ => rfl⟩
theorem ll_X8_9 : mj_LL RX8 9 mX0_init := Or.inr ⟨"RiverChoice", mj_inN 75 (by decide +kernel) (by decide +kernel)⟩
theorem fp_X8_10 : mj_FP RX8 "<init>" 10 8 0 (tyX8 0) := ⟨RX8, TX8, 14, tyX8, rfl, by decide, uw_X8, tyX8_ok, nmX8, rfl, Or.inr ⟨rfl, rfl, rfl, mj_inG 257 (by decide +kernel) (by decide +kernel)⟩⟩
theorem nw_X8_16 : mj_NW RX8 16 3 5 [.null, .null, .null, .int 0, .int 0] := ⟨RX3, TX3, tyX3, rfl, uw_X3, tyX3_ok, mj_inG 121 (by decide +kernel) (by decide +kernel), mj_inG 122 (by decide +kernel) (by decide +kernel), mj_inG 51 (by decide +kernel) (by decide +kernel), fun j hj => by match j, hj with | 0, _ => rfl | 1, _ => rfl | 2, _ => rfl | 3, _ => rfl | 4, _ => rfl⟩
theorem ll_X8_18 : mj_LL RX8 18 mX3_init := Or.inr ⟨"RiverChoice", mj_inN 123 (by decide +kernel) (by decide +kernel)⟩
theorem fp_X8_19 : mj_FP RX8 "<init>" 19 8 1 (tyX8 1) := ⟨RX8, TX8, 14, tyX8, rfl, by decide, uw_X8, tyX8_ok, nmX8, rfl, Or.inr ⟨rfl, rfl, rfl, mj_inG 258 (by decide +kernel) (by decide +kernel)⟩⟩
theorem nw_X8_23 : mj_NW RX8 23 1 3 [.null, .null, .int 0] := ⟨RX1, TX1, tyX1, rfl, uw_X1, tyX1_ok, mj_inG 144 (by decide +kernel) (by decide +kernel), mj_inG 145 (by decide +kernel) (by decide +kernel), mj_inG 52 (by decide +kernel) (by decide +kernel), fun j hj => by match j, hj with | 0, _ => rfl | 1, _ => rfl | 2, _ => rfl⟩
theorem ll_X8_25 : mj_LL RX8 25 mX1_init := Or.inr ⟨"RiverChoice", mj_inN 146 (by decide +kernel) (by decide +kernel)⟩
theorem lb_X1_init : mj_LB mX1_init 0 := ⟨mj_inG 148 (by decide +kernel) (by decide +kernel), mj_inG 52 (by decide +kernel) (by decide +kernel), by decide +kernel, by decide +kernel, by decide +kernel⟩
theorem li_X1_init : mX1_init.1.name = "<init>" ∧ mX1_init.2.2.2.1 = none ∧ Jvm.Cond.instanceMethod mX1_init.1 ∈ mj_G := ⟨rfl, rfl, mj_inG 147 (by decide +kernel) (by decide +kernel)⟩
theorem fp_X8_26 : mj_FP RX8 "<init>" 26 8 2 (tyX8 2) := ⟨RX8, TX8, 14, tyX8, rfl, by decide, uw_X8, tyX8_ok, nmX8, rfl, Or.inr ⟨rfl, rfl, rfl, mj_inG 259 (by decide +kernel) (by decide +kernel)⟩⟩
theorem fp_X8_30 : mj_FP RX8 "<init>" 30 8 3 (tyX8 3) := ⟨RX8, TX8, 14, tyX8, rfl, by decide, uw_X8, tyX8_ok, nmX8, rfl, Or.inr ⟨rfl, rfl, rfl, mj_inG 260 (by decide +kernel) (by decide +kernel)⟩⟩
theorem nw_X8_33 : mj_NW RX8 33 4 9 [.null, .null, .null, .int 0, .int 0, .int 0, .int 0, .int 0, .int 0] := ⟨RX4, TX4, tyX4, rfl, uw_X4, tyX4_ok, mj_inG 166 (by decide +kernel) (by decide +kernel), mj_inG 167 (by decide +kernel) (by decide +kernel), mj_inG 53 (by decide +kernel) (by decide +kernel), fun j hj => by match j, hj with | 0, _ => rfl | 1, _ => rfl | 2, _ => rfl | 3, _ => rfl | 4, _ => rfl | 5, _ => rfl | 6, _ => rfl | 7, _ => rfl | 8, _ => rfl⟩
theorem ll_X8_35 : mj_LL RX8 35 mX4_init := Or.inr ⟨"RiverChoice", mj_inN 168 (by decide +kernel) (by decide +kernel)⟩
theorem lb_X4_init : mj_LB mX4_init 0 := ⟨mj_inG 170 (by decide +kernel) (by decide +kernel), mj_inG 53 (by decide +kernel) (by decide +kernel), by decide +kernel, by decide +kernel, by decide +kernel⟩
theorem li_X4_init : mX4_init.1.name = "<init>" ∧ mX4_init.2.2.2.1 = none ∧ Jvm.Cond.instanceMethod mX4_init.1 ∈ mj_G := ⟨rfl, rfl, mj_inG 169 (by decide +kernel) (by decide +kernel)⟩
theorem fp_X8_36 : mj_FP RX8 "<init>" 36 8 4 (tyX8 4) := ⟨RX8, TX8, 14, tyX8, rfl, by decide, uw_X8, tyX8_ok, nmX8, rfl, Or.inr ⟨rfl, rfl, rfl, mj_inG 261 (by decide +kernel) (by decide +kernel)⟩⟩
theorem nw_X8_40 : mj_NW RX8 40 2 3 [.null, .null, .int 0] := ⟨RX2, TX2, tyX2, rfl, uw_X2, tyX2_ok, mj_inG 219 (by decide +kernel) (by decide +kernel), mj_inG 220 (by decide +kernel) (by decide +kernel), mj_inG 55 (by decide +kernel) (by decide +kernel), fun j hj => by match j, hj with | 0, _ => rfl | 1, _ => rfl | 2, _ => rfl⟩
theorem ll_X8_42 : mj_LL RX8 42 mX2_init := Or.inr ⟨"RiverChoice", mj_inN 221 (by decide +kernel) (by decide +kernel)⟩
theorem lb_X2_init : mj_LB mX2_init 0 := ⟨mj_inG 223 (by decide +kernel) (by decide +kernel), mj_inG 55 (by decide +kernel) (by decide +kernel), by decide +kernel, by decide +kernel, by decide +kernel⟩
theorem li_X2_init : mX2_init.1.name = "<init>" ∧ mX2_init.2.2.2.1 = none ∧ Jvm.Cond.instanceMethod mX2_init.1 ∈ mj_G := ⟨rfl, rfl, mj_inG 222 (by decide +kernel) (by decide +kernel)⟩
theorem fp_X8_43 : mj_FP RX8 "<init>" 43 8 5 (tyX8 5) := ⟨RX8, TX8, 14, tyX8, rfl, by decide, uw_X8, tyX8_ok, nmX8, rfl, Or.inr ⟨rfl, rfl, rfl, mj_inG 262 (by decide +kernel) (by decide +kernel)⟩⟩
theorem nw_X8_47 : mj_NW RX8 47 5 1 [.null] := ⟨RX5, TX5, tyX5, rfl, uw_X5, tyX5_ok, mj_inG 236 (by decide +kernel) (by decide +kernel), mj_inG 80 (by decide +kernel) (by decide +kernel), mj_inG 50 (by decide +kernel) (by decide +kernel), fun j hj => by match j, hj with | 0, _ => rfl⟩
theorem ll_X8_49 : mj_LL RX8 49 mX5_init := Or.inr ⟨"RiverChoice", mj_inN 237 (by decide +kernel) (by decide +kernel)⟩
theorem fp_X8_50 : mj_FP RX8 "<init>" 50 8 6 (tyX8 6) := ⟨RX8, TX8, 14, tyX8, rfl, by decide, uw_X8, tyX8_ok, nmX8, rfl, Or.inr ⟨rfl, rfl, rfl, mj_inG 263 (by decide +kernel) (by decide +kernel)⟩⟩
theorem nw_X8_54 : mj_NW RX8 54 6 3 [.null, .null, .int 0] := ⟨RX6, TX6, tyX6, rfl, uw_X6, tyX6_ok, mj_inG 238 (by decide +kernel) (by decide +kernel), mj_inG 239 (by decide +kernel) (by decide +kernel), mj_inG 56 (by decide +kernel) (by decide +kernel), fun j hj => by match j, hj with | 0, _ => rfl | 1, _ => rfl | 2, _ => rfl⟩
theorem ll_X8_56 : mj_LL RX8 56 mX6_init := Or.inr ⟨"RiverChoice", mj_inN 240 (by decide +kernel) (by decide +kernel)⟩
theorem lb_X6_init : mj_LB mX6_init 0 := ⟨mj_inG 242 (by decide +kernel) (by decide +kernel), mj_inG 56 (by decide +kernel) (by decide +kernel), by decide +kernel, by decide +kernel, by decide +kernel⟩
theorem li_X6_init : mX6_init.1.name = "<init>" ∧ mX6_init.2.2.2.1 = none ∧ Jvm.Cond.instanceMethod mX6_init.1 ∈ mj_G := ⟨rfl, rfl, mj_inG 241 (by decide +kernel) (by decide +kernel)⟩
theorem fp_X8_57 : mj_FP RX8 "<init>" 57 8 7 (tyX8 7) := ⟨RX8, TX8, 14, tyX8, rfl, by decide, uw_X8, tyX8_ok, nmX8, rfl, Or.inr ⟨rfl, rfl, rfl, mj_inG 264 (by decide +kernel) (by decide +kernel)⟩⟩
theorem fp_X8_61 : mj_FP RX8 "<init>" 61 8 8 (tyX8 8) := ⟨RX8, TX8, 14, tyX8, rfl, by decide, uw_X8, tyX8_ok, nmX8, rfl, Or.inr ⟨rfl, rfl, rfl, mj_inG 265 (by decide +kernel) (by decide +kernel)⟩⟩
theorem fp_X8_65 {nm : String} : mj_FP RX8 nm 65 8 9 .long := ⟨RX8, TX8, 14, tyX8, rfl, by decide, uw_X8, tyX8_ok, nmX8, rfl, Or.inl ⟨rfl, Or.inl (mj_inG 266 (by decide +kernel) (by decide +kernel))⟩⟩
theorem fp_X8_69 {nm : String} : mj_FP RX8 nm 69 8 10 .long := ⟨RX8, TX8, 14, tyX8, rfl, by decide, uw_X8, tyX8_ok, nmX8, rfl, Or.inl ⟨rfl, Or.inl (mj_inG 267 (by decide +kernel) (by decide +kernel))⟩⟩
theorem fl_X8_308 : mj_FL RX8 308 8 13 := ⟨RX8, TX8, 14, rfl, by decide, uw_X8, Or.inl (mj_inG 270 (by decide +kernel) (by decide +kernel))⟩
theorem fp_X8_308 {nm : String} : mj_FP RX8 nm 308 8 13 .int := ⟨RX8, TX8, 14, tyX8, rfl, by decide, uw_X8, tyX8_ok, nmX8, rfl, Or.inl ⟨rfl, Or.inl (mj_inG 270 (by decide +kernel) (by decide +kernel))⟩⟩
theorem fl_X8_305 : mj_FL RX8 305 8 12 := ⟨RX8, TX8, 14, rfl, by decide, uw_X8, Or.inl (mj_inG 269 (by decide +kernel) (by decide +kernel))⟩
theorem fp_X8_305 {nm : String} : mj_FP RX8 nm 305 8 12 .int := ⟨RX8, TX8, 14, tyX8, rfl, by decide, uw_X8, tyX8_ok, nmX8, rfl, Or.inl ⟨rfl, Or.inl (mj_inG 269 (by decide +kernel) (by decide +kernel))⟩⟩
theorem fl_X8_302 : mj_FL RX8 302 8 11 := ⟨RX8, TX8, 14, rfl, by decide, uw_X8, Or.inl (mj_inG 268 (by decide +kernel) (by decide +kernel))⟩
theorem fp_X8_302 {nm : String} : mj_FP RX8 nm 302 8 11 .int := ⟨RX8, TX8, 14, tyX8, rfl, by decide, uw_X8, tyX8_ok, nmX8, rfl, Or.inl ⟨rfl, Or.inl (mj_inG 268 (by decide +kernel) (by decide +kernel))⟩⟩
theorem ll_X8_202 : mj_LL RX8 202 mX8_refusedAs := Or.inl (mj_inG 316 (by decide +kernel) (by decide +kernel))
theorem lb_X8_refusedAs : mj_LB mX8_refusedAs 2 := ⟨mj_inG 319 (by decide +kernel) (by decide +kernel), mj_inG 48 (by decide +kernel) (by decide +kernel), by decide +kernel, by decide +kernel, by decide +kernel⟩
theorem li_X8_refusedAs : Jvm.Cond.instanceMethod mX8_refusedAs.1 ∈ mj_G ∧ Jvm.Cond.selects mX8_refusedAs.1.cls mX8_refusedAs.1 mX8_refusedAs.1 ∈ mj_G := ⟨mj_inG 318 (by decide +kernel) (by decide +kernel), mj_inG 2 (by decide +kernel) (by decide +kernel)⟩
theorem fl_X8_19 : mj_FL RX8 19 8 1 := ⟨RX8, TX8, 14, rfl, by decide, uw_X8, Or.inl (mj_inG 258 (by decide +kernel) (by decide +kernel))⟩
theorem ll_X8_122 : mj_LL RX8 122 mX3_forget := Or.inl (mj_inG 320 (by decide +kernel) (by decide +kernel))
theorem lb_X3_forget : mj_LB mX3_forget 0 := ⟨mj_inG 323 (by decide +kernel) (by decide +kernel), mj_inG 51 (by decide +kernel) (by decide +kernel), by decide +kernel, by decide +kernel, by decide +kernel⟩
theorem li_X3_forget : Jvm.Cond.instanceMethod mX3_forget.1 ∈ mj_G ∧ Jvm.Cond.selects mX3_forget.1.cls mX3_forget.1 mX3_forget.1 ∈ mj_G := ⟨mj_inG 321 (by decide +kernel) (by decide +kernel), mj_inG 322 (by decide +kernel) (by decide +kernel)⟩
theorem ll_X8_102 : mj_LL RX8 102 mX8_refused := Or.inl (mj_inG 312 (by decide +kernel) (by decide +kernel))
theorem lb_X8_refused : mj_LB mX8_refused 1 := ⟨mj_inG 315 (by decide +kernel) (by decide +kernel), mj_inG 48 (by decide +kernel) (by decide +kernel), by decide +kernel, by decide +kernel, by decide +kernel⟩
theorem li_X8_refused : Jvm.Cond.instanceMethod mX8_refused.1 ∈ mj_G ∧ Jvm.Cond.selects mX8_refused.1.cls mX8_refused.1 mX8_refused.1 ∈ mj_G := ⟨mj_inG 314 (by decide +kernel) (by decide +kernel), mj_inG 1 (by decide +kernel) (by decide +kernel)⟩
theorem fl_X8_10 : mj_FL RX8 10 8 0 := ⟨RX8, TX8, 14, rfl, by decide, uw_X8, Or.inl (mj_inG 257 (by decide +kernel) (by decide +kernel))⟩
theorem ll_X8_72 : mj_LL RX8 72 mX0_begin := Or.inl (mj_inG 304 (by decide +kernel) (by decide +kernel))
theorem ll_X8_76 : mj_LL RX8 76 mX8_accepted := Or.inl (mj_inG 308 (by decide +kernel) (by decide +kernel))
theorem lb_X8_accepted : mj_LB mX8_accepted 1 := ⟨mj_inG 311 (by decide +kernel) (by decide +kernel), mj_inG 48 (by decide +kernel) (by decide +kernel), by decide +kernel, by decide +kernel, by decide +kernel⟩
theorem li_X8_accepted : Jvm.Cond.instanceMethod mX8_accepted.1 ∈ mj_G ∧ Jvm.Cond.selects mX8_accepted.1.cls mX8_accepted.1 mX8_accepted.1 ∈ mj_G := ⟨mj_inG 310 (by decide +kernel) (by decide +kernel), mj_inG 0 (by decide +kernel) (by decide +kernel)⟩
theorem fl_X8_61 : mj_FL RX8 61 8 8 := ⟨RX8, TX8, 14, rfl, by decide, uw_X8, Or.inl (mj_inG 265 (by decide +kernel) (by decide +kernel))⟩
theorem ll_X8_79 : mj_LL RX8 79 mX0_enrol := Or.inl (mj_inG 328 (by decide +kernel) (by decide +kernel))
theorem ll_X8_83 : mj_LL RX8 83 mX0_dress := Or.inl (mj_inG 343 (by decide +kernel) (by decide +kernel))
theorem ll_X8_87 : mj_LL RX8 87 mX0_bind := Or.inl (mj_inG 355 (by decide +kernel) (by decide +kernel))
theorem ll_X8_90 : mj_LL RX8 90 mX0_inform := Or.inl (mj_inG 374 (by decide +kernel) (by decide +kernel))
theorem fl_X8_36 : mj_FL RX8 36 8 4 := ⟨RX8, TX8, 14, rfl, by decide, uw_X8, Or.inl (mj_inG 261 (by decide +kernel) (by decide +kernel))⟩
theorem fl_X8_93 : mj_FL RX8 93 4 0 := ⟨RX4, TX4, 9, rfl, by decide, uw_X4, Or.inr ⟨"RiverChoice", mj_inN 189 (by decide +kernel) (by decide +kernel)⟩⟩
theorem ll_X8_97 : mj_LL RX8 97 mX7_append := Or.inl (mj_inG 386 (by decide +kernel) (by decide +kernel))
theorem lb_X7_append : mj_LB mX7_append 1 := ⟨mj_inG 389 (by decide +kernel) (by decide +kernel), mj_inG 54 (by decide +kernel) (by decide +kernel), by decide +kernel, by decide +kernel, by decide +kernel⟩
theorem li_X7_append : Jvm.Cond.instanceMethod mX7_append.1 ∈ mj_G ∧ Jvm.Cond.selects mX7_append.1.cls mX7_append.1 mX7_append.1 ∈ mj_G := ⟨mj_inG 387 (by decide +kernel) (by decide +kernel), mj_inG 388 (by decide +kernel) (by decide +kernel)⟩
theorem ll_X8_105 : mj_LL RX8 105 mX7_empty := Or.inl (mj_inG 394 (by decide +kernel) (by decide +kernel))
theorem lb_X7_empty : mj_LB mX7_empty 0 := ⟨mj_inG 397 (by decide +kernel) (by decide +kernel), mj_inG 54 (by decide +kernel) (by decide +kernel), by decide +kernel, by decide +kernel, by decide +kernel⟩
theorem li_X7_empty : Jvm.Cond.instanceMethod mX7_empty.1 ∈ mj_G ∧ Jvm.Cond.selects mX7_empty.1.cls mX7_empty.1 mX7_empty.1 ∈ mj_G := ⟨mj_inG 395 (by decide +kernel) (by decide +kernel), mj_inG 396 (by decide +kernel) (by decide +kernel)⟩
theorem ll_X8_109 : mj_LL RX8 109 mX4_findFault := Or.inl (mj_inG 402 (by decide +kernel) (by decide +kernel))
theorem lb_X4_findFault : mj_LB mX4_findFault 0 := ⟨mj_inG 405 (by decide +kernel) (by decide +kernel), mj_inG 53 (by decide +kernel) (by decide +kernel), by decide +kernel, by decide +kernel, by decide +kernel⟩
theorem li_X4_findFault : Jvm.Cond.instanceMethod mX4_findFault.1 ∈ mj_G ∧ Jvm.Cond.selects mX4_findFault.1.cls mX4_findFault.1 mX4_findFault.1 ∈ mj_G := ⟨mj_inG 403 (by decide +kernel) (by decide +kernel), mj_inG 404 (by decide +kernel) (by decide +kernel)⟩
theorem ll_X8_112 : mj_LL RX8 112 mX4_tellDraft := Or.inl (mj_inG 496 (by decide +kernel) (by decide +kernel))
theorem lb_X4_tellDraft : mj_LB mX4_tellDraft 0 := ⟨mj_inG 499 (by decide +kernel) (by decide +kernel), mj_inG 53 (by decide +kernel) (by decide +kernel), by decide +kernel, by decide +kernel, by decide +kernel⟩
theorem li_X4_tellDraft : Jvm.Cond.instanceMethod mX4_tellDraft.1 ∈ mj_G ∧ Jvm.Cond.selects mX4_tellDraft.1.cls mX4_tellDraft.1 mX4_tellDraft.1 ∈ mj_G := ⟨mj_inG 497 (by decide +kernel) (by decide +kernel), mj_inG 498 (by decide +kernel) (by decide +kernel)⟩
theorem fl_X8_115 : mj_FL RX8 115 4 1 := ⟨RX4, TX4, 9, rfl, by decide, uw_X4, Or.inr ⟨"RiverChoice", mj_inN 191 (by decide +kernel) (by decide +kernel)⟩⟩
theorem ll_X8_118 : mj_LL RX8 118 mX0_become := Or.inl (mj_inG 509 (by decide +kernel) (by decide +kernel))
theorem lb_X0_become : mj_LB mX0_become 1 := ⟨mj_inG 512 (by decide +kernel) (by decide +kernel), mj_inG 49 (by decide +kernel) (by decide +kernel), by decide +kernel, by decide +kernel, by decide +kernel⟩
theorem li_X0_become : Jvm.Cond.instanceMethod mX0_become.1 ∈ mj_G ∧ Jvm.Cond.selects mX0_become.1.cls mX0_become.1 mX0_become.1 ∈ mj_G := ⟨mj_inG 510 (by decide +kernel) (by decide +kernel), mj_inG 511 (by decide +kernel) (by decide +kernel)⟩
theorem fl_X8_125 : mj_FL RX8 125 4 8 := ⟨RX4, TX4, 9, rfl, by decide, uw_X4, Or.inr ⟨"RiverChoice", mj_inN 199 (by decide +kernel) (by decide +kernel)⟩⟩
theorem ll_X8_129 : mj_LL RX8 129 mX0_has := Or.inl (mj_inG 521 (by decide +kernel) (by decide +kernel))
theorem ll_X8_133 : mj_LL RX8 133 mX8_isTest := Or.inl (mj_inG 522 (by decide +kernel) (by decide +kernel))
theorem lb_X8_isTest : mj_LB mX8_isTest 1 := ⟨mj_inG 524 (by decide +kernel) (by decide +kernel), mj_inG 48 (by decide +kernel) (by decide +kernel), by decide +kernel, by decide +kernel, by decide +kernel⟩
theorem li_X8_isTest : Jvm.Cond.static mX8_isTest.1 ∈ mj_G := mj_inG 523 (by decide +kernel) (by decide +kernel)
theorem fl_X8_136 : mj_FL RX8 136 0 6 := ⟨RX0, TX0, 7, rfl, by decide, uw_X0, Or.inr ⟨"RiverChoice", mj_inN 105 (by decide +kernel) (by decide +kernel)⟩⟩
theorem ll_X8_139 : mj_LL RX8 139 mX8_costOf := Or.inl (mj_inG 525 (by decide +kernel) (by decide +kernel))
theorem ll_X8_142 : mj_LL RX8 142 mX3_push := Or.inl (mj_inG 530 (by decide +kernel) (by decide +kernel))
theorem lb_X3_push : mj_LB mX3_push 1 := ⟨mj_inG 533 (by decide +kernel) (by decide +kernel), mj_inG 51 (by decide +kernel) (by decide +kernel), by decide +kernel, by decide +kernel, by decide +kernel⟩
theorem li_X3_push : Jvm.Cond.instanceMethod mX3_push.1 ∈ mj_G ∧ Jvm.Cond.selects mX3_push.1.cls mX3_push.1 mX3_push.1 ∈ mj_G := ⟨mj_inG 531 (by decide +kernel) (by decide +kernel), mj_inG 532 (by decide +kernel) (by decide +kernel)⟩
theorem ll_X8_145 : mj_LL RX8 145 mX0_pass := Or.inl (mj_inG 535 (by decide +kernel) (by decide +kernel))
theorem lb_X0_pass : mj_LB mX0_pass 3 := ⟨mj_inG 538 (by decide +kernel) (by decide +kernel), mj_inG 49 (by decide +kernel) (by decide +kernel), by decide +kernel, by decide +kernel, by decide +kernel⟩
theorem li_X0_pass : Jvm.Cond.instanceMethod mX0_pass.1 ∈ mj_G ∧ Jvm.Cond.selects mX0_pass.1.cls mX0_pass.1 mX0_pass.1 ∈ mj_G := ⟨mj_inG 536 (by decide +kernel) (by decide +kernel), mj_inG 537 (by decide +kernel) (by decide +kernel)⟩
theorem ll_X8_149 : mj_LL RX8 149 mX0_trustOf := Or.inl (mj_inG 590 (by decide +kernel) (by decide +kernel))
theorem ll_X8_152 : mj_LL RX8 152 mX3_pop := Or.inl (mj_inG 604 (by decide +kernel) (by decide +kernel))
theorem lb_X3_pop : mj_LB mX3_pop 1 := ⟨mj_inG 607 (by decide +kernel) (by decide +kernel), mj_inG 51 (by decide +kernel) (by decide +kernel), by decide +kernel, by decide +kernel, by decide +kernel⟩
theorem li_X3_pop : Jvm.Cond.instanceMethod mX3_pop.1 ∈ mj_G ∧ Jvm.Cond.selects mX3_pop.1.cls mX3_pop.1 mX3_pop.1 ∈ mj_G := ⟨mj_inG 605 (by decide +kernel) (by decide +kernel), mj_inG 606 (by decide +kernel) (by decide +kernel)⟩
theorem ll_X8_156 : mj_LL RX8 156 mX0_weightOf := Or.inl (mj_inG 612 (by decide +kernel) (by decide +kernel))
theorem ll_X8_160 : mj_LL RX8 160 mX8_casesOf := Or.inl (mj_inG 617 (by decide +kernel) (by decide +kernel))
theorem ll_X8_164 : mj_LL RX8 164 mX0_showsOf := Or.inl (mj_inG 626 (by decide +kernel) (by decide +kernel))
theorem lb_X0_showsOf : mj_LB mX0_showsOf 2 := ⟨mj_inG 629 (by decide +kernel) (by decide +kernel), mj_inG 49 (by decide +kernel) (by decide +kernel), by decide +kernel, by decide +kernel, by decide +kernel⟩
theorem li_X0_showsOf : Jvm.Cond.instanceMethod mX0_showsOf.1 ∈ mj_G ∧ Jvm.Cond.selects mX0_showsOf.1.cls mX0_showsOf.1 mX0_showsOf.1 ∈ mj_G := ⟨mj_inG 627 (by decide +kernel) (by decide +kernel), mj_inG 628 (by decide +kernel) (by decide +kernel)⟩
theorem ll_X8_167 : mj_LL RX8 167 mX0_signsOf := Or.inl (mj_inG 634 (by decide +kernel) (by decide +kernel))
theorem ll_X8_170 : mj_LL RX8 170 mX0_brothersOf := Or.inl (mj_inG 638 (by decide +kernel) (by decide +kernel))
theorem ll_X8_173 : mj_LL RX8 173 mX0_knows := Or.inl (mj_inG 639 (by decide +kernel) (by decide +kernel))
theorem ll_X8_176 : mj_LL RX8 176 mX0_likeliestOf := Or.inl (mj_inG 640 (by decide +kernel) (by decide +kernel))
theorem lb_X0_likeliestOf : mj_LB mX0_likeliestOf 1 := ⟨mj_inG 643 (by decide +kernel) (by decide +kernel), mj_inG 49 (by decide +kernel) (by decide +kernel), by decide +kernel, by decide +kernel, by decide +kernel⟩
theorem li_X0_likeliestOf : Jvm.Cond.instanceMethod mX0_likeliestOf.1 ∈ mj_G ∧ Jvm.Cond.selects mX0_likeliestOf.1.cls mX0_likeliestOf.1 mX0_likeliestOf.1 ∈ mj_G := ⟨mj_inG 641 (by decide +kernel) (by decide +kernel), mj_inG 642 (by decide +kernel) (by decide +kernel)⟩
theorem ll_X8_191 : mj_LL RX8 191 mJ6_bitCount_0f7a4 := Or.inl (mj_inG 670 (by decide +kernel) (by decide +kernel))
theorem ll_X8_198 : mj_LL RX8 198 mX8_greatestCommon := Or.inl (mj_inG 677 (by decide +kernel) (by decide +kernel))
theorem ll_X8_179 : mj_LL RX8 179 mX0_hasAll := Or.inl (mj_inG 649 (by decide +kernel) (by decide +kernel))
theorem lb_X0_hasAll : mj_LB mX0_hasAll 1 := ⟨mj_inG 652 (by decide +kernel) (by decide +kernel), mj_inG 49 (by decide +kernel) (by decide +kernel), by decide +kernel, by decide +kernel, by decide +kernel⟩
theorem li_X0_hasAll : Jvm.Cond.instanceMethod mX0_hasAll.1 ∈ mj_G ∧ Jvm.Cond.selects mX0_hasAll.1.cls mX0_hasAll.1 mX0_hasAll.1 ∈ mj_G := ⟨mj_inG 650 (by decide +kernel) (by decide +kernel), mj_inG 651 (by decide +kernel) (by decide +kernel)⟩
theorem ll_X8_182 : mj_LL RX8 182 mX8_isNeed := Or.inl (mj_inG 653 (by decide +kernel) (by decide +kernel))
theorem lb_X8_isNeed : mj_LB mX8_isNeed 1 := ⟨mj_inG 655 (by decide +kernel) (by decide +kernel), mj_inG 48 (by decide +kernel) (by decide +kernel), by decide +kernel, by decide +kernel, by decide +kernel⟩
theorem li_X8_isNeed : Jvm.Cond.static mX8_isNeed.1 ∈ mj_G := mj_inG 654 (by decide +kernel) (by decide +kernel)
theorem fl_X8_43 : mj_FL RX8 43 8 5 := ⟨RX8, TX8, 14, rfl, by decide, uw_X8, Or.inl (mj_inG 262 (by decide +kernel) (by decide +kernel))⟩
theorem ll_X8_185 : mj_LL RX8 185 mX2_seeNow := Or.inl (mj_inG 656 (by decide +kernel) (by decide +kernel))
theorem lb_X2_seeNow : mj_LB mX2_seeNow 1 := ⟨mj_inG 659 (by decide +kernel) (by decide +kernel), mj_inG 55 (by decide +kernel) (by decide +kernel), by decide +kernel, by decide +kernel, by decide +kernel⟩
theorem li_X2_seeNow : Jvm.Cond.instanceMethod mX2_seeNow.1 ∈ mj_G ∧ Jvm.Cond.selects mX2_seeNow.1.cls mX2_seeNow.1 mX2_seeNow.1 ∈ mj_G := ⟨mj_inG 657 (by decide +kernel) (by decide +kernel), mj_inG 658 (by decide +kernel) (by decide +kernel)⟩
theorem ll_X8_188 : mj_LL RX8 188 mX2_waysToHold := Or.inl (mj_inG 661 (by decide +kernel) (by decide +kernel))
theorem fl_X8_205 : mj_FL RX8 205 0 4 := ⟨RX0, TX0, 7, rfl, by decide, uw_X0, Or.inr ⟨"RiverChoice", mj_inN 98 (by decide +kernel) (by decide +kernel)⟩⟩
theorem ll_X8_208 : mj_LL RX8 208 mX2_chooseBest := Or.inl (mj_inG 682 (by decide +kernel) (by decide +kernel))
theorem lb_X2_chooseBest : mj_LB mX2_chooseBest 3 := ⟨mj_inG 685 (by decide +kernel) (by decide +kernel), mj_inG 55 (by decide +kernel) (by decide +kernel), by decide +kernel, by decide +kernel, by decide +kernel⟩
theorem li_X2_chooseBest : Jvm.Cond.instanceMethod mX2_chooseBest.1 ∈ mj_G ∧ Jvm.Cond.selects mX2_chooseBest.1.cls mX2_chooseBest.1 mX2_chooseBest.1 ∈ mj_G := ⟨mj_inG 683 (by decide +kernel) (by decide +kernel), mj_inG 684 (by decide +kernel) (by decide +kernel)⟩
theorem fl_X8_212 : mj_FL RX8 212 2 2 := ⟨RX2, TX2, 3, rfl, by decide, uw_X2, Or.inr ⟨"RiverChoice", mj_inN 228 (by decide +kernel) (by decide +kernel)⟩⟩
theorem ll_X8_323 : mj_LL RX8 323 mX2_seeBehind := Or.inl (mj_inG 706 (by decide +kernel) (by decide +kernel))
theorem lb_X2_seeBehind : mj_LB mX2_seeBehind 4 := ⟨mj_inG 709 (by decide +kernel) (by decide +kernel), mj_inG 55 (by decide +kernel) (by decide +kernel), by decide +kernel, by decide +kernel, by decide +kernel⟩
theorem li_X2_seeBehind : Jvm.Cond.instanceMethod mX2_seeBehind.1 ∈ mj_G ∧ Jvm.Cond.selects mX2_seeBehind.1.cls mX2_seeBehind.1 mX2_seeBehind.1 ∈ mj_G := ⟨mj_inG 707 (by decide +kernel) (by decide +kernel), mj_inG 708 (by decide +kernel) (by decide +kernel)⟩
theorem ll_X8_215 : mj_LL RX8 215 mX8_isWeighed := Or.inl (mj_inG 693 (by decide +kernel) (by decide +kernel))
theorem lb_X8_isWeighed : mj_LB mX8_isWeighed 1 := ⟨mj_inG 695 (by decide +kernel) (by decide +kernel), mj_inG 48 (by decide +kernel) (by decide +kernel), by decide +kernel, by decide +kernel, by decide +kernel⟩
theorem li_X8_isWeighed : Jvm.Cond.static mX8_isWeighed.1 ∈ mj_G := mj_inG 694 (by decide +kernel) (by decide +kernel)
theorem ll_X8_220 : mj_LL RX8 220 mX8_waysNow := Or.inl (mj_inG 698 (by decide +kernel) (by decide +kernel))
theorem lb_X8_waysNow : mj_LB mX8_waysNow 2 := ⟨mj_inG 701 (by decide +kernel) (by decide +kernel), mj_inG 48 (by decide +kernel) (by decide +kernel), by decide +kernel, by decide +kernel, by decide +kernel⟩
theorem li_X8_waysNow : Jvm.Cond.instanceMethod mX8_waysNow.1 ∈ mj_G ∧ Jvm.Cond.selects mX8_waysNow.1.cls mX8_waysNow.1 mX8_waysNow.1 ∈ mj_G := ⟨mj_inG 700 (by decide +kernel) (by decide +kernel), mj_inG 13 (by decide +kernel) (by decide +kernel)⟩
theorem ll_X8_223 : mj_LL RX8 223 mX8_gainOf := Or.inl (mj_inG 702 (by decide +kernel) (by decide +kernel))
theorem lb_X8_gainOf : mj_LB mX8_gainOf 5 := ⟨mj_inG 705 (by decide +kernel) (by decide +kernel), mj_inG 48 (by decide +kernel) (by decide +kernel), by decide +kernel, by decide +kernel, by decide +kernel⟩
theorem li_X8_gainOf : Jvm.Cond.instanceMethod mX8_gainOf.1 ∈ mj_G ∧ Jvm.Cond.selects mX8_gainOf.1.cls mX8_gainOf.1 mX8_gainOf.1 ∈ mj_G := ⟨mj_inG 704 (by decide +kernel) (by decide +kernel), mj_inG 14 (by decide +kernel) (by decide +kernel)⟩
theorem fl_X8_57 : mj_FL RX8 57 8 7 := ⟨RX8, TX8, 14, rfl, by decide, uw_X8, Or.inl (mj_inG 264 (by decide +kernel) (by decide +kernel))⟩
theorem ll_X8_227 : mj_LL RX8 227 mX6_find := Or.inl (mj_inG 722 (by decide +kernel) (by decide +kernel))
theorem lb_X6_find : mj_LB mX6_find 3 := ⟨mj_inG 725 (by decide +kernel) (by decide +kernel), mj_inG 56 (by decide +kernel) (by decide +kernel), by decide +kernel, by decide +kernel, by decide +kernel⟩
theorem li_X6_find : Jvm.Cond.instanceMethod mX6_find.1 ∈ mj_G ∧ Jvm.Cond.selects mX6_find.1.cls mX6_find.1 mX6_find.1 ∈ mj_G := ⟨mj_inG 723 (by decide +kernel) (by decide +kernel), mj_inG 724 (by decide +kernel) (by decide +kernel)⟩
theorem fl_X8_231 : mj_FL RX8 231 6 2 := ⟨RX6, TX6, 3, rfl, by decide, uw_X6, Or.inr ⟨"RiverChoice", mj_inN 249 (by decide +kernel) (by decide +kernel)⟩⟩
theorem ll_X8_232 : mj_LL RX8 232 mX6_testAt := Or.inl (mj_inG 739 (by decide +kernel) (by decide +kernel))
theorem lb_X6_testAt : mj_LB mX6_testAt 1 := ⟨mj_inG 742 (by decide +kernel) (by decide +kernel), mj_inG 56 (by decide +kernel) (by decide +kernel), by decide +kernel, by decide +kernel, by decide +kernel⟩
theorem li_X6_testAt : Jvm.Cond.instanceMethod mX6_testAt.1 ∈ mj_G ∧ Jvm.Cond.selects mX6_testAt.1.cls mX6_testAt.1 mX6_testAt.1 ∈ mj_G := ⟨mj_inG 740 (by decide +kernel) (by decide +kernel), mj_inG 741 (by decide +kernel) (by decide +kernel)⟩
theorem ll_X8_238 : mj_LL RX8 238 mX0_besides := Or.inl (mj_inG 747 (by decide +kernel) (by decide +kernel))
theorem fl_X8_235 : mj_FL RX8 235 0 5 := ⟨RX0, TX0, 7, rfl, by decide, uw_X0, Or.inr ⟨"RiverChoice", mj_inN 101 (by decide +kernel) (by decide +kernel)⟩⟩
theorem ll_X8_327 : mj_LL RX8 327 mX0_areBrothers := Or.inl (mj_inG 757 (by decide +kernel) (by decide +kernel))
theorem ll_X8_286 : mj_LL RX8 286 mX2_trustSeen := Or.inl (mj_inG 758 (by decide +kernel) (by decide +kernel))
theorem lb_X2_trustSeen : mj_LB mX2_trustSeen 1 := ⟨mj_inG 761 (by decide +kernel) (by decide +kernel), mj_inG 55 (by decide +kernel) (by decide +kernel), by decide +kernel, by decide +kernel, by decide +kernel⟩
theorem li_X2_trustSeen : Jvm.Cond.instanceMethod mX2_trustSeen.1 ∈ mj_G ∧ Jvm.Cond.selects mX2_trustSeen.1.cls mX2_trustSeen.1 mX2_trustSeen.1 ∈ mj_G := ⟨mj_inG 759 (by decide +kernel) (by decide +kernel), mj_inG 760 (by decide +kernel) (by decide +kernel)⟩
theorem ll_X8_275 : mj_LL RX8 275 mX8_isIn := Or.inl (mj_inG 756 (by decide +kernel) (by decide +kernel))
theorem ll_X8_241 : mj_LL RX8 241 mX8_mayStay := Or.inl (mj_inG 752 (by decide +kernel) (by decide +kernel))
theorem lb_X8_mayStay : mj_LB mX8_mayStay 2 := ⟨mj_inG 755 (by decide +kernel) (by decide +kernel), mj_inG 48 (by decide +kernel) (by decide +kernel), by decide +kernel, by decide +kernel, by decide +kernel⟩
theorem li_X8_mayStay : Jvm.Cond.instanceMethod mX8_mayStay.1 ∈ mj_G ∧ Jvm.Cond.selects mX8_mayStay.1.cls mX8_mayStay.1 mX8_mayStay.1 ∈ mj_G := ⟨mj_inG 754 (by decide +kernel) (by decide +kernel), mj_inG 17 (by decide +kernel) (by decide +kernel)⟩
theorem fl_X8_50 : mj_FL RX8 50 8 6 := ⟨RX8, TX8, 14, rfl, by decide, uw_X8, Or.inl (mj_inG 263 (by decide +kernel) (by decide +kernel))⟩
theorem ll_X8_245 : mj_LL RX8 245 mX5_load := Or.inl (mj_inG 766 (by decide +kernel) (by decide +kernel))
theorem ll_X8_249 : mj_LL RX8 249 mX5_dropSpy := Or.inl (mj_inG 767 (by decide +kernel) (by decide +kernel))
theorem lb_X5_dropSpy : mj_LB mX5_dropSpy 0 := ⟨mj_inG 770 (by decide +kernel) (by decide +kernel), mj_inG 50 (by decide +kernel) (by decide +kernel), by decide +kernel, by decide +kernel, by decide +kernel⟩
theorem li_X5_dropSpy : Jvm.Cond.instanceMethod mX5_dropSpy.1 ∈ mj_G ∧ Jvm.Cond.selects mX5_dropSpy.1.cls mX5_dropSpy.1 mX5_dropSpy.1 ∈ mj_G := ⟨mj_inG 768 (by decide +kernel) (by decide +kernel), mj_inG 769 (by decide +kernel) (by decide +kernel)⟩
theorem ll_X8_252 : mj_LL RX8 252 mX5_isEmpty := Or.inl (mj_inG 771 (by decide +kernel) (by decide +kernel))
theorem ll_X8_256 : mj_LL RX8 256 mX5_chance := Or.inl (mj_inG 772 (by decide +kernel) (by decide +kernel))
theorem ll_X8_260 : mj_LL RX8 260 mX0_wearers := Or.inl (mj_inG 777 (by decide +kernel) (by decide +kernel))
theorem lb_X0_wearers : mj_LB mX0_wearers 2 := ⟨mj_inG 780 (by decide +kernel) (by decide +kernel), mj_inG 49 (by decide +kernel) (by decide +kernel), by decide +kernel, by decide +kernel, by decide +kernel⟩
theorem li_X0_wearers : Jvm.Cond.instanceMethod mX0_wearers.1 ∈ mj_G ∧ Jvm.Cond.selects mX0_wearers.1.cls mX0_wearers.1 mX0_wearers.1 ∈ mj_G := ⟨mj_inG 778 (by decide +kernel) (by decide +kernel), mj_inG 779 (by decide +kernel) (by decide +kernel)⟩
theorem ll_X8_263 : mj_LL RX8 263 mX8_isOpen := Or.inl (mj_inG 786 (by decide +kernel) (by decide +kernel))
theorem lb_X8_isOpen : mj_LB mX8_isOpen 2 := ⟨mj_inG 789 (by decide +kernel) (by decide +kernel), mj_inG 48 (by decide +kernel) (by decide +kernel), by decide +kernel, by decide +kernel, by decide +kernel⟩
theorem li_X8_isOpen : Jvm.Cond.instanceMethod mX8_isOpen.1 ∈ mj_G ∧ Jvm.Cond.selects mX8_isOpen.1.cls mX8_isOpen.1 mX8_isOpen.1 ∈ mj_G := ⟨mj_inG 788 (by decide +kernel) (by decide +kernel), mj_inG 18 (by decide +kernel) (by decide +kernel)⟩
theorem ll_X8_330 : mj_LL RX8 330 mX8_gets := Or.inl (mj_inG 797 (by decide +kernel) (by decide +kernel))
theorem lb_X8_gets : mj_LB mX8_gets 3 := ⟨mj_inG 799 (by decide +kernel) (by decide +kernel), mj_inG 48 (by decide +kernel) (by decide +kernel), by decide +kernel, by decide +kernel, by decide +kernel⟩
theorem li_X8_gets : Jvm.Cond.static mX8_gets.1 ∈ mj_G := mj_inG 798 (by decide +kernel) (by decide +kernel)
theorem ll_X8_266 : mj_LL RX8 266 mX8_rests := Or.inl (mj_inG 794 (by decide +kernel) (by decide +kernel))
theorem lb_X8_rests : mj_LB mX8_rests 3 := ⟨mj_inG 796 (by decide +kernel) (by decide +kernel), mj_inG 48 (by decide +kernel) (by decide +kernel), by decide +kernel, by decide +kernel, by decide +kernel⟩
theorem li_X8_rests : Jvm.Cond.static mX8_rests.1 ∈ mj_G := mj_inG 795 (by decide +kernel) (by decide +kernel)
theorem ll_X8_270 : mj_LL RX8 270 mX5_weigh := Or.inl (mj_inG 804 (by decide +kernel) (by decide +kernel))
theorem fl_X8_69 : mj_FL RX8 69 8 10 := ⟨RX8, TX8, 14, rfl, by decide, uw_X8, Or.inl (mj_inG 267 (by decide +kernel) (by decide +kernel))⟩
theorem fl_X8_65 : mj_FL RX8 65 8 9 := ⟨RX8, TX8, 14, rfl, by decide, uw_X8, Or.inl (mj_inG 266 (by decide +kernel) (by decide +kernel))⟩
theorem fl_X8_30 : mj_FL RX8 30 8 3 := ⟨RX8, TX8, 14, rfl, by decide, uw_X8, Or.inl (mj_inG 260 (by decide +kernel) (by decide +kernel))⟩
theorem fl_X8_26 : mj_FL RX8 26 8 2 := ⟨RX8, TX8, 14, rfl, by decide, uw_X8, Or.inl (mj_inG 259 (by decide +kernel) (by decide +kernel))⟩
theorem ll_X8_289 : mj_LL RX8 289 mX8_imageAt := Or.inl (mj_inG 822 (by decide +kernel) (by decide +kernel))
theorem lb_X8_imageAt : mj_LB mX8_imageAt 1 := ⟨mj_inG 825 (by decide +kernel) (by decide +kernel), mj_inG 48 (by decide +kernel) (by decide +kernel), by decide +kernel, by decide +kernel, by decide +kernel⟩
theorem li_X8_imageAt : Jvm.Cond.instanceMethod mX8_imageAt.1 ∈ mj_G ∧ Jvm.Cond.selects mX8_imageAt.1.cls mX8_imageAt.1 mX8_imageAt.1 ∈ mj_G := ⟨mj_inG 824 (by decide +kernel) (by decide +kernel), mj_inG 19 (by decide +kernel) (by decide +kernel)⟩
theorem fl_X8_293 : mj_FL RX8 293 1 0 := ⟨RX1, TX1, 3, rfl, by decide, uw_X1, Or.inr ⟨"RiverChoice", mj_inN 155 (by decide +kernel) (by decide +kernel)⟩⟩
theorem fl_X8_294 : mj_FL RX8 294 1 1 := ⟨RX1, TX1, 3, rfl, by decide, uw_X1, Or.inr ⟨"RiverChoice", mj_inN 157 (by decide +kernel) (by decide +kernel)⟩⟩
theorem ll_X8_295 : mj_LL RX8 295 mX3_become := Or.inl (mj_inG 826 (by decide +kernel) (by decide +kernel))
theorem lb_X3_become : mj_LB mX3_become 1 := ⟨mj_inG 829 (by decide +kernel) (by decide +kernel), mj_inG 51 (by decide +kernel) (by decide +kernel), by decide +kernel, by decide +kernel, by decide +kernel⟩
theorem li_X3_become : Jvm.Cond.instanceMethod mX3_become.1 ∈ mj_G ∧ Jvm.Cond.selects mX3_become.1.cls mX3_become.1 mX3_become.1 ∈ mj_G := ⟨mj_inG 827 (by decide +kernel) (by decide +kernel), mj_inG 828 (by decide +kernel) (by decide +kernel)⟩
theorem fp_X8_298 {nm : String} : mj_FP RX8 nm 298 1 2 .boolean := ⟨RX1, TX1, 3, tyX1, rfl, by decide, uw_X1, tyX1_ok, nmX1, rfl, Or.inl ⟨rfl, Or.inr ⟨"RiverChoice", mj_inN 158 (by decide +kernel) (by decide +kernel)⟩⟩⟩
theorem fl_X8_298 : mj_FL RX8 298 1 2 := ⟨RX1, TX1, 3, rfl, by decide, uw_X1, Or.inr ⟨"RiverChoice", mj_inN 158 (by decide +kernel) (by decide +kernel)⟩⟩
theorem ll_X8_318 : mj_LL RX8 318 mX0_pairs := Or.inl (mj_inG 846 (by decide +kernel) (by decide +kernel))
theorem lb_X0_pairs : mj_LB mX0_pairs 0 := ⟨mj_inG 849 (by decide +kernel) (by decide +kernel), mj_inG 49 (by decide +kernel) (by decide +kernel), by decide +kernel, by decide +kernel, by decide +kernel⟩
theorem li_X0_pairs : Jvm.Cond.instanceMethod mX0_pairs.1 ∈ mj_G ∧ Jvm.Cond.selects mX0_pairs.1.cls mX0_pairs.1 mX0_pairs.1 ∈ mj_G := ⟨mj_inG 847 (by decide +kernel) (by decide +kernel), mj_inG 848 (by decide +kernel) (by decide +kernel)⟩
theorem fl_X8_321 : mj_FL RX8 321 3 4 := ⟨RX3, TX3, 5, rfl, by decide, uw_X3, Or.inr ⟨"RiverChoice", mj_inN 132 (by decide +kernel) (by decide +kernel)⟩⟩
theorem fl_X8_322 : mj_FL RX8 322 7 1 := ⟨RX7, TX7, 2, rfl, by decide, uw_X7, Or.inr ⟨"RiverChoice", mj_inN 180 (by decide +kernel) (by decide +kernel)⟩⟩
theorem ll_X8_311 : mj_LL RX8 311 mX8_howMany := Or.inl (mj_inG 842 (by decide +kernel) (by decide +kernel))
theorem lb_X8_howMany : mj_LB mX8_howMany 1 := ⟨mj_inG 845 (by decide +kernel) (by decide +kernel), mj_inG 48 (by decide +kernel) (by decide +kernel), by decide +kernel, by decide +kernel, by decide +kernel⟩
theorem li_X8_howMany : Jvm.Cond.instanceMethod mX8_howMany.1 ∈ mj_G ∧ Jvm.Cond.selects mX8_howMany.1.cls mX8_howMany.1 mX8_howMany.1 ∈ mj_G := ⟨mj_inG 844 (by decide +kernel) (by decide +kernel), mj_inG 20 (by decide +kernel) (by decide +kernel)⟩
theorem fl_X9_7 : mj_FL RX9 7 9 0 := ⟨RX9, TX9, 20, rfl, by decide, uw_X9, Or.inl (mj_inG 867 (by decide +kernel) (by decide +kernel))⟩
theorem pl_X9 : plainName RX9 = true := by decide +kernel
theorem ob_X9_1 : Jvm.Cond.methodLink RX9 1 Lib.objectInit ∈ mj_G ∧ Jvm.Cond.instanceMethod Lib.objectInit ∈ mj_G ∧ Jvm.Cond.code Lib.objectInit ⟨#[0xb1]⟩ 1 none ∈ mj_G := ⟨mj_inG 862 (by decide +kernel) (by decide +kernel), mj_inG 71 (by decide +kernel) (by decide +kernel), mj_inG 72 (by decide +kernel) (by decide +kernel)⟩
theorem fp_X9_7 : mj_FP RX9 "<init>" 7 9 0 (tyX9 0) := ⟨RX9, TX9, 20, tyX9, rfl, by decide, uw_X9, tyX9_ok, nmX9, rfl, Or.inr ⟨rfl, rfl, rfl, mj_inG 867 (by decide +kernel) (by decide +kernel)⟩⟩
theorem fp_X9_13 : mj_FP RX9 "<init>" 13 9 1 (tyX9 1) := ⟨RX9, TX9, 20, tyX9, rfl, by decide, uw_X9, tyX9_ok, nmX9, rfl, Or.inr ⟨rfl, rfl, rfl, mj_inG 868 (by decide +kernel) (by decide +kernel)⟩⟩
theorem aw_boolean : Jvm.Cond.arrayClass .boolean ∈ mj_G := mj_inG 928 (by decide +kernel) (by decide +kernel)
theorem fp_X9_16 : mj_FP RX9 "<init>" 16 9 2 (tyX9 2) := ⟨RX9, TX9, 20, tyX9, rfl, by decide, uw_X9, tyX9_ok, nmX9, rfl, Or.inr ⟨rfl, rfl, rfl, mj_inG 869 (by decide +kernel) (by decide +kernel)⟩⟩
theorem fp_X9_20 : mj_FP RX9 "<init>" 20 9 3 (tyX9 3) := ⟨RX9, TX9, 20, tyX9, rfl, by decide, uw_X9, tyX9_ok, nmX9, rfl, Or.inr ⟨rfl, rfl, rfl, mj_inG 870 (by decide +kernel) (by decide +kernel)⟩⟩
theorem fp_X9_23 {nm : String} : mj_FP RX9 nm 23 9 6 .long := ⟨RX9, TX9, 20, tyX9, rfl, by decide, uw_X9, tyX9_ok, nmX9, rfl, Or.inl ⟨rfl, Or.inl (mj_inG 873 (by decide +kernel) (by decide +kernel))⟩⟩
theorem fp_X9_27 : mj_FP RX9 "<init>" 27 9 7 (tyX9 7) := ⟨RX9, TX9, 20, tyX9, rfl, by decide, uw_X9, tyX9_ok, nmX9, rfl, Or.inr ⟨rfl, rfl, rfl, mj_inG 874 (by decide +kernel) (by decide +kernel)⟩⟩
theorem fp_X9_30 : mj_FP RX9 "<init>" 30 9 8 (tyX9 8) := ⟨RX9, TX9, 20, tyX9, rfl, by decide, uw_X9, tyX9_ok, nmX9, rfl, Or.inr ⟨rfl, rfl, rfl, mj_inG 875 (by decide +kernel) (by decide +kernel)⟩⟩
theorem fp_X9_33 : mj_FP RX9 "<init>" 33 9 14 (tyX9 14) := ⟨RX9, TX9, 20, tyX9, rfl, by decide, uw_X9, tyX9_ok, nmX9, rfl, Or.inr ⟨rfl, rfl, rfl, mj_inG 881 (by decide +kernel) (by decide +kernel)⟩⟩
theorem fp_X9_36 : mj_FP RX9 "<init>" 36 9 16 (tyX9 16) := ⟨RX9, TX9, 20, tyX9, rfl, by decide, uw_X9, tyX9_ok, nmX9, rfl, Or.inr ⟨rfl, rfl, rfl, mj_inG 883 (by decide +kernel) (by decide +kernel)⟩⟩
theorem fp_X9_39 : mj_FP RX9 "<init>" 39 9 17 (tyX9 17) := ⟨RX9, TX9, 20, tyX9, rfl, by decide, uw_X9, tyX9_ok, nmX9, rfl, Or.inr ⟨rfl, rfl, rfl, mj_inG 884 (by decide +kernel) (by decide +kernel)⟩⟩
theorem fp_X9_43 : mj_FP RX9 "<init>" 43 9 18 (tyX9 18) := ⟨RX9, TX9, 20, tyX9, rfl, by decide, uw_X9, tyX9_ok, nmX9, rfl, Or.inr ⟨rfl, rfl, rfl, mj_inG 885 (by decide +kernel) (by decide +kernel)⟩⟩
theorem fp_X9_46 : mj_FP RX9 "<init>" 46 9 19 (tyX9 19) := ⟨RX9, TX9, 20, tyX9, rfl, by decide, uw_X9, tyX9_ok, nmX9, rfl, Or.inr ⟨rfl, rfl, rfl, mj_inG 886 (by decide +kernel) (by decide +kernel)⟩⟩
theorem ll_X9_49 : mj_LL RX9 49 mX9_clean := Or.inl (mj_inG 863 (by decide +kernel) (by decide +kernel))
theorem lb_X9_clean : mj_LB mX9_clean 1 := ⟨mj_inG 866 (by decide +kernel) (by decide +kernel), mj_inG 57 (by decide +kernel) (by decide +kernel), by decide +kernel, by decide +kernel, by decide +kernel⟩
theorem li_X9_clean : Jvm.Cond.instanceMethod mX9_clean.1 ∈ mj_G ∧ Jvm.Cond.selects mX9_clean.1.cls mX9_clean.1 mX9_clean.1 ∈ mj_G := ⟨mj_inG 865 (by decide +kernel) (by decide +kernel), mj_inG 21 (by decide +kernel) (by decide +kernel)⟩
theorem ll_X9_53 : mj_LL RX9 53 mX9_in := Or.inl (mj_inG 934 (by decide +kernel) (by decide +kernel))
theorem lb_X9_in : mj_LB mX9_in 3 := ⟨mj_inG 936 (by decide +kernel) (by decide +kernel), mj_inG 57 (by decide +kernel) (by decide +kernel), by decide +kernel, by decide +kernel, by decide +kernel⟩
theorem li_X9_in : Jvm.Cond.static mX9_in.1 ∈ mj_G := mj_inG 935 (by decide +kernel) (by decide +kernel)
theorem fl_X9_27 : mj_FL RX9 27 9 7 := ⟨RX9, TX9, 20, rfl, by decide, uw_X9, Or.inl (mj_inG 874 (by decide +kernel) (by decide +kernel))⟩
theorem fl_X9_30 : mj_FL RX9 30 9 8 := ⟨RX9, TX9, 20, rfl, by decide, uw_X9, Or.inl (mj_inG 875 (by decide +kernel) (by decide +kernel))⟩
theorem ll_X9_59 : mj_LL RX9 59 mX9_copies := Or.inl (mj_inG 950 (by decide +kernel) (by decide +kernel))
theorem lb_X9_copies : mj_LB mX9_copies 5 := ⟨mj_inG 952 (by decide +kernel) (by decide +kernel), mj_inG 57 (by decide +kernel) (by decide +kernel), by decide +kernel, by decide +kernel, by decide +kernel⟩
theorem li_X9_copies : Jvm.Cond.static mX9_copies.1 ∈ mj_G := mj_inG 951 (by decide +kernel) (by decide +kernel)
theorem ll_X9_63 : mj_LL RX9 63 mX9_isMan := Or.inl (mj_inG 965 (by decide +kernel) (by decide +kernel))
theorem lb_X9_isMan : mj_LB mX9_isMan 1 := ⟨mj_inG 968 (by decide +kernel) (by decide +kernel), mj_inG 57 (by decide +kernel) (by decide +kernel), by decide +kernel, by decide +kernel, by decide +kernel⟩
theorem li_X9_isMan : Jvm.Cond.instanceMethod mX9_isMan.1 ∈ mj_G ∧ Jvm.Cond.selects mX9_isMan.1.cls mX9_isMan.1 mX9_isMan.1 ∈ mj_G := ⟨mj_inG 967 (by decide +kernel) (by decide +kernel), mj_inG 26 (by decide +kernel) (by decide +kernel)⟩
theorem ll_X9_69 : mj_LL RX9 69 mX9_has := Or.inl (mj_inG 978 (by decide +kernel) (by decide +kernel))
theorem lb_X9_has : mj_LB mX9_has 2 := ⟨mj_inG 980 (by decide +kernel) (by decide +kernel), mj_inG 57 (by decide +kernel) (by decide +kernel), by decide +kernel, by decide +kernel, by decide +kernel⟩
theorem li_X9_has : Jvm.Cond.static mX9_has.1 ∈ mj_G := mj_inG 979 (by decide +kernel) (by decide +kernel)
theorem ll_X9_75 : mj_LL RX9 75 mX9_bad := Or.inl (mj_inG 937 (by decide +kernel) (by decide +kernel))
theorem lb_X9_bad : mj_LB mX9_bad 1 := ⟨mj_inG 940 (by decide +kernel) (by decide +kernel), mj_inG 57 (by decide +kernel) (by decide +kernel), by decide +kernel, by decide +kernel, by decide +kernel⟩
theorem li_X9_bad : Jvm.Cond.instanceMethod mX9_bad.1 ∈ mj_G ∧ Jvm.Cond.selects mX9_bad.1.cls mX9_bad.1 mX9_bad.1 ∈ mj_G := ⟨mj_inG 939 (by decide +kernel) (by decide +kernel), mj_inG 22 (by decide +kernel) (by decide +kernel)⟩
theorem ll_X9_79 : mj_LL RX9 79 mX9_doMan := Or.inl (mj_inG 945 (by decide +kernel) (by decide +kernel))
theorem lb_X9_doMan : mj_LB mX9_doMan 0 := ⟨mj_inG 948 (by decide +kernel) (by decide +kernel), mj_inG 57 (by decide +kernel) (by decide +kernel), by decide +kernel, by decide +kernel, by decide +kernel⟩
theorem li_X9_doMan : Jvm.Cond.instanceMethod mX9_doMan.1 ∈ mj_G ∧ Jvm.Cond.selects mX9_doMan.1.cls mX9_doMan.1 mX9_doMan.1 ∈ mj_G := ⟨mj_inG 947 (by decide +kernel) (by decide +kernel), mj_inG 23 (by decide +kernel) (by decide +kernel)⟩
theorem ll_X9_83 : mj_LL RX9 83 mX9_tell := Or.inl (mj_inG 953 (by decide +kernel) (by decide +kernel))
theorem lb_X9_tell : mj_LB mX9_tell 1 := ⟨mj_inG 956 (by decide +kernel) (by decide +kernel), mj_inG 57 (by decide +kernel) (by decide +kernel), by decide +kernel, by decide +kernel, by decide +kernel⟩
theorem li_X9_tell : Jvm.Cond.instanceMethod mX9_tell.1 ∈ mj_G ∧ Jvm.Cond.selects mX9_tell.1.cls mX9_tell.1 mX9_tell.1 ∈ mj_G := ⟨mj_inG 955 (by decide +kernel) (by decide +kernel), mj_inG 24 (by decide +kernel) (by decide +kernel)⟩
theorem ll_X9_86 : mj_LL RX9 86 mX9_doWorn := Or.inl (mj_inG 961 (by decide +kernel) (by decide +kernel))
theorem lb_X9_doWorn : mj_LB mX9_doWorn 2 := ⟨mj_inG 964 (by decide +kernel) (by decide +kernel), mj_inG 57 (by decide +kernel) (by decide +kernel), by decide +kernel, by decide +kernel, by decide +kernel⟩
theorem li_X9_doWorn : Jvm.Cond.instanceMethod mX9_doWorn.1 ∈ mj_G ∧ Jvm.Cond.selects mX9_doWorn.1.cls mX9_doWorn.1 mX9_doWorn.1 ∈ mj_G := ⟨mj_inG 963 (by decide +kernel) (by decide +kernel), mj_inG 25 (by decide +kernel) (by decide +kernel)⟩
theorem ll_X9_90 : mj_LL RX9 90 mX9_doPair := Or.inl (mj_inG 974 (by decide +kernel) (by decide +kernel))
theorem lb_X9_doPair : mj_LB mX9_doPair 2 := ⟨mj_inG 977 (by decide +kernel) (by decide +kernel), mj_inG 57 (by decide +kernel) (by decide +kernel), by decide +kernel, by decide +kernel, by decide +kernel⟩
theorem li_X9_doPair : Jvm.Cond.instanceMethod mX9_doPair.1 ∈ mj_G ∧ Jvm.Cond.selects mX9_doPair.1.cls mX9_doPair.1 mX9_doPair.1 ∈ mj_G := ⟨mj_inG 976 (by decide +kernel) (by decide +kernel), mj_inG 27 (by decide +kernel) (by decide +kernel)⟩
theorem ll_X9_93 : mj_LL RX9 93 mX9_doWord := Or.inl (mj_inG 985 (by decide +kernel) (by decide +kernel))
theorem lb_X9_doWord : mj_LB mX9_doWord 1 := ⟨mj_inG 988 (by decide +kernel) (by decide +kernel), mj_inG 57 (by decide +kernel) (by decide +kernel), by decide +kernel, by decide +kernel, by decide +kernel⟩
theorem li_X9_doWord : Jvm.Cond.instanceMethod mX9_doWord.1 ∈ mj_G ∧ Jvm.Cond.selects mX9_doWord.1.cls mX9_doWord.1 mX9_doWord.1 ∈ mj_G := ⟨mj_inG 987 (by decide +kernel) (by decide +kernel), mj_inG 28 (by decide +kernel) (by decide +kernel)⟩
theorem fl_X9_98 : mj_FL RX9 98 9 4 := ⟨RX9, TX9, 20, rfl, by decide, uw_X9, Or.inl (mj_inG 871 (by decide +kernel) (by decide +kernel))⟩
theorem fl_X9_20 : mj_FL RX9 20 9 3 := ⟨RX9, TX9, 20, rfl, by decide, uw_X9, Or.inl (mj_inG 870 (by decide +kernel) (by decide +kernel))⟩
theorem fp_X9_98 {nm : String} : mj_FP RX9 nm 98 9 4 .int := ⟨RX9, TX9, 20, tyX9, rfl, by decide, uw_X9, tyX9_ok, nmX9, rfl, Or.inl ⟨rfl, Or.inl (mj_inG 871 (by decide +kernel) (by decide +kernel))⟩⟩
theorem fp_X9_116 {nm : String} : mj_FP RX9 nm 116 9 11 .int := ⟨RX9, TX9, 20, tyX9, rfl, by decide, uw_X9, tyX9_ok, nmX9, rfl, Or.inl ⟨rfl, Or.inl (mj_inG 878 (by decide +kernel) (by decide +kernel))⟩⟩
theorem fl_X9_116 : mj_FL RX9 116 9 11 := ⟨RX9, TX9, 20, rfl, by decide, uw_X9, Or.inl (mj_inG 878 (by decide +kernel) (by decide +kernel))⟩
theorem fl_X9_102 : mj_FL RX9 102 9 9 := ⟨RX9, TX9, 20, rfl, by decide, uw_X9, Or.inl (mj_inG 876 (by decide +kernel) (by decide +kernel))⟩
theorem fl_X9_105 : mj_FL RX9 105 9 10 := ⟨RX9, TX9, 20, rfl, by decide, uw_X9, Or.inl (mj_inG 877 (by decide +kernel) (by decide +kernel))⟩
theorem fp_X9_119 {nm : String} : mj_FP RX9 nm 119 9 12 .int := ⟨RX9, TX9, 20, tyX9, rfl, by decide, uw_X9, tyX9_ok, nmX9, rfl, Or.inl ⟨rfl, Or.inl (mj_inG 879 (by decide +kernel) (by decide +kernel))⟩⟩
theorem fp_X9_102 {nm : String} : mj_FP RX9 nm 102 9 9 .int := ⟨RX9, TX9, 20, tyX9, rfl, by decide, uw_X9, tyX9_ok, nmX9, rfl, Or.inl ⟨rfl, Or.inl (mj_inG 876 (by decide +kernel) (by decide +kernel))⟩⟩
theorem fl_X9_119 : mj_FL RX9 119 9 12 := ⟨RX9, TX9, 20, rfl, by decide, uw_X9, Or.inl (mj_inG 879 (by decide +kernel) (by decide +kernel))⟩
theorem fp_X9_122 {nm : String} : mj_FP RX9 nm 122 9 13 .long := ⟨RX9, TX9, 20, tyX9, rfl, by decide, uw_X9, tyX9_ok, nmX9, rfl, Or.inl ⟨rfl, Or.inl (mj_inG 880 (by decide +kernel) (by decide +kernel))⟩⟩
theorem fl_X9_122 : mj_FL RX9 122 9 13 := ⟨RX9, TX9, 20, rfl, by decide, uw_X9, Or.inl (mj_inG 880 (by decide +kernel) (by decide +kernel))⟩
theorem fp_X9_105 {nm : String} : mj_FP RX9 nm 105 9 10 .int := ⟨RX9, TX9, 20, tyX9, rfl, by decide, uw_X9, tyX9_ok, nmX9, rfl, Or.inl ⟨rfl, Or.inl (mj_inG 877 (by decide +kernel) (by decide +kernel))⟩⟩
theorem ll_X9_142 : mj_LL RX9 142 mX9_takes := Or.inl (mj_inG 1006 (by decide +kernel) (by decide +kernel))
theorem lb_X9_takes : mj_LB mX9_takes 0 := ⟨mj_inG 1009 (by decide +kernel) (by decide +kernel), mj_inG 57 (by decide +kernel) (by decide +kernel), by decide +kernel, by decide +kernel, by decide +kernel⟩
theorem li_X9_takes : Jvm.Cond.instanceMethod mX9_takes.1 ∈ mj_G ∧ Jvm.Cond.selects mX9_takes.1.cls mX9_takes.1 mX9_takes.1 ∈ mj_G := ⟨mj_inG 1008 (by decide +kernel) (by decide +kernel), mj_inG 30 (by decide +kernel) (by decide +kernel)⟩
theorem fl_X9_139 : mj_FL RX9 139 9 15 := ⟨RX9, TX9, 20, rfl, by decide, uw_X9, Or.inl (mj_inG 882 (by decide +kernel) (by decide +kernel))⟩
theorem fp_X9_139 {nm : String} : mj_FP RX9 nm 139 9 15 .int := ⟨RX9, TX9, 20, tyX9, rfl, by decide, uw_X9, tyX9_ok, nmX9, rfl, Or.inl ⟨rfl, Or.inl (mj_inG 882 (by decide +kernel) (by decide +kernel))⟩⟩
theorem fl_X9_33 : mj_FL RX9 33 9 14 := ⟨RX9, TX9, 20, rfl, by decide, uw_X9, Or.inl (mj_inG 881 (by decide +kernel) (by decide +kernel))⟩
theorem ll_X9_145 : mj_LL RX9 145 mX9_itemOf := Or.inl (mj_inG 1016 (by decide +kernel) (by decide +kernel))
theorem lb_X9_itemOf : mj_LB mX9_itemOf 1 := ⟨mj_inG 1018 (by decide +kernel) (by decide +kernel), mj_inG 57 (by decide +kernel) (by decide +kernel), by decide +kernel, by decide +kernel, by decide +kernel⟩
theorem li_X9_itemOf : Jvm.Cond.static mX9_itemOf.1 ∈ mj_G := mj_inG 1017 (by decide +kernel) (by decide +kernel)
theorem ll_X9_152 : mj_LL RX9 152 mX9_doItem := Or.inl (mj_inG 1024 (by decide +kernel) (by decide +kernel))
theorem lb_X9_doItem : mj_LB mX9_doItem 1 := ⟨mj_inG 1027 (by decide +kernel) (by decide +kernel), mj_inG 57 (by decide +kernel) (by decide +kernel), by decide +kernel, by decide +kernel, by decide +kernel⟩
theorem li_X9_doItem : Jvm.Cond.instanceMethod mX9_doItem.1 ∈ mj_G ∧ Jvm.Cond.selects mX9_doItem.1.cls mX9_doItem.1 mX9_doItem.1 ∈ mj_G := ⟨mj_inG 1026 (by decide +kernel) (by decide +kernel), mj_inG 31 (by decide +kernel) (by decide +kernel)⟩
theorem fl_X9_36 : mj_FL RX9 36 9 16 := ⟨RX9, TX9, 20, rfl, by decide, uw_X9, Or.inl (mj_inG 883 (by decide +kernel) (by decide +kernel))⟩
theorem ll_X9_149 : mj_LL RX9 149 mX9_reads := Or.inl (mj_inG 1002 (by decide +kernel) (by decide +kernel))
theorem lb_X9_reads : mj_LB mX9_reads 0 := ⟨mj_inG 1005 (by decide +kernel) (by decide +kernel), mj_inG 57 (by decide +kernel) (by decide +kernel), by decide +kernel, by decide +kernel, by decide +kernel⟩
theorem li_X9_reads : Jvm.Cond.instanceMethod mX9_reads.1 ∈ mj_G ∧ Jvm.Cond.selects mX9_reads.1.cls mX9_reads.1 mX9_reads.1 ∈ mj_G := ⟨mj_inG 1004 (by decide +kernel) (by decide +kernel), mj_inG 29 (by decide +kernel) (by decide +kernel)⟩
theorem ll_X9_157 : mj_LL RX9 157 mX9_casesOf := Or.inl (mj_inG 1053 (by decide +kernel) (by decide +kernel))
theorem lb_X9_casesOf : mj_LB mX9_casesOf 3 := ⟨mj_inG 1055 (by decide +kernel) (by decide +kernel), mj_inG 57 (by decide +kernel) (by decide +kernel), by decide +kernel, by decide +kernel, by decide +kernel⟩
theorem li_X9_casesOf : Jvm.Cond.static mX9_casesOf.1 ∈ mj_G := mj_inG 1054 (by decide +kernel) (by decide +kernel)
theorem ll_X9_163 : mj_LL RX9 163 mX9_sumOf := Or.inl (mj_inG 1067 (by decide +kernel) (by decide +kernel))
theorem lb_X9_sumOf : mj_LB mX9_sumOf 4 := ⟨mj_inG 1069 (by decide +kernel) (by decide +kernel), mj_inG 57 (by decide +kernel) (by decide +kernel), by decide +kernel, by decide +kernel, by decide +kernel⟩
theorem li_X9_sumOf : Jvm.Cond.static mX9_sumOf.1 ∈ mj_G := mj_inG 1068 (by decide +kernel) (by decide +kernel)
theorem ll_X9_169 : mj_LL RX9 169 mX9_allOf := Or.inl (mj_inG 1071 (by decide +kernel) (by decide +kernel))
theorem lb_X9_allOf : mj_LB mX9_allOf 2 := ⟨mj_inG 1073 (by decide +kernel) (by decide +kernel), mj_inG 57 (by decide +kernel) (by decide +kernel), by decide +kernel, by decide +kernel, by decide +kernel⟩
theorem li_X9_allOf : Jvm.Cond.static mX9_allOf.1 ∈ mj_G := mj_inG 1072 (by decide +kernel) (by decide +kernel)
theorem ll_X9_173 : mj_LL RX9 173 mX9_shareOf := Or.inl (mj_inG 1063 (by decide +kernel) (by decide +kernel))
theorem lb_X9_shareOf : mj_LB mX9_shareOf 4 := ⟨mj_inG 1065 (by decide +kernel) (by decide +kernel), mj_inG 57 (by decide +kernel) (by decide +kernel), by decide +kernel, by decide +kernel, by decide +kernel⟩
theorem li_X9_shareOf : Jvm.Cond.static mX9_shareOf.1 ∈ mj_G := mj_inG 1064 (by decide +kernel) (by decide +kernel)
theorem ll_X9_177 : mj_LL RX9 177 mX9_common := Or.inl (mj_inG 1056 (by decide +kernel) (by decide +kernel))
theorem lb_X9_common : mj_LB mX9_common 2 := ⟨mj_inG 1058 (by decide +kernel) (by decide +kernel), mj_inG 57 (by decide +kernel) (by decide +kernel), by decide +kernel, by decide +kernel, by decide +kernel⟩
theorem li_X9_common : Jvm.Cond.static mX9_common.1 ∈ mj_G := mj_inG 1057 (by decide +kernel) (by decide +kernel)
theorem ll_X9_185 : mj_LL RX9 185 mX9_costOf := Or.inl (mj_inG 1036 (by decide +kernel) (by decide +kernel))
theorem lb_X9_costOf : mj_LB mX9_costOf 1 := ⟨mj_inG 1038 (by decide +kernel) (by decide +kernel), mj_inG 57 (by decide +kernel) (by decide +kernel), by decide +kernel, by decide +kernel, by decide +kernel⟩
theorem li_X9_costOf : Jvm.Cond.static mX9_costOf.1 ∈ mj_G := mj_inG 1037 (by decide +kernel) (by decide +kernel)
theorem ll_X9_181 : mj_LL RX9 181 mX9_weighs := Or.inl (mj_inG 1050 (by decide +kernel) (by decide +kernel))
theorem lb_X9_weighs : mj_LB mX9_weighs 4 := ⟨mj_inG 1052 (by decide +kernel) (by decide +kernel), mj_inG 57 (by decide +kernel) (by decide +kernel), by decide +kernel, by decide +kernel, by decide +kernel⟩
theorem li_X9_weighs : Jvm.Cond.static mX9_weighs.1 ∈ mj_G := mj_inG 1051 (by decide +kernel) (by decide +kernel)
theorem ll_X9_188 : mj_LL RX9 188 mX9_isTest := Or.inl (mj_inG 1032 (by decide +kernel) (by decide +kernel))
theorem lb_X9_isTest : mj_LB mX9_isTest 1 := ⟨mj_inG 1034 (by decide +kernel) (by decide +kernel), mj_inG 57 (by decide +kernel) (by decide +kernel), by decide +kernel, by decide +kernel, by decide +kernel⟩
theorem li_X9_isTest : Jvm.Cond.static mX9_isTest.1 ∈ mj_G := mj_inG 1033 (by decide +kernel) (by decide +kernel)
theorem ll_X9_194 : mj_LL RX9 194 mX9_remember := Or.inl (mj_inG 1043 (by decide +kernel) (by decide +kernel))
theorem lb_X9_remember : mj_LB mX9_remember 0 := ⟨mj_inG 1046 (by decide +kernel) (by decide +kernel), mj_inG 57 (by decide +kernel) (by decide +kernel), by decide +kernel, by decide +kernel, by decide +kernel⟩
theorem li_X9_remember : Jvm.Cond.instanceMethod mX9_remember.1 ∈ mj_G ∧ Jvm.Cond.selects mX9_remember.1.cls mX9_remember.1 mX9_remember.1 ∈ mj_G := ⟨mj_inG 1045 (by decide +kernel) (by decide +kernel), mj_inG 33 (by decide +kernel) (by decide +kernel)⟩
theorem ll_X9_197 : mj_LL RX9 197 mX9_tests := Or.inl (mj_inG 1047 (by decide +kernel) (by decide +kernel))
theorem lb_X9_tests : mj_LB mX9_tests 4 := ⟨mj_inG 1049 (by decide +kernel) (by decide +kernel), mj_inG 57 (by decide +kernel) (by decide +kernel), by decide +kernel, by decide +kernel, by decide +kernel⟩
theorem li_X9_tests : Jvm.Cond.static mX9_tests.1 ∈ mj_G := mj_inG 1048 (by decide +kernel) (by decide +kernel)
theorem ll_X9_200 : mj_LL RX9 200 mX9_trustOn := Or.inl (mj_inG 1060 (by decide +kernel) (by decide +kernel))
theorem lb_X9_trustOn : mj_LB mX9_trustOn 2 := ⟨mj_inG 1062 (by decide +kernel) (by decide +kernel), mj_inG 57 (by decide +kernel) (by decide +kernel), by decide +kernel, by decide +kernel, by decide +kernel⟩
theorem li_X9_trustOn : Jvm.Cond.static mX9_trustOn.1 ∈ mj_G := mj_inG 1061 (by decide +kernel) (by decide +kernel)
theorem ll_X9_191 : mj_LL RX9 191 mX9_no := Or.inl (mj_inG 1039 (by decide +kernel) (by decide +kernel))
theorem lb_X9_no : mj_LB mX9_no 1 := ⟨mj_inG 1042 (by decide +kernel) (by decide +kernel), mj_inG 57 (by decide +kernel) (by decide +kernel), by decide +kernel, by decide +kernel, by decide +kernel⟩
theorem li_X9_no : Jvm.Cond.instanceMethod mX9_no.1 ∈ mj_G ∧ Jvm.Cond.selects mX9_no.1.cls mX9_no.1 mX9_no.1 ∈ mj_G := ⟨mj_inG 1041 (by decide +kernel) (by decide +kernel), mj_inG 32 (by decide +kernel) (by decide +kernel)⟩
theorem ll_X9_208 : mj_LL RX9 208 mX9_showsOn := Or.inl (mj_inG 1096 (by decide +kernel) (by decide +kernel))
theorem lb_X9_showsOn : mj_LB mX9_showsOn 2 := ⟨mj_inG 1099 (by decide +kernel) (by decide +kernel), mj_inG 57 (by decide +kernel) (by decide +kernel), by decide +kernel, by decide +kernel, by decide +kernel⟩
theorem li_X9_showsOn : Jvm.Cond.instanceMethod mX9_showsOn.1 ∈ mj_G ∧ Jvm.Cond.selects mX9_showsOn.1.cls mX9_showsOn.1 mX9_showsOn.1 ∈ mj_G := ⟨mj_inG 1098 (by decide +kernel) (by decide +kernel), mj_inG 34 (by decide +kernel) (by decide +kernel)⟩
theorem fl_X9_39 : mj_FL RX9 39 9 17 := ⟨RX9, TX9, 20, rfl, by decide, uw_X9, Or.inl (mj_inG 884 (by decide +kernel) (by decide +kernel))⟩
theorem fp_X9_211 {nm : String} : mj_FP RX9 nm 211 9 5 .long := ⟨RX9, TX9, 20, tyX9, rfl, by decide, uw_X9, tyX9_ok, nmX9, rfl, Or.inl ⟨rfl, Or.inl (mj_inG 872 (by decide +kernel) (by decide +kernel))⟩⟩
theorem ll_X9_219 : mj_LL RX9 219 mX9_bits := Or.inl (mj_inG 1113 (by decide +kernel) (by decide +kernel))
theorem lb_X9_bits : mj_LB mX9_bits 1 := ⟨mj_inG 1115 (by decide +kernel) (by decide +kernel), mj_inG 57 (by decide +kernel) (by decide +kernel), by decide +kernel, by decide +kernel, by decide +kernel⟩
theorem li_X9_bits : Jvm.Cond.static mX9_bits.1 ∈ mj_G := mj_inG 1114 (by decide +kernel) (by decide +kernel)
theorem ll_X9_222 : mj_LL RX9 222 mX9_holdOn := Or.inl (mj_inG 1116 (by decide +kernel) (by decide +kernel))
theorem lb_X9_holdOn : mj_LB mX9_holdOn 3 := ⟨mj_inG 1119 (by decide +kernel) (by decide +kernel), mj_inG 57 (by decide +kernel) (by decide +kernel), by decide +kernel, by decide +kernel, by decide +kernel⟩
theorem li_X9_holdOn : Jvm.Cond.instanceMethod mX9_holdOn.1 ∈ mj_G ∧ Jvm.Cond.selects mX9_holdOn.1.cls mX9_holdOn.1 mX9_holdOn.1 ∈ mj_G := ⟨mj_inG 1118 (by decide +kernel) (by decide +kernel), mj_inG 36 (by decide +kernel) (by decide +kernel)⟩
theorem ll_X9_226 : mj_LL RX9 226 mX9_fraction := Or.inl (mj_inG 1120 (by decide +kernel) (by decide +kernel))
theorem lb_X9_fraction : mj_LB mX9_fraction 2 := ⟨mj_inG 1123 (by decide +kernel) (by decide +kernel), mj_inG 57 (by decide +kernel) (by decide +kernel), by decide +kernel, by decide +kernel, by decide +kernel⟩
theorem li_X9_fraction : Jvm.Cond.instanceMethod mX9_fraction.1 ∈ mj_G ∧ Jvm.Cond.selects mX9_fraction.1.cls mX9_fraction.1 mX9_fraction.1 ∈ mj_G := ⟨mj_inG 1122 (by decide +kernel) (by decide +kernel), mj_inG 37 (by decide +kernel) (by decide +kernel)⟩
theorem ll_X9_214 : mj_LL RX9 214 mX9_areMen := Or.inl (mj_inG 1108 (by decide +kernel) (by decide +kernel))
theorem lb_X9_areMen : mj_LB mX9_areMen 1 := ⟨mj_inG 1111 (by decide +kernel) (by decide +kernel), mj_inG 57 (by decide +kernel) (by decide +kernel), by decide +kernel, by decide +kernel, by decide +kernel⟩
theorem li_X9_areMen : Jvm.Cond.instanceMethod mX9_areMen.1 ∈ mj_G ∧ Jvm.Cond.selects mX9_areMen.1.cls mX9_areMen.1 mX9_areMen.1 ∈ mj_G := ⟨mj_inG 1110 (by decide +kernel) (by decide +kernel), mj_inG 35 (by decide +kernel) (by decide +kernel)⟩
theorem ll_X9_230 : mj_LL RX9 230 mX9_keepOn := Or.inl (mj_inG 1128 (by decide +kernel) (by decide +kernel))
theorem lb_X9_keepOn : mj_LB mX9_keepOn 3 := ⟨mj_inG 1131 (by decide +kernel) (by decide +kernel), mj_inG 57 (by decide +kernel) (by decide +kernel), by decide +kernel, by decide +kernel, by decide +kernel⟩
theorem li_X9_keepOn : Jvm.Cond.instanceMethod mX9_keepOn.1 ∈ mj_G ∧ Jvm.Cond.selects mX9_keepOn.1.cls mX9_keepOn.1 mX9_keepOn.1 ∈ mj_G := ⟨mj_inG 1130 (by decide +kernel) (by decide +kernel), mj_inG 38 (by decide +kernel) (by decide +kernel)⟩
theorem fl_X9_43 : mj_FL RX9 43 9 18 := ⟨RX9, TX9, 20, rfl, by decide, uw_X9, Or.inl (mj_inG 885 (by decide +kernel) (by decide +kernel))⟩
theorem ll_X9_234 : mj_LL RX9 234 mX9_layDay := Or.inl (mj_inG 1146 (by decide +kernel) (by decide +kernel))
theorem lb_X9_layDay : mj_LB mX9_layDay 0 := ⟨mj_inG 1149 (by decide +kernel) (by decide +kernel), mj_inG 57 (by decide +kernel) (by decide +kernel), by decide +kernel, by decide +kernel, by decide +kernel⟩
theorem li_X9_layDay : Jvm.Cond.instanceMethod mX9_layDay.1 ∈ mj_G ∧ Jvm.Cond.selects mX9_layDay.1.cls mX9_layDay.1 mX9_layDay.1 ∈ mj_G := ⟨mj_inG 1148 (by decide +kernel) (by decide +kernel), mj_inG 41 (by decide +kernel) (by decide +kernel)⟩
theorem ll_X9_237 : mj_LL RX9 237 mX9_behind := Or.inl (mj_inG 1142 (by decide +kernel) (by decide +kernel))
theorem lb_X9_behind : mj_LB mX9_behind 5 := ⟨mj_inG 1145 (by decide +kernel) (by decide +kernel), mj_inG 57 (by decide +kernel) (by decide +kernel), by decide +kernel, by decide +kernel, by decide +kernel⟩
theorem li_X9_behind : Jvm.Cond.instanceMethod mX9_behind.1 ∈ mj_G ∧ Jvm.Cond.selects mX9_behind.1.cls mX9_behind.1 mX9_behind.1 ∈ mj_G := ⟨mj_inG 1144 (by decide +kernel) (by decide +kernel), mj_inG 40 (by decide +kernel) (by decide +kernel)⟩
theorem ll_X9_243 : mj_LL RX9 243 mX9_worthOf := Or.inl (mj_inG 1138 (by decide +kernel) (by decide +kernel))
theorem lb_X9_worthOf : mj_LB mX9_worthOf 4 := ⟨mj_inG 1141 (by decide +kernel) (by decide +kernel), mj_inG 57 (by decide +kernel) (by decide +kernel), by decide +kernel, by decide +kernel, by decide +kernel⟩
theorem li_X9_worthOf : Jvm.Cond.instanceMethod mX9_worthOf.1 ∈ mj_G ∧ Jvm.Cond.selects mX9_worthOf.1.cls mX9_worthOf.1 mX9_worthOf.1 ∈ mj_G := ⟨mj_inG 1140 (by decide +kernel) (by decide +kernel), mj_inG 39 (by decide +kernel) (by decide +kernel)⟩
theorem fl_X9_46 : mj_FL RX9 46 9 19 := ⟨RX9, TX9, 20, rfl, by decide, uw_X9, Or.inl (mj_inG 886 (by decide +kernel) (by decide +kernel))⟩
theorem ll_X9_247 : mj_LL RX9 247 mX9_sifts := Or.inl (mj_inG 1158 (by decide +kernel) (by decide +kernel))
theorem lb_X9_sifts : mj_LB mX9_sifts 4 := ⟨mj_inG 1161 (by decide +kernel) (by decide +kernel), mj_inG 57 (by decide +kernel) (by decide +kernel), by decide +kernel, by decide +kernel, by decide +kernel⟩
theorem li_X9_sifts : Jvm.Cond.instanceMethod mX9_sifts.1 ∈ mj_G ∧ Jvm.Cond.selects mX9_sifts.1.cls mX9_sifts.1 mX9_sifts.1 ∈ mj_G := ⟨mj_inG 1160 (by decide +kernel) (by decide +kernel), mj_inG 42 (by decide +kernel) (by decide +kernel)⟩
theorem ll_X9_253 : mj_LL RX9 253 mX9_areWell := Or.inl (mj_inG 1171 (by decide +kernel) (by decide +kernel))
theorem lb_X9_areWell : mj_LB mX9_areWell 2 := ⟨mj_inG 1174 (by decide +kernel) (by decide +kernel), mj_inG 57 (by decide +kernel) (by decide +kernel), by decide +kernel, by decide +kernel, by decide +kernel⟩
theorem li_X9_areWell : Jvm.Cond.instanceMethod mX9_areWell.1 ∈ mj_G ∧ Jvm.Cond.selects mX9_areWell.1.cls mX9_areWell.1 mX9_areWell.1 ∈ mj_G := ⟨mj_inG 1173 (by decide +kernel) (by decide +kernel), mj_inG 43 (by decide +kernel) (by decide +kernel)⟩
theorem ll_X9_259 : mj_LL RX9 259 mX9_wearing := Or.inl (mj_inG 1186 (by decide +kernel) (by decide +kernel))
theorem lb_X9_wearing : mj_LB mX9_wearing 2 := ⟨mj_inG 1189 (by decide +kernel) (by decide +kernel), mj_inG 57 (by decide +kernel) (by decide +kernel), by decide +kernel, by decide +kernel, by decide +kernel⟩
theorem li_X9_wearing : Jvm.Cond.instanceMethod mX9_wearing.1 ∈ mj_G ∧ Jvm.Cond.selects mX9_wearing.1.cls mX9_wearing.1 mX9_wearing.1 ∈ mj_G := ⟨mj_inG 1188 (by decide +kernel) (by decide +kernel), mj_inG 44 (by decide +kernel) (by decide +kernel)⟩
theorem ll_X9_256 : mj_LL RX9 256 mX9_isTwo := Or.inl (mj_inG 1183 (by decide +kernel) (by decide +kernel))
theorem lb_X9_isTwo : mj_LB mX9_isTwo 1 := ⟨mj_inG 1185 (by decide +kernel) (by decide +kernel), mj_inG 57 (by decide +kernel) (by decide +kernel), by decide +kernel, by decide +kernel, by decide +kernel⟩
theorem li_X9_isTwo : Jvm.Cond.static mX9_isTwo.1 ∈ mj_G := mj_inG 1184 (by decide +kernel) (by decide +kernel)
theorem ll_X9_263 : mj_LL RX9 263 mX9_gets := Or.inl (mj_inG 1198 (by decide +kernel) (by decide +kernel))
theorem lb_X9_gets : mj_LB mX9_gets 3 := ⟨mj_inG 1201 (by decide +kernel) (by decide +kernel), mj_inG 57 (by decide +kernel) (by decide +kernel), by decide +kernel, by decide +kernel, by decide +kernel⟩
theorem li_X9_gets : Jvm.Cond.instanceMethod mX9_gets.1 ∈ mj_G ∧ Jvm.Cond.selects mX9_gets.1.cls mX9_gets.1 mX9_gets.1 ∈ mj_G := ⟨mj_inG 1200 (by decide +kernel) (by decide +kernel), mj_inG 45 (by decide +kernel) (by decide +kernel)⟩
theorem fl_X9_23 : mj_FL RX9 23 9 6 := ⟨RX9, TX9, 20, rfl, by decide, uw_X9, Or.inl (mj_inG 873 (by decide +kernel) (by decide +kernel))⟩
theorem fl_X9_211 : mj_FL RX9 211 9 5 := ⟨RX9, TX9, 20, rfl, by decide, uw_X9, Or.inl (mj_inG 872 (by decide +kernel) (by decide +kernel))⟩
theorem fl_X9_13 : mj_FL RX9 13 9 1 := ⟨RX9, TX9, 20, rfl, by decide, uw_X9, Or.inl (mj_inG 868 (by decide +kernel) (by decide +kernel))⟩
theorem fl_X9_16 : mj_FL RX9 16 9 2 := ⟨RX9, TX9, 20, rfl, by decide, uw_X9, Or.inl (mj_inG 869 (by decide +kernel) (by decide +kernel))⟩
theorem ll_X9_279 : mj_LL RX9 279 mX9_counted := Or.inl (mj_inG 1236 (by decide +kernel) (by decide +kernel))
theorem lb_X9_counted : mj_LB mX9_counted 1 := ⟨mj_inG 1239 (by decide +kernel) (by decide +kernel), mj_inG 57 (by decide +kernel) (by decide +kernel), by decide +kernel, by decide +kernel, by decide +kernel⟩
theorem li_X9_counted : Jvm.Cond.instanceMethod mX9_counted.1 ∈ mj_G ∧ Jvm.Cond.selects mX9_counted.1.cls mX9_counted.1 mX9_counted.1 ∈ mj_G := ⟨mj_inG 1238 (by decide +kernel) (by decide +kernel), mj_inG 46 (by decide +kernel) (by decide +kernel)⟩
theorem ll_J0_335 : mj_LL RJ0 335 mJ0_coder_7d493 := Or.inl (mj_inG 438 (by decide +kernel) (by decide +kernel))
theorem lb_J0_coder_7d493 : mj_LB mJ0_coder_7d493 0 := ⟨mj_inG 441 (by decide +kernel) (by decide +kernel), mj_inG 58 (by decide +kernel) (by decide +kernel), by decide +kernel, by decide +kernel, by decide +kernel⟩
theorem li_J0_coder_7d493 : Jvm.Cond.instanceMethod mJ0_coder_7d493.1 ∈ mj_G ∧ Jvm.Cond.selects mJ0_coder_7d493.1.cls mJ0_coder_7d493.1 mJ0_coder_7d493.1 ∈ mj_G := ⟨mj_inG 439 (by decide +kernel) (by decide +kernel), mj_inG 440 (by decide +kernel) (by decide +kernel)⟩
theorem ll_J0_492 : mj_LL RJ0 492 mJ0_isLatin1_aae02 := Or.inl (mj_inG 449 (by decide +kernel) (by decide +kernel))
theorem lb_J0_isLatin1_aae02 : mj_LB mJ0_isLatin1_aae02 0 := ⟨mj_inG 452 (by decide +kernel) (by decide +kernel), mj_inG 58 (by decide +kernel) (by decide +kernel), by decide +kernel, by decide +kernel, by decide +kernel⟩
theorem li_J0_isLatin1_aae02 : Jvm.Cond.instanceMethod mJ0_isLatin1_aae02.1 ∈ mj_G ∧ Jvm.Cond.selects mJ0_isLatin1_aae02.1.cls mJ0_isLatin1_aae02.1 mJ0_isLatin1_aae02.1 ∈ mj_G := ⟨mj_inG 450 (by decide +kernel) (by decide +kernel), mj_inG 451 (by decide +kernel) (by decide +kernel)⟩
theorem ll_J0_495 : mj_LL RJ0 495 mJ1_charAt_3b067 := Or.inl (mj_inG 453 (by decide +kernel) (by decide +kernel))
theorem lb_J1_charAt_3b067 : mj_LB mJ1_charAt_3b067 2 := ⟨mj_inG 455 (by decide +kernel) (by decide +kernel), mj_inG 59 (by decide +kernel) (by decide +kernel), by decide +kernel, by decide +kernel, by decide +kernel⟩
theorem li_J1_charAt_3b067 : Jvm.Cond.static mJ1_charAt_3b067.1 ∈ mj_G := mj_inG 454 (by decide +kernel) (by decide +kernel)
theorem ll_J1_9 : mj_LL RJ1 9 mJ0_checkIndex_df160 := Or.inl (mj_inG 456 (by decide +kernel) (by decide +kernel))
theorem lb_J0_checkIndex_df160 : mj_LB mJ0_checkIndex_df160 2 := ⟨mj_inG 458 (by decide +kernel) (by decide +kernel), mj_inG 58 (by decide +kernel) (by decide +kernel), by decide +kernel, by decide +kernel, by decide +kernel⟩
theorem li_J0_checkIndex_df160 : Jvm.Cond.static mJ0_checkIndex_df160.1 ∈ mj_G := mj_inG 457 (by decide +kernel) (by decide +kernel)
theorem ll_J0_1059 : mj_LL RJ0 1059 mJ3_checkIndex_8e157 := Or.inl (mj_inG 461 (by decide +kernel) (by decide +kernel))
theorem lb_J3_checkIndex_8e157 : mj_LB mJ3_checkIndex_8e157 3 := ⟨mj_inG 463 (by decide +kernel) (by decide +kernel), mj_inG 60 (by decide +kernel) (by decide +kernel), by decide +kernel, by decide +kernel, by decide +kernel⟩
theorem li_J3_checkIndex_8e157 : Jvm.Cond.static mJ3_checkIndex_8e157.1 ∈ mj_G := mj_inG 462 (by decide +kernel) (by decide +kernel)
theorem sf_J0_38 : Jvm.Cond.fieldLink RJ0 38 "java/lang/String" "COMPACT_STRINGS" "Z" ∈ mj_G := mj_inG 442 (by decide +kernel) (by decide +kernel)
theorem sf_J0_15 : Jvm.Cond.fieldLink RJ0 15 "java/lang/String" "coder" "B" ∈ mj_G := mj_inG 1246 (by decide +kernel) (by decide +kernel)
theorem sf_J0_9 : Jvm.Cond.fieldLink RJ0 9 "java/lang/String" "value" "[B" ∈ mj_G := mj_inG 1245 (by decide +kernel) (by decide +kernel)
theorem sf_J0_1053 : Jvm.Cond.fieldLink RJ0 1053 "jdk/internal/util/Preconditions" "SIOOBE_FORMATTER" "Ljava/util/function/BiFunction;" ∈ mj_G := mj_inG 459 (by decide +kernel) (by decide +kernel)
theorem pl_J0 : plainName RJ0 = true := by decide +kernel
theorem pl_J1 : plainName RJ1 = true := by decide +kernel
theorem pl_J3 : plainName RJ3 = true := by decide +kernel
theorem mj_KO_of {own : String} {kon : List (Nat × Value)} (h : ∀ q ∈ kon, (∃ x, q.2 = .int x ∧ Jvm.Cond.constant own q.1 x ∈ mj_G) ∨ ∃ x, q.2 = .long x ∧ Jvm.Cond.constantLong own q.1 x ∈ mj_G) : mj_KO own kon := fun i v hv => h (i, v) (mj_lk_mem kon i v hv)
def k_J0 : List (Nat × Value) := []
theorem k_J0_ok : mj_KO RJ0 k_J0 := fun i v h => by cases h
def k_J1 : List (Nat × Value) := []
theorem k_J1_ok : mj_KO RJ1 k_J1 := fun i v h => by cases h
def k_J2 : List (Nat × Value) := []
theorem k_J2_ok : mj_KO RJ2 k_J2 := fun i v h => by cases h
def k_J3 : List (Nat × Value) := []
theorem k_J3_ok : mj_KO RJ3 k_J3 := fun i v h => by cases h
def k_J6 : List (Nat × Value) := [(265, .int (1431655765 : Int32)), (266, .int (858993459 : Int32)), (267, .int (252645135 : Int32))]
theorem k_J6_ok : mj_KO RJ6 k_J6 := mj_KO_of (by
  intro q hq
  simp only [k_J6, List.mem_cons, List.not_mem_nil, or_false] at hq
  rcases hq with rfl | rfl | rfl
  · exact Or.inl ⟨_, rfl, mj_inG 673 (by decide +kernel) (by decide +kernel)⟩
  · exact Or.inl ⟨_, rfl, mj_inG 674 (by decide +kernel) (by decide +kernel)⟩
  · exact Or.inl ⟨_, rfl, mj_inG 675 (by decide +kernel) (by decide +kernel)⟩
)
def k_J9 : List (Nat × Value) := []
theorem k_J9_ok : mj_KO RJ9 k_J9 := fun i v h => by cases h
def k_L : List (Nat × Value) := []
theorem k_L_ok : mj_KO RL k_L := fun i v h => by cases h
def k_X0 : List (Nat × Value) := []
theorem k_X0_ok : mj_KO RX0 k_X0 := fun i v h => by cases h
def k_X1 : List (Nat × Value) := []
theorem k_X1_ok : mj_KO RX1 k_X1 := fun i v h => by cases h
def k_X2 : List (Nat × Value) := [(41, .long (-1 : Int64))]
theorem k_X2_ok : mj_KO RX2 k_X2 := mj_KO_of (by
  intro q hq
  simp only [k_X2, List.mem_cons, List.not_mem_nil, or_false] at hq
  rcases hq with rfl
  · exact Or.inr ⟨_, rfl, mj_inG 686 (by decide +kernel) (by decide +kernel)⟩
)
def k_X3 : List (Nat × Value) := []
theorem k_X3_ok : mj_KO RX3 k_X3 := fun i v h => by cases h
def k_X4 : List (Nat × Value) := []
theorem k_X4_ok : mj_KO RX4 k_X4 := fun i v h => by cases h
def k_X5 : List (Nat × Value) := [(48, .long (999999 : Int64)), (50, .long (2 : Int64)), (52, .long (12 : Int64)), (54, .long (60 : Int64))]
theorem k_X5_ok : mj_KO RX5 k_X5 := mj_KO_of (by
  intro q hq
  simp only [k_X5, List.mem_cons, List.not_mem_nil, or_false] at hq
  rcases hq with rfl | rfl | rfl | rfl
  · exact Or.inr ⟨_, rfl, mj_inG 578 (by decide +kernel) (by decide +kernel)⟩
  · exact Or.inr ⟨_, rfl, mj_inG 579 (by decide +kernel) (by decide +kernel)⟩
  · exact Or.inr ⟨_, rfl, mj_inG 598 (by decide +kernel) (by decide +kernel)⟩
  · exact Or.inr ⟨_, rfl, mj_inG 599 (by decide +kernel) (by decide +kernel)⟩
)
def k_X6 : List (Nat × Value) := []
theorem k_X6_ok : mj_KO RX6 k_X6 := fun i v h => by cases h
def k_X7 : List (Nat × Value) := []
theorem k_X7_ok : mj_KO RX7 k_X7 := fun i v h => by cases h
def k_X8 : List (Nat × Value) := [(196, .long (60 : Int64)), (218, .int (-100000000 : Int32)), (219, .int (-200000000 : Int32)), (274, .int (999999 : Int32)), (278, .long (1103515245 : Int64)), (280, .long (12345 : Int64)), (282, .long (2147483648 : Int64)), (284, .long (65536 : Int64)), (314, .long (971 : Int64)), (316, .long (31 : Int64))]
theorem k_X8_ok : mj_KO RX8 k_X8 := mj_KO_of (by
  intro q hq
  simp only [k_X8, List.mem_cons, List.not_mem_nil, or_false] at hq
  rcases hq with rfl | rfl | rfl | rfl | rfl | rfl | rfl | rfl | rfl | rfl
  · exact Or.inr ⟨_, rfl, mj_inG 676 (by decide +kernel) (by decide +kernel)⟩
  · exact Or.inl ⟨_, rfl, mj_inG 696 (by decide +kernel) (by decide +kernel)⟩
  · exact Or.inl ⟨_, rfl, mj_inG 697 (by decide +kernel) (by decide +kernel)⟩
  · exact Or.inl ⟨_, rfl, mj_inG 809 (by decide +kernel) (by decide +kernel)⟩
  · exact Or.inr ⟨_, rfl, mj_inG 810 (by decide +kernel) (by decide +kernel)⟩
  · exact Or.inr ⟨_, rfl, mj_inG 811 (by decide +kernel) (by decide +kernel)⟩
  · exact Or.inr ⟨_, rfl, mj_inG 812 (by decide +kernel) (by decide +kernel)⟩
  · exact Or.inr ⟨_, rfl, mj_inG 813 (by decide +kernel) (by decide +kernel)⟩
  · exact Or.inr ⟨_, rfl, mj_inG 855 (by decide +kernel) (by decide +kernel)⟩
  · exact Or.inr ⟨_, rfl, mj_inG 856 (by decide +kernel) (by decide +kernel)⟩
)
def k_X9 : List (Nat × Value) := [(57, .long (9 : Int64)), (67, .long (31 : Int64)), (73, .long (99 : Int64)), (96, .long (127 : Int64)), (108, .long (97 : Int64)), (110, .long (122 : Int64)), (112, .long (48 : Int64)), (114, .long (57 : Int64)), (125, .long (256 : Int64)), (127, .long (-1 : Int64)), (129, .long (120351215609202 : Int64)), (131, .long (7168366 : Int64)), (133, .long (2003792494 : Int64)), (135, .long (1885432178 : Int64)), (137, .long (2003792484 : Int64)), (155, .long (2 : Int64)), (161, .long (60 : Int64)), (167, .long (12 : Int64)), (180, .int (999999 : Int32)), (204, .long (5 : Int64)), (206, .long (3 : Int64)), (217, .long (6 : Int64)), (241, .int (-100000000 : Int32)), (242, .int (-200000000 : Int32)), (251, .long (120 : Int64)), (267, .long (30 : Int64)), (269, .long (999999 : Int64)), (271, .long (1103515245 : Int64)), (273, .long (12345 : Int64)), (275, .long (2147483648 : Int64)), (277, .long (65536 : Int64)), (282, .long (971 : Int64))]
theorem k_X9_ok : mj_KO RX9 k_X9 := mj_KO_of (by
  intro q hq
  simp only [k_X9, List.mem_cons, List.not_mem_nil, or_false] at hq
  rcases hq with rfl | rfl | rfl | rfl | rfl | rfl | rfl | rfl | rfl | rfl | rfl | rfl | rfl | rfl | rfl | rfl | rfl | rfl | rfl | rfl | rfl | rfl | rfl | rfl | rfl | rfl | rfl | rfl | rfl | rfl | rfl | rfl
  · exact Or.inr ⟨_, rfl, mj_inG 949 (by decide +kernel) (by decide +kernel)⟩
  · exact Or.inr ⟨_, rfl, mj_inG 969 (by decide +kernel) (by decide +kernel)⟩
  · exact Or.inr ⟨_, rfl, mj_inG 933 (by decide +kernel) (by decide +kernel)⟩
  · exact Or.inr ⟨_, rfl, mj_inG 993 (by decide +kernel) (by decide +kernel)⟩
  · exact Or.inr ⟨_, rfl, mj_inG 1010 (by decide +kernel) (by decide +kernel)⟩
  · exact Or.inr ⟨_, rfl, mj_inG 1011 (by decide +kernel) (by decide +kernel)⟩
  · exact Or.inr ⟨_, rfl, mj_inG 1012 (by decide +kernel) (by decide +kernel)⟩
  · exact Or.inr ⟨_, rfl, mj_inG 1013 (by decide +kernel) (by decide +kernel)⟩
  · exact Or.inr ⟨_, rfl, mj_inG 1014 (by decide +kernel) (by decide +kernel)⟩
  · exact Or.inr ⟨_, rfl, mj_inG 1015 (by decide +kernel) (by decide +kernel)⟩
  · exact Or.inr ⟨_, rfl, mj_inG 1019 (by decide +kernel) (by decide +kernel)⟩
  · exact Or.inr ⟨_, rfl, mj_inG 1020 (by decide +kernel) (by decide +kernel)⟩
  · exact Or.inr ⟨_, rfl, mj_inG 1021 (by decide +kernel) (by decide +kernel)⟩
  · exact Or.inr ⟨_, rfl, mj_inG 1022 (by decide +kernel) (by decide +kernel)⟩
  · exact Or.inr ⟨_, rfl, mj_inG 1023 (by decide +kernel) (by decide +kernel)⟩
  · exact Or.inr ⟨_, rfl, mj_inG 1035 (by decide +kernel) (by decide +kernel)⟩
  · exact Or.inr ⟨_, rfl, mj_inG 1066 (by decide +kernel) (by decide +kernel)⟩
  · exact Or.inr ⟨_, rfl, mj_inG 1070 (by decide +kernel) (by decide +kernel)⟩
  · exact Or.inl ⟨_, rfl, mj_inG 1059 (by decide +kernel) (by decide +kernel)⟩
  · exact Or.inr ⟨_, rfl, mj_inG 1082 (by decide +kernel) (by decide +kernel)⟩
  · exact Or.inr ⟨_, rfl, mj_inG 1087 (by decide +kernel) (by decide +kernel)⟩
  · exact Or.inr ⟨_, rfl, mj_inG 1112 (by decide +kernel) (by decide +kernel)⟩
  · exact Or.inl ⟨_, rfl, mj_inG 1136 (by decide +kernel) (by decide +kernel)⟩
  · exact Or.inl ⟨_, rfl, mj_inG 1137 (by decide +kernel) (by decide +kernel)⟩
  · exact Or.inr ⟨_, rfl, mj_inG 1170 (by decide +kernel) (by decide +kernel)⟩
  · exact Or.inr ⟨_, rfl, mj_inG 1210 (by decide +kernel) (by decide +kernel)⟩
  · exact Or.inr ⟨_, rfl, mj_inG 1211 (by decide +kernel) (by decide +kernel)⟩
  · exact Or.inr ⟨_, rfl, mj_inG 1212 (by decide +kernel) (by decide +kernel)⟩
  · exact Or.inr ⟨_, rfl, mj_inG 1213 (by decide +kernel) (by decide +kernel)⟩
  · exact Or.inr ⟨_, rfl, mj_inG 1214 (by decide +kernel) (by decide +kernel)⟩
  · exact Or.inr ⟨_, rfl, mj_inG 1215 (by decide +kernel) (by decide +kernel)⟩
  · exact Or.inr ⟨_, rfl, mj_inG 1244 (by decide +kernel) (by decide +kernel)⟩
)
