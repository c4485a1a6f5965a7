/-! the law: printed by wip/whole/gen.py, behind this head -/
def mj_Zx (L : Nat) (xs : Nat → Int32) (s : State) (A : Nat → Prop) (ad : Nat → Nat) : Prop := va_X (ad 2000) L xs s s.heap ∧ ad 2000 < s.heap.size ∧ ¬ A (ad 2000)
def mj_FX (L : Nat) (xs : Nat → Int32) (p : Int32 × mj_H) : mj_F := (fun a b => a = some (.int p.1) ∧ b = p.2, mj_Zx L xs)
def mj_xl (L : Nat) (xs : Nat → Int32) (j : Int32) : Option Int32 := if mj_ok j L = true then some (xs j.toNatClampNeg) else none
theorem mj_xld {L : Nat} {xs : Nat → Int32} {q : Int32 × mj_H} {M : mj_M} {pc : Nat} {l : List (Nat × Value)} {st : List Value} {h : mj_H} {k n : Nat} {j x : Int32} (a : Nat) (ha : M.2.2.2.2.2[a]? = some (pc, .iaload, 1)) (hv : mj_xl L xs j = some x) (kk : mj_W M (mj_FX L xs q) (pc + 1) l (.int x :: st) h k n) : mj_W M (mj_FX L xs q) pc l (.int j :: .ref 2000 :: st) h k n := by
  intro p lc e s m args below meth c H locs ls A Q dC dI cy ad ad0 n0 CX I hl hcl hcs hag hn hzz hret
  have CX' := CX
  have I' := I
  obtain ⟨hx, hb, hml, hr, hown, hts, hlk, hnm, hN, hT⟩ := CX
  obtain ⟨hK, hA, hR, hP, hD, hS, hch⟩ := I
  have hzz' := hzz
  obtain ⟨z1, z2, z3⟩ := hzz
  unfold mj_xl at hv
  obtain ⟨hok, hv⟩ := mj_gp hv
  cases hv
  have e2 : ad 2000 = ad0 2000 := hag 2000 (Or.inr (by decide))
  rw [← e2] at z1 z2 z3
  exact va_sld hx hb z1 z2 z3 hS (mj_ok_in hok) (mj_dec hT ha) (kk p lc e s m args below meth c H locs ls A Q dC dI cy ad ad0 n0 CX' I' hl hcl (mj_cs trivial (mj_tl (mj_tl hcs))) hag hn hzz' hret)
theorem mj_xlen {L : Nat} {xs : Nat → Int32} {q : Int32 × mj_H} {M : mj_M} {pc : Nat} {l : List (Nat × Value)} {st : List Value} {h : mj_H} {k n : Nat} (a : Nat) (ha : M.2.2.2.2.2[a]? = some (pc, .arraylength, 1)) (kk : mj_W M (mj_FX L xs q) (pc + 1) l (.int (Int32.ofNat L) :: st) h k n) : mj_W M (mj_FX L xs q) pc l (.ref 2000 :: st) h k n := by
  intro p lc e s m args below meth c H locs ls A Q dC dI cy ad ad0 n0 CX I hl hcl hcs hag hn hzz hret
  have CX' := CX
  have I' := I
  obtain ⟨hx, hb, hml, hr, hown, hts, hlk, hnm, hN, hT⟩ := CX
  obtain ⟨hK, hA, hR, hP, hD, hS, hch⟩ := I
  have hzz' := hzz
  obtain ⟨z1, z2, z3⟩ := hzz
  have e2 : ad 2000 = ad0 2000 := hag 2000 (Or.inr (by decide))
  rw [← e2] at z1 z2 z3
  exact va_slen hx hb z1 z2 z3 hS (mj_dec hT ha) (kk p lc e s m args below meth c H locs ls A Q dC dI cy ad ad0 n0 CX' I' hl hcl (mj_cs trivial (mj_tl hcs)) hag hn hzz' hret)
theorem ll_L_117 : mj_LL RL 117 mX9_looks := Or.inl (mj_inG 1179 (by decide +kernel) (by decide +kernel))
theorem lb_X9_looks : mj_LB mX9_looks 3 := ⟨mj_inG 1182 (by decide +kernel) (by decide +kernel), mj_inG 57 (by decide +kernel) (by decide +kernel), by decide +kernel, by decide +kernel, by decide +kernel⟩
theorem li_X9_looks : Jvm.Cond.instanceMethod mX9_looks.1 ∈ mj_G ∧ Jvm.Cond.selects mX9_looks.1.cls mX9_looks.1 mX9_looks.1 ∈ mj_G := ⟨mj_inG 1180 (by decide +kernel) (by decide +kernel), mj_inG 1181 (by decide +kernel) (by decide +kernel)⟩
theorem ll_L_113 : mj_LL RL 113 mX8_looks := Or.inl (mj_inG 773 (by decide +kernel) (by decide +kernel))
theorem lb_X8_looks : mj_LB mX8_looks 3 := ⟨mj_inG 776 (by decide +kernel) (by decide +kernel), mj_inG 48 (by decide +kernel) (by decide +kernel), by decide +kernel, by decide +kernel, by decide +kernel⟩
theorem li_X8_looks : Jvm.Cond.instanceMethod mX8_looks.1 ∈ mj_G ∧ Jvm.Cond.selects mX8_looks.1.cls mX8_looks.1 mX8_looks.1 ∈ mj_G := ⟨mj_inG 774 (by decide +kernel) (by decide +kernel), mj_inG 775 (by decide +kernel) (by decide +kernel)⟩
theorem ll_L_66 : mj_LL RL 66 mX9_cases := Or.inl (mj_inG 1083 (by decide +kernel) (by decide +kernel))
theorem lb_X9_cases : mj_LB mX9_cases 3 := ⟨mj_inG 1086 (by decide +kernel) (by decide +kernel), mj_inG 57 (by decide +kernel) (by decide +kernel), by decide +kernel, by decide +kernel, by decide +kernel⟩
theorem li_X9_cases : Jvm.Cond.instanceMethod mX9_cases.1 ∈ mj_G ∧ Jvm.Cond.selects mX9_cases.1.cls mX9_cases.1 mX9_cases.1 ∈ mj_G := ⟨mj_inG 1084 (by decide +kernel) (by decide +kernel), mj_inG 1085 (by decide +kernel) (by decide +kernel)⟩
theorem ll_L_63 : mj_LL RL 63 mX8_cases := Or.inl (mj_inG 613 (by decide +kernel) (by decide +kernel))
theorem lb_X8_cases : mj_LB mX8_cases 3 := ⟨mj_inG 616 (by decide +kernel) (by decide +kernel), mj_inG 48 (by decide +kernel) (by decide +kernel), by decide +kernel, by decide +kernel, by decide +kernel⟩
theorem li_X8_cases : Jvm.Cond.instanceMethod mX8_cases.1 ∈ mj_G ∧ Jvm.Cond.selects mX8_cases.1.cls mX8_cases.1 mX8_cases.1 ∈ mj_G := ⟨mj_inG 614 (by decide +kernel) (by decide +kernel), mj_inG 615 (by decide +kernel) (by decide +kernel)⟩
theorem ll_L_53 : mj_LL RL 53 mX9_test := Or.inl (mj_inG 1028 (by decide +kernel) (by decide +kernel))
theorem lb_X9_test : mj_LB mX9_test 3 := ⟨mj_inG 1031 (by decide +kernel) (by decide +kernel), mj_inG 57 (by decide +kernel) (by decide +kernel), by decide +kernel, by decide +kernel, by decide +kernel⟩
theorem li_X9_test : Jvm.Cond.instanceMethod mX9_test.1 ∈ mj_G ∧ Jvm.Cond.selects mX9_test.1.cls mX9_test.1 mX9_test.1 ∈ mj_G := ⟨mj_inG 1029 (by decide +kernel) (by decide +kernel), mj_inG 1030 (by decide +kernel) (by decide +kernel)⟩
theorem ll_L_49 : mj_LL RL 49 mX8_test := Or.inl (mj_inG 517 (by decide +kernel) (by decide +kernel))
theorem lb_X8_test : mj_LB mX8_test 3 := ⟨mj_inG 520 (by decide +kernel) (by decide +kernel), mj_inG 48 (by decide +kernel) (by decide +kernel), by decide +kernel, by decide +kernel, by decide +kernel⟩
theorem li_X8_test : Jvm.Cond.instanceMethod mX8_test.1 ∈ mj_G ∧ Jvm.Cond.selects mX8_test.1.cls mX8_test.1 mX8_test.1 ∈ mj_G := ⟨mj_inG 518 (by decide +kernel) (by decide +kernel), mj_inG 519 (by decide +kernel) (by decide +kernel)⟩
theorem ll_L_13 : mj_LL RL 13 mX8_muster := Or.inl (mj_inG 300 (by decide +kernel) (by decide +kernel))
theorem lb_X8_muster : mj_LB mX8_muster 1 := ⟨mj_inG 303 (by decide +kernel) (by decide +kernel), mj_inG 48 (by decide +kernel) (by decide +kernel), by decide +kernel, by decide +kernel, by decide +kernel⟩
theorem li_X8_muster : Jvm.Cond.instanceMethod mX8_muster.1 ∈ mj_G ∧ Jvm.Cond.selects mX8_muster.1.cls mX8_muster.1 mX8_muster.1 ∈ mj_G := ⟨mj_inG 301 (by decide +kernel) (by decide +kernel), mj_inG 302 (by decide +kernel) (by decide +kernel)⟩
theorem ll_L_17 : mj_LL RL 17 mX9_muster := Or.inl (mj_inG 929 (by decide +kernel) (by decide +kernel))
theorem lb_X9_muster : mj_LB mX9_muster 1 := ⟨mj_inG 932 (by decide +kernel) (by decide +kernel), mj_inG 57 (by decide +kernel) (by decide +kernel), by decide +kernel, by decide +kernel, by decide +kernel⟩
theorem li_X9_muster : Jvm.Cond.instanceMethod mX9_muster.1 ∈ mj_G ∧ Jvm.Cond.selects mX9_muster.1.cls mX9_muster.1 mX9_muster.1 ∈ mj_G := ⟨mj_inG 930 (by decide +kernel) (by decide +kernel), mj_inG 931 (by decide +kernel) (by decide +kernel)⟩
theorem ll_L_18 : mj_LL RL 18 mX8_man := Or.inl (mj_inG 324 (by decide +kernel) (by decide +kernel))
theorem lb_X8_man : mj_LB mX8_man 6 := ⟨mj_inG 327 (by decide +kernel) (by decide +kernel), mj_inG 48 (by decide +kernel) (by decide +kernel), by decide +kernel, by decide +kernel, by decide +kernel⟩
theorem li_X8_man : Jvm.Cond.instanceMethod mX8_man.1 ∈ mj_G ∧ Jvm.Cond.selects mX8_man.1.cls mX8_man.1 mX8_man.1 ∈ mj_G := ⟨mj_inG 325 (by decide +kernel) (by decide +kernel), mj_inG 326 (by decide +kernel) (by decide +kernel)⟩
theorem ll_L_22 : mj_LL RL 22 mX9_man := Or.inl (mj_inG 941 (by decide +kernel) (by decide +kernel))
theorem lb_X9_man : mj_LB mX9_man 6 := ⟨mj_inG 944 (by decide +kernel) (by decide +kernel), mj_inG 57 (by decide +kernel) (by decide +kernel), by decide +kernel, by decide +kernel, by decide +kernel⟩
theorem li_X9_man : Jvm.Cond.instanceMethod mX9_man.1 ∈ mj_G ∧ Jvm.Cond.selects mX9_man.1.cls mX9_man.1 mX9_man.1 ∈ mj_G := ⟨mj_inG 942 (by decide +kernel) (by decide +kernel), mj_inG 943 (by decide +kernel) (by decide +kernel)⟩
theorem ll_L_23 : mj_LL RL 23 mX8_worn := Or.inl (mj_inG 339 (by decide +kernel) (by decide +kernel))
theorem lb_X8_worn : mj_LB mX8_worn 2 := ⟨mj_inG 342 (by decide +kernel) (by decide +kernel), mj_inG 48 (by decide +kernel) (by decide +kernel), by decide +kernel, by decide +kernel, by decide +kernel⟩
theorem li_X8_worn : Jvm.Cond.instanceMethod mX8_worn.1 ∈ mj_G ∧ Jvm.Cond.selects mX8_worn.1.cls mX8_worn.1 mX8_worn.1 ∈ mj_G := ⟨mj_inG 340 (by decide +kernel) (by decide +kernel), mj_inG 341 (by decide +kernel) (by decide +kernel)⟩
theorem ll_L_27 : mj_LL RL 27 mX9_worn := Or.inl (mj_inG 957 (by decide +kernel) (by decide +kernel))
theorem lb_X9_worn : mj_LB mX9_worn 2 := ⟨mj_inG 960 (by decide +kernel) (by decide +kernel), mj_inG 57 (by decide +kernel) (by decide +kernel), by decide +kernel, by decide +kernel, by decide +kernel⟩
theorem li_X9_worn : Jvm.Cond.instanceMethod mX9_worn.1 ∈ mj_G ∧ Jvm.Cond.selects mX9_worn.1.cls mX9_worn.1 mX9_worn.1 ∈ mj_G := ⟨mj_inG 958 (by decide +kernel) (by decide +kernel), mj_inG 959 (by decide +kernel) (by decide +kernel)⟩
theorem ll_L_28 : mj_LL RL 28 mX8_pair := Or.inl (mj_inG 351 (by decide +kernel) (by decide +kernel))
theorem lb_X8_pair : mj_LB mX8_pair 2 := ⟨mj_inG 354 (by decide +kernel) (by decide +kernel), mj_inG 48 (by decide +kernel) (by decide +kernel), by decide +kernel, by decide +kernel, by decide +kernel⟩
theorem li_X8_pair : Jvm.Cond.instanceMethod mX8_pair.1 ∈ mj_G ∧ Jvm.Cond.selects mX8_pair.1.cls mX8_pair.1 mX8_pair.1 ∈ mj_G := ⟨mj_inG 352 (by decide +kernel) (by decide +kernel), mj_inG 353 (by decide +kernel) (by decide +kernel)⟩
theorem ll_L_31 : mj_LL RL 31 mX9_pair := Or.inl (mj_inG 970 (by decide +kernel) (by decide +kernel))
theorem lb_X9_pair : mj_LB mX9_pair 2 := ⟨mj_inG 973 (by decide +kernel) (by decide +kernel), mj_inG 57 (by decide +kernel) (by decide +kernel), by decide +kernel, by decide +kernel, by decide +kernel⟩
theorem li_X9_pair : Jvm.Cond.instanceMethod mX9_pair.1 ∈ mj_G ∧ Jvm.Cond.selects mX9_pair.1.cls mX9_pair.1 mX9_pair.1 ∈ mj_G := ⟨mj_inG 971 (by decide +kernel) (by decide +kernel), mj_inG 972 (by decide +kernel) (by decide +kernel)⟩
theorem ll_L_32 : mj_LL RL 32 mX8_word := Or.inl (mj_inG 370 (by decide +kernel) (by decide +kernel))
theorem lb_X8_word : mj_LB mX8_word 1 := ⟨mj_inG 373 (by decide +kernel) (by decide +kernel), mj_inG 48 (by decide +kernel) (by decide +kernel), by decide +kernel, by decide +kernel, by decide +kernel⟩
theorem li_X8_word : Jvm.Cond.instanceMethod mX8_word.1 ∈ mj_G ∧ Jvm.Cond.selects mX8_word.1.cls mX8_word.1 mX8_word.1 ∈ mj_G := ⟨mj_inG 371 (by decide +kernel) (by decide +kernel), mj_inG 372 (by decide +kernel) (by decide +kernel)⟩
theorem ll_L_35 : mj_LL RL 35 mX9_word := Or.inl (mj_inG 981 (by decide +kernel) (by decide +kernel))
theorem lb_X9_word : mj_LB mX9_word 1 := ⟨mj_inG 984 (by decide +kernel) (by decide +kernel), mj_inG 57 (by decide +kernel) (by decide +kernel), by decide +kernel, by decide +kernel, by decide +kernel⟩
theorem li_X9_word : Jvm.Cond.instanceMethod mX9_word.1 ∈ mj_G ∧ Jvm.Cond.selects mX9_word.1.cls mX9_word.1 mX9_word.1 ∈ mj_G := ⟨mj_inG 982 (by decide +kernel) (by decide +kernel), mj_inG 983 (by decide +kernel) (by decide +kernel)⟩
theorem ll_L_36 : mj_LL RL 36 mX8_type := Or.inl (mj_inG 382 (by decide +kernel) (by decide +kernel))
theorem lb_X8_type : mj_LB mX8_type 1 := ⟨mj_inG 385 (by decide +kernel) (by decide +kernel), mj_inG 48 (by decide +kernel) (by decide +kernel), by decide +kernel, by decide +kernel, by decide +kernel⟩
theorem li_X8_type : Jvm.Cond.instanceMethod mX8_type.1 ∈ mj_G ∧ Jvm.Cond.selects mX8_type.1.cls mX8_type.1 mX8_type.1 ∈ mj_G := ⟨mj_inG 383 (by decide +kernel) (by decide +kernel), mj_inG 384 (by decide +kernel) (by decide +kernel)⟩
theorem ll_L_39 : mj_LL RL 39 mX9_type := Or.inl (mj_inG 989 (by decide +kernel) (by decide +kernel))
theorem lb_X9_type : mj_LB mX9_type 1 := ⟨mj_inG 992 (by decide +kernel) (by decide +kernel), mj_inG 57 (by decide +kernel) (by decide +kernel), by decide +kernel, by decide +kernel, by decide +kernel⟩
theorem li_X9_type : Jvm.Cond.instanceMethod mX9_type.1 ∈ mj_G ∧ Jvm.Cond.selects mX9_type.1.cls mX9_type.1 mX9_type.1 ∈ mj_G := ⟨mj_inG 990 (by decide +kernel) (by decide +kernel), mj_inG 991 (by decide +kernel) (by decide +kernel)⟩
theorem ll_L_40 : mj_LL RL 40 mX8_clear := Or.inl (mj_inG 390 (by decide +kernel) (by decide +kernel))
theorem lb_X8_clear : mj_LB mX8_clear 0 := ⟨mj_inG 393 (by decide +kernel) (by decide +kernel), mj_inG 48 (by decide +kernel) (by decide +kernel), by decide +kernel, by decide +kernel, by decide +kernel⟩
theorem li_X8_clear : Jvm.Cond.instanceMethod mX8_clear.1 ∈ mj_G ∧ Jvm.Cond.selects mX8_clear.1.cls mX8_clear.1 mX8_clear.1 ∈ mj_G := ⟨mj_inG 391 (by decide +kernel) (by decide +kernel), mj_inG 392 (by decide +kernel) (by decide +kernel)⟩
theorem ll_L_44 : mj_LL RL 44 mX9_clear := Or.inl (mj_inG 994 (by decide +kernel) (by decide +kernel))
theorem lb_X9_clear : mj_LB mX9_clear 0 := ⟨mj_inG 997 (by decide +kernel) (by decide +kernel), mj_inG 57 (by decide +kernel) (by decide +kernel), by decide +kernel, by decide +kernel, by decide +kernel⟩
theorem li_X9_clear : Jvm.Cond.instanceMethod mX9_clear.1 ∈ mj_G ∧ Jvm.Cond.selects mX9_clear.1.cls mX9_clear.1 mX9_clear.1 ∈ mj_G := ⟨mj_inG 995 (by decide +kernel) (by decide +kernel), mj_inG 996 (by decide +kernel) (by decide +kernel)⟩
theorem ll_L_45 : mj_LL RL 45 mX8_read := Or.inl (mj_inG 398 (by decide +kernel) (by decide +kernel))
theorem lb_X8_read : mj_LB mX8_read 0 := ⟨mj_inG 401 (by decide +kernel) (by decide +kernel), mj_inG 48 (by decide +kernel) (by decide +kernel), by decide +kernel, by decide +kernel, by decide +kernel⟩
theorem li_X8_read : Jvm.Cond.instanceMethod mX8_read.1 ∈ mj_G ∧ Jvm.Cond.selects mX8_read.1.cls mX8_read.1 mX8_read.1 ∈ mj_G := ⟨mj_inG 399 (by decide +kernel) (by decide +kernel), mj_inG 400 (by decide +kernel) (by decide +kernel)⟩
theorem ll_L_48 : mj_LL RL 48 mX9_read := Or.inl (mj_inG 998 (by decide +kernel) (by decide +kernel))
theorem lb_X9_read : mj_LB mX9_read 0 := ⟨mj_inG 1001 (by decide +kernel) (by decide +kernel), mj_inG 57 (by decide +kernel) (by decide +kernel), by decide +kernel, by decide +kernel, by decide +kernel⟩
theorem li_X9_read : Jvm.Cond.instanceMethod mX9_read.1 ∈ mj_G ∧ Jvm.Cond.selects mX9_read.1.cls mX9_read.1 mX9_read.1 ∈ mj_G := ⟨mj_inG 999 (by decide +kernel) (by decide +kernel), mj_inG 1000 (by decide +kernel) (by decide +kernel)⟩
theorem ll_L_54 : mj_LL RL 54 mX8_undo := Or.inl (mj_inG 600 (by decide +kernel) (by decide +kernel))
theorem lb_X8_undo : mj_LB mX8_undo 0 := ⟨mj_inG 603 (by decide +kernel) (by decide +kernel), mj_inG 48 (by decide +kernel) (by decide +kernel), by decide +kernel, by decide +kernel, by decide +kernel⟩
theorem li_X8_undo : Jvm.Cond.instanceMethod mX8_undo.1 ∈ mj_G ∧ Jvm.Cond.selects mX8_undo.1.cls mX8_undo.1 mX8_undo.1 ∈ mj_G := ⟨mj_inG 601 (by decide +kernel) (by decide +kernel), mj_inG 602 (by decide +kernel) (by decide +kernel)⟩
theorem ll_L_57 : mj_LL RL 57 mX9_undo := Or.inl (mj_inG 1074 (by decide +kernel) (by decide +kernel))
theorem lb_X9_undo : mj_LB mX9_undo 0 := ⟨mj_inG 1077 (by decide +kernel) (by decide +kernel), mj_inG 57 (by decide +kernel) (by decide +kernel), by decide +kernel, by decide +kernel, by decide +kernel⟩
theorem li_X9_undo : Jvm.Cond.instanceMethod mX9_undo.1 ∈ mj_G ∧ Jvm.Cond.selects mX9_undo.1.cls mX9_undo.1 mX9_undo.1 ∈ mj_G := ⟨mj_inG 1075 (by decide +kernel) (by decide +kernel), mj_inG 1076 (by decide +kernel) (by decide +kernel)⟩
theorem ll_L_58 : mj_LL RL 58 mX8_weight := Or.inl (mj_inG 608 (by decide +kernel) (by decide +kernel))
theorem lb_X8_weight : mj_LB mX8_weight 2 := ⟨mj_inG 611 (by decide +kernel) (by decide +kernel), mj_inG 48 (by decide +kernel) (by decide +kernel), by decide +kernel, by decide +kernel, by decide +kernel⟩
theorem li_X8_weight : Jvm.Cond.instanceMethod mX8_weight.1 ∈ mj_G ∧ Jvm.Cond.selects mX8_weight.1.cls mX8_weight.1 mX8_weight.1 ∈ mj_G := ⟨mj_inG 609 (by decide +kernel) (by decide +kernel), mj_inG 610 (by decide +kernel) (by decide +kernel)⟩
theorem ll_L_62 : mj_LL RL 62 mX9_weight := Or.inl (mj_inG 1078 (by decide +kernel) (by decide +kernel))
theorem lb_X9_weight : mj_LB mX9_weight 2 := ⟨mj_inG 1081 (by decide +kernel) (by decide +kernel), mj_inG 57 (by decide +kernel) (by decide +kernel), by decide +kernel, by decide +kernel, by decide +kernel⟩
theorem li_X9_weight : Jvm.Cond.instanceMethod mX9_weight.1 ∈ mj_G ∧ Jvm.Cond.selects mX9_weight.1.cls mX9_weight.1 mX9_weight.1 ∈ mj_G := ⟨mj_inG 1079 (by decide +kernel) (by decide +kernel), mj_inG 1080 (by decide +kernel) (by decide +kernel)⟩
theorem ll_L_67 : mj_LL RL 67 mX8_trust := Or.inl (mj_inG 618 (by decide +kernel) (by decide +kernel))
theorem lb_X8_trust : mj_LB mX8_trust 1 := ⟨mj_inG 621 (by decide +kernel) (by decide +kernel), mj_inG 48 (by decide +kernel) (by decide +kernel), by decide +kernel, by decide +kernel, by decide +kernel⟩
theorem li_X8_trust : Jvm.Cond.instanceMethod mX8_trust.1 ∈ mj_G ∧ Jvm.Cond.selects mX8_trust.1.cls mX8_trust.1 mX8_trust.1 ∈ mj_G := ⟨mj_inG 619 (by decide +kernel) (by decide +kernel), mj_inG 620 (by decide +kernel) (by decide +kernel)⟩
theorem ll_L_70 : mj_LL RL 70 mX9_trust := Or.inl (mj_inG 1088 (by decide +kernel) (by decide +kernel))
theorem lb_X9_trust : mj_LB mX9_trust 1 := ⟨mj_inG 1091 (by decide +kernel) (by decide +kernel), mj_inG 57 (by decide +kernel) (by decide +kernel), by decide +kernel, by decide +kernel, by decide +kernel⟩
theorem li_X9_trust : Jvm.Cond.instanceMethod mX9_trust.1 ∈ mj_G ∧ Jvm.Cond.selects mX9_trust.1.cls mX9_trust.1 mX9_trust.1 ∈ mj_G := ⟨mj_inG 1089 (by decide +kernel) (by decide +kernel), mj_inG 1090 (by decide +kernel) (by decide +kernel)⟩
theorem ll_L_71 : mj_LL RL 71 mX8_shows := Or.inl (mj_inG 622 (by decide +kernel) (by decide +kernel))
theorem lb_X8_shows : mj_LB mX8_shows 2 := ⟨mj_inG 625 (by decide +kernel) (by decide +kernel), mj_inG 48 (by decide +kernel) (by decide +kernel), by decide +kernel, by decide +kernel, by decide +kernel⟩
theorem li_X8_shows : Jvm.Cond.instanceMethod mX8_shows.1 ∈ mj_G ∧ Jvm.Cond.selects mX8_shows.1.cls mX8_shows.1 mX8_shows.1 ∈ mj_G := ⟨mj_inG 623 (by decide +kernel) (by decide +kernel), mj_inG 624 (by decide +kernel) (by decide +kernel)⟩
theorem ll_L_74 : mj_LL RL 74 mX9_shows := Or.inl (mj_inG 1092 (by decide +kernel) (by decide +kernel))
theorem lb_X9_shows : mj_LB mX9_shows 2 := ⟨mj_inG 1095 (by decide +kernel) (by decide +kernel), mj_inG 57 (by decide +kernel) (by decide +kernel), by decide +kernel, by decide +kernel, by decide +kernel⟩
theorem li_X9_shows : Jvm.Cond.instanceMethod mX9_shows.1 ∈ mj_G ∧ Jvm.Cond.selects mX9_shows.1.cls mX9_shows.1 mX9_shows.1 ∈ mj_G := ⟨mj_inG 1093 (by decide +kernel) (by decide +kernel), mj_inG 1094 (by decide +kernel) (by decide +kernel)⟩
theorem ll_L_75 : mj_LL RL 75 mX8_of := Or.inl (mj_inG 630 (by decide +kernel) (by decide +kernel))
theorem lb_X8_of : mj_LB mX8_of 2 := ⟨mj_inG 633 (by decide +kernel) (by decide +kernel), mj_inG 48 (by decide +kernel) (by decide +kernel), by decide +kernel, by decide +kernel, by decide +kernel⟩
theorem li_X8_of : Jvm.Cond.instanceMethod mX8_of.1 ∈ mj_G ∧ Jvm.Cond.selects mX8_of.1.cls mX8_of.1 mX8_of.1 ∈ mj_G := ⟨mj_inG 631 (by decide +kernel) (by decide +kernel), mj_inG 632 (by decide +kernel) (by decide +kernel)⟩
theorem ll_L_78 : mj_LL RL 78 mX9_of := Or.inl (mj_inG 1100 (by decide +kernel) (by decide +kernel))
theorem lb_X9_of : mj_LB mX9_of 2 := ⟨mj_inG 1103 (by decide +kernel) (by decide +kernel), mj_inG 57 (by decide +kernel) (by decide +kernel), by decide +kernel, by decide +kernel, by decide +kernel⟩
theorem li_X9_of : Jvm.Cond.instanceMethod mX9_of.1 ∈ mj_G ∧ Jvm.Cond.selects mX9_of.1.cls mX9_of.1 mX9_of.1 ∈ mj_G := ⟨mj_inG 1101 (by decide +kernel) (by decide +kernel), mj_inG 1102 (by decide +kernel) (by decide +kernel)⟩
theorem ll_L_79 : mj_LL RL 79 mX8_hold := Or.inl (mj_inG 645 (by decide +kernel) (by decide +kernel))
theorem lb_X8_hold : mj_LB mX8_hold 2 := ⟨mj_inG 648 (by decide +kernel) (by decide +kernel), mj_inG 48 (by decide +kernel) (by decide +kernel), by decide +kernel, by decide +kernel, by decide +kernel⟩
theorem li_X8_hold : Jvm.Cond.instanceMethod mX8_hold.1 ∈ mj_G ∧ Jvm.Cond.selects mX8_hold.1.cls mX8_hold.1 mX8_hold.1 ∈ mj_G := ⟨mj_inG 646 (by decide +kernel) (by decide +kernel), mj_inG 647 (by decide +kernel) (by decide +kernel)⟩
theorem ll_L_82 : mj_LL RL 82 mX9_hold := Or.inl (mj_inG 1104 (by decide +kernel) (by decide +kernel))
theorem lb_X9_hold : mj_LB mX9_hold 2 := ⟨mj_inG 1107 (by decide +kernel) (by decide +kernel), mj_inG 57 (by decide +kernel) (by decide +kernel), by decide +kernel, by decide +kernel, by decide +kernel⟩
theorem li_X9_hold : Jvm.Cond.instanceMethod mX9_hold.1 ∈ mj_G ∧ Jvm.Cond.selects mX9_hold.1.cls mX9_hold.1 mX9_hold.1 ∈ mj_G := ⟨mj_inG 1105 (by decide +kernel) (by decide +kernel), mj_inG 1106 (by decide +kernel) (by decide +kernel)⟩
theorem ll_L_83 : mj_LL RL 83 mX8_keep := Or.inl (mj_inG 678 (by decide +kernel) (by decide +kernel))
theorem lb_X8_keep : mj_LB mX8_keep 2 := ⟨mj_inG 681 (by decide +kernel) (by decide +kernel), mj_inG 48 (by decide +kernel) (by decide +kernel), by decide +kernel, by decide +kernel, by decide +kernel⟩
theorem li_X8_keep : Jvm.Cond.instanceMethod mX8_keep.1 ∈ mj_G ∧ Jvm.Cond.selects mX8_keep.1.cls mX8_keep.1 mX8_keep.1 ∈ mj_G := ⟨mj_inG 679 (by decide +kernel) (by decide +kernel), mj_inG 680 (by decide +kernel) (by decide +kernel)⟩
theorem ll_L_86 : mj_LL RL 86 mX9_keep := Or.inl (mj_inG 1124 (by decide +kernel) (by decide +kernel))
theorem lb_X9_keep : mj_LB mX9_keep 2 := ⟨mj_inG 1127 (by decide +kernel) (by decide +kernel), mj_inG 57 (by decide +kernel) (by decide +kernel), by decide +kernel, by decide +kernel, by decide +kernel⟩
theorem li_X9_keep : Jvm.Cond.instanceMethod mX9_keep.1 ∈ mj_G ∧ Jvm.Cond.selects mX9_keep.1.cls mX9_keep.1 mX9_keep.1 ∈ mj_G := ⟨mj_inG 1125 (by decide +kernel) (by decide +kernel), mj_inG 1126 (by decide +kernel) (by decide +kernel)⟩
theorem ll_L_87 : mj_LL RL 87 mX8_worth := Or.inl (mj_inG 689 (by decide +kernel) (by decide +kernel))
theorem lb_X8_worth : mj_LB mX8_worth 4 := ⟨mj_inG 692 (by decide +kernel) (by decide +kernel), mj_inG 48 (by decide +kernel) (by decide +kernel), by decide +kernel, by decide +kernel, by decide +kernel⟩
theorem li_X8_worth : Jvm.Cond.instanceMethod mX8_worth.1 ∈ mj_G ∧ Jvm.Cond.selects mX8_worth.1.cls mX8_worth.1 mX8_worth.1 ∈ mj_G := ⟨mj_inG 690 (by decide +kernel) (by decide +kernel), mj_inG 691 (by decide +kernel) (by decide +kernel)⟩
theorem ll_L_91 : mj_LL RL 91 mX9_worth := Or.inl (mj_inG 1132 (by decide +kernel) (by decide +kernel))
theorem lb_X9_worth : mj_LB mX9_worth 4 := ⟨mj_inG 1135 (by decide +kernel) (by decide +kernel), mj_inG 57 (by decide +kernel) (by decide +kernel), by decide +kernel, by decide +kernel, by decide +kernel⟩
theorem li_X9_worth : Jvm.Cond.instanceMethod mX9_worth.1 ∈ mj_G ∧ Jvm.Cond.selects mX9_worth.1.cls mX9_worth.1 mX9_worth.1 ∈ mj_G := ⟨mj_inG 1133 (by decide +kernel) (by decide +kernel), mj_inG 1134 (by decide +kernel) (by decide +kernel)⟩
theorem ll_L_92 : mj_LL RL 92 mX8_best := Or.inl (mj_inG 714 (by decide +kernel) (by decide +kernel))
theorem lb_X8_best : mj_LB mX8_best 2 := ⟨mj_inG 717 (by decide +kernel) (by decide +kernel), mj_inG 48 (by decide +kernel) (by decide +kernel), by decide +kernel, by decide +kernel, by decide +kernel⟩
theorem li_X8_best : Jvm.Cond.instanceMethod mX8_best.1 ∈ mj_G ∧ Jvm.Cond.selects mX8_best.1.cls mX8_best.1 mX8_best.1 ∈ mj_G := ⟨mj_inG 715 (by decide +kernel) (by decide +kernel), mj_inG 716 (by decide +kernel) (by decide +kernel)⟩
theorem ll_L_95 : mj_LL RL 95 mX9_best := Or.inl (mj_inG 1150 (by decide +kernel) (by decide +kernel))
theorem lb_X9_best : mj_LB mX9_best 2 := ⟨mj_inG 1153 (by decide +kernel) (by decide +kernel), mj_inG 57 (by decide +kernel) (by decide +kernel), by decide +kernel, by decide +kernel, by decide +kernel⟩
theorem li_X9_best : Jvm.Cond.instanceMethod mX9_best.1 ∈ mj_G ∧ Jvm.Cond.selects mX9_best.1.cls mX9_best.1 mX9_best.1 ∈ mj_G := ⟨mj_inG 1151 (by decide +kernel) (by decide +kernel), mj_inG 1152 (by decide +kernel) (by decide +kernel)⟩
theorem ll_L_96 : mj_LL RL 96 mX8_sift := Or.inl (mj_inG 718 (by decide +kernel) (by decide +kernel))
theorem lb_X8_sift : mj_LB mX8_sift 3 := ⟨mj_inG 721 (by decide +kernel) (by decide +kernel), mj_inG 48 (by decide +kernel) (by decide +kernel), by decide +kernel, by decide +kernel, by decide +kernel⟩
theorem li_X8_sift : Jvm.Cond.instanceMethod mX8_sift.1 ∈ mj_G ∧ Jvm.Cond.selects mX8_sift.1.cls mX8_sift.1 mX8_sift.1 ∈ mj_G := ⟨mj_inG 719 (by decide +kernel) (by decide +kernel), mj_inG 720 (by decide +kernel) (by decide +kernel)⟩
theorem ll_L_100 : mj_LL RL 100 mX9_sift := Or.inl (mj_inG 1154 (by decide +kernel) (by decide +kernel))
theorem lb_X9_sift : mj_LB mX9_sift 3 := ⟨mj_inG 1157 (by decide +kernel) (by decide +kernel), mj_inG 57 (by decide +kernel) (by decide +kernel), by decide +kernel, by decide +kernel, by decide +kernel⟩
theorem li_X9_sift : Jvm.Cond.instanceMethod mX9_sift.1 ∈ mj_G ∧ Jvm.Cond.selects mX9_sift.1.cls mX9_sift.1 mX9_sift.1 ∈ mj_G := ⟨mj_inG 1155 (by decide +kernel) (by decide +kernel), mj_inG 1156 (by decide +kernel) (by decide +kernel)⟩
theorem ll_L_101 : mj_LL RL 101 mX8_runs := Or.inl (mj_inG 743 (by decide +kernel) (by decide +kernel))
theorem lb_X8_runs : mj_LB mX8_runs 1 := ⟨mj_inG 746 (by decide +kernel) (by decide +kernel), mj_inG 48 (by decide +kernel) (by decide +kernel), by decide +kernel, by decide +kernel, by decide +kernel⟩
theorem li_X8_runs : Jvm.Cond.instanceMethod mX8_runs.1 ∈ mj_G ∧ Jvm.Cond.selects mX8_runs.1.cls mX8_runs.1 mX8_runs.1 ∈ mj_G := ⟨mj_inG 744 (by decide +kernel) (by decide +kernel), mj_inG 745 (by decide +kernel) (by decide +kernel)⟩
theorem ll_L_104 : mj_LL RL 104 mX9_runs := Or.inl (mj_inG 1162 (by decide +kernel) (by decide +kernel))
theorem lb_X9_runs : mj_LB mX9_runs 1 := ⟨mj_inG 1165 (by decide +kernel) (by decide +kernel), mj_inG 57 (by decide +kernel) (by decide +kernel), by decide +kernel, by decide +kernel, by decide +kernel⟩
theorem li_X9_runs : Jvm.Cond.instanceMethod mX9_runs.1 ∈ mj_G ∧ Jvm.Cond.selects mX9_runs.1.cls mX9_runs.1 mX9_runs.1 ∈ mj_G := ⟨mj_inG 1163 (by decide +kernel) (by decide +kernel), mj_inG 1164 (by decide +kernel) (by decide +kernel)⟩
theorem ll_L_105 : mj_LL RL 105 mX8_home := Or.inl (mj_inG 748 (by decide +kernel) (by decide +kernel))
theorem lb_X8_home : mj_LB mX8_home 1 := ⟨mj_inG 751 (by decide +kernel) (by decide +kernel), mj_inG 48 (by decide +kernel) (by decide +kernel), by decide +kernel, by decide +kernel, by decide +kernel⟩
theorem li_X8_home : Jvm.Cond.instanceMethod mX8_home.1 ∈ mj_G ∧ Jvm.Cond.selects mX8_home.1.cls mX8_home.1 mX8_home.1 ∈ mj_G := ⟨mj_inG 749 (by decide +kernel) (by decide +kernel), mj_inG 750 (by decide +kernel) (by decide +kernel)⟩
theorem ll_L_108 : mj_LL RL 108 mX9_home := Or.inl (mj_inG 1166 (by decide +kernel) (by decide +kernel))
theorem lb_X9_home : mj_LB mX9_home 1 := ⟨mj_inG 1169 (by decide +kernel) (by decide +kernel), mj_inG 57 (by decide +kernel) (by decide +kernel), by decide +kernel, by decide +kernel, by decide +kernel⟩
theorem li_X9_home : Jvm.Cond.instanceMethod mX9_home.1 ∈ mj_G ∧ Jvm.Cond.selects mX9_home.1.cls mX9_home.1 mX9_home.1 ∈ mj_G := ⟨mj_inG 1167 (by decide +kernel) (by decide +kernel), mj_inG 1168 (by decide +kernel) (by decide +kernel)⟩
theorem ll_L_109 : mj_LL RL 109 mX8_spy := Or.inl (mj_inG 762 (by decide +kernel) (by decide +kernel))
theorem lb_X8_spy : mj_LB mX8_spy 1 := ⟨mj_inG 765 (by decide +kernel) (by decide +kernel), mj_inG 48 (by decide +kernel) (by decide +kernel), by decide +kernel, by decide +kernel, by decide +kernel⟩
theorem li_X8_spy : Jvm.Cond.instanceMethod mX8_spy.1 ∈ mj_G ∧ Jvm.Cond.selects mX8_spy.1.cls mX8_spy.1 mX8_spy.1 ∈ mj_G := ⟨mj_inG 763 (by decide +kernel) (by decide +kernel), mj_inG 764 (by decide +kernel) (by decide +kernel)⟩
theorem ll_L_112 : mj_LL RL 112 mX9_spy := Or.inl (mj_inG 1175 (by decide +kernel) (by decide +kernel))
theorem lb_X9_spy : mj_LB mX9_spy 1 := ⟨mj_inG 1178 (by decide +kernel) (by decide +kernel), mj_inG 57 (by decide +kernel) (by decide +kernel), by decide +kernel, by decide +kernel, by decide +kernel⟩
theorem li_X9_spy : Jvm.Cond.instanceMethod mX9_spy.1 ∈ mj_G ∧ Jvm.Cond.selects mX9_spy.1.cls mX9_spy.1 mX9_spy.1 ∈ mj_G := ⟨mj_inG 1176 (by decide +kernel) (by decide +kernel), mj_inG 1177 (by decide +kernel) (by decide +kernel)⟩
theorem ll_L_118 : mj_LL RL 118 mX8_next := Or.inl (mj_inG 782 (by decide +kernel) (by decide +kernel))
theorem lb_X8_next : mj_LB mX8_next 1 := ⟨mj_inG 785 (by decide +kernel) (by decide +kernel), mj_inG 48 (by decide +kernel) (by decide +kernel), by decide +kernel, by decide +kernel, by decide +kernel⟩
theorem li_X8_next : Jvm.Cond.instanceMethod mX8_next.1 ∈ mj_G ∧ Jvm.Cond.selects mX8_next.1.cls mX8_next.1 mX8_next.1 ∈ mj_G := ⟨mj_inG 783 (by decide +kernel) (by decide +kernel), mj_inG 784 (by decide +kernel) (by decide +kernel)⟩
theorem ll_L_121 : mj_LL RL 121 mX9_next := Or.inl (mj_inG 1190 (by decide +kernel) (by decide +kernel))
theorem lb_X9_next : mj_LB mX9_next 1 := ⟨mj_inG 1193 (by decide +kernel) (by decide +kernel), mj_inG 57 (by decide +kernel) (by decide +kernel), by decide +kernel, by decide +kernel, by decide +kernel⟩
theorem li_X9_next : Jvm.Cond.instanceMethod mX9_next.1 ∈ mj_G ∧ Jvm.Cond.selects mX9_next.1.cls mX9_next.1 mX9_next.1 ∈ mj_G := ⟨mj_inG 1191 (by decide +kernel) (by decide +kernel), mj_inG 1192 (by decide +kernel) (by decide +kernel)⟩
theorem ll_L_122 : mj_LL RL 122 mX8_boast := Or.inl (mj_inG 790 (by decide +kernel) (by decide +kernel))
theorem lb_X8_boast : mj_LB mX8_boast 3 := ⟨mj_inG 793 (by decide +kernel) (by decide +kernel), mj_inG 48 (by decide +kernel) (by decide +kernel), by decide +kernel, by decide +kernel, by decide +kernel⟩
theorem li_X8_boast : Jvm.Cond.instanceMethod mX8_boast.1 ∈ mj_G ∧ Jvm.Cond.selects mX8_boast.1.cls mX8_boast.1 mX8_boast.1 ∈ mj_G := ⟨mj_inG 791 (by decide +kernel) (by decide +kernel), mj_inG 792 (by decide +kernel) (by decide +kernel)⟩
theorem ll_L_125 : mj_LL RL 125 mX9_boast := Or.inl (mj_inG 1194 (by decide +kernel) (by decide +kernel))
theorem lb_X9_boast : mj_LB mX9_boast 3 := ⟨mj_inG 1197 (by decide +kernel) (by decide +kernel), mj_inG 57 (by decide +kernel) (by decide +kernel), by decide +kernel, by decide +kernel, by decide +kernel⟩
theorem li_X9_boast : Jvm.Cond.instanceMethod mX9_boast.1 ∈ mj_G ∧ Jvm.Cond.selects mX9_boast.1.cls mX9_boast.1 mX9_boast.1 ∈ mj_G := ⟨mj_inG 1195 (by decide +kernel) (by decide +kernel), mj_inG 1196 (by decide +kernel) (by decide +kernel)⟩
theorem ll_L_126 : mj_LL RL 126 mX8_again := Or.inl (mj_inG 800 (by decide +kernel) (by decide +kernel))
theorem lb_X8_again : mj_LB mX8_again 1 := ⟨mj_inG 803 (by decide +kernel) (by decide +kernel), mj_inG 48 (by decide +kernel) (by decide +kernel), by decide +kernel, by decide +kernel, by decide +kernel⟩
theorem li_X8_again : Jvm.Cond.instanceMethod mX8_again.1 ∈ mj_G ∧ Jvm.Cond.selects mX8_again.1.cls mX8_again.1 mX8_again.1 ∈ mj_G := ⟨mj_inG 801 (by decide +kernel) (by decide +kernel), mj_inG 802 (by decide +kernel) (by decide +kernel)⟩
theorem ll_L_129 : mj_LL RL 129 mX9_again := Or.inl (mj_inG 1202 (by decide +kernel) (by decide +kernel))
theorem lb_X9_again : mj_LB mX9_again 1 := ⟨mj_inG 1205 (by decide +kernel) (by decide +kernel), mj_inG 57 (by decide +kernel) (by decide +kernel), by decide +kernel, by decide +kernel, by decide +kernel⟩
theorem li_X9_again : Jvm.Cond.instanceMethod mX9_again.1 ∈ mj_G ∧ Jvm.Cond.selects mX9_again.1.cls mX9_again.1 mX9_again.1 ∈ mj_G := ⟨mj_inG 1203 (by decide +kernel) (by decide +kernel), mj_inG 1204 (by decide +kernel) (by decide +kernel)⟩
theorem ll_L_130 : mj_LL RL 130 mX8_drawn := Or.inl (mj_inG 805 (by decide +kernel) (by decide +kernel))
theorem lb_X8_drawn : mj_LB mX8_drawn 3 := ⟨mj_inG 808 (by decide +kernel) (by decide +kernel), mj_inG 48 (by decide +kernel) (by decide +kernel), by decide +kernel, by decide +kernel, by decide +kernel⟩
theorem li_X8_drawn : Jvm.Cond.instanceMethod mX8_drawn.1 ∈ mj_G ∧ Jvm.Cond.selects mX8_drawn.1.cls mX8_drawn.1 mX8_drawn.1 ∈ mj_G := ⟨mj_inG 806 (by decide +kernel) (by decide +kernel), mj_inG 807 (by decide +kernel) (by decide +kernel)⟩
theorem ll_L_133 : mj_LL RL 133 mX9_drawn := Or.inl (mj_inG 1206 (by decide +kernel) (by decide +kernel))
theorem lb_X9_drawn : mj_LB mX9_drawn 3 := ⟨mj_inG 1209 (by decide +kernel) (by decide +kernel), mj_inG 57 (by decide +kernel) (by decide +kernel), by decide +kernel, by decide +kernel, by decide +kernel⟩
theorem li_X9_drawn : Jvm.Cond.instanceMethod mX9_drawn.1 ∈ mj_G ∧ Jvm.Cond.selects mX9_drawn.1.cls mX9_drawn.1 mX9_drawn.1 ∈ mj_G := ⟨mj_inG 1207 (by decide +kernel) (by decide +kernel), mj_inG 1208 (by decide +kernel) (by decide +kernel)⟩
theorem ll_L_134 : mj_LL RL 134 mX8_part := Or.inl (mj_inG 814 (by decide +kernel) (by decide +kernel))
theorem lb_X8_part : mj_LB mX8_part 1 := ⟨mj_inG 817 (by decide +kernel) (by decide +kernel), mj_inG 48 (by decide +kernel) (by decide +kernel), by decide +kernel, by decide +kernel, by decide +kernel⟩
theorem li_X8_part : Jvm.Cond.instanceMethod mX8_part.1 ∈ mj_G ∧ Jvm.Cond.selects mX8_part.1.cls mX8_part.1 mX8_part.1 ∈ mj_G := ⟨mj_inG 815 (by decide +kernel) (by decide +kernel), mj_inG 816 (by decide +kernel) (by decide +kernel)⟩
theorem ll_L_138 : mj_LL RL 138 mX9_part := Or.inl (mj_inG 1216 (by decide +kernel) (by decide +kernel))
theorem lb_X9_part : mj_LB mX9_part 1 := ⟨mj_inG 1219 (by decide +kernel) (by decide +kernel), mj_inG 57 (by decide +kernel) (by decide +kernel), by decide +kernel, by decide +kernel, by decide +kernel⟩
theorem li_X9_part : Jvm.Cond.instanceMethod mX9_part.1 ∈ mj_G ∧ Jvm.Cond.selects mX9_part.1.cls mX9_part.1 mX9_part.1 ∈ mj_G := ⟨mj_inG 1217 (by decide +kernel) (by decide +kernel), mj_inG 1218 (by decide +kernel) (by decide +kernel)⟩
theorem ll_L_139 : mj_LL RL 139 mX8_image := Or.inl (mj_inG 818 (by decide +kernel) (by decide +kernel))
theorem lb_X8_image : mj_LB mX8_image 1 := ⟨mj_inG 821 (by decide +kernel) (by decide +kernel), mj_inG 48 (by decide +kernel) (by decide +kernel), by decide +kernel, by decide +kernel, by decide +kernel⟩
theorem li_X8_image : Jvm.Cond.instanceMethod mX8_image.1 ∈ mj_G ∧ Jvm.Cond.selects mX8_image.1.cls mX8_image.1 mX8_image.1 ∈ mj_G := ⟨mj_inG 819 (by decide +kernel) (by decide +kernel), mj_inG 820 (by decide +kernel) (by decide +kernel)⟩
theorem ll_L_142 : mj_LL RL 142 mX9_image := Or.inl (mj_inG 1220 (by decide +kernel) (by decide +kernel))
theorem lb_X9_image : mj_LB mX9_image 1 := ⟨mj_inG 1223 (by decide +kernel) (by decide +kernel), mj_inG 57 (by decide +kernel) (by decide +kernel), by decide +kernel, by decide +kernel, by decide +kernel⟩
theorem li_X9_image : Jvm.Cond.instanceMethod mX9_image.1 ∈ mj_G ∧ Jvm.Cond.selects mX9_image.1.cls mX9_image.1 mX9_image.1 ∈ mj_G := ⟨mj_inG 1221 (by decide +kernel) (by decide +kernel), mj_inG 1222 (by decide +kernel) (by decide +kernel)⟩
theorem ll_L_143 : mj_LL RL 143 mX8_from := Or.inl (mj_inG 830 (by decide +kernel) (by decide +kernel))
theorem lb_X8_from : mj_LB mX8_from 1 := ⟨mj_inG 833 (by decide +kernel) (by decide +kernel), mj_inG 48 (by decide +kernel) (by decide +kernel), by decide +kernel, by decide +kernel, by decide +kernel⟩
theorem li_X8_from : Jvm.Cond.instanceMethod mX8_from.1 ∈ mj_G ∧ Jvm.Cond.selects mX8_from.1.cls mX8_from.1 mX8_from.1 ∈ mj_G := ⟨mj_inG 831 (by decide +kernel) (by decide +kernel), mj_inG 832 (by decide +kernel) (by decide +kernel)⟩
theorem ll_L_146 : mj_LL RL 146 mX9_from := Or.inl (mj_inG 1224 (by decide +kernel) (by decide +kernel))
theorem lb_X9_from : mj_LB mX9_from 1 := ⟨mj_inG 1227 (by decide +kernel) (by decide +kernel), mj_inG 57 (by decide +kernel) (by decide +kernel), by decide +kernel, by decide +kernel, by decide +kernel⟩
theorem li_X9_from : Jvm.Cond.instanceMethod mX9_from.1 ∈ mj_G ∧ Jvm.Cond.selects mX9_from.1.cls mX9_from.1 mX9_from.1 ∈ mj_G := ⟨mj_inG 1225 (by decide +kernel) (by decide +kernel), mj_inG 1226 (by decide +kernel) (by decide +kernel)⟩
theorem ll_L_147 : mj_LL RL 147 mX8_status := Or.inl (mj_inG 834 (by decide +kernel) (by decide +kernel))
theorem lb_X8_status : mj_LB mX8_status 1 := ⟨mj_inG 837 (by decide +kernel) (by decide +kernel), mj_inG 48 (by decide +kernel) (by decide +kernel), by decide +kernel, by decide +kernel, by decide +kernel⟩
theorem li_X8_status : Jvm.Cond.instanceMethod mX8_status.1 ∈ mj_G ∧ Jvm.Cond.selects mX8_status.1.cls mX8_status.1 mX8_status.1 ∈ mj_G := ⟨mj_inG 835 (by decide +kernel) (by decide +kernel), mj_inG 836 (by decide +kernel) (by decide +kernel)⟩
theorem ll_L_150 : mj_LL RL 150 mX9_status := Or.inl (mj_inG 1228 (by decide +kernel) (by decide +kernel))
theorem lb_X9_status : mj_LB mX9_status 1 := ⟨mj_inG 1231 (by decide +kernel) (by decide +kernel), mj_inG 57 (by decide +kernel) (by decide +kernel), by decide +kernel, by decide +kernel, by decide +kernel⟩
theorem li_X9_status : Jvm.Cond.instanceMethod mX9_status.1 ∈ mj_G ∧ Jvm.Cond.selects mX9_status.1.cls mX9_status.1 mX9_status.1 ∈ mj_G := ⟨mj_inG 1229 (by decide +kernel) (by decide +kernel), mj_inG 1230 (by decide +kernel) (by decide +kernel)⟩
theorem ll_L_151 : mj_LL RL 151 mX8_count := Or.inl (mj_inG 838 (by decide +kernel) (by decide +kernel))
theorem lb_X8_count : mj_LB mX8_count 1 := ⟨mj_inG 841 (by decide +kernel) (by decide +kernel), mj_inG 48 (by decide +kernel) (by decide +kernel), by decide +kernel, by decide +kernel, by decide +kernel⟩
theorem li_X8_count : Jvm.Cond.instanceMethod mX8_count.1 ∈ mj_G ∧ Jvm.Cond.selects mX8_count.1.cls mX8_count.1 mX8_count.1 ∈ mj_G := ⟨mj_inG 839 (by decide +kernel) (by decide +kernel), mj_inG 840 (by decide +kernel) (by decide +kernel)⟩
theorem ll_L_154 : mj_LL RL 154 mX9_count := Or.inl (mj_inG 1232 (by decide +kernel) (by decide +kernel))
theorem lb_X9_count : mj_LB mX9_count 1 := ⟨mj_inG 1235 (by decide +kernel) (by decide +kernel), mj_inG 57 (by decide +kernel) (by decide +kernel), by decide +kernel, by decide +kernel, by decide +kernel⟩
theorem li_X9_count : Jvm.Cond.instanceMethod mX9_count.1 ∈ mj_G ∧ Jvm.Cond.selects mX9_count.1.cls mX9_count.1 mX9_count.1 ∈ mj_G := ⟨mj_inG 1233 (by decide +kernel) (by decide +kernel), mj_inG 1234 (by decide +kernel) (by decide +kernel)⟩
theorem ll_L_155 : mj_LL RL 155 mX8_digest := Or.inl (mj_inG 851 (by decide +kernel) (by decide +kernel))
theorem lb_X8_digest : mj_LB mX8_digest 0 := ⟨mj_inG 854 (by decide +kernel) (by decide +kernel), mj_inG 48 (by decide +kernel) (by decide +kernel), by decide +kernel, by decide +kernel, by decide +kernel⟩
theorem li_X8_digest : Jvm.Cond.instanceMethod mX8_digest.1 ∈ mj_G ∧ Jvm.Cond.selects mX8_digest.1.cls mX8_digest.1 mX8_digest.1 ∈ mj_G := ⟨mj_inG 852 (by decide +kernel) (by decide +kernel), mj_inG 853 (by decide +kernel) (by decide +kernel)⟩
theorem ll_L_159 : mj_LL RL 159 mX9_digest := Or.inl (mj_inG 1240 (by decide +kernel) (by decide +kernel))
theorem lb_X9_digest : mj_LB mX9_digest 0 := ⟨mj_inG 1243 (by decide +kernel) (by decide +kernel), mj_inG 57 (by decide +kernel) (by decide +kernel), by decide +kernel, by decide +kernel, by decide +kernel⟩
theorem li_X9_digest : Jvm.Cond.instanceMethod mX9_digest.1 ∈ mj_G ∧ Jvm.Cond.selects mX9_digest.1.cls mX9_digest.1 mX9_digest.1 ∈ mj_G := ⟨mj_inG 1241 (by decide +kernel) (by decide +kernel), mj_inG 1242 (by decide +kernel) (by decide +kernel)⟩
theorem nw_L_7 : mj_NW RL 7 8 14 [.null, .null, .null, .null, .null, .null, .null, .null, .null, .long 0, .long 0, .int 0, .int 0, .int 0] := ⟨RX8, TX8, tyX8, rfl, uw_X8, tyX8_ok, mj_inG 65 (by decide +kernel) (by decide +kernel), mj_inG 66 (by decide +kernel) (by decide +kernel), mj_inG 48 (by decide +kernel) (by decide +kernel), (by decide +kernel)⟩
theorem ll_L_9 : mj_LL RL 9 mX8_init := Or.inl (mj_inG 67 (by decide +kernel) (by decide +kernel))
theorem lb_X8_init : mj_LB mX8_init 0 := ⟨mj_inG 69 (by decide +kernel) (by decide +kernel), mj_inG 48 (by decide +kernel) (by decide +kernel), by decide +kernel, by decide +kernel, by decide +kernel⟩
theorem li_X8_init : mX8_init.1.name = "<init>" ∧ mX8_init.2.2.2.1 = none ∧ Jvm.Cond.instanceMethod mX8_init.1 ∈ mj_G := ⟨rfl, rfl, mj_inG 68 (by decide +kernel) (by decide +kernel)⟩
theorem nw_L_10 : mj_NW RL 10 9 20 [.null, .null, .null, .null, .int 0, .long 0, .long 0, .null, .null, .int 0, .int 0, .int 0, .int 0, .long 0, .null, .int 0, .null, .null, .null, .null] := ⟨RX9, TX9, tyX9, rfl, uw_X9, tyX9_ok, mj_inG 857 (by decide +kernel) (by decide +kernel), mj_inG 858 (by decide +kernel) (by decide +kernel), mj_inG 57 (by decide +kernel) (by decide +kernel), (by decide +kernel)⟩
theorem ll_L_12 : mj_LL RL 12 mX9_init := Or.inl (mj_inG 859 (by decide +kernel) (by decide +kernel))
theorem lb_X9_init : mj_LB mX9_init 0 := ⟨mj_inG 861 (by decide +kernel) (by decide +kernel), mj_inG 57 (by decide +kernel) (by decide +kernel), by decide +kernel, by decide +kernel, by decide +kernel⟩
theorem li_X9_init : mX9_init.1.name = "<init>" ∧ mX9_init.2.2.2.1 = none ∧ Jvm.Cond.instanceMethod mX9_init.1 ∈ mj_G := ⟨rfl, rfl, mj_inG 860 (by decide +kernel) (by decide +kernel)⟩
def mL_law (nm : String) : mj_M := (⟨RL, nm, "([I)Z"⟩, cL_law, 4, some .boolean, room_1, tL_law)
def f_L_law_1259 (L : Nat) (xs : Nat → Int32) (K18 : Nat → Nat → Int32 → mj_H → Option (Int32 × mj_H)) (v1 : Nat) (v2 : Nat) (v3 : Int32) (h : mj_H) : Option (Int32 × mj_H) := K18 v1 v2 (v3 + (7 : Int32)) h
set_option maxHeartbeats 4000000 in
set_option maxRecDepth 100000 in
theorem w_L_law_1259 {nm : String} (L : Nat) (xs : Nat → Int32) (K18 : Nat → Nat → Int32 → mj_H → Option (Int32 × mj_H)) (hK18 : ∀ (v1 : Nat) (v2 : Nat) (v3 : Int32)  (h : mj_H) (p : Int32 × mj_H), K18 v1 v2 v3 h = some p → mj_W (mL_law nm) (mj_FX L xs p) 18 [(0, .ref 2000), (1, .ref v1), (2, .ref v2), (3, .int v3)] [] h 65 3281) (v1 : Nat) (v2 : Nat) (v3 : Int32) (h : mj_H) (p : Int32 × mj_H) (hf : f_L_law_1259 L xs K18 v1 v2 v3 h = some p) : mj_W (mL_law nm) (mj_FX L xs p) 1259 [(0, .ref 2000), (1, .ref v1), (2, .ref v2), (3, .int v3)] [] h 65 3281 := by
  unfold f_L_law_1259 at hf
  refine mj_blk k_L_ok 867 2 (pc' := 18) (l' := [(3, .int (v3 + (7 : Int32))), (0, .ref 2000), (1, .ref v1), (2, .ref v2)]) (st' := []) rfl ?_
  refine mj_locs [1, 2, 3, 0] (l' := [(0, .ref 2000), (1, .ref v1), (2, .ref v2), (3, .int (v3 + (7 : Int32)))]) rfl ?_
  exact hK18 v1 v2 (v3 + (7 : Int32)) h _ hf
def f_L_law_984 (L : Nat) (xs : Nat → Int32) (K18 : Nat → Nat → Int32 → mj_H → Option (Int32 × mj_H)) (v1 : Nat) (v2 : Nat) (v3 : Int32) (s0 : Int32) (s1 : Nat) (s2 : Int32) (s3 : Int32) (h : mj_H) : Option (Int32 × mj_H) := (mj_xl L xs (v3 + (3 : Int32))).bind fun x1 => (if mj_ob h s1 9 = true then (f_X9_looks s1 s2 s3 x1 h).bind fun p2 => (if s0 = p2.1 then f_L_law_1259 L xs K18 v1 v2 v3 p2.2 else some ((0 : Int32), p2.2)) else none)
set_option maxHeartbeats 4000000 in
set_option maxRecDepth 100000 in
theorem w_L_law_984 {nm : String} (L : Nat) (xs : Nat → Int32) (K18 : Nat → Nat → Int32 → mj_H → Option (Int32 × mj_H)) (hK18 : ∀ (v1 : Nat) (v2 : Nat) (v3 : Int32)  (h : mj_H) (p : Int32 × mj_H), K18 v1 v2 v3 h = some p → mj_W (mL_law nm) (mj_FX L xs p) 18 [(0, .ref 2000), (1, .ref v1), (2, .ref v2), (3, .int v3)] [] h 65 3281) (v1 : Nat) (v2 : Nat) (v3 : Int32) (s0 : Int32) (s1 : Nat) (s2 : Int32) (s3 : Int32) (h : mj_H) (p : Int32 × mj_H) (hf : f_L_law_984 L xs K18 v1 v2 v3 s0 s1 s2 s3 h = some p) : mj_W (mL_law nm) (mj_FX L xs p) 984 [(0, .ref 2000), (1, .ref v1), (2, .ref v2), (3, .int v3)] [.int s3, .int s2, .ref s1, .int s0] h 65 3281 := by
  unfold f_L_law_984 at hf
  refine mj_blk k_L_ok 656 4 (pc' := 988) (l' := [(0, .ref 2000), (1, .ref v1), (2, .ref v2), (3, .int v3)]) (st' := [.int (v3 + (3 : Int32)), .ref 2000, .int s3, .int s2, .ref s1, .int s0]) rfl ?_
  obtain ⟨x1, ex1, hf⟩ := mj_bd hf
  refine mj_xld 660 rfl ex1 ?_
  obtain ⟨gp2, hf⟩ := mj_gd hf
  obtain ⟨p2, ep2, hf⟩ := mj_bd hf
  refine mj_callV (T := TX9) (N := 20) (ci := 9) mX9_looks [.int s2, .int s3, .int x1] 661 rfl ll_L_117 lb_X9_looks li_X9_looks ⟨Nat.le_of_ble_eq_true rfl, Nat.le_of_ble_eq_true rfl⟩ rfl gp2 rfl (rest := [.int s0]) rfl (Nat.le_of_ble_eq_true rfl) ⟨Nat.le_of_ble_eq_true rfl, Nat.le_of_ble_eq_true rfl⟩ (c_X9_looks s1 s2 s3 x1 h p2 ep2) ?_
  show mj_W (mL_law nm) (mj_FX L xs p) 992 [(0, .ref 2000), (1, .ref v1), (2, .ref v2), (3, .int v3)] [.int p2.1, .int s0] p2.2 65 3281
  refine mj_icmp_eq 662 1259 rfl (by decide) (fun q => ?_) (fun q => ?_)
  · have hf := (if_pos q).symm.trans hf
    exact w_L_law_1259 L xs K18 hK18 v1 v2 v3 p2.2 _ hf
  · have hf := (if_neg q).symm.trans hf
    refine mj_blk k_L_ok 663 1 (pc' := 996) (l' := [(0, .ref 2000), (1, .ref v1), (2, .ref v2), (3, .int v3)]) (st' := [.int (0 : Int32)]) rfl ?_
    obtain rfl := Option.some.inj hf
    exact mj_end (some (.int (0 : Int32))) ⟨mj_dec tok_L_law (a := 664) rfl, .boolean, rfl, rfl⟩ ⟨rfl, rfl⟩ (Nat.le_of_ble_eq_true rfl) (Nat.le_of_ble_eq_true rfl)
def f_L_law_957 (L : Nat) (xs : Nat → Int32) (K18 : Nat → Nat → Int32 → mj_H → Option (Int32 × mj_H)) (v1 : Nat) (v2 : Nat) (v3 : Int32) (s0 : Nat) (s1 : Int32) (s2 : Int32) (h : mj_H) : Option (Int32 × mj_H) := (mj_xl L xs (v3 + (3 : Int32))).bind fun x3 => (if mj_ob h s0 8 = true then (f_X8_looks s0 s1 s2 x3 h).bind fun p4 => (mj_xl L xs (v3 + (1 : Int32))).bind fun x5 => (mj_xl L xs (v3 + (2 : Int32))).bind fun x6 => (if x6 = 0 then f_L_law_984 L xs K18 v1 v2 v3 p4.1 v2 x5 (0 : Int32) p4.2 else f_L_law_984 L xs K18 v1 v2 v3 p4.1 v2 x5 (1 : Int32) p4.2) else none)
set_option maxHeartbeats 4000000 in
set_option maxRecDepth 100000 in
theorem w_L_law_957 {nm : String} (L : Nat) (xs : Nat → Int32) (K18 : Nat → Nat → Int32 → mj_H → Option (Int32 × mj_H)) (hK18 : ∀ (v1 : Nat) (v2 : Nat) (v3 : Int32)  (h : mj_H) (p : Int32 × mj_H), K18 v1 v2 v3 h = some p → mj_W (mL_law nm) (mj_FX L xs p) 18 [(0, .ref 2000), (1, .ref v1), (2, .ref v2), (3, .int v3)] [] h 65 3281) (v1 : Nat) (v2 : Nat) (v3 : Int32) (s0 : Nat) (s1 : Int32) (s2 : Int32) (h : mj_H) (p : Int32 × mj_H) (hf : f_L_law_957 L xs K18 v1 v2 v3 s0 s1 s2 h = some p) : mj_W (mL_law nm) (mj_FX L xs p) 957 [(0, .ref 2000), (1, .ref v1), (2, .ref v2), (3, .int v3)] [.int s2, .int s1, .ref s0] h 65 3281 := by
  unfold f_L_law_957 at hf
  refine mj_blk k_L_ok 635 4 (pc' := 961) (l' := [(0, .ref 2000), (1, .ref v1), (2, .ref v2), (3, .int v3)]) (st' := [.int (v3 + (3 : Int32)), .ref 2000, .int s2, .int s1, .ref s0]) rfl ?_
  obtain ⟨x3, ex3, hf⟩ := mj_bd hf
  refine mj_xld 639 rfl ex3 ?_
  obtain ⟨gp4, hf⟩ := mj_gd hf
  obtain ⟨p4, ep4, hf⟩ := mj_bd hf
  refine mj_callV (T := TX8) (N := 14) (ci := 8) mX8_looks [.int s1, .int s2, .int x3] 640 rfl ll_L_113 lb_X8_looks li_X8_looks ⟨Nat.le_of_ble_eq_true rfl, Nat.le_of_ble_eq_true rfl⟩ rfl gp4 rfl (rest := []) rfl (Nat.le_of_ble_eq_true rfl) ⟨Nat.le_of_ble_eq_true rfl, Nat.le_of_ble_eq_true rfl⟩ (c_X8_looks s0 s1 s2 x3 h p4 ep4) ?_
  show mj_W (mL_law nm) (mj_FX L xs p) 965 [(0, .ref 2000), (1, .ref v1), (2, .ref v2), (3, .int v3)] [.int p4.1] p4.2 65 3281
  refine mj_blk k_L_ok 641 5 (pc' := 970) (l' := [(0, .ref 2000), (1, .ref v1), (2, .ref v2), (3, .int v3)]) (st' := [.int (v3 + (1 : Int32)), .ref 2000, .ref v2, .int p4.1]) rfl ?_
  obtain ⟨x5, ex5, hf⟩ := mj_bd hf
  refine mj_xld 646 rfl ex5 ?_
  refine mj_blk k_L_ok 647 4 (pc' := 975) (l' := [(0, .ref 2000), (1, .ref v1), (2, .ref v2), (3, .int v3)]) (st' := [.int (v3 + (2 : Int32)), .ref 2000, .int x5, .ref v2, .int p4.1]) rfl ?_
  obtain ⟨x6, ex6, hf⟩ := mj_bd hf
  refine mj_xld 651 rfl ex6 ?_
  refine mj_if_eq 652 983 rfl (by decide) (fun q => ?_) (fun q => ?_)
  · have hf := (if_pos q).symm.trans hf
    refine mj_blk k_L_ok 655 1 (pc' := 984) (l' := [(0, .ref 2000), (1, .ref v1), (2, .ref v2), (3, .int v3)]) (st' := [.int (0 : Int32), .int x5, .ref v2, .int p4.1]) rfl ?_
    exact w_L_law_984 L xs K18 hK18 v1 v2 v3 p4.1 v2 x5 (0 : Int32) p4.2 _ hf
  · have hf := (if_neg q).symm.trans hf
    refine mj_blk k_L_ok 653 2 (pc' := 984) (l' := [(0, .ref 2000), (1, .ref v1), (2, .ref v2), (3, .int v3)]) (st' := [.int (1 : Int32), .int x5, .ref v2, .int p4.1]) rfl ?_
    exact w_L_law_984 L xs K18 hK18 v1 v2 v3 p4.1 v2 x5 (1 : Int32) p4.2 _ hf
def f_L_law_577 (L : Nat) (xs : Nat → Int32) (K18 : Nat → Nat → Int32 → mj_H → Option (Int32 × mj_H)) (v1 : Nat) (v2 : Nat) (v3 : Int32) (s0 : Int32) (s1 : Nat) (s2 : Int32) (s3 : Int32) (s4 : Int32) (h : mj_H) : Option (Int32 × mj_H) := (if mj_ob h s1 9 = true then (f_X9_cases s1 s2 s3 s4 h).bind fun p7 => (if s0 = p7.1 then f_L_law_1259 L xs K18 v1 v2 v3 p7.2 else some ((0 : Int32), p7.2)) else none)
set_option maxHeartbeats 4000000 in
set_option maxRecDepth 100000 in
theorem w_L_law_577 {nm : String} (L : Nat) (xs : Nat → Int32) (K18 : Nat → Nat → Int32 → mj_H → Option (Int32 × mj_H)) (hK18 : ∀ (v1 : Nat) (v2 : Nat) (v3 : Int32)  (h : mj_H) (p : Int32 × mj_H), K18 v1 v2 v3 h = some p → mj_W (mL_law nm) (mj_FX L xs p) 18 [(0, .ref 2000), (1, .ref v1), (2, .ref v2), (3, .int v3)] [] h 65 3281) (v1 : Nat) (v2 : Nat) (v3 : Int32) (s0 : Int32) (s1 : Nat) (s2 : Int32) (s3 : Int32) (s4 : Int32) (h : mj_H) (p : Int32 × mj_H) (hf : f_L_law_577 L xs K18 v1 v2 v3 s0 s1 s2 s3 s4 h = some p) : mj_W (mL_law nm) (mj_FX L xs p) 577 [(0, .ref 2000), (1, .ref v1), (2, .ref v2), (3, .int v3)] [.int s4, .int s3, .int s2, .ref s1, .int s0] h 65 3281 := by
  unfold f_L_law_577 at hf
  obtain ⟨gp7, hf⟩ := mj_gd hf
  obtain ⟨p7, ep7, hf⟩ := mj_bd hf
  refine mj_callV (T := TX9) (N := 20) (ci := 9) mX9_cases [.int s2, .int s3, .int s4] 329 rfl ll_L_66 lb_X9_cases li_X9_cases ⟨Nat.le_of_ble_eq_true rfl, Nat.le_of_ble_eq_true rfl⟩ rfl gp7 rfl (rest := [.int s0]) rfl (Nat.le_of_ble_eq_true rfl) ⟨Nat.le_of_ble_eq_true rfl, Nat.le_of_ble_eq_true rfl⟩ (c_X9_cases s1 s2 s3 s4 h p7 ep7) ?_
  show mj_W (mL_law nm) (mj_FX L xs p) 580 [(0, .ref 2000), (1, .ref v1), (2, .ref v2), (3, .int v3)] [.int p7.1, .int s0] p7.2 65 3281
  refine mj_icmp_eq 330 1259 rfl (by decide) (fun q => ?_) (fun q => ?_)
  · have hf := (if_pos q).symm.trans hf
    exact w_L_law_1259 L xs K18 hK18 v1 v2 v3 p7.2 _ hf
  · have hf := (if_neg q).symm.trans hf
    refine mj_blk k_L_ok 331 1 (pc' := 584) (l' := [(0, .ref 2000), (1, .ref v1), (2, .ref v2), (3, .int v3)]) (st' := [.int (0 : Int32)]) rfl ?_
    obtain rfl := Option.some.inj hf
    exact mj_end (some (.int (0 : Int32))) ⟨mj_dec tok_L_law (a := 332) rfl, .boolean, rfl, rfl⟩ ⟨rfl, rfl⟩ (Nat.le_of_ble_eq_true rfl) (Nat.le_of_ble_eq_true rfl)
def f_L_law_550 (L : Nat) (xs : Nat → Int32) (K18 : Nat → Nat → Int32 → mj_H → Option (Int32 × mj_H)) (v1 : Nat) (v2 : Nat) (v3 : Int32) (s0 : Nat) (s1 : Int32) (s2 : Int32) (s3 : Int32) (h : mj_H) : Option (Int32 × mj_H) := (if mj_ob h s0 8 = true then (f_X8_cases s0 s1 s2 s3 h).bind fun p8 => (mj_xl L xs (v3 + (1 : Int32))).bind fun x9 => (mj_xl L xs (v3 + (2 : Int32))).bind fun x10 => (mj_xl L xs (v3 + (3 : Int32))).bind fun x11 => (if x11 = 0 then f_L_law_577 L xs K18 v1 v2 v3 p8.1 v2 x9 x10 (0 : Int32) p8.2 else f_L_law_577 L xs K18 v1 v2 v3 p8.1 v2 x9 x10 (1 : Int32) p8.2) else none)
set_option maxHeartbeats 4000000 in
set_option maxRecDepth 100000 in
theorem w_L_law_550 {nm : String} (L : Nat) (xs : Nat → Int32) (K18 : Nat → Nat → Int32 → mj_H → Option (Int32 × mj_H)) (hK18 : ∀ (v1 : Nat) (v2 : Nat) (v3 : Int32)  (h : mj_H) (p : Int32 × mj_H), K18 v1 v2 v3 h = some p → mj_W (mL_law nm) (mj_FX L xs p) 18 [(0, .ref 2000), (1, .ref v1), (2, .ref v2), (3, .int v3)] [] h 65 3281) (v1 : Nat) (v2 : Nat) (v3 : Int32) (s0 : Nat) (s1 : Int32) (s2 : Int32) (s3 : Int32) (h : mj_H) (p : Int32 × mj_H) (hf : f_L_law_550 L xs K18 v1 v2 v3 s0 s1 s2 s3 h = some p) : mj_W (mL_law nm) (mj_FX L xs p) 550 [(0, .ref 2000), (1, .ref v1), (2, .ref v2), (3, .int v3)] [.int s3, .int s2, .int s1, .ref s0] h 65 3281 := by
  unfold f_L_law_550 at hf
  obtain ⟨gp8, hf⟩ := mj_gd hf
  obtain ⟨p8, ep8, hf⟩ := mj_bd hf
  refine mj_callV (T := TX8) (N := 14) (ci := 8) mX8_cases [.int s1, .int s2, .int s3] 308 rfl ll_L_63 lb_X8_cases li_X8_cases ⟨Nat.le_of_ble_eq_true rfl, Nat.le_of_ble_eq_true rfl⟩ rfl gp8 rfl (rest := []) rfl (Nat.le_of_ble_eq_true rfl) ⟨Nat.le_of_ble_eq_true rfl, Nat.le_of_ble_eq_true rfl⟩ (c_X8_cases s0 s1 s2 s3 h p8 ep8) ?_
  show mj_W (mL_law nm) (mj_FX L xs p) 553 [(0, .ref 2000), (1, .ref v1), (2, .ref v2), (3, .int v3)] [.int p8.1] p8.2 65 3281
  refine mj_blk k_L_ok 309 5 (pc' := 558) (l' := [(0, .ref 2000), (1, .ref v1), (2, .ref v2), (3, .int v3)]) (st' := [.int (v3 + (1 : Int32)), .ref 2000, .ref v2, .int p8.1]) rfl ?_
  obtain ⟨x9, ex9, hf⟩ := mj_bd hf
  refine mj_xld 314 rfl ex9 ?_
  refine mj_blk k_L_ok 315 4 (pc' := 563) (l' := [(0, .ref 2000), (1, .ref v1), (2, .ref v2), (3, .int v3)]) (st' := [.int (v3 + (2 : Int32)), .ref 2000, .int x9, .ref v2, .int p8.1]) rfl ?_
  obtain ⟨x10, ex10, hf⟩ := mj_bd hf
  refine mj_xld 319 rfl ex10 ?_
  refine mj_blk k_L_ok 320 4 (pc' := 568) (l' := [(0, .ref 2000), (1, .ref v1), (2, .ref v2), (3, .int v3)]) (st' := [.int (v3 + (3 : Int32)), .ref 2000, .int x10, .int x9, .ref v2, .int p8.1]) rfl ?_
  obtain ⟨x11, ex11, hf⟩ := mj_bd hf
  refine mj_xld 324 rfl ex11 ?_
  refine mj_if_eq 325 576 rfl (by decide) (fun q => ?_) (fun q => ?_)
  · have hf := (if_pos q).symm.trans hf
    refine mj_blk k_L_ok 328 1 (pc' := 577) (l' := [(0, .ref 2000), (1, .ref v1), (2, .ref v2), (3, .int v3)]) (st' := [.int (0 : Int32), .int x10, .int x9, .ref v2, .int p8.1]) rfl ?_
    exact w_L_law_577 L xs K18 hK18 v1 v2 v3 p8.1 v2 x9 x10 (0 : Int32) p8.2 _ hf
  · have hf := (if_neg q).symm.trans hf
    refine mj_blk k_L_ok 326 2 (pc' := 577) (l' := [(0, .ref 2000), (1, .ref v1), (2, .ref v2), (3, .int v3)]) (st' := [.int (1 : Int32), .int x10, .int x9, .ref v2, .int p8.1]) rfl ?_
    exact w_L_law_577 L xs K18 hK18 v1 v2 v3 p8.1 v2 x9 x10 (1 : Int32) p8.2 _ hf
def f_L_law_471 (L : Nat) (xs : Nat → Int32) (K18 : Nat → Nat → Int32 → mj_H → Option (Int32 × mj_H)) (v1 : Nat) (v2 : Nat) (v3 : Int32) (s0 : Int32) (s1 : Nat) (s2 : Int32) (s3 : Int32) (s4 : Int32) (h : mj_H) : Option (Int32 × mj_H) := (if mj_ob h s1 9 = true then (f_X9_test s1 s2 s3 s4 h).bind fun p12 => (if s0 = p12.1 then f_L_law_1259 L xs K18 v1 v2 v3 p12.2 else some ((0 : Int32), p12.2)) else none)
set_option maxHeartbeats 4000000 in
set_option maxRecDepth 100000 in
theorem w_L_law_471 {nm : String} (L : Nat) (xs : Nat → Int32) (K18 : Nat → Nat → Int32 → mj_H → Option (Int32 × mj_H)) (hK18 : ∀ (v1 : Nat) (v2 : Nat) (v3 : Int32)  (h : mj_H) (p : Int32 × mj_H), K18 v1 v2 v3 h = some p → mj_W (mL_law nm) (mj_FX L xs p) 18 [(0, .ref 2000), (1, .ref v1), (2, .ref v2), (3, .int v3)] [] h 65 3281) (v1 : Nat) (v2 : Nat) (v3 : Int32) (s0 : Int32) (s1 : Nat) (s2 : Int32) (s3 : Int32) (s4 : Int32) (h : mj_H) (p : Int32 × mj_H) (hf : f_L_law_471 L xs K18 v1 v2 v3 s0 s1 s2 s3 s4 h = some p) : mj_W (mL_law nm) (mj_FX L xs p) 471 [(0, .ref 2000), (1, .ref v1), (2, .ref v2), (3, .int v3)] [.int s4, .int s3, .int s2, .ref s1, .int s0] h 65 3281 := by
  unfold f_L_law_471 at hf
  obtain ⟨gp12, hf⟩ := mj_gd hf
  obtain ⟨p12, ep12, hf⟩ := mj_bd hf
  refine mj_callV (T := TX9) (N := 20) (ci := 9) mX9_test [.int s2, .int s3, .int s4] 249 rfl ll_L_53 lb_X9_test li_X9_test ⟨Nat.le_of_ble_eq_true rfl, Nat.le_of_ble_eq_true rfl⟩ rfl gp12 rfl (rest := [.int s0]) rfl (Nat.le_of_ble_eq_true rfl) ⟨Nat.le_of_ble_eq_true rfl, Nat.le_of_ble_eq_true rfl⟩ (c_X9_test s1 s2 s3 s4 h p12 ep12) ?_
  show mj_W (mL_law nm) (mj_FX L xs p) 474 [(0, .ref 2000), (1, .ref v1), (2, .ref v2), (3, .int v3)] [.int p12.1, .int s0] p12.2 65 3281
  refine mj_icmp_eq 250 1259 rfl (by decide) (fun q => ?_) (fun q => ?_)
  · have hf := (if_pos q).symm.trans hf
    exact w_L_law_1259 L xs K18 hK18 v1 v2 v3 p12.2 _ hf
  · have hf := (if_neg q).symm.trans hf
    refine mj_blk k_L_ok 251 1 (pc' := 478) (l' := [(0, .ref 2000), (1, .ref v1), (2, .ref v2), (3, .int v3)]) (st' := [.int (0 : Int32)]) rfl ?_
    obtain rfl := Option.some.inj hf
    exact mj_end (some (.int (0 : Int32))) ⟨mj_dec tok_L_law (a := 252) rfl, .boolean, rfl, rfl⟩ ⟨rfl, rfl⟩ (Nat.le_of_ble_eq_true rfl) (Nat.le_of_ble_eq_true rfl)
def f_L_law_444 (L : Nat) (xs : Nat → Int32) (K18 : Nat → Nat → Int32 → mj_H → Option (Int32 × mj_H)) (v1 : Nat) (v2 : Nat) (v3 : Int32) (s0 : Nat) (s1 : Int32) (s2 : Int32) (s3 : Int32) (h : mj_H) : Option (Int32 × mj_H) := (if mj_ob h s0 8 = true then (f_X8_test s0 s1 s2 s3 h).bind fun p13 => (mj_xl L xs (v3 + (1 : Int32))).bind fun x14 => (mj_xl L xs (v3 + (2 : Int32))).bind fun x15 => (mj_xl L xs (v3 + (3 : Int32))).bind fun x16 => (if x16 = 0 then f_L_law_471 L xs K18 v1 v2 v3 p13.1 v2 x14 x15 (0 : Int32) p13.2 else f_L_law_471 L xs K18 v1 v2 v3 p13.1 v2 x14 x15 (1 : Int32) p13.2) else none)
set_option maxHeartbeats 4000000 in
set_option maxRecDepth 100000 in
theorem w_L_law_444 {nm : String} (L : Nat) (xs : Nat → Int32) (K18 : Nat → Nat → Int32 → mj_H → Option (Int32 × mj_H)) (hK18 : ∀ (v1 : Nat) (v2 : Nat) (v3 : Int32)  (h : mj_H) (p : Int32 × mj_H), K18 v1 v2 v3 h = some p → mj_W (mL_law nm) (mj_FX L xs p) 18 [(0, .ref 2000), (1, .ref v1), (2, .ref v2), (3, .int v3)] [] h 65 3281) (v1 : Nat) (v2 : Nat) (v3 : Int32) (s0 : Nat) (s1 : Int32) (s2 : Int32) (s3 : Int32) (h : mj_H) (p : Int32 × mj_H) (hf : f_L_law_444 L xs K18 v1 v2 v3 s0 s1 s2 s3 h = some p) : mj_W (mL_law nm) (mj_FX L xs p) 444 [(0, .ref 2000), (1, .ref v1), (2, .ref v2), (3, .int v3)] [.int s3, .int s2, .int s1, .ref s0] h 65 3281 := by
  unfold f_L_law_444 at hf
  obtain ⟨gp13, hf⟩ := mj_gd hf
  obtain ⟨p13, ep13, hf⟩ := mj_bd hf
  refine mj_callV (T := TX8) (N := 14) (ci := 8) mX8_test [.int s1, .int s2, .int s3] 228 rfl ll_L_49 lb_X8_test li_X8_test ⟨Nat.le_of_ble_eq_true rfl, Nat.le_of_ble_eq_true rfl⟩ rfl gp13 rfl (rest := []) rfl (Nat.le_of_ble_eq_true rfl) ⟨Nat.le_of_ble_eq_true rfl, Nat.le_of_ble_eq_true rfl⟩ (c_X8_test s0 s1 s2 s3 h p13 ep13) ?_
  show mj_W (mL_law nm) (mj_FX L xs p) 447 [(0, .ref 2000), (1, .ref v1), (2, .ref v2), (3, .int v3)] [.int p13.1] p13.2 65 3281
  refine mj_blk k_L_ok 229 5 (pc' := 452) (l' := [(0, .ref 2000), (1, .ref v1), (2, .ref v2), (3, .int v3)]) (st' := [.int (v3 + (1 : Int32)), .ref 2000, .ref v2, .int p13.1]) rfl ?_
  obtain ⟨x14, ex14, hf⟩ := mj_bd hf
  refine mj_xld 234 rfl ex14 ?_
  refine mj_blk k_L_ok 235 4 (pc' := 457) (l' := [(0, .ref 2000), (1, .ref v1), (2, .ref v2), (3, .int v3)]) (st' := [.int (v3 + (2 : Int32)), .ref 2000, .int x14, .ref v2, .int p13.1]) rfl ?_
  obtain ⟨x15, ex15, hf⟩ := mj_bd hf
  refine mj_xld 239 rfl ex15 ?_
  refine mj_blk k_L_ok 240 4 (pc' := 462) (l' := [(0, .ref 2000), (1, .ref v1), (2, .ref v2), (3, .int v3)]) (st' := [.int (v3 + (3 : Int32)), .ref 2000, .int x15, .int x14, .ref v2, .int p13.1]) rfl ?_
  obtain ⟨x16, ex16, hf⟩ := mj_bd hf
  refine mj_xld 244 rfl ex16 ?_
  refine mj_if_eq 245 470 rfl (by decide) (fun q => ?_) (fun q => ?_)
  · have hf := (if_pos q).symm.trans hf
    refine mj_blk k_L_ok 248 1 (pc' := 471) (l' := [(0, .ref 2000), (1, .ref v1), (2, .ref v2), (3, .int v3)]) (st' := [.int (0 : Int32), .int x15, .int x14, .ref v2, .int p13.1]) rfl ?_
    exact w_L_law_471 L xs K18 hK18 v1 v2 v3 p13.1 v2 x14 x15 (0 : Int32) p13.2 _ hf
  · have hf := (if_neg q).symm.trans hf
    refine mj_blk k_L_ok 246 2 (pc' := 471) (l' := [(0, .ref 2000), (1, .ref v1), (2, .ref v2), (3, .int v3)]) (st' := [.int (1 : Int32), .int x15, .int x14, .ref v2, .int p13.1]) rfl ?_
    exact w_L_law_471 L xs K18 hK18 v1 v2 v3 p13.1 v2 x14 x15 (1 : Int32) p13.2 _ hf
def b_L_law_18 (L : Nat) (xs : Nat → Int32) (K18 : Nat → Nat → Int32 → mj_H → Option (Int32 × mj_H)) (v1 : Nat) (v2 : Nat) (v3 : Int32) (h : mj_H) : Option (Int32 × mj_H) := (if ((Int32.ofNat L) - (7 : Int32)) < v3 then some ((1 : Int32), h) else (mj_xl L xs v3).bind fun x17 => (if (x17 &&& (63 : Int32)) = (0 : Int32) then (mj_xl L xs (v3 + (1 : Int32))).bind fun x18 => (if mj_ob h v1 8 = true then (f_X8_muster v1 x18 h).bind fun p19 => (mj_xl L xs (v3 + (1 : Int32))).bind fun x20 => (if mj_ob p19.2 v2 9 = true then (f_X9_muster v2 x20 p19.2).bind fun p21 => (if p19.1 = p21.1 then f_L_law_1259 L xs K18 v1 v2 v3 p21.2 else some ((0 : Int32), p21.2)) else none) else none) else (if (x17 &&& (63 : Int32)) = (1 : Int32) then (mj_xl L xs (v3 + (1 : Int32))).bind fun x22 => (mj_xl L xs (v3 + (2 : Int32))).bind fun x23 => (mj_xl L xs (v3 + (3 : Int32))).bind fun x24 => (mj_xl L xs (v3 + (4 : Int32))).bind fun x25 => (mj_xl L xs (v3 + (5 : Int32))).bind fun x26 => (mj_xl L xs (v3 + (6 : Int32))).bind fun x27 => (if mj_ob h v1 8 = true then (f_X8_man v1 x22 x23 x24 x25 x26 x27 h).bind fun p28 => (mj_xl L xs (v3 + (1 : Int32))).bind fun x29 => (mj_xl L xs (v3 + (2 : Int32))).bind fun x30 => (mj_xl L xs (v3 + (3 : Int32))).bind fun x31 => (mj_xl L xs (v3 + (4 : Int32))).bind fun x32 => (mj_xl L xs (v3 + (5 : Int32))).bind fun x33 => (mj_xl L xs (v3 + (6 : Int32))).bind fun x34 => (if mj_ob p28.2 v2 9 = true then (f_X9_man v2 x29 x30 x31 x32 x33 x34 p28.2).bind fun p35 => (if p28.1 = p35.1 then f_L_law_1259 L xs K18 v1 v2 v3 p35.2 else some ((0 : Int32), p35.2)) else none) else none) else (if (x17 &&& (63 : Int32)) = (2 : Int32) then (mj_xl L xs (v3 + (1 : Int32))).bind fun x36 => (mj_xl L xs (v3 + (2 : Int32))).bind fun x37 => (if mj_ob h v1 8 = true then (f_X8_worn v1 x36 x37 h).bind fun p38 => (mj_xl L xs (v3 + (1 : Int32))).bind fun x39 => (mj_xl L xs (v3 + (2 : Int32))).bind fun x40 => (if mj_ob p38.2 v2 9 = true then (f_X9_worn v2 x39 x40 p38.2).bind fun p41 => (if p38.1 = p41.1 then f_L_law_1259 L xs K18 v1 v2 v3 p41.2 else some ((0 : Int32), p41.2)) else none) else none) else (if (x17 &&& (63 : Int32)) = (3 : Int32) then (mj_xl L xs (v3 + (1 : Int32))).bind fun x42 => (mj_xl L xs (v3 + (2 : Int32))).bind fun x43 => (if mj_ob h v1 8 = true then (f_X8_pair v1 x42 x43 h).bind fun p44 => (mj_xl L xs (v3 + (1 : Int32))).bind fun x45 => (mj_xl L xs (v3 + (2 : Int32))).bind fun x46 => (if mj_ob p44.2 v2 9 = true then (f_X9_pair v2 x45 x46 p44.2).bind fun p47 => (if p44.1 = p47.1 then f_L_law_1259 L xs K18 v1 v2 v3 p47.2 else some ((0 : Int32), p47.2)) else none) else none) else (if (x17 &&& (63 : Int32)) = (4 : Int32) then (mj_xl L xs (v3 + (1 : Int32))).bind fun x48 => (if mj_ob h v1 8 = true then (f_X8_word v1 x48 h).bind fun p49 => (mj_xl L xs (v3 + (1 : Int32))).bind fun x50 => (if mj_ob p49.2 v2 9 = true then (f_X9_word v2 x50 p49.2).bind fun p51 => (if p49.1 = p51.1 then f_L_law_1259 L xs K18 v1 v2 v3 p51.2 else some ((0 : Int32), p51.2)) else none) else none) else (if (x17 &&& (63 : Int32)) = (5 : Int32) then (mj_xl L xs (v3 + (1 : Int32))).bind fun x52 => (if mj_ob h v1 8 = true then (f_X8_type v1 x52 h).bind fun p53 => (mj_xl L xs (v3 + (1 : Int32))).bind fun x54 => (if mj_ob p53.2 v2 9 = true then (f_X9_type v2 x54 p53.2).bind fun p55 => (if p53.1 = p55.1 then f_L_law_1259 L xs K18 v1 v2 v3 p55.2 else some ((0 : Int32), p55.2)) else none) else none) else (if (x17 &&& (63 : Int32)) = (6 : Int32) then (if mj_ob h v1 8 = true then (f_X8_clear v1 h).bind fun p56 => (if mj_ob p56.2 v2 9 = true then (f_X9_clear v2 p56.2).bind fun p57 => (if p56.1 = p57.1 then f_L_law_1259 L xs K18 v1 v2 v3 p57.2 else some ((0 : Int32), p57.2)) else none) else none) else (if (x17 &&& (63 : Int32)) = (7 : Int32) then (if mj_ob h v1 8 = true then (f_X8_read v1 h).bind fun p58 => (if mj_ob p58.2 v2 9 = true then (f_X9_read v2 p58.2).bind fun p59 => (if p58.1 = p59.1 then f_L_law_1259 L xs K18 v1 v2 v3 p59.2 else some ((0 : Int32), p59.2)) else none) else none) else (if (x17 &&& (63 : Int32)) = (8 : Int32) then (mj_xl L xs (v3 + (1 : Int32))).bind fun x60 => (mj_xl L xs (v3 + (2 : Int32))).bind fun x61 => (mj_xl L xs (v3 + (3 : Int32))).bind fun x62 => (if x62 = 0 then f_L_law_444 L xs K18 v1 v2 v3 v1 x60 x61 (0 : Int32) h else f_L_law_444 L xs K18 v1 v2 v3 v1 x60 x61 (1 : Int32) h) else (if (x17 &&& (63 : Int32)) = (9 : Int32) then (if mj_ob h v1 8 = true then (f_X8_undo v1 h).bind fun p63 => (if mj_ob p63.2 v2 9 = true then (f_X9_undo v2 p63.2).bind fun p64 => (if p63.1 = p64.1 then f_L_law_1259 L xs K18 v1 v2 v3 p64.2 else some ((0 : Int32), p64.2)) else none) else none) else (if (x17 &&& (63 : Int32)) = (10 : Int32) then (mj_xl L xs (v3 + (1 : Int32))).bind fun x65 => (mj_xl L xs (v3 + (2 : Int32))).bind fun x66 => (if mj_ob h v1 8 = true then (f_X8_weight v1 x65 x66 h).bind fun p67 => (mj_xl L xs (v3 + (1 : Int32))).bind fun x68 => (mj_xl L xs (v3 + (2 : Int32))).bind fun x69 => (if mj_ob p67.2 v2 9 = true then (f_X9_weight v2 x68 x69 p67.2).bind fun p70 => (if p67.1 = p70.1 then f_L_law_1259 L xs K18 v1 v2 v3 p70.2 else some ((0 : Int32), p70.2)) else none) else none) else (if (x17 &&& (63 : Int32)) = (11 : Int32) then (mj_xl L xs (v3 + (1 : Int32))).bind fun x71 => (mj_xl L xs (v3 + (2 : Int32))).bind fun x72 => (mj_xl L xs (v3 + (3 : Int32))).bind fun x73 => (if x73 = 0 then f_L_law_550 L xs K18 v1 v2 v3 v1 x71 x72 (0 : Int32) h else f_L_law_550 L xs K18 v1 v2 v3 v1 x71 x72 (1 : Int32) h) else (if (x17 &&& (63 : Int32)) = (12 : Int32) then (mj_xl L xs (v3 + (1 : Int32))).bind fun x74 => (if mj_ob h v1 8 = true then (f_X8_trust v1 x74 h).bind fun p75 => (mj_xl L xs (v3 + (1 : Int32))).bind fun x76 => (if mj_ob p75.2 v2 9 = true then (f_X9_trust v2 x76 p75.2).bind fun p77 => (if p75.1 = p77.1 then f_L_law_1259 L xs K18 v1 v2 v3 p77.2 else some ((0 : Int32), p77.2)) else none) else none) else (if (x17 &&& (63 : Int32)) = (13 : Int32) then (mj_xl L xs (v3 + (1 : Int32))).bind fun x78 => (mj_xl L xs (v3 + (2 : Int32))).bind fun x79 => (if mj_ob h v1 8 = true then (f_X8_shows v1 x78 x79 h).bind fun p80 => (mj_xl L xs (v3 + (1 : Int32))).bind fun x81 => (mj_xl L xs (v3 + (2 : Int32))).bind fun x82 => (if mj_ob p80.2 v2 9 = true then (f_X9_shows v2 x81 x82 p80.2).bind fun p83 => (if p80.1 = p83.1 then f_L_law_1259 L xs K18 v1 v2 v3 p83.2 else some ((0 : Int32), p83.2)) else none) else none) else (if (x17 &&& (63 : Int32)) = (14 : Int32) then (mj_xl L xs (v3 + (1 : Int32))).bind fun x84 => (mj_xl L xs (v3 + (2 : Int32))).bind fun x85 => (if mj_ob h v1 8 = true then (f_X8_of v1 x84 x85 h).bind fun p86 => (mj_xl L xs (v3 + (1 : Int32))).bind fun x87 => (mj_xl L xs (v3 + (2 : Int32))).bind fun x88 => (if mj_ob p86.2 v2 9 = true then (f_X9_of v2 x87 x88 p86.2).bind fun p89 => (if p86.1 = p89.1 then f_L_law_1259 L xs K18 v1 v2 v3 p89.2 else some ((0 : Int32), p89.2)) else none) else none) else (if (x17 &&& (63 : Int32)) = (15 : Int32) then (mj_xl L xs (v3 + (1 : Int32))).bind fun x90 => (mj_xl L xs (v3 + (2 : Int32))).bind fun x91 => (if mj_ob h v1 8 = true then (f_X8_hold v1 x90 x91 h).bind fun p92 => (mj_xl L xs (v3 + (1 : Int32))).bind fun x93 => (mj_xl L xs (v3 + (2 : Int32))).bind fun x94 => (if mj_ob p92.2 v2 9 = true then (f_X9_hold v2 x93 x94 p92.2).bind fun p95 => (if p92.1 = p95.1 then f_L_law_1259 L xs K18 v1 v2 v3 p95.2 else some ((0 : Int32), p95.2)) else none) else none) else (if (x17 &&& (63 : Int32)) = (16 : Int32) then (mj_xl L xs (v3 + (1 : Int32))).bind fun x96 => (mj_xl L xs (v3 + (2 : Int32))).bind fun x97 => (if mj_ob h v1 8 = true then (f_X8_keep v1 x96 x97 h).bind fun p98 => (mj_xl L xs (v3 + (1 : Int32))).bind fun x99 => (mj_xl L xs (v3 + (2 : Int32))).bind fun x100 => (if mj_ob p98.2 v2 9 = true then (f_X9_keep v2 x99 x100 p98.2).bind fun p101 => (if p98.1 = p101.1 then f_L_law_1259 L xs K18 v1 v2 v3 p101.2 else some ((0 : Int32), p101.2)) else none) else none) else (if (x17 &&& (63 : Int32)) = (17 : Int32) then (mj_xl L xs (v3 + (1 : Int32))).bind fun x102 => (mj_xl L xs (v3 + (2 : Int32))).bind fun x103 => (mj_xl L xs (v3 + (3 : Int32))).bind fun x104 => (mj_xl L xs (v3 + (4 : Int32))).bind fun x105 => (if mj_ob h v1 8 = true then (f_X8_worth v1 x102 x103 x104 x105 h).bind fun p106 => (mj_xl L xs (v3 + (1 : Int32))).bind fun x107 => (mj_xl L xs (v3 + (2 : Int32))).bind fun x108 => (mj_xl L xs (v3 + (3 : Int32))).bind fun x109 => (mj_xl L xs (v3 + (4 : Int32))).bind fun x110 => (if mj_ob p106.2 v2 9 = true then (f_X9_worth v2 x107 x108 x109 x110 p106.2).bind fun p111 => (if p106.1 = p111.1 then f_L_law_1259 L xs K18 v1 v2 v3 p111.2 else some ((0 : Int32), p111.2)) else none) else none) else (if (x17 &&& (63 : Int32)) = (18 : Int32) then (mj_xl L xs (v3 + (1 : Int32))).bind fun x112 => (mj_xl L xs (v3 + (2 : Int32))).bind fun x113 => (if mj_ob h v1 8 = true then (f_X8_best v1 x112 x113 h).bind fun p114 => (mj_xl L xs (v3 + (1 : Int32))).bind fun x115 => (mj_xl L xs (v3 + (2 : Int32))).bind fun x116 => (if mj_ob p114.2 v2 9 = true then (f_X9_best v2 x115 x116 p114.2).bind fun p117 => (if p114.1 = p117.1 then f_L_law_1259 L xs K18 v1 v2 v3 p117.2 else some ((0 : Int32), p117.2)) else none) else none) else (if (x17 &&& (63 : Int32)) = (19 : Int32) then (mj_xl L xs (v3 + (1 : Int32))).bind fun x118 => (mj_xl L xs (v3 + (2 : Int32))).bind fun x119 => (mj_xl L xs (v3 + (3 : Int32))).bind fun x120 => (if mj_ob h v1 8 = true then (f_X8_sift v1 x118 x119 x120 h).bind fun p121 => (mj_xl L xs (v3 + (1 : Int32))).bind fun x122 => (mj_xl L xs (v3 + (2 : Int32))).bind fun x123 => (mj_xl L xs (v3 + (3 : Int32))).bind fun x124 => (if mj_ob p121.2 v2 9 = true then (f_X9_sift v2 x122 x123 x124 p121.2).bind fun p125 => (if p121.1 = p125.1 then f_L_law_1259 L xs K18 v1 v2 v3 p125.2 else some ((0 : Int32), p125.2)) else none) else none) else (if (x17 &&& (63 : Int32)) = (20 : Int32) then (mj_xl L xs (v3 + (1 : Int32))).bind fun x126 => (if mj_ob h v1 8 = true then (f_X8_runs v1 x126 h).bind fun p127 => (mj_xl L xs (v3 + (1 : Int32))).bind fun x128 => (if mj_ob p127.2 v2 9 = true then (f_X9_runs v2 x128 p127.2).bind fun p129 => (if p127.1 = p129.1 then f_L_law_1259 L xs K18 v1 v2 v3 p129.2 else some ((0 : Int32), p129.2)) else none) else none) else (if (x17 &&& (63 : Int32)) = (21 : Int32) then (mj_xl L xs (v3 + (1 : Int32))).bind fun x130 => (if mj_ob h v1 8 = true then (f_X8_home v1 x130 h).bind fun p131 => (mj_xl L xs (v3 + (1 : Int32))).bind fun x132 => (if mj_ob p131.2 v2 9 = true then (f_X9_home v2 x132 p131.2).bind fun p133 => (if p131.1 = p133.1 then f_L_law_1259 L xs K18 v1 v2 v3 p133.2 else some ((0 : Int32), p133.2)) else none) else none) else (if (x17 &&& (63 : Int32)) = (22 : Int32) then (mj_xl L xs (v3 + (1 : Int32))).bind fun x134 => (if mj_ob h v1 8 = true then (f_X8_spy v1 x134 h).bind fun p135 => (mj_xl L xs (v3 + (1 : Int32))).bind fun x136 => (if mj_ob p135.2 v2 9 = true then (f_X9_spy v2 x136 p135.2).bind fun p137 => (if p135.1 = p137.1 then f_L_law_1259 L xs K18 v1 v2 v3 p137.2 else some ((0 : Int32), p137.2)) else none) else none) else (if (x17 &&& (63 : Int32)) = (23 : Int32) then (mj_xl L xs (v3 + (1 : Int32))).bind fun x138 => (mj_xl L xs (v3 + (2 : Int32))).bind fun x139 => (if x139 = 0 then f_L_law_957 L xs K18 v1 v2 v3 v1 x138 (0 : Int32) h else f_L_law_957 L xs K18 v1 v2 v3 v1 x138 (1 : Int32) h) else (if (x17 &&& (63 : Int32)) = (24 : Int32) then (mj_xl L xs (v3 + (1 : Int32))).bind fun x140 => (if mj_ob h v1 8 = true then (f_X8_next v1 x140 h).bind fun p141 => (mj_xl L xs (v3 + (1 : Int32))).bind fun x142 => (if mj_ob p141.2 v2 9 = true then (f_X9_next v2 x142 p141.2).bind fun p143 => (if p141.1 = p143.1 then f_L_law_1259 L xs K18 v1 v2 v3 p143.2 else some ((0 : Int32), p143.2)) else none) else none) else (if (x17 &&& (63 : Int32)) = (25 : Int32) then (mj_xl L xs (v3 + (1 : Int32))).bind fun x144 => (mj_xl L xs (v3 + (2 : Int32))).bind fun x145 => (mj_xl L xs (v3 + (3 : Int32))).bind fun x146 => (if mj_ob h v1 8 = true then (f_X8_boast v1 x144 x145 x146 h).bind fun p147 => (mj_xl L xs (v3 + (1 : Int32))).bind fun x148 => (mj_xl L xs (v3 + (2 : Int32))).bind fun x149 => (mj_xl L xs (v3 + (3 : Int32))).bind fun x150 => (if mj_ob p147.2 v2 9 = true then (f_X9_boast v2 x148 x149 x150 p147.2).bind fun p151 => (if p147.1 = p151.1 then f_L_law_1259 L xs K18 v1 v2 v3 p151.2 else some ((0 : Int32), p151.2)) else none) else none) else (if (x17 &&& (63 : Int32)) = (26 : Int32) then (mj_xl L xs (v3 + (1 : Int32))).bind fun x152 => (if mj_ob h v1 8 = true then (f_X8_again v1 x152 h).bind fun p153 => (mj_xl L xs (v3 + (1 : Int32))).bind fun x154 => (if mj_ob p153.2 v2 9 = true then (f_X9_again v2 x154 p153.2).bind fun p155 => (if p153.1 = p155.1 then f_L_law_1259 L xs K18 v1 v2 v3 p155.2 else some ((0 : Int32), p155.2)) else none) else none) else (if (x17 &&& (63 : Int32)) = (27 : Int32) then (mj_xl L xs (v3 + (1 : Int32))).bind fun x156 => (mj_xl L xs (v3 + (2 : Int32))).bind fun x157 => (mj_xl L xs (v3 + (3 : Int32))).bind fun x158 => (if mj_ob h v1 8 = true then (f_X8_drawn v1 x156 x157 x158 h).bind fun p159 => (mj_xl L xs (v3 + (1 : Int32))).bind fun x160 => (mj_xl L xs (v3 + (2 : Int32))).bind fun x161 => (mj_xl L xs (v3 + (3 : Int32))).bind fun x162 => (if mj_ob p159.2 v2 9 = true then (f_X9_drawn v2 x160 x161 x162 p159.2).bind fun p163 => (if p159.1 = p163.1 then f_L_law_1259 L xs K18 v1 v2 v3 p163.2 else some ((0 : Int32), p163.2)) else none) else none) else (if (x17 &&& (63 : Int32)) = (28 : Int32) then (mj_xl L xs (v3 + (1 : Int32))).bind fun x164 => (if mj_ob h v1 8 = true then (f_X8_part v1 x164 h).bind fun p165 => (mj_xl L xs (v3 + (1 : Int32))).bind fun x166 => (if mj_ob p165.2 v2 9 = true then (f_X9_part v2 x166 p165.2).bind fun p167 => (if p165.1 = p167.1 then f_L_law_1259 L xs K18 v1 v2 v3 p167.2 else some ((0 : Int32), p167.2)) else none) else none) else (if (x17 &&& (63 : Int32)) = (29 : Int32) then (mj_xl L xs (v3 + (1 : Int32))).bind fun x168 => (if mj_ob h v1 8 = true then (f_X8_image v1 x168 h).bind fun p169 => (mj_xl L xs (v3 + (1 : Int32))).bind fun x170 => (if mj_ob p169.2 v2 9 = true then (f_X9_image v2 x170 p169.2).bind fun p171 => (if p169.1 = p171.1 then f_L_law_1259 L xs K18 v1 v2 v3 p171.2 else some ((0 : Int32), p171.2)) else none) else none) else (if (x17 &&& (63 : Int32)) = (30 : Int32) then (mj_xl L xs (v3 + (1 : Int32))).bind fun x172 => (if mj_ob h v1 8 = true then (f_X8_from v1 x172 h).bind fun p173 => (mj_xl L xs (v3 + (1 : Int32))).bind fun x174 => (if mj_ob p173.2 v2 9 = true then (f_X9_from v2 x174 p173.2).bind fun p175 => (if p173.1 = p175.1 then f_L_law_1259 L xs K18 v1 v2 v3 p175.2 else some ((0 : Int32), p175.2)) else none) else none) else (if (x17 &&& (63 : Int32)) = (31 : Int32) then (mj_xl L xs (v3 + (1 : Int32))).bind fun x176 => (if mj_ob h v1 8 = true then (f_X8_status v1 x176 h).bind fun p177 => (mj_xl L xs (v3 + (1 : Int32))).bind fun x178 => (if mj_ob p177.2 v2 9 = true then (f_X9_status v2 x178 p177.2).bind fun p179 => (if p177.1 = p179.1 then f_L_law_1259 L xs K18 v1 v2 v3 p179.2 else some ((0 : Int32), p179.2)) else none) else none) else (if (x17 &&& (63 : Int32)) = (32 : Int32) then (mj_xl L xs (v3 + (1 : Int32))).bind fun x180 => (if mj_ob h v1 8 = true then (f_X8_count v1 x180 h).bind fun p181 => (mj_xl L xs (v3 + (1 : Int32))).bind fun x182 => (if mj_ob p181.2 v2 9 = true then (f_X9_count v2 x182 p181.2).bind fun p183 => (if p181.1 = p183.1 then f_L_law_1259 L xs K18 v1 v2 v3 p183.2 else some ((0 : Int32), p183.2)) else none) else none) else (if (x17 &&& (63 : Int32)) = (33 : Int32) then (if mj_ob h v1 8 = true then (f_X8_digest v1 h).bind fun p184 => (if mj_ob p184.2 v2 9 = true then (f_X9_digest v2 p184.2).bind fun p185 => (if p184.1 = p185.1 then f_L_law_1259 L xs K18 v1 v2 v3 p185.2 else some ((0 : Int32), p185.2)) else none) else none) else f_L_law_1259 L xs K18 v1 v2 v3 h)))))))))))))))))))))))))))))))))))
set_option maxHeartbeats 4000000 in
set_option maxRecDepth 100000 in
theorem wb_L_law_18 {nm : String} (L : Nat) (xs : Nat → Int32) (K18 : Nat → Nat → Int32 → mj_H → Option (Int32 × mj_H)) (hK18 : ∀ (v1 : Nat) (v2 : Nat) (v3 : Int32)  (h : mj_H) (p : Int32 × mj_H), K18 v1 v2 v3 h = some p → mj_W (mL_law nm) (mj_FX L xs p) 18 [(0, .ref 2000), (1, .ref v1), (2, .ref v2), (3, .int v3)] [] h 65 3281) (v1 : Nat) (v2 : Nat) (v3 : Int32) (h : mj_H) (p : Int32 × mj_H) (hf : b_L_law_18 L xs  K18 v1 v2 v3 h = some p) : mj_W (mL_law nm) (mj_FX L xs p) 18 [(0, .ref 2000), (1, .ref v1), (2, .ref v2), (3, .int v3)] [] h 65 3281 := by
  unfold b_L_law_18 at hf
  refine mj_blk k_L_ok 10 2 (pc' := 20) (l' := [(0, .ref 2000), (1, .ref v1), (2, .ref v2), (3, .int v3)]) (st' := [.ref 2000, .int v3]) rfl ?_
  refine mj_xlen 12 rfl ?_
  refine mj_blk k_L_ok 13 2 (pc' := 24) (l' := [(0, .ref 2000), (1, .ref v1), (2, .ref v2), (3, .int v3)]) (st' := [.int ((Int32.ofNat L) - (7 : Int32)), .int v3]) rfl ?_
  refine mj_icmp_gt 15 1265 rfl (by decide) (fun q => ?_) (fun q => ?_)
  · have hf := (if_pos q).symm.trans hf
    refine mj_blk k_L_ok 869 1 (pc' := 1266) (l' := [(0, .ref 2000), (1, .ref v1), (2, .ref v2), (3, .int v3)]) (st' := [.int (1 : Int32)]) rfl ?_
    obtain rfl := Option.some.inj hf
    exact mj_end (some (.int (1 : Int32))) ⟨mj_dec tok_L_law (a := 870) rfl, .boolean, rfl, rfl⟩ ⟨rfl, rfl⟩ (Nat.le_of_ble_eq_true rfl) (Nat.le_of_ble_eq_true rfl)
  · have hf := (if_neg q).symm.trans hf
    refine mj_blk k_L_ok 16 2 (pc' := 29) (l' := [(0, .ref 2000), (1, .ref v1), (2, .ref v2), (3, .int v3)]) (st' := [.int v3, .ref 2000]) rfl ?_
    obtain ⟨x17, ex17, hf⟩ := mj_bd hf
    refine mj_xld 18 rfl ex17 ?_
    refine mj_blk k_L_ok 19 2 (pc' := 33) (l' := [(0, .ref 2000), (1, .ref v1), (2, .ref v2), (3, .int v3)]) (st' := [.int (x17 &&& (63 : Int32))]) rfl ?_
    by_cases q0 : (x17 &&& (63 : Int32)) = (0 : Int32)
    · have hf := (if_pos q0).symm.trans hf
      refine mj_swIn 21 (0 : Int32) 184 q0 rfl (by decide) (by decide) rfl (by decide) ?_
      refine mj_blk k_L_ok 22 5 (pc' := 189) (l' := [(0, .ref 2000), (1, .ref v1), (2, .ref v2), (3, .int v3)]) (st' := [.int (v3 + (1 : Int32)), .ref 2000, .ref v1]) rfl ?_
      obtain ⟨x18, ex18, hf⟩ := mj_bd hf
      refine mj_xld 27 rfl ex18 ?_
      obtain ⟨gp19, hf⟩ := mj_gd hf
      obtain ⟨p19, ep19, hf⟩ := mj_bd hf
      refine mj_callV (T := TX8) (N := 14) (ci := 8) mX8_muster [.int x18] 28 rfl ll_L_13 lb_X8_muster li_X8_muster ⟨Nat.le_of_ble_eq_true rfl, Nat.le_of_ble_eq_true rfl⟩ rfl gp19 rfl (rest := []) rfl (Nat.le_of_ble_eq_true rfl) ⟨Nat.le_of_ble_eq_true rfl, Nat.le_of_ble_eq_true rfl⟩ (c_X8_muster v1 x18 h p19 ep19) ?_
      show mj_W (mL_law nm) (mj_FX L xs p) 193 [(0, .ref 2000), (1, .ref v1), (2, .ref v2), (3, .int v3)] [.int p19.1] p19.2 65 3281
      refine mj_blk k_L_ok 29 5 (pc' := 198) (l' := [(0, .ref 2000), (1, .ref v1), (2, .ref v2), (3, .int v3)]) (st' := [.int (v3 + (1 : Int32)), .ref 2000, .ref v2, .int p19.1]) rfl ?_
      obtain ⟨x20, ex20, hf⟩ := mj_bd hf
      refine mj_xld 34 rfl ex20 ?_
      obtain ⟨gp21, hf⟩ := mj_gd hf
      obtain ⟨p21, ep21, hf⟩ := mj_bd hf
      refine mj_callV (T := TX9) (N := 20) (ci := 9) mX9_muster [.int x20] 35 rfl ll_L_17 lb_X9_muster li_X9_muster ⟨Nat.le_of_ble_eq_true rfl, Nat.le_of_ble_eq_true rfl⟩ rfl gp21 rfl (rest := [.int p19.1]) rfl (Nat.le_of_ble_eq_true rfl) ⟨Nat.le_of_ble_eq_true rfl, Nat.le_of_ble_eq_true rfl⟩ (c_X9_muster v2 x20 p19.2 p21 ep21) ?_
      show mj_W (mL_law nm) (mj_FX L xs p) 202 [(0, .ref 2000), (1, .ref v1), (2, .ref v2), (3, .int v3)] [.int p21.1, .int p19.1] p21.2 65 3281
      refine mj_icmp_eq 36 1259 rfl (by decide) (fun q => ?_) (fun q => ?_)
      · have hf := (if_pos q).symm.trans hf
        exact w_L_law_1259 L xs K18 hK18 v1 v2 v3 p21.2 _ hf
      · have hf := (if_neg q).symm.trans hf
        refine mj_blk k_L_ok 37 1 (pc' := 206) (l' := [(0, .ref 2000), (1, .ref v1), (2, .ref v2), (3, .int v3)]) (st' := [.int (0 : Int32)]) rfl ?_
        obtain rfl := Option.some.inj hf
        exact mj_end (some (.int (0 : Int32))) ⟨mj_dec tok_L_law (a := 38) rfl, .boolean, rfl, rfl⟩ ⟨rfl, rfl⟩ (Nat.le_of_ble_eq_true rfl) (Nat.le_of_ble_eq_true rfl)
    have hf := (if_neg q0).symm.trans hf
    by_cases q1 : (x17 &&& (63 : Int32)) = (1 : Int32)
    · have hf := (if_pos q1).symm.trans hf
      refine mj_swIn 21 (1 : Int32) 207 q1 rfl (by decide) (by decide) rfl (by decide) ?_
      refine mj_blk k_L_ok 39 5 (pc' := 212) (l' := [(0, .ref 2000), (1, .ref v1), (2, .ref v2), (3, .int v3)]) (st' := [.int (v3 + (1 : Int32)), .ref 2000, .ref v1]) rfl ?_
      obtain ⟨x22, ex22, hf⟩ := mj_bd hf
      refine mj_xld 44 rfl ex22 ?_
      refine mj_blk k_L_ok 45 4 (pc' := 217) (l' := [(0, .ref 2000), (1, .ref v1), (2, .ref v2), (3, .int v3)]) (st' := [.int (v3 + (2 : Int32)), .ref 2000, .int x22, .ref v1]) rfl ?_
      obtain ⟨x23, ex23, hf⟩ := mj_bd hf
      refine mj_xld 49 rfl ex23 ?_
      refine mj_blk k_L_ok 50 4 (pc' := 222) (l' := [(0, .ref 2000), (1, .ref v1), (2, .ref v2), (3, .int v3)]) (st' := [.int (v3 + (3 : Int32)), .ref 2000, .int x23, .int x22, .ref v1]) rfl ?_
      obtain ⟨x24, ex24, hf⟩ := mj_bd hf
      refine mj_xld 54 rfl ex24 ?_
      refine mj_blk k_L_ok 55 4 (pc' := 227) (l' := [(0, .ref 2000), (1, .ref v1), (2, .ref v2), (3, .int v3)]) (st' := [.int (v3 + (4 : Int32)), .ref 2000, .int x24, .int x23, .int x22, .ref v1]) rfl ?_
      obtain ⟨x25, ex25, hf⟩ := mj_bd hf
      refine mj_xld 59 rfl ex25 ?_
      refine mj_blk k_L_ok 60 4 (pc' := 232) (l' := [(0, .ref 2000), (1, .ref v1), (2, .ref v2), (3, .int v3)]) (st' := [.int (v3 + (5 : Int32)), .ref 2000, .int x25, .int x24, .int x23, .int x22, .ref v1]) rfl ?_
      obtain ⟨x26, ex26, hf⟩ := mj_bd hf
      refine mj_xld 64 rfl ex26 ?_
      refine mj_blk k_L_ok 65 4 (pc' := 238) (l' := [(0, .ref 2000), (1, .ref v1), (2, .ref v2), (3, .int v3)]) (st' := [.int (v3 + (6 : Int32)), .ref 2000, .int x26, .int x25, .int x24, .int x23, .int x22, .ref v1]) rfl ?_
      obtain ⟨x27, ex27, hf⟩ := mj_bd hf
      refine mj_xld 69 rfl ex27 ?_
      obtain ⟨gp28, hf⟩ := mj_gd hf
      obtain ⟨p28, ep28, hf⟩ := mj_bd hf
      refine mj_callV (T := TX8) (N := 14) (ci := 8) mX8_man [.int x22, .int x23, .int x24, .int x25, .int x26, .int x27] 70 rfl ll_L_18 lb_X8_man li_X8_man ⟨Nat.le_of_ble_eq_true rfl, Nat.le_of_ble_eq_true rfl⟩ rfl gp28 rfl (rest := []) rfl (Nat.le_of_ble_eq_true rfl) ⟨Nat.le_of_ble_eq_true rfl, Nat.le_of_ble_eq_true rfl⟩ (c_X8_man v1 x22 x23 x24 x25 x26 x27 h p28 ep28) ?_
      show mj_W (mL_law nm) (mj_FX L xs p) 242 [(0, .ref 2000), (1, .ref v1), (2, .ref v2), (3, .int v3)] [.int p28.1] p28.2 65 3281
      refine mj_blk k_L_ok 71 5 (pc' := 247) (l' := [(0, .ref 2000), (1, .ref v1), (2, .ref v2), (3, .int v3)]) (st' := [.int (v3 + (1 : Int32)), .ref 2000, .ref v2, .int p28.1]) rfl ?_
      obtain ⟨x29, ex29, hf⟩ := mj_bd hf
      refine mj_xld 76 rfl ex29 ?_
      refine mj_blk k_L_ok 77 4 (pc' := 252) (l' := [(0, .ref 2000), (1, .ref v1), (2, .ref v2), (3, .int v3)]) (st' := [.int (v3 + (2 : Int32)), .ref 2000, .int x29, .ref v2, .int p28.1]) rfl ?_
      obtain ⟨x30, ex30, hf⟩ := mj_bd hf
      refine mj_xld 81 rfl ex30 ?_
      refine mj_blk k_L_ok 82 4 (pc' := 257) (l' := [(0, .ref 2000), (1, .ref v1), (2, .ref v2), (3, .int v3)]) (st' := [.int (v3 + (3 : Int32)), .ref 2000, .int x30, .int x29, .ref v2, .int p28.1]) rfl ?_
      obtain ⟨x31, ex31, hf⟩ := mj_bd hf
      refine mj_xld 86 rfl ex31 ?_
      refine mj_blk k_L_ok 87 4 (pc' := 262) (l' := [(0, .ref 2000), (1, .ref v1), (2, .ref v2), (3, .int v3)]) (st' := [.int (v3 + (4 : Int32)), .ref 2000, .int x31, .int x30, .int x29, .ref v2, .int p28.1]) rfl ?_
      obtain ⟨x32, ex32, hf⟩ := mj_bd hf
      refine mj_xld 91 rfl ex32 ?_
      refine mj_blk k_L_ok 92 4 (pc' := 267) (l' := [(0, .ref 2000), (1, .ref v1), (2, .ref v2), (3, .int v3)]) (st' := [.int (v3 + (5 : Int32)), .ref 2000, .int x32, .int x31, .int x30, .int x29, .ref v2, .int p28.1]) rfl ?_
      obtain ⟨x33, ex33, hf⟩ := mj_bd hf
      refine mj_xld 96 rfl ex33 ?_
      refine mj_blk k_L_ok 97 4 (pc' := 273) (l' := [(0, .ref 2000), (1, .ref v1), (2, .ref v2), (3, .int v3)]) (st' := [.int (v3 + (6 : Int32)), .ref 2000, .int x33, .int x32, .int x31, .int x30, .int x29, .ref v2, .int p28.1]) rfl ?_
      obtain ⟨x34, ex34, hf⟩ := mj_bd hf
      refine mj_xld 101 rfl ex34 ?_
      obtain ⟨gp35, hf⟩ := mj_gd hf
      obtain ⟨p35, ep35, hf⟩ := mj_bd hf
      refine mj_callV (T := TX9) (N := 20) (ci := 9) mX9_man [.int x29, .int x30, .int x31, .int x32, .int x33, .int x34] 102 rfl ll_L_22 lb_X9_man li_X9_man ⟨Nat.le_of_ble_eq_true rfl, Nat.le_of_ble_eq_true rfl⟩ rfl gp35 rfl (rest := [.int p28.1]) rfl (Nat.le_of_ble_eq_true rfl) ⟨Nat.le_of_ble_eq_true rfl, Nat.le_of_ble_eq_true rfl⟩ (c_X9_man v2 x29 x30 x31 x32 x33 x34 p28.2 p35 ep35) ?_
      show mj_W (mL_law nm) (mj_FX L xs p) 277 [(0, .ref 2000), (1, .ref v1), (2, .ref v2), (3, .int v3)] [.int p35.1, .int p28.1] p35.2 65 3281
      refine mj_icmp_eq 103 1259 rfl (by decide) (fun q => ?_) (fun q => ?_)
      · have hf := (if_pos q).symm.trans hf
        exact w_L_law_1259 L xs K18 hK18 v1 v2 v3 p35.2 _ hf
      · have hf := (if_neg q).symm.trans hf
        refine mj_blk k_L_ok 104 1 (pc' := 281) (l' := [(0, .ref 2000), (1, .ref v1), (2, .ref v2), (3, .int v3)]) (st' := [.int (0 : Int32)]) rfl ?_
        obtain rfl := Option.some.inj hf
        exact mj_end (some (.int (0 : Int32))) ⟨mj_dec tok_L_law (a := 105) rfl, .boolean, rfl, rfl⟩ ⟨rfl, rfl⟩ (Nat.le_of_ble_eq_true rfl) (Nat.le_of_ble_eq_true rfl)
    have hf := (if_neg q1).symm.trans hf
    by_cases q2 : (x17 &&& (63 : Int32)) = (2 : Int32)
    · have hf := (if_pos q2).symm.trans hf
      refine mj_swIn 21 (2 : Int32) 282 q2 rfl (by decide) (by decide) rfl (by decide) ?_
      refine mj_blk k_L_ok 106 5 (pc' := 287) (l' := [(0, .ref 2000), (1, .ref v1), (2, .ref v2), (3, .int v3)]) (st' := [.int (v3 + (1 : Int32)), .ref 2000, .ref v1]) rfl ?_
      obtain ⟨x36, ex36, hf⟩ := mj_bd hf
      refine mj_xld 111 rfl ex36 ?_
      refine mj_blk k_L_ok 112 4 (pc' := 292) (l' := [(0, .ref 2000), (1, .ref v1), (2, .ref v2), (3, .int v3)]) (st' := [.int (v3 + (2 : Int32)), .ref 2000, .int x36, .ref v1]) rfl ?_
      obtain ⟨x37, ex37, hf⟩ := mj_bd hf
      refine mj_xld 116 rfl ex37 ?_
      obtain ⟨gp38, hf⟩ := mj_gd hf
      obtain ⟨p38, ep38, hf⟩ := mj_bd hf
      refine mj_callV (T := TX8) (N := 14) (ci := 8) mX8_worn [.int x36, .int x37] 117 rfl ll_L_23 lb_X8_worn li_X8_worn ⟨Nat.le_of_ble_eq_true rfl, Nat.le_of_ble_eq_true rfl⟩ rfl gp38 rfl (rest := []) rfl (Nat.le_of_ble_eq_true rfl) ⟨Nat.le_of_ble_eq_true rfl, Nat.le_of_ble_eq_true rfl⟩ (c_X8_worn v1 x36 x37 h p38 ep38) ?_
      show mj_W (mL_law nm) (mj_FX L xs p) 296 [(0, .ref 2000), (1, .ref v1), (2, .ref v2), (3, .int v3)] [.int p38.1] p38.2 65 3281
      refine mj_blk k_L_ok 118 5 (pc' := 301) (l' := [(0, .ref 2000), (1, .ref v1), (2, .ref v2), (3, .int v3)]) (st' := [.int (v3 + (1 : Int32)), .ref 2000, .ref v2, .int p38.1]) rfl ?_
      obtain ⟨x39, ex39, hf⟩ := mj_bd hf
      refine mj_xld 123 rfl ex39 ?_
      refine mj_blk k_L_ok 124 4 (pc' := 306) (l' := [(0, .ref 2000), (1, .ref v1), (2, .ref v2), (3, .int v3)]) (st' := [.int (v3 + (2 : Int32)), .ref 2000, .int x39, .ref v2, .int p38.1]) rfl ?_
      obtain ⟨x40, ex40, hf⟩ := mj_bd hf
      refine mj_xld 128 rfl ex40 ?_
      obtain ⟨gp41, hf⟩ := mj_gd hf
      obtain ⟨p41, ep41, hf⟩ := mj_bd hf
      refine mj_callV (T := TX9) (N := 20) (ci := 9) mX9_worn [.int x39, .int x40] 129 rfl ll_L_27 lb_X9_worn li_X9_worn ⟨Nat.le_of_ble_eq_true rfl, Nat.le_of_ble_eq_true rfl⟩ rfl gp41 rfl (rest := [.int p38.1]) rfl (Nat.le_of_ble_eq_true rfl) ⟨Nat.le_of_ble_eq_true rfl, Nat.le_of_ble_eq_true rfl⟩ (c_X9_worn v2 x39 x40 p38.2 p41 ep41) ?_
      show mj_W (mL_law nm) (mj_FX L xs p) 310 [(0, .ref 2000), (1, .ref v1), (2, .ref v2), (3, .int v3)] [.int p41.1, .int p38.1] p41.2 65 3281
      refine mj_icmp_eq 130 1259 rfl (by decide) (fun q => ?_) (fun q => ?_)
      · have hf := (if_pos q).symm.trans hf
        exact w_L_law_1259 L xs K18 hK18 v1 v2 v3 p41.2 _ hf
      · have hf := (if_neg q).symm.trans hf
        refine mj_blk k_L_ok 131 1 (pc' := 314) (l' := [(0, .ref 2000), (1, .ref v1), (2, .ref v2), (3, .int v3)]) (st' := [.int (0 : Int32)]) rfl ?_
        obtain rfl := Option.some.inj hf
        exact mj_end (some (.int (0 : Int32))) ⟨mj_dec tok_L_law (a := 132) rfl, .boolean, rfl, rfl⟩ ⟨rfl, rfl⟩ (Nat.le_of_ble_eq_true rfl) (Nat.le_of_ble_eq_true rfl)
    have hf := (if_neg q2).symm.trans hf
    by_cases q3 : (x17 &&& (63 : Int32)) = (3 : Int32)
    · have hf := (if_pos q3).symm.trans hf
      refine mj_swIn 21 (3 : Int32) 315 q3 rfl (by decide) (by decide) rfl (by decide) ?_
      refine mj_blk k_L_ok 133 5 (pc' := 320) (l' := [(0, .ref 2000), (1, .ref v1), (2, .ref v2), (3, .int v3)]) (st' := [.int (v3 + (1 : Int32)), .ref 2000, .ref v1]) rfl ?_
      obtain ⟨x42, ex42, hf⟩ := mj_bd hf
      refine mj_xld 138 rfl ex42 ?_
      refine mj_blk k_L_ok 139 4 (pc' := 325) (l' := [(0, .ref 2000), (1, .ref v1), (2, .ref v2), (3, .int v3)]) (st' := [.int (v3 + (2 : Int32)), .ref 2000, .int x42, .ref v1]) rfl ?_
      obtain ⟨x43, ex43, hf⟩ := mj_bd hf
      refine mj_xld 143 rfl ex43 ?_
      obtain ⟨gp44, hf⟩ := mj_gd hf
      obtain ⟨p44, ep44, hf⟩ := mj_bd hf
      refine mj_callV (T := TX8) (N := 14) (ci := 8) mX8_pair [.int x42, .int x43] 144 rfl ll_L_28 lb_X8_pair li_X8_pair ⟨Nat.le_of_ble_eq_true rfl, Nat.le_of_ble_eq_true rfl⟩ rfl gp44 rfl (rest := []) rfl (Nat.le_of_ble_eq_true rfl) ⟨Nat.le_of_ble_eq_true rfl, Nat.le_of_ble_eq_true rfl⟩ (c_X8_pair v1 x42 x43 h p44 ep44) ?_
      show mj_W (mL_law nm) (mj_FX L xs p) 329 [(0, .ref 2000), (1, .ref v1), (2, .ref v2), (3, .int v3)] [.int p44.1] p44.2 65 3281
      refine mj_blk k_L_ok 145 5 (pc' := 334) (l' := [(0, .ref 2000), (1, .ref v1), (2, .ref v2), (3, .int v3)]) (st' := [.int (v3 + (1 : Int32)), .ref 2000, .ref v2, .int p44.1]) rfl ?_
      obtain ⟨x45, ex45, hf⟩ := mj_bd hf
      refine mj_xld 150 rfl ex45 ?_
      refine mj_blk k_L_ok 151 4 (pc' := 339) (l' := [(0, .ref 2000), (1, .ref v1), (2, .ref v2), (3, .int v3)]) (st' := [.int (v3 + (2 : Int32)), .ref 2000, .int x45, .ref v2, .int p44.1]) rfl ?_
      obtain ⟨x46, ex46, hf⟩ := mj_bd hf
      refine mj_xld 155 rfl ex46 ?_
      obtain ⟨gp47, hf⟩ := mj_gd hf
      obtain ⟨p47, ep47, hf⟩ := mj_bd hf
      refine mj_callV (T := TX9) (N := 20) (ci := 9) mX9_pair [.int x45, .int x46] 156 rfl ll_L_31 lb_X9_pair li_X9_pair ⟨Nat.le_of_ble_eq_true rfl, Nat.le_of_ble_eq_true rfl⟩ rfl gp47 rfl (rest := [.int p44.1]) rfl (Nat.le_of_ble_eq_true rfl) ⟨Nat.le_of_ble_eq_true rfl, Nat.le_of_ble_eq_true rfl⟩ (c_X9_pair v2 x45 x46 p44.2 p47 ep47) ?_
      show mj_W (mL_law nm) (mj_FX L xs p) 343 [(0, .ref 2000), (1, .ref v1), (2, .ref v2), (3, .int v3)] [.int p47.1, .int p44.1] p47.2 65 3281
      refine mj_icmp_eq 157 1259 rfl (by decide) (fun q => ?_) (fun q => ?_)
      · have hf := (if_pos q).symm.trans hf
        exact w_L_law_1259 L xs K18 hK18 v1 v2 v3 p47.2 _ hf
      · have hf := (if_neg q).symm.trans hf
        refine mj_blk k_L_ok 158 1 (pc' := 347) (l' := [(0, .ref 2000), (1, .ref v1), (2, .ref v2), (3, .int v3)]) (st' := [.int (0 : Int32)]) rfl ?_
        obtain rfl := Option.some.inj hf
        exact mj_end (some (.int (0 : Int32))) ⟨mj_dec tok_L_law (a := 159) rfl, .boolean, rfl, rfl⟩ ⟨rfl, rfl⟩ (Nat.le_of_ble_eq_true rfl) (Nat.le_of_ble_eq_true rfl)
    have hf := (if_neg q3).symm.trans hf
    by_cases q4 : (x17 &&& (63 : Int32)) = (4 : Int32)
    · have hf := (if_pos q4).symm.trans hf
      refine mj_swIn 21 (4 : Int32) 348 q4 rfl (by decide) (by decide) rfl (by decide) ?_
      refine mj_blk k_L_ok 160 5 (pc' := 353) (l' := [(0, .ref 2000), (1, .ref v1), (2, .ref v2), (3, .int v3)]) (st' := [.int (v3 + (1 : Int32)), .ref 2000, .ref v1]) rfl ?_
      obtain ⟨x48, ex48, hf⟩ := mj_bd hf
      refine mj_xld 165 rfl ex48 ?_
      obtain ⟨gp49, hf⟩ := mj_gd hf
      obtain ⟨p49, ep49, hf⟩ := mj_bd hf
      refine mj_callV (T := TX8) (N := 14) (ci := 8) mX8_word [.int x48] 166 rfl ll_L_32 lb_X8_word li_X8_word ⟨Nat.le_of_ble_eq_true rfl, Nat.le_of_ble_eq_true rfl⟩ rfl gp49 rfl (rest := []) rfl (Nat.le_of_ble_eq_true rfl) ⟨Nat.le_of_ble_eq_true rfl, Nat.le_of_ble_eq_true rfl⟩ (c_X8_word v1 x48 h p49 ep49) ?_
      show mj_W (mL_law nm) (mj_FX L xs p) 357 [(0, .ref 2000), (1, .ref v1), (2, .ref v2), (3, .int v3)] [.int p49.1] p49.2 65 3281
      refine mj_blk k_L_ok 167 5 (pc' := 362) (l' := [(0, .ref 2000), (1, .ref v1), (2, .ref v2), (3, .int v3)]) (st' := [.int (v3 + (1 : Int32)), .ref 2000, .ref v2, .int p49.1]) rfl ?_
      obtain ⟨x50, ex50, hf⟩ := mj_bd hf
      refine mj_xld 172 rfl ex50 ?_
      obtain ⟨gp51, hf⟩ := mj_gd hf
      obtain ⟨p51, ep51, hf⟩ := mj_bd hf
      refine mj_callV (T := TX9) (N := 20) (ci := 9) mX9_word [.int x50] 173 rfl ll_L_35 lb_X9_word li_X9_word ⟨Nat.le_of_ble_eq_true rfl, Nat.le_of_ble_eq_true rfl⟩ rfl gp51 rfl (rest := [.int p49.1]) rfl (Nat.le_of_ble_eq_true rfl) ⟨Nat.le_of_ble_eq_true rfl, Nat.le_of_ble_eq_true rfl⟩ (c_X9_word v2 x50 p49.2 p51 ep51) ?_
      show mj_W (mL_law nm) (mj_FX L xs p) 366 [(0, .ref 2000), (1, .ref v1), (2, .ref v2), (3, .int v3)] [.int p51.1, .int p49.1] p51.2 65 3281
      refine mj_icmp_eq 174 1259 rfl (by decide) (fun q => ?_) (fun q => ?_)
      · have hf := (if_pos q).symm.trans hf
        exact w_L_law_1259 L xs K18 hK18 v1 v2 v3 p51.2 _ hf
      · have hf := (if_neg q).symm.trans hf
        refine mj_blk k_L_ok 175 1 (pc' := 370) (l' := [(0, .ref 2000), (1, .ref v1), (2, .ref v2), (3, .int v3)]) (st' := [.int (0 : Int32)]) rfl ?_
        obtain rfl := Option.some.inj hf
        exact mj_end (some (.int (0 : Int32))) ⟨mj_dec tok_L_law (a := 176) rfl, .boolean, rfl, rfl⟩ ⟨rfl, rfl⟩ (Nat.le_of_ble_eq_true rfl) (Nat.le_of_ble_eq_true rfl)
    have hf := (if_neg q4).symm.trans hf
    by_cases q5 : (x17 &&& (63 : Int32)) = (5 : Int32)
    · have hf := (if_pos q5).symm.trans hf
      refine mj_swIn 21 (5 : Int32) 371 q5 rfl (by decide) (by decide) rfl (by decide) ?_
      refine mj_blk k_L_ok 177 5 (pc' := 376) (l' := [(0, .ref 2000), (1, .ref v1), (2, .ref v2), (3, .int v3)]) (st' := [.int (v3 + (1 : Int32)), .ref 2000, .ref v1]) rfl ?_
      obtain ⟨x52, ex52, hf⟩ := mj_bd hf
      refine mj_xld 182 rfl ex52 ?_
      obtain ⟨gp53, hf⟩ := mj_gd hf
      obtain ⟨p53, ep53, hf⟩ := mj_bd hf
      refine mj_callV (T := TX8) (N := 14) (ci := 8) mX8_type [.int x52] 183 rfl ll_L_36 lb_X8_type li_X8_type ⟨Nat.le_of_ble_eq_true rfl, Nat.le_of_ble_eq_true rfl⟩ rfl gp53 rfl (rest := []) rfl (Nat.le_of_ble_eq_true rfl) ⟨Nat.le_of_ble_eq_true rfl, Nat.le_of_ble_eq_true rfl⟩ (c_X8_type v1 x52 h p53 ep53) ?_
      show mj_W (mL_law nm) (mj_FX L xs p) 380 [(0, .ref 2000), (1, .ref v1), (2, .ref v2), (3, .int v3)] [.int p53.1] p53.2 65 3281
      refine mj_blk k_L_ok 184 5 (pc' := 385) (l' := [(0, .ref 2000), (1, .ref v1), (2, .ref v2), (3, .int v3)]) (st' := [.int (v3 + (1 : Int32)), .ref 2000, .ref v2, .int p53.1]) rfl ?_
      obtain ⟨x54, ex54, hf⟩ := mj_bd hf
      refine mj_xld 189 rfl ex54 ?_
      obtain ⟨gp55, hf⟩ := mj_gd hf
      obtain ⟨p55, ep55, hf⟩ := mj_bd hf
      refine mj_callV (T := TX9) (N := 20) (ci := 9) mX9_type [.int x54] 190 rfl ll_L_39 lb_X9_type li_X9_type ⟨Nat.le_of_ble_eq_true rfl, Nat.le_of_ble_eq_true rfl⟩ rfl gp55 rfl (rest := [.int p53.1]) rfl (Nat.le_of_ble_eq_true rfl) ⟨Nat.le_of_ble_eq_true rfl, Nat.le_of_ble_eq_true rfl⟩ (c_X9_type v2 x54 p53.2 p55 ep55) ?_
      show mj_W (mL_law nm) (mj_FX L xs p) 389 [(0, .ref 2000), (1, .ref v1), (2, .ref v2), (3, .int v3)] [.int p55.1, .int p53.1] p55.2 65 3281
      refine mj_icmp_eq 191 1259 rfl (by decide) (fun q => ?_) (fun q => ?_)
      · have hf := (if_pos q).symm.trans hf
        exact w_L_law_1259 L xs K18 hK18 v1 v2 v3 p55.2 _ hf
      · have hf := (if_neg q).symm.trans hf
        refine mj_blk k_L_ok 192 1 (pc' := 393) (l' := [(0, .ref 2000), (1, .ref v1), (2, .ref v2), (3, .int v3)]) (st' := [.int (0 : Int32)]) rfl ?_
        obtain rfl := Option.some.inj hf
        exact mj_end (some (.int (0 : Int32))) ⟨mj_dec tok_L_law (a := 193) rfl, .boolean, rfl, rfl⟩ ⟨rfl, rfl⟩ (Nat.le_of_ble_eq_true rfl) (Nat.le_of_ble_eq_true rfl)
    have hf := (if_neg q5).symm.trans hf
    by_cases q6 : (x17 &&& (63 : Int32)) = (6 : Int32)
    · have hf := (if_pos q6).symm.trans hf
      refine mj_swIn 21 (6 : Int32) 394 q6 rfl (by decide) (by decide) rfl (by decide) ?_
      refine mj_blk k_L_ok 194 1 (pc' := 395) (l' := [(0, .ref 2000), (1, .ref v1), (2, .ref v2), (3, .int v3)]) (st' := [.ref v1]) rfl ?_
      obtain ⟨gp56, hf⟩ := mj_gd hf
      obtain ⟨p56, ep56, hf⟩ := mj_bd hf
      refine mj_callV (T := TX8) (N := 14) (ci := 8) mX8_clear [] 195 rfl ll_L_40 lb_X8_clear li_X8_clear ⟨Nat.le_of_ble_eq_true rfl, Nat.le_of_ble_eq_true rfl⟩ rfl gp56 rfl (rest := []) rfl (Nat.le_of_ble_eq_true rfl) ⟨Nat.le_of_ble_eq_true rfl, Nat.le_of_ble_eq_true rfl⟩ (c_X8_clear v1 h p56 ep56) ?_
      show mj_W (mL_law nm) (mj_FX L xs p) 398 [(0, .ref 2000), (1, .ref v1), (2, .ref v2), (3, .int v3)] [.int p56.1] p56.2 65 3281
      refine mj_blk k_L_ok 196 1 (pc' := 399) (l' := [(0, .ref 2000), (1, .ref v1), (2, .ref v2), (3, .int v3)]) (st' := [.ref v2, .int p56.1]) rfl ?_
      obtain ⟨gp57, hf⟩ := mj_gd hf
      obtain ⟨p57, ep57, hf⟩ := mj_bd hf
      refine mj_callV (T := TX9) (N := 20) (ci := 9) mX9_clear [] 197 rfl ll_L_44 lb_X9_clear li_X9_clear ⟨Nat.le_of_ble_eq_true rfl, Nat.le_of_ble_eq_true rfl⟩ rfl gp57 rfl (rest := [.int p56.1]) rfl (Nat.le_of_ble_eq_true rfl) ⟨Nat.le_of_ble_eq_true rfl, Nat.le_of_ble_eq_true rfl⟩ (c_X9_clear v2 p56.2 p57 ep57) ?_
      show mj_W (mL_law nm) (mj_FX L xs p) 402 [(0, .ref 2000), (1, .ref v1), (2, .ref v2), (3, .int v3)] [.int p57.1, .int p56.1] p57.2 65 3281
      refine mj_icmp_eq 198 1259 rfl (by decide) (fun q => ?_) (fun q => ?_)
      · have hf := (if_pos q).symm.trans hf
        exact w_L_law_1259 L xs K18 hK18 v1 v2 v3 p57.2 _ hf
      · have hf := (if_neg q).symm.trans hf
        refine mj_blk k_L_ok 199 1 (pc' := 406) (l' := [(0, .ref 2000), (1, .ref v1), (2, .ref v2), (3, .int v3)]) (st' := [.int (0 : Int32)]) rfl ?_
        obtain rfl := Option.some.inj hf
        exact mj_end (some (.int (0 : Int32))) ⟨mj_dec tok_L_law (a := 200) rfl, .boolean, rfl, rfl⟩ ⟨rfl, rfl⟩ (Nat.le_of_ble_eq_true rfl) (Nat.le_of_ble_eq_true rfl)
    have hf := (if_neg q6).symm.trans hf
    by_cases q7 : (x17 &&& (63 : Int32)) = (7 : Int32)
    · have hf := (if_pos q7).symm.trans hf
      refine mj_swIn 21 (7 : Int32) 407 q7 rfl (by decide) (by decide) rfl (by decide) ?_
      refine mj_blk k_L_ok 201 1 (pc' := 408) (l' := [(0, .ref 2000), (1, .ref v1), (2, .ref v2), (3, .int v3)]) (st' := [.ref v1]) rfl ?_
      obtain ⟨gp58, hf⟩ := mj_gd hf
      obtain ⟨p58, ep58, hf⟩ := mj_bd hf
      refine mj_callV (T := TX8) (N := 14) (ci := 8) mX8_read [] 202 rfl ll_L_45 lb_X8_read li_X8_read ⟨Nat.le_of_ble_eq_true rfl, Nat.le_of_ble_eq_true rfl⟩ rfl gp58 rfl (rest := []) rfl (Nat.le_of_ble_eq_true rfl) ⟨Nat.le_of_ble_eq_true rfl, Nat.le_of_ble_eq_true rfl⟩ (c_X8_read v1 h p58 ep58) ?_
      show mj_W (mL_law nm) (mj_FX L xs p) 411 [(0, .ref 2000), (1, .ref v1), (2, .ref v2), (3, .int v3)] [.int p58.1] p58.2 65 3281
      refine mj_blk k_L_ok 203 1 (pc' := 412) (l' := [(0, .ref 2000), (1, .ref v1), (2, .ref v2), (3, .int v3)]) (st' := [.ref v2, .int p58.1]) rfl ?_
      obtain ⟨gp59, hf⟩ := mj_gd hf
      obtain ⟨p59, ep59, hf⟩ := mj_bd hf
      refine mj_callV (T := TX9) (N := 20) (ci := 9) mX9_read [] 204 rfl ll_L_48 lb_X9_read li_X9_read ⟨Nat.le_of_ble_eq_true rfl, Nat.le_of_ble_eq_true rfl⟩ rfl gp59 rfl (rest := [.int p58.1]) rfl (Nat.le_of_ble_eq_true rfl) ⟨Nat.le_of_ble_eq_true rfl, Nat.le_of_ble_eq_true rfl⟩ (c_X9_read v2 p58.2 p59 ep59) ?_
      show mj_W (mL_law nm) (mj_FX L xs p) 415 [(0, .ref 2000), (1, .ref v1), (2, .ref v2), (3, .int v3)] [.int p59.1, .int p58.1] p59.2 65 3281
      refine mj_icmp_eq 205 1259 rfl (by decide) (fun q => ?_) (fun q => ?_)
      · have hf := (if_pos q).symm.trans hf
        exact w_L_law_1259 L xs K18 hK18 v1 v2 v3 p59.2 _ hf
      · have hf := (if_neg q).symm.trans hf
        refine mj_blk k_L_ok 206 1 (pc' := 419) (l' := [(0, .ref 2000), (1, .ref v1), (2, .ref v2), (3, .int v3)]) (st' := [.int (0 : Int32)]) rfl ?_
        obtain rfl := Option.some.inj hf
        exact mj_end (some (.int (0 : Int32))) ⟨mj_dec tok_L_law (a := 207) rfl, .boolean, rfl, rfl⟩ ⟨rfl, rfl⟩ (Nat.le_of_ble_eq_true rfl) (Nat.le_of_ble_eq_true rfl)
    have hf := (if_neg q7).symm.trans hf
    by_cases q8 : (x17 &&& (63 : Int32)) = (8 : Int32)
    · have hf := (if_pos q8).symm.trans hf
      refine mj_swIn 21 (8 : Int32) 420 q8 rfl (by decide) (by decide) rfl (by decide) ?_
      refine mj_blk k_L_ok 208 5 (pc' := 425) (l' := [(0, .ref 2000), (1, .ref v1), (2, .ref v2), (3, .int v3)]) (st' := [.int (v3 + (1 : Int32)), .ref 2000, .ref v1]) rfl ?_
      obtain ⟨x60, ex60, hf⟩ := mj_bd hf
      refine mj_xld 213 rfl ex60 ?_
      refine mj_blk k_L_ok 214 4 (pc' := 430) (l' := [(0, .ref 2000), (1, .ref v1), (2, .ref v2), (3, .int v3)]) (st' := [.int (v3 + (2 : Int32)), .ref 2000, .int x60, .ref v1]) rfl ?_
      obtain ⟨x61, ex61, hf⟩ := mj_bd hf
      refine mj_xld 218 rfl ex61 ?_
      refine mj_blk k_L_ok 219 4 (pc' := 435) (l' := [(0, .ref 2000), (1, .ref v1), (2, .ref v2), (3, .int v3)]) (st' := [.int (v3 + (3 : Int32)), .ref 2000, .int x61, .int x60, .ref v1]) rfl ?_
      obtain ⟨x62, ex62, hf⟩ := mj_bd hf
      refine mj_xld 223 rfl ex62 ?_
      refine mj_if_eq 224 443 rfl (by decide) (fun q => ?_) (fun q => ?_)
      · have hf := (if_pos q).symm.trans hf
        refine mj_blk k_L_ok 227 1 (pc' := 444) (l' := [(0, .ref 2000), (1, .ref v1), (2, .ref v2), (3, .int v3)]) (st' := [.int (0 : Int32), .int x61, .int x60, .ref v1]) rfl ?_
        exact w_L_law_444 L xs K18 hK18 v1 v2 v3 v1 x60 x61 (0 : Int32) h _ hf
      · have hf := (if_neg q).symm.trans hf
        refine mj_blk k_L_ok 225 2 (pc' := 444) (l' := [(0, .ref 2000), (1, .ref v1), (2, .ref v2), (3, .int v3)]) (st' := [.int (1 : Int32), .int x61, .int x60, .ref v1]) rfl ?_
        exact w_L_law_444 L xs K18 hK18 v1 v2 v3 v1 x60 x61 (1 : Int32) h _ hf
    have hf := (if_neg q8).symm.trans hf
    by_cases q9 : (x17 &&& (63 : Int32)) = (9 : Int32)
    · have hf := (if_pos q9).symm.trans hf
      refine mj_swIn 21 (9 : Int32) 479 q9 rfl (by decide) (by decide) rfl (by decide) ?_
      refine mj_blk k_L_ok 253 1 (pc' := 480) (l' := [(0, .ref 2000), (1, .ref v1), (2, .ref v2), (3, .int v3)]) (st' := [.ref v1]) rfl ?_
      obtain ⟨gp63, hf⟩ := mj_gd hf
      obtain ⟨p63, ep63, hf⟩ := mj_bd hf
      refine mj_callV (T := TX8) (N := 14) (ci := 8) mX8_undo [] 254 rfl ll_L_54 lb_X8_undo li_X8_undo ⟨Nat.le_of_ble_eq_true rfl, Nat.le_of_ble_eq_true rfl⟩ rfl gp63 rfl (rest := []) rfl (Nat.le_of_ble_eq_true rfl) ⟨Nat.le_of_ble_eq_true rfl, Nat.le_of_ble_eq_true rfl⟩ (c_X8_undo v1 h p63 ep63) ?_
      show mj_W (mL_law nm) (mj_FX L xs p) 483 [(0, .ref 2000), (1, .ref v1), (2, .ref v2), (3, .int v3)] [.int p63.1] p63.2 65 3281
      refine mj_blk k_L_ok 255 1 (pc' := 484) (l' := [(0, .ref 2000), (1, .ref v1), (2, .ref v2), (3, .int v3)]) (st' := [.ref v2, .int p63.1]) rfl ?_
      obtain ⟨gp64, hf⟩ := mj_gd hf
      obtain ⟨p64, ep64, hf⟩ := mj_bd hf
      refine mj_callV (T := TX9) (N := 20) (ci := 9) mX9_undo [] 256 rfl ll_L_57 lb_X9_undo li_X9_undo ⟨Nat.le_of_ble_eq_true rfl, Nat.le_of_ble_eq_true rfl⟩ rfl gp64 rfl (rest := [.int p63.1]) rfl (Nat.le_of_ble_eq_true rfl) ⟨Nat.le_of_ble_eq_true rfl, Nat.le_of_ble_eq_true rfl⟩ (c_X9_undo v2 p63.2 p64 ep64) ?_
      show mj_W (mL_law nm) (mj_FX L xs p) 487 [(0, .ref 2000), (1, .ref v1), (2, .ref v2), (3, .int v3)] [.int p64.1, .int p63.1] p64.2 65 3281
      refine mj_icmp_eq 257 1259 rfl (by decide) (fun q => ?_) (fun q => ?_)
      · have hf := (if_pos q).symm.trans hf
        exact w_L_law_1259 L xs K18 hK18 v1 v2 v3 p64.2 _ hf
      · have hf := (if_neg q).symm.trans hf
        refine mj_blk k_L_ok 258 1 (pc' := 491) (l' := [(0, .ref 2000), (1, .ref v1), (2, .ref v2), (3, .int v3)]) (st' := [.int (0 : Int32)]) rfl ?_
        obtain rfl := Option.some.inj hf
        exact mj_end (some (.int (0 : Int32))) ⟨mj_dec tok_L_law (a := 259) rfl, .boolean, rfl, rfl⟩ ⟨rfl, rfl⟩ (Nat.le_of_ble_eq_true rfl) (Nat.le_of_ble_eq_true rfl)
    have hf := (if_neg q9).symm.trans hf
    by_cases q10 : (x17 &&& (63 : Int32)) = (10 : Int32)
    · have hf := (if_pos q10).symm.trans hf
      refine mj_swIn 21 (10 : Int32) 492 q10 rfl (by decide) (by decide) rfl (by decide) ?_
      refine mj_blk k_L_ok 260 5 (pc' := 497) (l' := [(0, .ref 2000), (1, .ref v1), (2, .ref v2), (3, .int v3)]) (st' := [.int (v3 + (1 : Int32)), .ref 2000, .ref v1]) rfl ?_
      obtain ⟨x65, ex65, hf⟩ := mj_bd hf
      refine mj_xld 265 rfl ex65 ?_
      refine mj_blk k_L_ok 266 4 (pc' := 502) (l' := [(0, .ref 2000), (1, .ref v1), (2, .ref v2), (3, .int v3)]) (st' := [.int (v3 + (2 : Int32)), .ref 2000, .int x65, .ref v1]) rfl ?_
      obtain ⟨x66, ex66, hf⟩ := mj_bd hf
      refine mj_xld 270 rfl ex66 ?_
      obtain ⟨gp67, hf⟩ := mj_gd hf
      obtain ⟨p67, ep67, hf⟩ := mj_bd hf
      refine mj_callV (T := TX8) (N := 14) (ci := 8) mX8_weight [.int x65, .int x66] 271 rfl ll_L_58 lb_X8_weight li_X8_weight ⟨Nat.le_of_ble_eq_true rfl, Nat.le_of_ble_eq_true rfl⟩ rfl gp67 rfl (rest := []) rfl (Nat.le_of_ble_eq_true rfl) ⟨Nat.le_of_ble_eq_true rfl, Nat.le_of_ble_eq_true rfl⟩ (c_X8_weight v1 x65 x66 h p67 ep67) ?_
      show mj_W (mL_law nm) (mj_FX L xs p) 506 [(0, .ref 2000), (1, .ref v1), (2, .ref v2), (3, .int v3)] [.long p67.1] p67.2 65 3281
      refine mj_blk k_L_ok 272 5 (pc' := 511) (l' := [(0, .ref 2000), (1, .ref v1), (2, .ref v2), (3, .int v3)]) (st' := [.int (v3 + (1 : Int32)), .ref 2000, .ref v2, .long p67.1]) rfl ?_
      obtain ⟨x68, ex68, hf⟩ := mj_bd hf
      refine mj_xld 277 rfl ex68 ?_
      refine mj_blk k_L_ok 278 4 (pc' := 516) (l' := [(0, .ref 2000), (1, .ref v1), (2, .ref v2), (3, .int v3)]) (st' := [.int (v3 + (2 : Int32)), .ref 2000, .int x68, .ref v2, .long p67.1]) rfl ?_
      obtain ⟨x69, ex69, hf⟩ := mj_bd hf
      refine mj_xld 282 rfl ex69 ?_
      obtain ⟨gp70, hf⟩ := mj_gd hf
      obtain ⟨p70, ep70, hf⟩ := mj_bd hf
      refine mj_callV (T := TX9) (N := 20) (ci := 9) mX9_weight [.int x68, .int x69] 283 rfl ll_L_62 lb_X9_weight li_X9_weight ⟨Nat.le_of_ble_eq_true rfl, Nat.le_of_ble_eq_true rfl⟩ rfl gp70 rfl (rest := [.long p67.1]) rfl (Nat.le_of_ble_eq_true rfl) ⟨Nat.le_of_ble_eq_true rfl, Nat.le_of_ble_eq_true rfl⟩ (c_X9_weight v2 x68 x69 p67.2 p70 ep70) ?_
      show mj_W (mL_law nm) (mj_FX L xs p) 520 [(0, .ref 2000), (1, .ref v1), (2, .ref v2), (3, .int v3)] [.long p70.1, .long p67.1] p70.2 65 3281
      refine mj_lcmp_eq 284 1259 rfl rfl (by decide) (fun q => ?_) (fun q => ?_)
      · have hf := (if_pos q).symm.trans hf
        exact w_L_law_1259 L xs K18 hK18 v1 v2 v3 p70.2 _ hf
      · have hf := (if_neg q).symm.trans hf
        refine mj_blk k_L_ok 286 1 (pc' := 525) (l' := [(0, .ref 2000), (1, .ref v1), (2, .ref v2), (3, .int v3)]) (st' := [.int (0 : Int32)]) rfl ?_
        obtain rfl := Option.some.inj hf
        exact mj_end (some (.int (0 : Int32))) ⟨mj_dec tok_L_law (a := 287) rfl, .boolean, rfl, rfl⟩ ⟨rfl, rfl⟩ (Nat.le_of_ble_eq_true rfl) (Nat.le_of_ble_eq_true rfl)
    have hf := (if_neg q10).symm.trans hf
    by_cases q11 : (x17 &&& (63 : Int32)) = (11 : Int32)
    · have hf := (if_pos q11).symm.trans hf
      refine mj_swIn 21 (11 : Int32) 526 q11 rfl (by decide) (by decide) rfl (by decide) ?_
      refine mj_blk k_L_ok 288 5 (pc' := 531) (l' := [(0, .ref 2000), (1, .ref v1), (2, .ref v2), (3, .int v3)]) (st' := [.int (v3 + (1 : Int32)), .ref 2000, .ref v1]) rfl ?_
      obtain ⟨x71, ex71, hf⟩ := mj_bd hf
      refine mj_xld 293 rfl ex71 ?_
      refine mj_blk k_L_ok 294 4 (pc' := 536) (l' := [(0, .ref 2000), (1, .ref v1), (2, .ref v2), (3, .int v3)]) (st' := [.int (v3 + (2 : Int32)), .ref 2000, .int x71, .ref v1]) rfl ?_
      obtain ⟨x72, ex72, hf⟩ := mj_bd hf
      refine mj_xld 298 rfl ex72 ?_
      refine mj_blk k_L_ok 299 4 (pc' := 541) (l' := [(0, .ref 2000), (1, .ref v1), (2, .ref v2), (3, .int v3)]) (st' := [.int (v3 + (3 : Int32)), .ref 2000, .int x72, .int x71, .ref v1]) rfl ?_
      obtain ⟨x73, ex73, hf⟩ := mj_bd hf
      refine mj_xld 303 rfl ex73 ?_
      refine mj_if_eq 304 549 rfl (by decide) (fun q => ?_) (fun q => ?_)
      · have hf := (if_pos q).symm.trans hf
        refine mj_blk k_L_ok 307 1 (pc' := 550) (l' := [(0, .ref 2000), (1, .ref v1), (2, .ref v2), (3, .int v3)]) (st' := [.int (0 : Int32), .int x72, .int x71, .ref v1]) rfl ?_
        exact w_L_law_550 L xs K18 hK18 v1 v2 v3 v1 x71 x72 (0 : Int32) h _ hf
      · have hf := (if_neg q).symm.trans hf
        refine mj_blk k_L_ok 305 2 (pc' := 550) (l' := [(0, .ref 2000), (1, .ref v1), (2, .ref v2), (3, .int v3)]) (st' := [.int (1 : Int32), .int x72, .int x71, .ref v1]) rfl ?_
        exact w_L_law_550 L xs K18 hK18 v1 v2 v3 v1 x71 x72 (1 : Int32) h _ hf
    have hf := (if_neg q11).symm.trans hf
    by_cases q12 : (x17 &&& (63 : Int32)) = (12 : Int32)
    · have hf := (if_pos q12).symm.trans hf
      refine mj_swIn 21 (12 : Int32) 585 q12 rfl (by decide) (by decide) rfl (by decide) ?_
      refine mj_blk k_L_ok 333 5 (pc' := 590) (l' := [(0, .ref 2000), (1, .ref v1), (2, .ref v2), (3, .int v3)]) (st' := [.int (v3 + (1 : Int32)), .ref 2000, .ref v1]) rfl ?_
      obtain ⟨x74, ex74, hf⟩ := mj_bd hf
      refine mj_xld 338 rfl ex74 ?_
      obtain ⟨gp75, hf⟩ := mj_gd hf
      obtain ⟨p75, ep75, hf⟩ := mj_bd hf
      refine mj_callV (T := TX8) (N := 14) (ci := 8) mX8_trust [.int x74] 339 rfl ll_L_67 lb_X8_trust li_X8_trust ⟨Nat.le_of_ble_eq_true rfl, Nat.le_of_ble_eq_true rfl⟩ rfl gp75 rfl (rest := []) rfl (Nat.le_of_ble_eq_true rfl) ⟨Nat.le_of_ble_eq_true rfl, Nat.le_of_ble_eq_true rfl⟩ (c_X8_trust v1 x74 h p75 ep75) ?_
      show mj_W (mL_law nm) (mj_FX L xs p) 594 [(0, .ref 2000), (1, .ref v1), (2, .ref v2), (3, .int v3)] [.int p75.1] p75.2 65 3281
      refine mj_blk k_L_ok 340 5 (pc' := 599) (l' := [(0, .ref 2000), (1, .ref v1), (2, .ref v2), (3, .int v3)]) (st' := [.int (v3 + (1 : Int32)), .ref 2000, .ref v2, .int p75.1]) rfl ?_
      obtain ⟨x76, ex76, hf⟩ := mj_bd hf
      refine mj_xld 345 rfl ex76 ?_
      obtain ⟨gp77, hf⟩ := mj_gd hf
      obtain ⟨p77, ep77, hf⟩ := mj_bd hf
      refine mj_callV (T := TX9) (N := 20) (ci := 9) mX9_trust [.int x76] 346 rfl ll_L_70 lb_X9_trust li_X9_trust ⟨Nat.le_of_ble_eq_true rfl, Nat.le_of_ble_eq_true rfl⟩ rfl gp77 rfl (rest := [.int p75.1]) rfl (Nat.le_of_ble_eq_true rfl) ⟨Nat.le_of_ble_eq_true rfl, Nat.le_of_ble_eq_true rfl⟩ (c_X9_trust v2 x76 p75.2 p77 ep77) ?_
      show mj_W (mL_law nm) (mj_FX L xs p) 603 [(0, .ref 2000), (1, .ref v1), (2, .ref v2), (3, .int v3)] [.int p77.1, .int p75.1] p77.2 65 3281
      refine mj_icmp_eq 347 1259 rfl (by decide) (fun q => ?_) (fun q => ?_)
      · have hf := (if_pos q).symm.trans hf
        exact w_L_law_1259 L xs K18 hK18 v1 v2 v3 p77.2 _ hf
      · have hf := (if_neg q).symm.trans hf
        refine mj_blk k_L_ok 348 1 (pc' := 607) (l' := [(0, .ref 2000), (1, .ref v1), (2, .ref v2), (3, .int v3)]) (st' := [.int (0 : Int32)]) rfl ?_
        obtain rfl := Option.some.inj hf
        exact mj_end (some (.int (0 : Int32))) ⟨mj_dec tok_L_law (a := 349) rfl, .boolean, rfl, rfl⟩ ⟨rfl, rfl⟩ (Nat.le_of_ble_eq_true rfl) (Nat.le_of_ble_eq_true rfl)
    have hf := (if_neg q12).symm.trans hf
    by_cases q13 : (x17 &&& (63 : Int32)) = (13 : Int32)
    · have hf := (if_pos q13).symm.trans hf
      refine mj_swIn 21 (13 : Int32) 608 q13 rfl (by decide) (by decide) rfl (by decide) ?_
      refine mj_blk k_L_ok 350 5 (pc' := 613) (l' := [(0, .ref 2000), (1, .ref v1), (2, .ref v2), (3, .int v3)]) (st' := [.int (v3 + (1 : Int32)), .ref 2000, .ref v1]) rfl ?_
      obtain ⟨x78, ex78, hf⟩ := mj_bd hf
      refine mj_xld 355 rfl ex78 ?_
      refine mj_blk k_L_ok 356 4 (pc' := 618) (l' := [(0, .ref 2000), (1, .ref v1), (2, .ref v2), (3, .int v3)]) (st' := [.int (v3 + (2 : Int32)), .ref 2000, .int x78, .ref v1]) rfl ?_
      obtain ⟨x79, ex79, hf⟩ := mj_bd hf
      refine mj_xld 360 rfl ex79 ?_
      obtain ⟨gp80, hf⟩ := mj_gd hf
      obtain ⟨p80, ep80, hf⟩ := mj_bd hf
      refine mj_callV (T := TX8) (N := 14) (ci := 8) mX8_shows [.int x78, .int x79] 361 rfl ll_L_71 lb_X8_shows li_X8_shows ⟨Nat.le_of_ble_eq_true rfl, Nat.le_of_ble_eq_true rfl⟩ rfl gp80 rfl (rest := []) rfl (Nat.le_of_ble_eq_true rfl) ⟨Nat.le_of_ble_eq_true rfl, Nat.le_of_ble_eq_true rfl⟩ (c_X8_shows v1 x78 x79 h p80 ep80) ?_
      show mj_W (mL_law nm) (mj_FX L xs p) 622 [(0, .ref 2000), (1, .ref v1), (2, .ref v2), (3, .int v3)] [.int p80.1] p80.2 65 3281
      refine mj_blk k_L_ok 362 5 (pc' := 627) (l' := [(0, .ref 2000), (1, .ref v1), (2, .ref v2), (3, .int v3)]) (st' := [.int (v3 + (1 : Int32)), .ref 2000, .ref v2, .int p80.1]) rfl ?_
      obtain ⟨x81, ex81, hf⟩ := mj_bd hf
      refine mj_xld 367 rfl ex81 ?_
      refine mj_blk k_L_ok 368 4 (pc' := 632) (l' := [(0, .ref 2000), (1, .ref v1), (2, .ref v2), (3, .int v3)]) (st' := [.int (v3 + (2 : Int32)), .ref 2000, .int x81, .ref v2, .int p80.1]) rfl ?_
      obtain ⟨x82, ex82, hf⟩ := mj_bd hf
      refine mj_xld 372 rfl ex82 ?_
      obtain ⟨gp83, hf⟩ := mj_gd hf
      obtain ⟨p83, ep83, hf⟩ := mj_bd hf
      refine mj_callV (T := TX9) (N := 20) (ci := 9) mX9_shows [.int x81, .int x82] 373 rfl ll_L_74 lb_X9_shows li_X9_shows ⟨Nat.le_of_ble_eq_true rfl, Nat.le_of_ble_eq_true rfl⟩ rfl gp83 rfl (rest := [.int p80.1]) rfl (Nat.le_of_ble_eq_true rfl) ⟨Nat.le_of_ble_eq_true rfl, Nat.le_of_ble_eq_true rfl⟩ (c_X9_shows v2 x81 x82 p80.2 p83 ep83) ?_
      show mj_W (mL_law nm) (mj_FX L xs p) 636 [(0, .ref 2000), (1, .ref v1), (2, .ref v2), (3, .int v3)] [.int p83.1, .int p80.1] p83.2 65 3281
      refine mj_icmp_eq 374 1259 rfl (by decide) (fun q => ?_) (fun q => ?_)
      · have hf := (if_pos q).symm.trans hf
        exact w_L_law_1259 L xs K18 hK18 v1 v2 v3 p83.2 _ hf
      · have hf := (if_neg q).symm.trans hf
        refine mj_blk k_L_ok 375 1 (pc' := 640) (l' := [(0, .ref 2000), (1, .ref v1), (2, .ref v2), (3, .int v3)]) (st' := [.int (0 : Int32)]) rfl ?_
        obtain rfl := Option.some.inj hf
        exact mj_end (some (.int (0 : Int32))) ⟨mj_dec tok_L_law (a := 376) rfl, .boolean, rfl, rfl⟩ ⟨rfl, rfl⟩ (Nat.le_of_ble_eq_true rfl) (Nat.le_of_ble_eq_true rfl)
    have hf := (if_neg q13).symm.trans hf
    by_cases q14 : (x17 &&& (63 : Int32)) = (14 : Int32)
    · have hf := (if_pos q14).symm.trans hf
      refine mj_swIn 21 (14 : Int32) 641 q14 rfl (by decide) (by decide) rfl (by decide) ?_
      refine mj_blk k_L_ok 377 5 (pc' := 646) (l' := [(0, .ref 2000), (1, .ref v1), (2, .ref v2), (3, .int v3)]) (st' := [.int (v3 + (1 : Int32)), .ref 2000, .ref v1]) rfl ?_
      obtain ⟨x84, ex84, hf⟩ := mj_bd hf
      refine mj_xld 382 rfl ex84 ?_
      refine mj_blk k_L_ok 383 4 (pc' := 651) (l' := [(0, .ref 2000), (1, .ref v1), (2, .ref v2), (3, .int v3)]) (st' := [.int (v3 + (2 : Int32)), .ref 2000, .int x84, .ref v1]) rfl ?_
      obtain ⟨x85, ex85, hf⟩ := mj_bd hf
      refine mj_xld 387 rfl ex85 ?_
      obtain ⟨gp86, hf⟩ := mj_gd hf
      obtain ⟨p86, ep86, hf⟩ := mj_bd hf
      refine mj_callV (T := TX8) (N := 14) (ci := 8) mX8_of [.int x84, .int x85] 388 rfl ll_L_75 lb_X8_of li_X8_of ⟨Nat.le_of_ble_eq_true rfl, Nat.le_of_ble_eq_true rfl⟩ rfl gp86 rfl (rest := []) rfl (Nat.le_of_ble_eq_true rfl) ⟨Nat.le_of_ble_eq_true rfl, Nat.le_of_ble_eq_true rfl⟩ (c_X8_of v1 x84 x85 h p86 ep86) ?_
      show mj_W (mL_law nm) (mj_FX L xs p) 655 [(0, .ref 2000), (1, .ref v1), (2, .ref v2), (3, .int v3)] [.int p86.1] p86.2 65 3281
      refine mj_blk k_L_ok 389 5 (pc' := 660) (l' := [(0, .ref 2000), (1, .ref v1), (2, .ref v2), (3, .int v3)]) (st' := [.int (v3 + (1 : Int32)), .ref 2000, .ref v2, .int p86.1]) rfl ?_
      obtain ⟨x87, ex87, hf⟩ := mj_bd hf
      refine mj_xld 394 rfl ex87 ?_
      refine mj_blk k_L_ok 395 4 (pc' := 665) (l' := [(0, .ref 2000), (1, .ref v1), (2, .ref v2), (3, .int v3)]) (st' := [.int (v3 + (2 : Int32)), .ref 2000, .int x87, .ref v2, .int p86.1]) rfl ?_
      obtain ⟨x88, ex88, hf⟩ := mj_bd hf
      refine mj_xld 399 rfl ex88 ?_
      obtain ⟨gp89, hf⟩ := mj_gd hf
      obtain ⟨p89, ep89, hf⟩ := mj_bd hf
      refine mj_callV (T := TX9) (N := 20) (ci := 9) mX9_of [.int x87, .int x88] 400 rfl ll_L_78 lb_X9_of li_X9_of ⟨Nat.le_of_ble_eq_true rfl, Nat.le_of_ble_eq_true rfl⟩ rfl gp89 rfl (rest := [.int p86.1]) rfl (Nat.le_of_ble_eq_true rfl) ⟨Nat.le_of_ble_eq_true rfl, Nat.le_of_ble_eq_true rfl⟩ (c_X9_of v2 x87 x88 p86.2 p89 ep89) ?_
      show mj_W (mL_law nm) (mj_FX L xs p) 669 [(0, .ref 2000), (1, .ref v1), (2, .ref v2), (3, .int v3)] [.int p89.1, .int p86.1] p89.2 65 3281
      refine mj_icmp_eq 401 1259 rfl (by decide) (fun q => ?_) (fun q => ?_)
      · have hf := (if_pos q).symm.trans hf
        exact w_L_law_1259 L xs K18 hK18 v1 v2 v3 p89.2 _ hf
      · have hf := (if_neg q).symm.trans hf
        refine mj_blk k_L_ok 402 1 (pc' := 673) (l' := [(0, .ref 2000), (1, .ref v1), (2, .ref v2), (3, .int v3)]) (st' := [.int (0 : Int32)]) rfl ?_
        obtain rfl := Option.some.inj hf
        exact mj_end (some (.int (0 : Int32))) ⟨mj_dec tok_L_law (a := 403) rfl, .boolean, rfl, rfl⟩ ⟨rfl, rfl⟩ (Nat.le_of_ble_eq_true rfl) (Nat.le_of_ble_eq_true rfl)
    have hf := (if_neg q14).symm.trans hf
    by_cases q15 : (x17 &&& (63 : Int32)) = (15 : Int32)
    · have hf := (if_pos q15).symm.trans hf
      refine mj_swIn 21 (15 : Int32) 674 q15 rfl (by decide) (by decide) rfl (by decide) ?_
      refine mj_blk k_L_ok 404 5 (pc' := 679) (l' := [(0, .ref 2000), (1, .ref v1), (2, .ref v2), (3, .int v3)]) (st' := [.int (v3 + (1 : Int32)), .ref 2000, .ref v1]) rfl ?_
      obtain ⟨x90, ex90, hf⟩ := mj_bd hf
      refine mj_xld 409 rfl ex90 ?_
      refine mj_blk k_L_ok 410 4 (pc' := 684) (l' := [(0, .ref 2000), (1, .ref v1), (2, .ref v2), (3, .int v3)]) (st' := [.int (v3 + (2 : Int32)), .ref 2000, .int x90, .ref v1]) rfl ?_
      obtain ⟨x91, ex91, hf⟩ := mj_bd hf
      refine mj_xld 414 rfl ex91 ?_
      obtain ⟨gp92, hf⟩ := mj_gd hf
      obtain ⟨p92, ep92, hf⟩ := mj_bd hf
      refine mj_callV (T := TX8) (N := 14) (ci := 8) mX8_hold [.int x90, .int x91] 415 rfl ll_L_79 lb_X8_hold li_X8_hold ⟨Nat.le_of_ble_eq_true rfl, Nat.le_of_ble_eq_true rfl⟩ rfl gp92 rfl (rest := []) rfl (Nat.le_of_ble_eq_true rfl) ⟨Nat.le_of_ble_eq_true rfl, Nat.le_of_ble_eq_true rfl⟩ (c_X8_hold v1 x90 x91 h p92 ep92) ?_
      show mj_W (mL_law nm) (mj_FX L xs p) 688 [(0, .ref 2000), (1, .ref v1), (2, .ref v2), (3, .int v3)] [.int p92.1] p92.2 65 3281
      refine mj_blk k_L_ok 416 5 (pc' := 693) (l' := [(0, .ref 2000), (1, .ref v1), (2, .ref v2), (3, .int v3)]) (st' := [.int (v3 + (1 : Int32)), .ref 2000, .ref v2, .int p92.1]) rfl ?_
      obtain ⟨x93, ex93, hf⟩ := mj_bd hf
      refine mj_xld 421 rfl ex93 ?_
      refine mj_blk k_L_ok 422 4 (pc' := 698) (l' := [(0, .ref 2000), (1, .ref v1), (2, .ref v2), (3, .int v3)]) (st' := [.int (v3 + (2 : Int32)), .ref 2000, .int x93, .ref v2, .int p92.1]) rfl ?_
      obtain ⟨x94, ex94, hf⟩ := mj_bd hf
      refine mj_xld 426 rfl ex94 ?_
      obtain ⟨gp95, hf⟩ := mj_gd hf
      obtain ⟨p95, ep95, hf⟩ := mj_bd hf
      refine mj_callV (T := TX9) (N := 20) (ci := 9) mX9_hold [.int x93, .int x94] 427 rfl ll_L_82 lb_X9_hold li_X9_hold ⟨Nat.le_of_ble_eq_true rfl, Nat.le_of_ble_eq_true rfl⟩ rfl gp95 rfl (rest := [.int p92.1]) rfl (Nat.le_of_ble_eq_true rfl) ⟨Nat.le_of_ble_eq_true rfl, Nat.le_of_ble_eq_true rfl⟩ (c_X9_hold v2 x93 x94 p92.2 p95 ep95) ?_
      show mj_W (mL_law nm) (mj_FX L xs p) 702 [(0, .ref 2000), (1, .ref v1), (2, .ref v2), (3, .int v3)] [.int p95.1, .int p92.1] p95.2 65 3281
      refine mj_icmp_eq 428 1259 rfl (by decide) (fun q => ?_) (fun q => ?_)
      · have hf := (if_pos q).symm.trans hf
        exact w_L_law_1259 L xs K18 hK18 v1 v2 v3 p95.2 _ hf
      · have hf := (if_neg q).symm.trans hf
        refine mj_blk k_L_ok 429 1 (pc' := 706) (l' := [(0, .ref 2000), (1, .ref v1), (2, .ref v2), (3, .int v3)]) (st' := [.int (0 : Int32)]) rfl ?_
        obtain rfl := Option.some.inj hf
        exact mj_end (some (.int (0 : Int32))) ⟨mj_dec tok_L_law (a := 430) rfl, .boolean, rfl, rfl⟩ ⟨rfl, rfl⟩ (Nat.le_of_ble_eq_true rfl) (Nat.le_of_ble_eq_true rfl)
    have hf := (if_neg q15).symm.trans hf
    by_cases q16 : (x17 &&& (63 : Int32)) = (16 : Int32)
    · have hf := (if_pos q16).symm.trans hf
      refine mj_swIn 21 (16 : Int32) 707 q16 rfl (by decide) (by decide) rfl (by decide) ?_
      refine mj_blk k_L_ok 431 5 (pc' := 712) (l' := [(0, .ref 2000), (1, .ref v1), (2, .ref v2), (3, .int v3)]) (st' := [.int (v3 + (1 : Int32)), .ref 2000, .ref v1]) rfl ?_
      obtain ⟨x96, ex96, hf⟩ := mj_bd hf
      refine mj_xld 436 rfl ex96 ?_
      refine mj_blk k_L_ok 437 4 (pc' := 717) (l' := [(0, .ref 2000), (1, .ref v1), (2, .ref v2), (3, .int v3)]) (st' := [.int (v3 + (2 : Int32)), .ref 2000, .int x96, .ref v1]) rfl ?_
      obtain ⟨x97, ex97, hf⟩ := mj_bd hf
      refine mj_xld 441 rfl ex97 ?_
      obtain ⟨gp98, hf⟩ := mj_gd hf
      obtain ⟨p98, ep98, hf⟩ := mj_bd hf
      refine mj_callV (T := TX8) (N := 14) (ci := 8) mX8_keep [.int x96, .int x97] 442 rfl ll_L_83 lb_X8_keep li_X8_keep ⟨Nat.le_of_ble_eq_true rfl, Nat.le_of_ble_eq_true rfl⟩ rfl gp98 rfl (rest := []) rfl (Nat.le_of_ble_eq_true rfl) ⟨Nat.le_of_ble_eq_true rfl, Nat.le_of_ble_eq_true rfl⟩ (c_X8_keep v1 x96 x97 h p98 ep98) ?_
      show mj_W (mL_law nm) (mj_FX L xs p) 721 [(0, .ref 2000), (1, .ref v1), (2, .ref v2), (3, .int v3)] [.int p98.1] p98.2 65 3281
      refine mj_blk k_L_ok 443 5 (pc' := 726) (l' := [(0, .ref 2000), (1, .ref v1), (2, .ref v2), (3, .int v3)]) (st' := [.int (v3 + (1 : Int32)), .ref 2000, .ref v2, .int p98.1]) rfl ?_
      obtain ⟨x99, ex99, hf⟩ := mj_bd hf
      refine mj_xld 448 rfl ex99 ?_
      refine mj_blk k_L_ok 449 4 (pc' := 731) (l' := [(0, .ref 2000), (1, .ref v1), (2, .ref v2), (3, .int v3)]) (st' := [.int (v3 + (2 : Int32)), .ref 2000, .int x99, .ref v2, .int p98.1]) rfl ?_
      obtain ⟨x100, ex100, hf⟩ := mj_bd hf
      refine mj_xld 453 rfl ex100 ?_
      obtain ⟨gp101, hf⟩ := mj_gd hf
      obtain ⟨p101, ep101, hf⟩ := mj_bd hf
      refine mj_callV (T := TX9) (N := 20) (ci := 9) mX9_keep [.int x99, .int x100] 454 rfl ll_L_86 lb_X9_keep li_X9_keep ⟨Nat.le_of_ble_eq_true rfl, Nat.le_of_ble_eq_true rfl⟩ rfl gp101 rfl (rest := [.int p98.1]) rfl (Nat.le_of_ble_eq_true rfl) ⟨Nat.le_of_ble_eq_true rfl, Nat.le_of_ble_eq_true rfl⟩ (c_X9_keep v2 x99 x100 p98.2 p101 ep101) ?_
      show mj_W (mL_law nm) (mj_FX L xs p) 735 [(0, .ref 2000), (1, .ref v1), (2, .ref v2), (3, .int v3)] [.int p101.1, .int p98.1] p101.2 65 3281
      refine mj_icmp_eq 455 1259 rfl (by decide) (fun q => ?_) (fun q => ?_)
      · have hf := (if_pos q).symm.trans hf
        exact w_L_law_1259 L xs K18 hK18 v1 v2 v3 p101.2 _ hf
      · have hf := (if_neg q).symm.trans hf
        refine mj_blk k_L_ok 456 1 (pc' := 739) (l' := [(0, .ref 2000), (1, .ref v1), (2, .ref v2), (3, .int v3)]) (st' := [.int (0 : Int32)]) rfl ?_
        obtain rfl := Option.some.inj hf
        exact mj_end (some (.int (0 : Int32))) ⟨mj_dec tok_L_law (a := 457) rfl, .boolean, rfl, rfl⟩ ⟨rfl, rfl⟩ (Nat.le_of_ble_eq_true rfl) (Nat.le_of_ble_eq_true rfl)
    have hf := (if_neg q16).symm.trans hf
    by_cases q17 : (x17 &&& (63 : Int32)) = (17 : Int32)
    · have hf := (if_pos q17).symm.trans hf
      refine mj_swIn 21 (17 : Int32) 740 q17 rfl (by decide) (by decide) rfl (by decide) ?_
      refine mj_blk k_L_ok 458 5 (pc' := 745) (l' := [(0, .ref 2000), (1, .ref v1), (2, .ref v2), (3, .int v3)]) (st' := [.int (v3 + (1 : Int32)), .ref 2000, .ref v1]) rfl ?_
      obtain ⟨x102, ex102, hf⟩ := mj_bd hf
      refine mj_xld 463 rfl ex102 ?_
      refine mj_blk k_L_ok 464 4 (pc' := 750) (l' := [(0, .ref 2000), (1, .ref v1), (2, .ref v2), (3, .int v3)]) (st' := [.int (v3 + (2 : Int32)), .ref 2000, .int x102, .ref v1]) rfl ?_
      obtain ⟨x103, ex103, hf⟩ := mj_bd hf
      refine mj_xld 468 rfl ex103 ?_
      refine mj_blk k_L_ok 469 4 (pc' := 755) (l' := [(0, .ref 2000), (1, .ref v1), (2, .ref v2), (3, .int v3)]) (st' := [.int (v3 + (3 : Int32)), .ref 2000, .int x103, .int x102, .ref v1]) rfl ?_
      obtain ⟨x104, ex104, hf⟩ := mj_bd hf
      refine mj_xld 473 rfl ex104 ?_
      refine mj_blk k_L_ok 474 4 (pc' := 760) (l' := [(0, .ref 2000), (1, .ref v1), (2, .ref v2), (3, .int v3)]) (st' := [.int (v3 + (4 : Int32)), .ref 2000, .int x104, .int x103, .int x102, .ref v1]) rfl ?_
      obtain ⟨x105, ex105, hf⟩ := mj_bd hf
      refine mj_xld 478 rfl ex105 ?_
      obtain ⟨gp106, hf⟩ := mj_gd hf
      obtain ⟨p106, ep106, hf⟩ := mj_bd hf
      refine mj_callV (T := TX8) (N := 14) (ci := 8) mX8_worth [.int x102, .int x103, .int x104, .int x105] 479 rfl ll_L_87 lb_X8_worth li_X8_worth ⟨Nat.le_of_ble_eq_true rfl, Nat.le_of_ble_eq_true rfl⟩ rfl gp106 rfl (rest := []) rfl (Nat.le_of_ble_eq_true rfl) ⟨Nat.le_of_ble_eq_true rfl, Nat.le_of_ble_eq_true rfl⟩ (c_X8_worth v1 x102 x103 x104 x105 h p106 ep106) ?_
      show mj_W (mL_law nm) (mj_FX L xs p) 764 [(0, .ref 2000), (1, .ref v1), (2, .ref v2), (3, .int v3)] [.int p106.1] p106.2 65 3281
      refine mj_blk k_L_ok 480 5 (pc' := 769) (l' := [(0, .ref 2000), (1, .ref v1), (2, .ref v2), (3, .int v3)]) (st' := [.int (v3 + (1 : Int32)), .ref 2000, .ref v2, .int p106.1]) rfl ?_
      obtain ⟨x107, ex107, hf⟩ := mj_bd hf
      refine mj_xld 485 rfl ex107 ?_
      refine mj_blk k_L_ok 486 4 (pc' := 774) (l' := [(0, .ref 2000), (1, .ref v1), (2, .ref v2), (3, .int v3)]) (st' := [.int (v3 + (2 : Int32)), .ref 2000, .int x107, .ref v2, .int p106.1]) rfl ?_
      obtain ⟨x108, ex108, hf⟩ := mj_bd hf
      refine mj_xld 490 rfl ex108 ?_
      refine mj_blk k_L_ok 491 4 (pc' := 779) (l' := [(0, .ref 2000), (1, .ref v1), (2, .ref v2), (3, .int v3)]) (st' := [.int (v3 + (3 : Int32)), .ref 2000, .int x108, .int x107, .ref v2, .int p106.1]) rfl ?_
      obtain ⟨x109, ex109, hf⟩ := mj_bd hf
      refine mj_xld 495 rfl ex109 ?_
      refine mj_blk k_L_ok 496 4 (pc' := 784) (l' := [(0, .ref 2000), (1, .ref v1), (2, .ref v2), (3, .int v3)]) (st' := [.int (v3 + (4 : Int32)), .ref 2000, .int x109, .int x108, .int x107, .ref v2, .int p106.1]) rfl ?_
      obtain ⟨x110, ex110, hf⟩ := mj_bd hf
      refine mj_xld 500 rfl ex110 ?_
      obtain ⟨gp111, hf⟩ := mj_gd hf
      obtain ⟨p111, ep111, hf⟩ := mj_bd hf
      refine mj_callV (T := TX9) (N := 20) (ci := 9) mX9_worth [.int x107, .int x108, .int x109, .int x110] 501 rfl ll_L_91 lb_X9_worth li_X9_worth ⟨Nat.le_of_ble_eq_true rfl, Nat.le_of_ble_eq_true rfl⟩ rfl gp111 rfl (rest := [.int p106.1]) rfl (Nat.le_of_ble_eq_true rfl) ⟨Nat.le_of_ble_eq_true rfl, Nat.le_of_ble_eq_true rfl⟩ (c_X9_worth v2 x107 x108 x109 x110 p106.2 p111 ep111) ?_
      show mj_W (mL_law nm) (mj_FX L xs p) 788 [(0, .ref 2000), (1, .ref v1), (2, .ref v2), (3, .int v3)] [.int p111.1, .int p106.1] p111.2 65 3281
      refine mj_icmp_eq 502 1259 rfl (by decide) (fun q => ?_) (fun q => ?_)
      · have hf := (if_pos q).symm.trans hf
        exact w_L_law_1259 L xs K18 hK18 v1 v2 v3 p111.2 _ hf
      · have hf := (if_neg q).symm.trans hf
        refine mj_blk k_L_ok 503 1 (pc' := 792) (l' := [(0, .ref 2000), (1, .ref v1), (2, .ref v2), (3, .int v3)]) (st' := [.int (0 : Int32)]) rfl ?_
        obtain rfl := Option.some.inj hf
        exact mj_end (some (.int (0 : Int32))) ⟨mj_dec tok_L_law (a := 504) rfl, .boolean, rfl, rfl⟩ ⟨rfl, rfl⟩ (Nat.le_of_ble_eq_true rfl) (Nat.le_of_ble_eq_true rfl)
    have hf := (if_neg q17).symm.trans hf
    by_cases q18 : (x17 &&& (63 : Int32)) = (18 : Int32)
    · have hf := (if_pos q18).symm.trans hf
      refine mj_swIn 21 (18 : Int32) 793 q18 rfl (by decide) (by decide) rfl (by decide) ?_
      refine mj_blk k_L_ok 505 5 (pc' := 798) (l' := [(0, .ref 2000), (1, .ref v1), (2, .ref v2), (3, .int v3)]) (st' := [.int (v3 + (1 : Int32)), .ref 2000, .ref v1]) rfl ?_
      obtain ⟨x112, ex112, hf⟩ := mj_bd hf
      refine mj_xld 510 rfl ex112 ?_
      refine mj_blk k_L_ok 511 4 (pc' := 803) (l' := [(0, .ref 2000), (1, .ref v1), (2, .ref v2), (3, .int v3)]) (st' := [.int (v3 + (2 : Int32)), .ref 2000, .int x112, .ref v1]) rfl ?_
      obtain ⟨x113, ex113, hf⟩ := mj_bd hf
      refine mj_xld 515 rfl ex113 ?_
      obtain ⟨gp114, hf⟩ := mj_gd hf
      obtain ⟨p114, ep114, hf⟩ := mj_bd hf
      refine mj_callV (T := TX8) (N := 14) (ci := 8) mX8_best [.int x112, .int x113] 516 rfl ll_L_92 lb_X8_best li_X8_best ⟨Nat.le_of_ble_eq_true rfl, Nat.le_of_ble_eq_true rfl⟩ rfl gp114 rfl (rest := []) rfl (Nat.le_of_ble_eq_true rfl) ⟨Nat.le_of_ble_eq_true rfl, Nat.le_of_ble_eq_true rfl⟩ (c_X8_best v1 x112 x113 h p114 ep114) ?_
      show mj_W (mL_law nm) (mj_FX L xs p) 807 [(0, .ref 2000), (1, .ref v1), (2, .ref v2), (3, .int v3)] [.int p114.1] p114.2 65 3281
      refine mj_blk k_L_ok 517 5 (pc' := 812) (l' := [(0, .ref 2000), (1, .ref v1), (2, .ref v2), (3, .int v3)]) (st' := [.int (v3 + (1 : Int32)), .ref 2000, .ref v2, .int p114.1]) rfl ?_
      obtain ⟨x115, ex115, hf⟩ := mj_bd hf
      refine mj_xld 522 rfl ex115 ?_
      refine mj_blk k_L_ok 523 4 (pc' := 817) (l' := [(0, .ref 2000), (1, .ref v1), (2, .ref v2), (3, .int v3)]) (st' := [.int (v3 + (2 : Int32)), .ref 2000, .int x115, .ref v2, .int p114.1]) rfl ?_
      obtain ⟨x116, ex116, hf⟩ := mj_bd hf
      refine mj_xld 527 rfl ex116 ?_
      obtain ⟨gp117, hf⟩ := mj_gd hf
      obtain ⟨p117, ep117, hf⟩ := mj_bd hf
      refine mj_callV (T := TX9) (N := 20) (ci := 9) mX9_best [.int x115, .int x116] 528 rfl ll_L_95 lb_X9_best li_X9_best ⟨Nat.le_of_ble_eq_true rfl, Nat.le_of_ble_eq_true rfl⟩ rfl gp117 rfl (rest := [.int p114.1]) rfl (Nat.le_of_ble_eq_true rfl) ⟨Nat.le_of_ble_eq_true rfl, Nat.le_of_ble_eq_true rfl⟩ (c_X9_best v2 x115 x116 p114.2 p117 ep117) ?_
      show mj_W (mL_law nm) (mj_FX L xs p) 821 [(0, .ref 2000), (1, .ref v1), (2, .ref v2), (3, .int v3)] [.int p117.1, .int p114.1] p117.2 65 3281
      refine mj_icmp_eq 529 1259 rfl (by decide) (fun q => ?_) (fun q => ?_)
      · have hf := (if_pos q).symm.trans hf
        exact w_L_law_1259 L xs K18 hK18 v1 v2 v3 p117.2 _ hf
      · have hf := (if_neg q).symm.trans hf
        refine mj_blk k_L_ok 530 1 (pc' := 825) (l' := [(0, .ref 2000), (1, .ref v1), (2, .ref v2), (3, .int v3)]) (st' := [.int (0 : Int32)]) rfl ?_
        obtain rfl := Option.some.inj hf
        exact mj_end (some (.int (0 : Int32))) ⟨mj_dec tok_L_law (a := 531) rfl, .boolean, rfl, rfl⟩ ⟨rfl, rfl⟩ (Nat.le_of_ble_eq_true rfl) (Nat.le_of_ble_eq_true rfl)
    have hf := (if_neg q18).symm.trans hf
    by_cases q19 : (x17 &&& (63 : Int32)) = (19 : Int32)
    · have hf := (if_pos q19).symm.trans hf
      refine mj_swIn 21 (19 : Int32) 826 q19 rfl (by decide) (by decide) rfl (by decide) ?_
      refine mj_blk k_L_ok 532 5 (pc' := 831) (l' := [(0, .ref 2000), (1, .ref v1), (2, .ref v2), (3, .int v3)]) (st' := [.int (v3 + (1 : Int32)), .ref 2000, .ref v1]) rfl ?_
      obtain ⟨x118, ex118, hf⟩ := mj_bd hf
      refine mj_xld 537 rfl ex118 ?_
      refine mj_blk k_L_ok 538 4 (pc' := 836) (l' := [(0, .ref 2000), (1, .ref v1), (2, .ref v2), (3, .int v3)]) (st' := [.int (v3 + (2 : Int32)), .ref 2000, .int x118, .ref v1]) rfl ?_
      obtain ⟨x119, ex119, hf⟩ := mj_bd hf
      refine mj_xld 542 rfl ex119 ?_
      refine mj_blk k_L_ok 543 4 (pc' := 841) (l' := [(0, .ref 2000), (1, .ref v1), (2, .ref v2), (3, .int v3)]) (st' := [.int (v3 + (3 : Int32)), .ref 2000, .int x119, .int x118, .ref v1]) rfl ?_
      obtain ⟨x120, ex120, hf⟩ := mj_bd hf
      refine mj_xld 547 rfl ex120 ?_
      obtain ⟨gp121, hf⟩ := mj_gd hf
      obtain ⟨p121, ep121, hf⟩ := mj_bd hf
      refine mj_callV (T := TX8) (N := 14) (ci := 8) mX8_sift [.int x118, .int x119, .int x120] 548 rfl ll_L_96 lb_X8_sift li_X8_sift ⟨Nat.le_of_ble_eq_true rfl, Nat.le_of_ble_eq_true rfl⟩ rfl gp121 rfl (rest := []) rfl (Nat.le_of_ble_eq_true rfl) ⟨Nat.le_of_ble_eq_true rfl, Nat.le_of_ble_eq_true rfl⟩ (c_X8_sift v1 x118 x119 x120 h p121 ep121) ?_
      show mj_W (mL_law nm) (mj_FX L xs p) 845 [(0, .ref 2000), (1, .ref v1), (2, .ref v2), (3, .int v3)] [.int p121.1] p121.2 65 3281
      refine mj_blk k_L_ok 549 5 (pc' := 850) (l' := [(0, .ref 2000), (1, .ref v1), (2, .ref v2), (3, .int v3)]) (st' := [.int (v3 + (1 : Int32)), .ref 2000, .ref v2, .int p121.1]) rfl ?_
      obtain ⟨x122, ex122, hf⟩ := mj_bd hf
      refine mj_xld 554 rfl ex122 ?_
      refine mj_blk k_L_ok 555 4 (pc' := 855) (l' := [(0, .ref 2000), (1, .ref v1), (2, .ref v2), (3, .int v3)]) (st' := [.int (v3 + (2 : Int32)), .ref 2000, .int x122, .ref v2, .int p121.1]) rfl ?_
      obtain ⟨x123, ex123, hf⟩ := mj_bd hf
      refine mj_xld 559 rfl ex123 ?_
      refine mj_blk k_L_ok 560 4 (pc' := 860) (l' := [(0, .ref 2000), (1, .ref v1), (2, .ref v2), (3, .int v3)]) (st' := [.int (v3 + (3 : Int32)), .ref 2000, .int x123, .int x122, .ref v2, .int p121.1]) rfl ?_
      obtain ⟨x124, ex124, hf⟩ := mj_bd hf
      refine mj_xld 564 rfl ex124 ?_
      obtain ⟨gp125, hf⟩ := mj_gd hf
      obtain ⟨p125, ep125, hf⟩ := mj_bd hf
      refine mj_callV (T := TX9) (N := 20) (ci := 9) mX9_sift [.int x122, .int x123, .int x124] 565 rfl ll_L_100 lb_X9_sift li_X9_sift ⟨Nat.le_of_ble_eq_true rfl, Nat.le_of_ble_eq_true rfl⟩ rfl gp125 rfl (rest := [.int p121.1]) rfl (Nat.le_of_ble_eq_true rfl) ⟨Nat.le_of_ble_eq_true rfl, Nat.le_of_ble_eq_true rfl⟩ (c_X9_sift v2 x122 x123 x124 p121.2 p125 ep125) ?_
      show mj_W (mL_law nm) (mj_FX L xs p) 864 [(0, .ref 2000), (1, .ref v1), (2, .ref v2), (3, .int v3)] [.int p125.1, .int p121.1] p125.2 65 3281
      refine mj_icmp_eq 566 1259 rfl (by decide) (fun q => ?_) (fun q => ?_)
      · have hf := (if_pos q).symm.trans hf
        exact w_L_law_1259 L xs K18 hK18 v1 v2 v3 p125.2 _ hf
      · have hf := (if_neg q).symm.trans hf
        refine mj_blk k_L_ok 567 1 (pc' := 868) (l' := [(0, .ref 2000), (1, .ref v1), (2, .ref v2), (3, .int v3)]) (st' := [.int (0 : Int32)]) rfl ?_
        obtain rfl := Option.some.inj hf
        exact mj_end (some (.int (0 : Int32))) ⟨mj_dec tok_L_law (a := 568) rfl, .boolean, rfl, rfl⟩ ⟨rfl, rfl⟩ (Nat.le_of_ble_eq_true rfl) (Nat.le_of_ble_eq_true rfl)
    have hf := (if_neg q19).symm.trans hf
    by_cases q20 : (x17 &&& (63 : Int32)) = (20 : Int32)
    · have hf := (if_pos q20).symm.trans hf
      refine mj_swIn 21 (20 : Int32) 869 q20 rfl (by decide) (by decide) rfl (by decide) ?_
      refine mj_blk k_L_ok 569 5 (pc' := 874) (l' := [(0, .ref 2000), (1, .ref v1), (2, .ref v2), (3, .int v3)]) (st' := [.int (v3 + (1 : Int32)), .ref 2000, .ref v1]) rfl ?_
      obtain ⟨x126, ex126, hf⟩ := mj_bd hf
      refine mj_xld 574 rfl ex126 ?_
      obtain ⟨gp127, hf⟩ := mj_gd hf
      obtain ⟨p127, ep127, hf⟩ := mj_bd hf
      refine mj_callV (T := TX8) (N := 14) (ci := 8) mX8_runs [.int x126] 575 rfl ll_L_101 lb_X8_runs li_X8_runs ⟨Nat.le_of_ble_eq_true rfl, Nat.le_of_ble_eq_true rfl⟩ rfl gp127 rfl (rest := []) rfl (Nat.le_of_ble_eq_true rfl) ⟨Nat.le_of_ble_eq_true rfl, Nat.le_of_ble_eq_true rfl⟩ (c_X8_runs v1 x126 h p127 ep127) ?_
      show mj_W (mL_law nm) (mj_FX L xs p) 878 [(0, .ref 2000), (1, .ref v1), (2, .ref v2), (3, .int v3)] [.int p127.1] p127.2 65 3281
      refine mj_blk k_L_ok 576 5 (pc' := 883) (l' := [(0, .ref 2000), (1, .ref v1), (2, .ref v2), (3, .int v3)]) (st' := [.int (v3 + (1 : Int32)), .ref 2000, .ref v2, .int p127.1]) rfl ?_
      obtain ⟨x128, ex128, hf⟩ := mj_bd hf
      refine mj_xld 581 rfl ex128 ?_
      obtain ⟨gp129, hf⟩ := mj_gd hf
      obtain ⟨p129, ep129, hf⟩ := mj_bd hf
      refine mj_callV (T := TX9) (N := 20) (ci := 9) mX9_runs [.int x128] 582 rfl ll_L_104 lb_X9_runs li_X9_runs ⟨Nat.le_of_ble_eq_true rfl, Nat.le_of_ble_eq_true rfl⟩ rfl gp129 rfl (rest := [.int p127.1]) rfl (Nat.le_of_ble_eq_true rfl) ⟨Nat.le_of_ble_eq_true rfl, Nat.le_of_ble_eq_true rfl⟩ (c_X9_runs v2 x128 p127.2 p129 ep129) ?_
      show mj_W (mL_law nm) (mj_FX L xs p) 887 [(0, .ref 2000), (1, .ref v1), (2, .ref v2), (3, .int v3)] [.int p129.1, .int p127.1] p129.2 65 3281
      refine mj_icmp_eq 583 1259 rfl (by decide) (fun q => ?_) (fun q => ?_)
      · have hf := (if_pos q).symm.trans hf
        exact w_L_law_1259 L xs K18 hK18 v1 v2 v3 p129.2 _ hf
      · have hf := (if_neg q).symm.trans hf
        refine mj_blk k_L_ok 584 1 (pc' := 891) (l' := [(0, .ref 2000), (1, .ref v1), (2, .ref v2), (3, .int v3)]) (st' := [.int (0 : Int32)]) rfl ?_
        obtain rfl := Option.some.inj hf
        exact mj_end (some (.int (0 : Int32))) ⟨mj_dec tok_L_law (a := 585) rfl, .boolean, rfl, rfl⟩ ⟨rfl, rfl⟩ (Nat.le_of_ble_eq_true rfl) (Nat.le_of_ble_eq_true rfl)
    have hf := (if_neg q20).symm.trans hf
    by_cases q21 : (x17 &&& (63 : Int32)) = (21 : Int32)
    · have hf := (if_pos q21).symm.trans hf
      refine mj_swIn 21 (21 : Int32) 892 q21 rfl (by decide) (by decide) rfl (by decide) ?_
      refine mj_blk k_L_ok 586 5 (pc' := 897) (l' := [(0, .ref 2000), (1, .ref v1), (2, .ref v2), (3, .int v3)]) (st' := [.int (v3 + (1 : Int32)), .ref 2000, .ref v1]) rfl ?_
      obtain ⟨x130, ex130, hf⟩ := mj_bd hf
      refine mj_xld 591 rfl ex130 ?_
      obtain ⟨gp131, hf⟩ := mj_gd hf
      obtain ⟨p131, ep131, hf⟩ := mj_bd hf
      refine mj_callV (T := TX8) (N := 14) (ci := 8) mX8_home [.int x130] 592 rfl ll_L_105 lb_X8_home li_X8_home ⟨Nat.le_of_ble_eq_true rfl, Nat.le_of_ble_eq_true rfl⟩ rfl gp131 rfl (rest := []) rfl (Nat.le_of_ble_eq_true rfl) ⟨Nat.le_of_ble_eq_true rfl, Nat.le_of_ble_eq_true rfl⟩ (c_X8_home v1 x130 h p131 ep131) ?_
      show mj_W (mL_law nm) (mj_FX L xs p) 901 [(0, .ref 2000), (1, .ref v1), (2, .ref v2), (3, .int v3)] [.int p131.1] p131.2 65 3281
      refine mj_blk k_L_ok 593 5 (pc' := 906) (l' := [(0, .ref 2000), (1, .ref v1), (2, .ref v2), (3, .int v3)]) (st' := [.int (v3 + (1 : Int32)), .ref 2000, .ref v2, .int p131.1]) rfl ?_
      obtain ⟨x132, ex132, hf⟩ := mj_bd hf
      refine mj_xld 598 rfl ex132 ?_
      obtain ⟨gp133, hf⟩ := mj_gd hf
      obtain ⟨p133, ep133, hf⟩ := mj_bd hf
      refine mj_callV (T := TX9) (N := 20) (ci := 9) mX9_home [.int x132] 599 rfl ll_L_108 lb_X9_home li_X9_home ⟨Nat.le_of_ble_eq_true rfl, Nat.le_of_ble_eq_true rfl⟩ rfl gp133 rfl (rest := [.int p131.1]) rfl (Nat.le_of_ble_eq_true rfl) ⟨Nat.le_of_ble_eq_true rfl, Nat.le_of_ble_eq_true rfl⟩ (c_X9_home v2 x132 p131.2 p133 ep133) ?_
      show mj_W (mL_law nm) (mj_FX L xs p) 910 [(0, .ref 2000), (1, .ref v1), (2, .ref v2), (3, .int v3)] [.int p133.1, .int p131.1] p133.2 65 3281
      refine mj_icmp_eq 600 1259 rfl (by decide) (fun q => ?_) (fun q => ?_)
      · have hf := (if_pos q).symm.trans hf
        exact w_L_law_1259 L xs K18 hK18 v1 v2 v3 p133.2 _ hf
      · have hf := (if_neg q).symm.trans hf
        refine mj_blk k_L_ok 601 1 (pc' := 914) (l' := [(0, .ref 2000), (1, .ref v1), (2, .ref v2), (3, .int v3)]) (st' := [.int (0 : Int32)]) rfl ?_
        obtain rfl := Option.some.inj hf
        exact mj_end (some (.int (0 : Int32))) ⟨mj_dec tok_L_law (a := 602) rfl, .boolean, rfl, rfl⟩ ⟨rfl, rfl⟩ (Nat.le_of_ble_eq_true rfl) (Nat.le_of_ble_eq_true rfl)
    have hf := (if_neg q21).symm.trans hf
    by_cases q22 : (x17 &&& (63 : Int32)) = (22 : Int32)
    · have hf := (if_pos q22).symm.trans hf
      refine mj_swIn 21 (22 : Int32) 915 q22 rfl (by decide) (by decide) rfl (by decide) ?_
      refine mj_blk k_L_ok 603 5 (pc' := 920) (l' := [(0, .ref 2000), (1, .ref v1), (2, .ref v2), (3, .int v3)]) (st' := [.int (v3 + (1 : Int32)), .ref 2000, .ref v1]) rfl ?_
      obtain ⟨x134, ex134, hf⟩ := mj_bd hf
      refine mj_xld 608 rfl ex134 ?_
      obtain ⟨gp135, hf⟩ := mj_gd hf
      obtain ⟨p135, ep135, hf⟩ := mj_bd hf
      refine mj_callV (T := TX8) (N := 14) (ci := 8) mX8_spy [.int x134] 609 rfl ll_L_109 lb_X8_spy li_X8_spy ⟨Nat.le_of_ble_eq_true rfl, Nat.le_of_ble_eq_true rfl⟩ rfl gp135 rfl (rest := []) rfl (Nat.le_of_ble_eq_true rfl) ⟨Nat.le_of_ble_eq_true rfl, Nat.le_of_ble_eq_true rfl⟩ (c_X8_spy v1 x134 h p135 ep135) ?_
      show mj_W (mL_law nm) (mj_FX L xs p) 924 [(0, .ref 2000), (1, .ref v1), (2, .ref v2), (3, .int v3)] [.int p135.1] p135.2 65 3281
      refine mj_blk k_L_ok 610 5 (pc' := 929) (l' := [(0, .ref 2000), (1, .ref v1), (2, .ref v2), (3, .int v3)]) (st' := [.int (v3 + (1 : Int32)), .ref 2000, .ref v2, .int p135.1]) rfl ?_
      obtain ⟨x136, ex136, hf⟩ := mj_bd hf
      refine mj_xld 615 rfl ex136 ?_
      obtain ⟨gp137, hf⟩ := mj_gd hf
      obtain ⟨p137, ep137, hf⟩ := mj_bd hf
      refine mj_callV (T := TX9) (N := 20) (ci := 9) mX9_spy [.int x136] 616 rfl ll_L_112 lb_X9_spy li_X9_spy ⟨Nat.le_of_ble_eq_true rfl, Nat.le_of_ble_eq_true rfl⟩ rfl gp137 rfl (rest := [.int p135.1]) rfl (Nat.le_of_ble_eq_true rfl) ⟨Nat.le_of_ble_eq_true rfl, Nat.le_of_ble_eq_true rfl⟩ (c_X9_spy v2 x136 p135.2 p137 ep137) ?_
      show mj_W (mL_law nm) (mj_FX L xs p) 933 [(0, .ref 2000), (1, .ref v1), (2, .ref v2), (3, .int v3)] [.int p137.1, .int p135.1] p137.2 65 3281
      refine mj_icmp_eq 617 1259 rfl (by decide) (fun q => ?_) (fun q => ?_)
      · have hf := (if_pos q).symm.trans hf
        exact w_L_law_1259 L xs K18 hK18 v1 v2 v3 p137.2 _ hf
      · have hf := (if_neg q).symm.trans hf
        refine mj_blk k_L_ok 618 1 (pc' := 937) (l' := [(0, .ref 2000), (1, .ref v1), (2, .ref v2), (3, .int v3)]) (st' := [.int (0 : Int32)]) rfl ?_
        obtain rfl := Option.some.inj hf
        exact mj_end (some (.int (0 : Int32))) ⟨mj_dec tok_L_law (a := 619) rfl, .boolean, rfl, rfl⟩ ⟨rfl, rfl⟩ (Nat.le_of_ble_eq_true rfl) (Nat.le_of_ble_eq_true rfl)
    have hf := (if_neg q22).symm.trans hf
    by_cases q23 : (x17 &&& (63 : Int32)) = (23 : Int32)
    · have hf := (if_pos q23).symm.trans hf
      refine mj_swIn 21 (23 : Int32) 938 q23 rfl (by decide) (by decide) rfl (by decide) ?_
      refine mj_blk k_L_ok 620 5 (pc' := 943) (l' := [(0, .ref 2000), (1, .ref v1), (2, .ref v2), (3, .int v3)]) (st' := [.int (v3 + (1 : Int32)), .ref 2000, .ref v1]) rfl ?_
      obtain ⟨x138, ex138, hf⟩ := mj_bd hf
      refine mj_xld 625 rfl ex138 ?_
      refine mj_blk k_L_ok 626 4 (pc' := 948) (l' := [(0, .ref 2000), (1, .ref v1), (2, .ref v2), (3, .int v3)]) (st' := [.int (v3 + (2 : Int32)), .ref 2000, .int x138, .ref v1]) rfl ?_
      obtain ⟨x139, ex139, hf⟩ := mj_bd hf
      refine mj_xld 630 rfl ex139 ?_
      refine mj_if_eq 631 956 rfl (by decide) (fun q => ?_) (fun q => ?_)
      · have hf := (if_pos q).symm.trans hf
        refine mj_blk k_L_ok 634 1 (pc' := 957) (l' := [(0, .ref 2000), (1, .ref v1), (2, .ref v2), (3, .int v3)]) (st' := [.int (0 : Int32), .int x138, .ref v1]) rfl ?_
        exact w_L_law_957 L xs K18 hK18 v1 v2 v3 v1 x138 (0 : Int32) h _ hf
      · have hf := (if_neg q).symm.trans hf
        refine mj_blk k_L_ok 632 2 (pc' := 957) (l' := [(0, .ref 2000), (1, .ref v1), (2, .ref v2), (3, .int v3)]) (st' := [.int (1 : Int32), .int x138, .ref v1]) rfl ?_
        exact w_L_law_957 L xs K18 hK18 v1 v2 v3 v1 x138 (1 : Int32) h _ hf
    have hf := (if_neg q23).symm.trans hf
    by_cases q24 : (x17 &&& (63 : Int32)) = (24 : Int32)
    · have hf := (if_pos q24).symm.trans hf
      refine mj_swIn 21 (24 : Int32) 997 q24 rfl (by decide) (by decide) rfl (by decide) ?_
      refine mj_blk k_L_ok 665 5 (pc' := 1002) (l' := [(0, .ref 2000), (1, .ref v1), (2, .ref v2), (3, .int v3)]) (st' := [.int (v3 + (1 : Int32)), .ref 2000, .ref v1]) rfl ?_
      obtain ⟨x140, ex140, hf⟩ := mj_bd hf
      refine mj_xld 670 rfl ex140 ?_
      obtain ⟨gp141, hf⟩ := mj_gd hf
      obtain ⟨p141, ep141, hf⟩ := mj_bd hf
      refine mj_callV (T := TX8) (N := 14) (ci := 8) mX8_next [.int x140] 671 rfl ll_L_118 lb_X8_next li_X8_next ⟨Nat.le_of_ble_eq_true rfl, Nat.le_of_ble_eq_true rfl⟩ rfl gp141 rfl (rest := []) rfl (Nat.le_of_ble_eq_true rfl) ⟨Nat.le_of_ble_eq_true rfl, Nat.le_of_ble_eq_true rfl⟩ (c_X8_next v1 x140 h p141 ep141) ?_
      show mj_W (mL_law nm) (mj_FX L xs p) 1006 [(0, .ref 2000), (1, .ref v1), (2, .ref v2), (3, .int v3)] [.int p141.1] p141.2 65 3281
      refine mj_blk k_L_ok 672 5 (pc' := 1011) (l' := [(0, .ref 2000), (1, .ref v1), (2, .ref v2), (3, .int v3)]) (st' := [.int (v3 + (1 : Int32)), .ref 2000, .ref v2, .int p141.1]) rfl ?_
      obtain ⟨x142, ex142, hf⟩ := mj_bd hf
      refine mj_xld 677 rfl ex142 ?_
      obtain ⟨gp143, hf⟩ := mj_gd hf
      obtain ⟨p143, ep143, hf⟩ := mj_bd hf
      refine mj_callV (T := TX9) (N := 20) (ci := 9) mX9_next [.int x142] 678 rfl ll_L_121 lb_X9_next li_X9_next ⟨Nat.le_of_ble_eq_true rfl, Nat.le_of_ble_eq_true rfl⟩ rfl gp143 rfl (rest := [.int p141.1]) rfl (Nat.le_of_ble_eq_true rfl) ⟨Nat.le_of_ble_eq_true rfl, Nat.le_of_ble_eq_true rfl⟩ (c_X9_next v2 x142 p141.2 p143 ep143) ?_
      show mj_W (mL_law nm) (mj_FX L xs p) 1015 [(0, .ref 2000), (1, .ref v1), (2, .ref v2), (3, .int v3)] [.int p143.1, .int p141.1] p143.2 65 3281
      refine mj_icmp_eq 679 1259 rfl (by decide) (fun q => ?_) (fun q => ?_)
      · have hf := (if_pos q).symm.trans hf
        exact w_L_law_1259 L xs K18 hK18 v1 v2 v3 p143.2 _ hf
      · have hf := (if_neg q).symm.trans hf
        refine mj_blk k_L_ok 680 1 (pc' := 1019) (l' := [(0, .ref 2000), (1, .ref v1), (2, .ref v2), (3, .int v3)]) (st' := [.int (0 : Int32)]) rfl ?_
        obtain rfl := Option.some.inj hf
        exact mj_end (some (.int (0 : Int32))) ⟨mj_dec tok_L_law (a := 681) rfl, .boolean, rfl, rfl⟩ ⟨rfl, rfl⟩ (Nat.le_of_ble_eq_true rfl) (Nat.le_of_ble_eq_true rfl)
    have hf := (if_neg q24).symm.trans hf
    by_cases q25 : (x17 &&& (63 : Int32)) = (25 : Int32)
    · have hf := (if_pos q25).symm.trans hf
      refine mj_swIn 21 (25 : Int32) 1020 q25 rfl (by decide) (by decide) rfl (by decide) ?_
      refine mj_blk k_L_ok 682 5 (pc' := 1025) (l' := [(0, .ref 2000), (1, .ref v1), (2, .ref v2), (3, .int v3)]) (st' := [.int (v3 + (1 : Int32)), .ref 2000, .ref v1]) rfl ?_
      obtain ⟨x144, ex144, hf⟩ := mj_bd hf
      refine mj_xld 687 rfl ex144 ?_
      refine mj_blk k_L_ok 688 4 (pc' := 1030) (l' := [(0, .ref 2000), (1, .ref v1), (2, .ref v2), (3, .int v3)]) (st' := [.int (v3 + (2 : Int32)), .ref 2000, .int x144, .ref v1]) rfl ?_
      obtain ⟨x145, ex145, hf⟩ := mj_bd hf
      refine mj_xld 692 rfl ex145 ?_
      refine mj_blk k_L_ok 693 4 (pc' := 1035) (l' := [(0, .ref 2000), (1, .ref v1), (2, .ref v2), (3, .int v3)]) (st' := [.int (v3 + (3 : Int32)), .ref 2000, .int x145, .int x144, .ref v1]) rfl ?_
      obtain ⟨x146, ex146, hf⟩ := mj_bd hf
      refine mj_xld 697 rfl ex146 ?_
      obtain ⟨gp147, hf⟩ := mj_gd hf
      obtain ⟨p147, ep147, hf⟩ := mj_bd hf
      refine mj_callV (T := TX8) (N := 14) (ci := 8) mX8_boast [.int x144, .int x145, .int x146] 698 rfl ll_L_122 lb_X8_boast li_X8_boast ⟨Nat.le_of_ble_eq_true rfl, Nat.le_of_ble_eq_true rfl⟩ rfl gp147 rfl (rest := []) rfl (Nat.le_of_ble_eq_true rfl) ⟨Nat.le_of_ble_eq_true rfl, Nat.le_of_ble_eq_true rfl⟩ (c_X8_boast v1 x144 x145 x146 h p147 ep147) ?_
      show mj_W (mL_law nm) (mj_FX L xs p) 1039 [(0, .ref 2000), (1, .ref v1), (2, .ref v2), (3, .int v3)] [.int p147.1] p147.2 65 3281
      refine mj_blk k_L_ok 699 5 (pc' := 1044) (l' := [(0, .ref 2000), (1, .ref v1), (2, .ref v2), (3, .int v3)]) (st' := [.int (v3 + (1 : Int32)), .ref 2000, .ref v2, .int p147.1]) rfl ?_
      obtain ⟨x148, ex148, hf⟩ := mj_bd hf
      refine mj_xld 704 rfl ex148 ?_
      refine mj_blk k_L_ok 705 4 (pc' := 1049) (l' := [(0, .ref 2000), (1, .ref v1), (2, .ref v2), (3, .int v3)]) (st' := [.int (v3 + (2 : Int32)), .ref 2000, .int x148, .ref v2, .int p147.1]) rfl ?_
      obtain ⟨x149, ex149, hf⟩ := mj_bd hf
      refine mj_xld 709 rfl ex149 ?_
      refine mj_blk k_L_ok 710 4 (pc' := 1054) (l' := [(0, .ref 2000), (1, .ref v1), (2, .ref v2), (3, .int v3)]) (st' := [.int (v3 + (3 : Int32)), .ref 2000, .int x149, .int x148, .ref v2, .int p147.1]) rfl ?_
      obtain ⟨x150, ex150, hf⟩ := mj_bd hf
      refine mj_xld 714 rfl ex150 ?_
      obtain ⟨gp151, hf⟩ := mj_gd hf
      obtain ⟨p151, ep151, hf⟩ := mj_bd hf
      refine mj_callV (T := TX9) (N := 20) (ci := 9) mX9_boast [.int x148, .int x149, .int x150] 715 rfl ll_L_125 lb_X9_boast li_X9_boast ⟨Nat.le_of_ble_eq_true rfl, Nat.le_of_ble_eq_true rfl⟩ rfl gp151 rfl (rest := [.int p147.1]) rfl (Nat.le_of_ble_eq_true rfl) ⟨Nat.le_of_ble_eq_true rfl, Nat.le_of_ble_eq_true rfl⟩ (c_X9_boast v2 x148 x149 x150 p147.2 p151 ep151) ?_
      show mj_W (mL_law nm) (mj_FX L xs p) 1058 [(0, .ref 2000), (1, .ref v1), (2, .ref v2), (3, .int v3)] [.int p151.1, .int p147.1] p151.2 65 3281
      refine mj_icmp_eq 716 1259 rfl (by decide) (fun q => ?_) (fun q => ?_)
      · have hf := (if_pos q).symm.trans hf
        exact w_L_law_1259 L xs K18 hK18 v1 v2 v3 p151.2 _ hf
      · have hf := (if_neg q).symm.trans hf
        refine mj_blk k_L_ok 717 1 (pc' := 1062) (l' := [(0, .ref 2000), (1, .ref v1), (2, .ref v2), (3, .int v3)]) (st' := [.int (0 : Int32)]) rfl ?_
        obtain rfl := Option.some.inj hf
        exact mj_end (some (.int (0 : Int32))) ⟨mj_dec tok_L_law (a := 718) rfl, .boolean, rfl, rfl⟩ ⟨rfl, rfl⟩ (Nat.le_of_ble_eq_true rfl) (Nat.le_of_ble_eq_true rfl)
    have hf := (if_neg q25).symm.trans hf
    by_cases q26 : (x17 &&& (63 : Int32)) = (26 : Int32)
    · have hf := (if_pos q26).symm.trans hf
      refine mj_swIn 21 (26 : Int32) 1063 q26 rfl (by decide) (by decide) rfl (by decide) ?_
      refine mj_blk k_L_ok 719 5 (pc' := 1068) (l' := [(0, .ref 2000), (1, .ref v1), (2, .ref v2), (3, .int v3)]) (st' := [.int (v3 + (1 : Int32)), .ref 2000, .ref v1]) rfl ?_
      obtain ⟨x152, ex152, hf⟩ := mj_bd hf
      refine mj_xld 724 rfl ex152 ?_
      obtain ⟨gp153, hf⟩ := mj_gd hf
      obtain ⟨p153, ep153, hf⟩ := mj_bd hf
      refine mj_callV (T := TX8) (N := 14) (ci := 8) mX8_again [.int x152] 725 rfl ll_L_126 lb_X8_again li_X8_again ⟨Nat.le_of_ble_eq_true rfl, Nat.le_of_ble_eq_true rfl⟩ rfl gp153 rfl (rest := []) rfl (Nat.le_of_ble_eq_true rfl) ⟨Nat.le_of_ble_eq_true rfl, Nat.le_of_ble_eq_true rfl⟩ (c_X8_again v1 x152 h p153 ep153) ?_
      show mj_W (mL_law nm) (mj_FX L xs p) 1072 [(0, .ref 2000), (1, .ref v1), (2, .ref v2), (3, .int v3)] [.int p153.1] p153.2 65 3281
      refine mj_blk k_L_ok 726 5 (pc' := 1077) (l' := [(0, .ref 2000), (1, .ref v1), (2, .ref v2), (3, .int v3)]) (st' := [.int (v3 + (1 : Int32)), .ref 2000, .ref v2, .int p153.1]) rfl ?_
      obtain ⟨x154, ex154, hf⟩ := mj_bd hf
      refine mj_xld 731 rfl ex154 ?_
      obtain ⟨gp155, hf⟩ := mj_gd hf
      obtain ⟨p155, ep155, hf⟩ := mj_bd hf
      refine mj_callV (T := TX9) (N := 20) (ci := 9) mX9_again [.int x154] 732 rfl ll_L_129 lb_X9_again li_X9_again ⟨Nat.le_of_ble_eq_true rfl, Nat.le_of_ble_eq_true rfl⟩ rfl gp155 rfl (rest := [.int p153.1]) rfl (Nat.le_of_ble_eq_true rfl) ⟨Nat.le_of_ble_eq_true rfl, Nat.le_of_ble_eq_true rfl⟩ (c_X9_again v2 x154 p153.2 p155 ep155) ?_
      show mj_W (mL_law nm) (mj_FX L xs p) 1081 [(0, .ref 2000), (1, .ref v1), (2, .ref v2), (3, .int v3)] [.int p155.1, .int p153.1] p155.2 65 3281
      refine mj_icmp_eq 733 1259 rfl (by decide) (fun q => ?_) (fun q => ?_)
      · have hf := (if_pos q).symm.trans hf
        exact w_L_law_1259 L xs K18 hK18 v1 v2 v3 p155.2 _ hf
      · have hf := (if_neg q).symm.trans hf
        refine mj_blk k_L_ok 734 1 (pc' := 1085) (l' := [(0, .ref 2000), (1, .ref v1), (2, .ref v2), (3, .int v3)]) (st' := [.int (0 : Int32)]) rfl ?_
        obtain rfl := Option.some.inj hf
        exact mj_end (some (.int (0 : Int32))) ⟨mj_dec tok_L_law (a := 735) rfl, .boolean, rfl, rfl⟩ ⟨rfl, rfl⟩ (Nat.le_of_ble_eq_true rfl) (Nat.le_of_ble_eq_true rfl)
    have hf := (if_neg q26).symm.trans hf
    by_cases q27 : (x17 &&& (63 : Int32)) = (27 : Int32)
    · have hf := (if_pos q27).symm.trans hf
      refine mj_swIn 21 (27 : Int32) 1086 q27 rfl (by decide) (by decide) rfl (by decide) ?_
      refine mj_blk k_L_ok 736 5 (pc' := 1091) (l' := [(0, .ref 2000), (1, .ref v1), (2, .ref v2), (3, .int v3)]) (st' := [.int (v3 + (1 : Int32)), .ref 2000, .ref v1]) rfl ?_
      obtain ⟨x156, ex156, hf⟩ := mj_bd hf
      refine mj_xld 741 rfl ex156 ?_
      refine mj_blk k_L_ok 742 4 (pc' := 1096) (l' := [(0, .ref 2000), (1, .ref v1), (2, .ref v2), (3, .int v3)]) (st' := [.int (v3 + (2 : Int32)), .ref 2000, .int x156, .ref v1]) rfl ?_
      obtain ⟨x157, ex157, hf⟩ := mj_bd hf
      refine mj_xld 746 rfl ex157 ?_
      refine mj_blk k_L_ok 747 4 (pc' := 1101) (l' := [(0, .ref 2000), (1, .ref v1), (2, .ref v2), (3, .int v3)]) (st' := [.int (v3 + (3 : Int32)), .ref 2000, .int x157, .int x156, .ref v1]) rfl ?_
      obtain ⟨x158, ex158, hf⟩ := mj_bd hf
      refine mj_xld 751 rfl ex158 ?_
      obtain ⟨gp159, hf⟩ := mj_gd hf
      obtain ⟨p159, ep159, hf⟩ := mj_bd hf
      refine mj_callV (T := TX8) (N := 14) (ci := 8) mX8_drawn [.int x156, .int x157, .int x158] 752 rfl ll_L_130 lb_X8_drawn li_X8_drawn ⟨Nat.le_of_ble_eq_true rfl, Nat.le_of_ble_eq_true rfl⟩ rfl gp159 rfl (rest := []) rfl (Nat.le_of_ble_eq_true rfl) ⟨Nat.le_of_ble_eq_true rfl, Nat.le_of_ble_eq_true rfl⟩ (c_X8_drawn v1 x156 x157 x158 h p159 ep159) ?_
      show mj_W (mL_law nm) (mj_FX L xs p) 1105 [(0, .ref 2000), (1, .ref v1), (2, .ref v2), (3, .int v3)] [.int p159.1] p159.2 65 3281
      refine mj_blk k_L_ok 753 5 (pc' := 1110) (l' := [(0, .ref 2000), (1, .ref v1), (2, .ref v2), (3, .int v3)]) (st' := [.int (v3 + (1 : Int32)), .ref 2000, .ref v2, .int p159.1]) rfl ?_
      obtain ⟨x160, ex160, hf⟩ := mj_bd hf
      refine mj_xld 758 rfl ex160 ?_
      refine mj_blk k_L_ok 759 4 (pc' := 1115) (l' := [(0, .ref 2000), (1, .ref v1), (2, .ref v2), (3, .int v3)]) (st' := [.int (v3 + (2 : Int32)), .ref 2000, .int x160, .ref v2, .int p159.1]) rfl ?_
      obtain ⟨x161, ex161, hf⟩ := mj_bd hf
      refine mj_xld 763 rfl ex161 ?_
      refine mj_blk k_L_ok 764 4 (pc' := 1120) (l' := [(0, .ref 2000), (1, .ref v1), (2, .ref v2), (3, .int v3)]) (st' := [.int (v3 + (3 : Int32)), .ref 2000, .int x161, .int x160, .ref v2, .int p159.1]) rfl ?_
      obtain ⟨x162, ex162, hf⟩ := mj_bd hf
      refine mj_xld 768 rfl ex162 ?_
      obtain ⟨gp163, hf⟩ := mj_gd hf
      obtain ⟨p163, ep163, hf⟩ := mj_bd hf
      refine mj_callV (T := TX9) (N := 20) (ci := 9) mX9_drawn [.int x160, .int x161, .int x162] 769 rfl ll_L_133 lb_X9_drawn li_X9_drawn ⟨Nat.le_of_ble_eq_true rfl, Nat.le_of_ble_eq_true rfl⟩ rfl gp163 rfl (rest := [.int p159.1]) rfl (Nat.le_of_ble_eq_true rfl) ⟨Nat.le_of_ble_eq_true rfl, Nat.le_of_ble_eq_true rfl⟩ (c_X9_drawn v2 x160 x161 x162 p159.2 p163 ep163) ?_
      show mj_W (mL_law nm) (mj_FX L xs p) 1124 [(0, .ref 2000), (1, .ref v1), (2, .ref v2), (3, .int v3)] [.int p163.1, .int p159.1] p163.2 65 3281
      refine mj_icmp_eq 770 1259 rfl (by decide) (fun q => ?_) (fun q => ?_)
      · have hf := (if_pos q).symm.trans hf
        exact w_L_law_1259 L xs K18 hK18 v1 v2 v3 p163.2 _ hf
      · have hf := (if_neg q).symm.trans hf
        refine mj_blk k_L_ok 771 1 (pc' := 1128) (l' := [(0, .ref 2000), (1, .ref v1), (2, .ref v2), (3, .int v3)]) (st' := [.int (0 : Int32)]) rfl ?_
        obtain rfl := Option.some.inj hf
        exact mj_end (some (.int (0 : Int32))) ⟨mj_dec tok_L_law (a := 772) rfl, .boolean, rfl, rfl⟩ ⟨rfl, rfl⟩ (Nat.le_of_ble_eq_true rfl) (Nat.le_of_ble_eq_true rfl)
    have hf := (if_neg q27).symm.trans hf
    by_cases q28 : (x17 &&& (63 : Int32)) = (28 : Int32)
    · have hf := (if_pos q28).symm.trans hf
      refine mj_swIn 21 (28 : Int32) 1129 q28 rfl (by decide) (by decide) rfl (by decide) ?_
      refine mj_blk k_L_ok 773 5 (pc' := 1134) (l' := [(0, .ref 2000), (1, .ref v1), (2, .ref v2), (3, .int v3)]) (st' := [.int (v3 + (1 : Int32)), .ref 2000, .ref v1]) rfl ?_
      obtain ⟨x164, ex164, hf⟩ := mj_bd hf
      refine mj_xld 778 rfl ex164 ?_
      obtain ⟨gp165, hf⟩ := mj_gd hf
      obtain ⟨p165, ep165, hf⟩ := mj_bd hf
      refine mj_callV (T := TX8) (N := 14) (ci := 8) mX8_part [.int x164] 779 rfl ll_L_134 lb_X8_part li_X8_part ⟨Nat.le_of_ble_eq_true rfl, Nat.le_of_ble_eq_true rfl⟩ rfl gp165 rfl (rest := []) rfl (Nat.le_of_ble_eq_true rfl) ⟨Nat.le_of_ble_eq_true rfl, Nat.le_of_ble_eq_true rfl⟩ (c_X8_part v1 x164 h p165 ep165) ?_
      show mj_W (mL_law nm) (mj_FX L xs p) 1138 [(0, .ref 2000), (1, .ref v1), (2, .ref v2), (3, .int v3)] [.long p165.1] p165.2 65 3281
      refine mj_blk k_L_ok 780 5 (pc' := 1143) (l' := [(0, .ref 2000), (1, .ref v1), (2, .ref v2), (3, .int v3)]) (st' := [.int (v3 + (1 : Int32)), .ref 2000, .ref v2, .long p165.1]) rfl ?_
      obtain ⟨x166, ex166, hf⟩ := mj_bd hf
      refine mj_xld 785 rfl ex166 ?_
      obtain ⟨gp167, hf⟩ := mj_gd hf
      obtain ⟨p167, ep167, hf⟩ := mj_bd hf
      refine mj_callV (T := TX9) (N := 20) (ci := 9) mX9_part [.int x166] 786 rfl ll_L_138 lb_X9_part li_X9_part ⟨Nat.le_of_ble_eq_true rfl, Nat.le_of_ble_eq_true rfl⟩ rfl gp167 rfl (rest := [.long p165.1]) rfl (Nat.le_of_ble_eq_true rfl) ⟨Nat.le_of_ble_eq_true rfl, Nat.le_of_ble_eq_true rfl⟩ (c_X9_part v2 x166 p165.2 p167 ep167) ?_
      show mj_W (mL_law nm) (mj_FX L xs p) 1147 [(0, .ref 2000), (1, .ref v1), (2, .ref v2), (3, .int v3)] [.long p167.1, .long p165.1] p167.2 65 3281
      refine mj_lcmp_eq 787 1259 rfl rfl (by decide) (fun q => ?_) (fun q => ?_)
      · have hf := (if_pos q).symm.trans hf
        exact w_L_law_1259 L xs K18 hK18 v1 v2 v3 p167.2 _ hf
      · have hf := (if_neg q).symm.trans hf
        refine mj_blk k_L_ok 789 1 (pc' := 1152) (l' := [(0, .ref 2000), (1, .ref v1), (2, .ref v2), (3, .int v3)]) (st' := [.int (0 : Int32)]) rfl ?_
        obtain rfl := Option.some.inj hf
        exact mj_end (some (.int (0 : Int32))) ⟨mj_dec tok_L_law (a := 790) rfl, .boolean, rfl, rfl⟩ ⟨rfl, rfl⟩ (Nat.le_of_ble_eq_true rfl) (Nat.le_of_ble_eq_true rfl)
    have hf := (if_neg q28).symm.trans hf
    by_cases q29 : (x17 &&& (63 : Int32)) = (29 : Int32)
    · have hf := (if_pos q29).symm.trans hf
      refine mj_swIn 21 (29 : Int32) 1153 q29 rfl (by decide) (by decide) rfl (by decide) ?_
      refine mj_blk k_L_ok 791 5 (pc' := 1158) (l' := [(0, .ref 2000), (1, .ref v1), (2, .ref v2), (3, .int v3)]) (st' := [.int (v3 + (1 : Int32)), .ref 2000, .ref v1]) rfl ?_
      obtain ⟨x168, ex168, hf⟩ := mj_bd hf
      refine mj_xld 796 rfl ex168 ?_
      obtain ⟨gp169, hf⟩ := mj_gd hf
      obtain ⟨p169, ep169, hf⟩ := mj_bd hf
      refine mj_callV (T := TX8) (N := 14) (ci := 8) mX8_image [.int x168] 797 rfl ll_L_139 lb_X8_image li_X8_image ⟨Nat.le_of_ble_eq_true rfl, Nat.le_of_ble_eq_true rfl⟩ rfl gp169 rfl (rest := []) rfl (Nat.le_of_ble_eq_true rfl) ⟨Nat.le_of_ble_eq_true rfl, Nat.le_of_ble_eq_true rfl⟩ (c_X8_image v1 x168 h p169 ep169) ?_
      show mj_W (mL_law nm) (mj_FX L xs p) 1162 [(0, .ref 2000), (1, .ref v1), (2, .ref v2), (3, .int v3)] [.int p169.1] p169.2 65 3281
      refine mj_blk k_L_ok 798 5 (pc' := 1167) (l' := [(0, .ref 2000), (1, .ref v1), (2, .ref v2), (3, .int v3)]) (st' := [.int (v3 + (1 : Int32)), .ref 2000, .ref v2, .int p169.1]) rfl ?_
      obtain ⟨x170, ex170, hf⟩ := mj_bd hf
      refine mj_xld 803 rfl ex170 ?_
      obtain ⟨gp171, hf⟩ := mj_gd hf
      obtain ⟨p171, ep171, hf⟩ := mj_bd hf
      refine mj_callV (T := TX9) (N := 20) (ci := 9) mX9_image [.int x170] 804 rfl ll_L_142 lb_X9_image li_X9_image ⟨Nat.le_of_ble_eq_true rfl, Nat.le_of_ble_eq_true rfl⟩ rfl gp171 rfl (rest := [.int p169.1]) rfl (Nat.le_of_ble_eq_true rfl) ⟨Nat.le_of_ble_eq_true rfl, Nat.le_of_ble_eq_true rfl⟩ (c_X9_image v2 x170 p169.2 p171 ep171) ?_
      show mj_W (mL_law nm) (mj_FX L xs p) 1171 [(0, .ref 2000), (1, .ref v1), (2, .ref v2), (3, .int v3)] [.int p171.1, .int p169.1] p171.2 65 3281
      refine mj_icmp_eq 805 1259 rfl (by decide) (fun q => ?_) (fun q => ?_)
      · have hf := (if_pos q).symm.trans hf
        exact w_L_law_1259 L xs K18 hK18 v1 v2 v3 p171.2 _ hf
      · have hf := (if_neg q).symm.trans hf
        refine mj_blk k_L_ok 806 1 (pc' := 1175) (l' := [(0, .ref 2000), (1, .ref v1), (2, .ref v2), (3, .int v3)]) (st' := [.int (0 : Int32)]) rfl ?_
        obtain rfl := Option.some.inj hf
        exact mj_end (some (.int (0 : Int32))) ⟨mj_dec tok_L_law (a := 807) rfl, .boolean, rfl, rfl⟩ ⟨rfl, rfl⟩ (Nat.le_of_ble_eq_true rfl) (Nat.le_of_ble_eq_true rfl)
    have hf := (if_neg q29).symm.trans hf
    by_cases q30 : (x17 &&& (63 : Int32)) = (30 : Int32)
    · have hf := (if_pos q30).symm.trans hf
      refine mj_swIn 21 (30 : Int32) 1176 q30 rfl (by decide) (by decide) rfl (by decide) ?_
      refine mj_blk k_L_ok 808 5 (pc' := 1181) (l' := [(0, .ref 2000), (1, .ref v1), (2, .ref v2), (3, .int v3)]) (st' := [.int (v3 + (1 : Int32)), .ref 2000, .ref v1]) rfl ?_
      obtain ⟨x172, ex172, hf⟩ := mj_bd hf
      refine mj_xld 813 rfl ex172 ?_
      obtain ⟨gp173, hf⟩ := mj_gd hf
      obtain ⟨p173, ep173, hf⟩ := mj_bd hf
      refine mj_callV (T := TX8) (N := 14) (ci := 8) mX8_from [.int x172] 814 rfl ll_L_143 lb_X8_from li_X8_from ⟨Nat.le_of_ble_eq_true rfl, Nat.le_of_ble_eq_true rfl⟩ rfl gp173 rfl (rest := []) rfl (Nat.le_of_ble_eq_true rfl) ⟨Nat.le_of_ble_eq_true rfl, Nat.le_of_ble_eq_true rfl⟩ (c_X8_from v1 x172 h p173 ep173) ?_
      show mj_W (mL_law nm) (mj_FX L xs p) 1185 [(0, .ref 2000), (1, .ref v1), (2, .ref v2), (3, .int v3)] [.int p173.1] p173.2 65 3281
      refine mj_blk k_L_ok 815 5 (pc' := 1190) (l' := [(0, .ref 2000), (1, .ref v1), (2, .ref v2), (3, .int v3)]) (st' := [.int (v3 + (1 : Int32)), .ref 2000, .ref v2, .int p173.1]) rfl ?_
      obtain ⟨x174, ex174, hf⟩ := mj_bd hf
      refine mj_xld 820 rfl ex174 ?_
      obtain ⟨gp175, hf⟩ := mj_gd hf
      obtain ⟨p175, ep175, hf⟩ := mj_bd hf
      refine mj_callV (T := TX9) (N := 20) (ci := 9) mX9_from [.int x174] 821 rfl ll_L_146 lb_X9_from li_X9_from ⟨Nat.le_of_ble_eq_true rfl, Nat.le_of_ble_eq_true rfl⟩ rfl gp175 rfl (rest := [.int p173.1]) rfl (Nat.le_of_ble_eq_true rfl) ⟨Nat.le_of_ble_eq_true rfl, Nat.le_of_ble_eq_true rfl⟩ (c_X9_from v2 x174 p173.2 p175 ep175) ?_
      show mj_W (mL_law nm) (mj_FX L xs p) 1194 [(0, .ref 2000), (1, .ref v1), (2, .ref v2), (3, .int v3)] [.int p175.1, .int p173.1] p175.2 65 3281
      refine mj_icmp_eq 822 1259 rfl (by decide) (fun q => ?_) (fun q => ?_)
      · have hf := (if_pos q).symm.trans hf
        exact w_L_law_1259 L xs K18 hK18 v1 v2 v3 p175.2 _ hf
      · have hf := (if_neg q).symm.trans hf
        refine mj_blk k_L_ok 823 1 (pc' := 1198) (l' := [(0, .ref 2000), (1, .ref v1), (2, .ref v2), (3, .int v3)]) (st' := [.int (0 : Int32)]) rfl ?_
        obtain rfl := Option.some.inj hf
        exact mj_end (some (.int (0 : Int32))) ⟨mj_dec tok_L_law (a := 824) rfl, .boolean, rfl, rfl⟩ ⟨rfl, rfl⟩ (Nat.le_of_ble_eq_true rfl) (Nat.le_of_ble_eq_true rfl)
    have hf := (if_neg q30).symm.trans hf
    by_cases q31 : (x17 &&& (63 : Int32)) = (31 : Int32)
    · have hf := (if_pos q31).symm.trans hf
      refine mj_swIn 21 (31 : Int32) 1199 q31 rfl (by decide) (by decide) rfl (by decide) ?_
      refine mj_blk k_L_ok 825 5 (pc' := 1204) (l' := [(0, .ref 2000), (1, .ref v1), (2, .ref v2), (3, .int v3)]) (st' := [.int (v3 + (1 : Int32)), .ref 2000, .ref v1]) rfl ?_
      obtain ⟨x176, ex176, hf⟩ := mj_bd hf
      refine mj_xld 830 rfl ex176 ?_
      obtain ⟨gp177, hf⟩ := mj_gd hf
      obtain ⟨p177, ep177, hf⟩ := mj_bd hf
      refine mj_callV (T := TX8) (N := 14) (ci := 8) mX8_status [.int x176] 831 rfl ll_L_147 lb_X8_status li_X8_status ⟨Nat.le_of_ble_eq_true rfl, Nat.le_of_ble_eq_true rfl⟩ rfl gp177 rfl (rest := []) rfl (Nat.le_of_ble_eq_true rfl) ⟨Nat.le_of_ble_eq_true rfl, Nat.le_of_ble_eq_true rfl⟩ (c_X8_status v1 x176 h p177 ep177) ?_
      show mj_W (mL_law nm) (mj_FX L xs p) 1208 [(0, .ref 2000), (1, .ref v1), (2, .ref v2), (3, .int v3)] [.int p177.1] p177.2 65 3281
      refine mj_blk k_L_ok 832 5 (pc' := 1213) (l' := [(0, .ref 2000), (1, .ref v1), (2, .ref v2), (3, .int v3)]) (st' := [.int (v3 + (1 : Int32)), .ref 2000, .ref v2, .int p177.1]) rfl ?_
      obtain ⟨x178, ex178, hf⟩ := mj_bd hf
      refine mj_xld 837 rfl ex178 ?_
      obtain ⟨gp179, hf⟩ := mj_gd hf
      obtain ⟨p179, ep179, hf⟩ := mj_bd hf
      refine mj_callV (T := TX9) (N := 20) (ci := 9) mX9_status [.int x178] 838 rfl ll_L_150 lb_X9_status li_X9_status ⟨Nat.le_of_ble_eq_true rfl, Nat.le_of_ble_eq_true rfl⟩ rfl gp179 rfl (rest := [.int p177.1]) rfl (Nat.le_of_ble_eq_true rfl) ⟨Nat.le_of_ble_eq_true rfl, Nat.le_of_ble_eq_true rfl⟩ (c_X9_status v2 x178 p177.2 p179 ep179) ?_
      show mj_W (mL_law nm) (mj_FX L xs p) 1217 [(0, .ref 2000), (1, .ref v1), (2, .ref v2), (3, .int v3)] [.int p179.1, .int p177.1] p179.2 65 3281
      refine mj_icmp_eq 839 1259 rfl (by decide) (fun q => ?_) (fun q => ?_)
      · have hf := (if_pos q).symm.trans hf
        exact w_L_law_1259 L xs K18 hK18 v1 v2 v3 p179.2 _ hf
      · have hf := (if_neg q).symm.trans hf
        refine mj_blk k_L_ok 840 1 (pc' := 1221) (l' := [(0, .ref 2000), (1, .ref v1), (2, .ref v2), (3, .int v3)]) (st' := [.int (0 : Int32)]) rfl ?_
        obtain rfl := Option.some.inj hf
        exact mj_end (some (.int (0 : Int32))) ⟨mj_dec tok_L_law (a := 841) rfl, .boolean, rfl, rfl⟩ ⟨rfl, rfl⟩ (Nat.le_of_ble_eq_true rfl) (Nat.le_of_ble_eq_true rfl)
    have hf := (if_neg q31).symm.trans hf
    by_cases q32 : (x17 &&& (63 : Int32)) = (32 : Int32)
    · have hf := (if_pos q32).symm.trans hf
      refine mj_swIn 21 (32 : Int32) 1222 q32 rfl (by decide) (by decide) rfl (by decide) ?_
      refine mj_blk k_L_ok 842 5 (pc' := 1227) (l' := [(0, .ref 2000), (1, .ref v1), (2, .ref v2), (3, .int v3)]) (st' := [.int (v3 + (1 : Int32)), .ref 2000, .ref v1]) rfl ?_
      obtain ⟨x180, ex180, hf⟩ := mj_bd hf
      refine mj_xld 847 rfl ex180 ?_
      obtain ⟨gp181, hf⟩ := mj_gd hf
      obtain ⟨p181, ep181, hf⟩ := mj_bd hf
      refine mj_callV (T := TX8) (N := 14) (ci := 8) mX8_count [.int x180] 848 rfl ll_L_151 lb_X8_count li_X8_count ⟨Nat.le_of_ble_eq_true rfl, Nat.le_of_ble_eq_true rfl⟩ rfl gp181 rfl (rest := []) rfl (Nat.le_of_ble_eq_true rfl) ⟨Nat.le_of_ble_eq_true rfl, Nat.le_of_ble_eq_true rfl⟩ (c_X8_count v1 x180 h p181 ep181) ?_
      show mj_W (mL_law nm) (mj_FX L xs p) 1231 [(0, .ref 2000), (1, .ref v1), (2, .ref v2), (3, .int v3)] [.int p181.1] p181.2 65 3281
      refine mj_blk k_L_ok 849 5 (pc' := 1236) (l' := [(0, .ref 2000), (1, .ref v1), (2, .ref v2), (3, .int v3)]) (st' := [.int (v3 + (1 : Int32)), .ref 2000, .ref v2, .int p181.1]) rfl ?_
      obtain ⟨x182, ex182, hf⟩ := mj_bd hf
      refine mj_xld 854 rfl ex182 ?_
      obtain ⟨gp183, hf⟩ := mj_gd hf
      obtain ⟨p183, ep183, hf⟩ := mj_bd hf
      refine mj_callV (T := TX9) (N := 20) (ci := 9) mX9_count [.int x182] 855 rfl ll_L_154 lb_X9_count li_X9_count ⟨Nat.le_of_ble_eq_true rfl, Nat.le_of_ble_eq_true rfl⟩ rfl gp183 rfl (rest := [.int p181.1]) rfl (Nat.le_of_ble_eq_true rfl) ⟨Nat.le_of_ble_eq_true rfl, Nat.le_of_ble_eq_true rfl⟩ (c_X9_count v2 x182 p181.2 p183 ep183) ?_
      show mj_W (mL_law nm) (mj_FX L xs p) 1240 [(0, .ref 2000), (1, .ref v1), (2, .ref v2), (3, .int v3)] [.int p183.1, .int p181.1] p183.2 65 3281
      refine mj_icmp_eq 856 1259 rfl (by decide) (fun q => ?_) (fun q => ?_)
      · have hf := (if_pos q).symm.trans hf
        exact w_L_law_1259 L xs K18 hK18 v1 v2 v3 p183.2 _ hf
      · have hf := (if_neg q).symm.trans hf
        refine mj_blk k_L_ok 857 1 (pc' := 1244) (l' := [(0, .ref 2000), (1, .ref v1), (2, .ref v2), (3, .int v3)]) (st' := [.int (0 : Int32)]) rfl ?_
        obtain rfl := Option.some.inj hf
        exact mj_end (some (.int (0 : Int32))) ⟨mj_dec tok_L_law (a := 858) rfl, .boolean, rfl, rfl⟩ ⟨rfl, rfl⟩ (Nat.le_of_ble_eq_true rfl) (Nat.le_of_ble_eq_true rfl)
    have hf := (if_neg q32).symm.trans hf
    by_cases q33 : (x17 &&& (63 : Int32)) = (33 : Int32)
    · have hf := (if_pos q33).symm.trans hf
      refine mj_swIn 21 (33 : Int32) 1245 q33 rfl (by decide) (by decide) rfl (by decide) ?_
      refine mj_blk k_L_ok 859 1 (pc' := 1246) (l' := [(0, .ref 2000), (1, .ref v1), (2, .ref v2), (3, .int v3)]) (st' := [.ref v1]) rfl ?_
      obtain ⟨gp184, hf⟩ := mj_gd hf
      obtain ⟨p184, ep184, hf⟩ := mj_bd hf
      refine mj_callV (T := TX8) (N := 14) (ci := 8) mX8_digest [] 860 rfl ll_L_155 lb_X8_digest li_X8_digest ⟨Nat.le_of_ble_eq_true rfl, Nat.le_of_ble_eq_true rfl⟩ rfl gp184 rfl (rest := []) rfl (Nat.le_of_ble_eq_true rfl) ⟨Nat.le_of_ble_eq_true rfl, Nat.le_of_ble_eq_true rfl⟩ (c_X8_digest v1 h p184 ep184) ?_
      show mj_W (mL_law nm) (mj_FX L xs p) 1249 [(0, .ref 2000), (1, .ref v1), (2, .ref v2), (3, .int v3)] [.long p184.1] p184.2 65 3281
      refine mj_blk k_L_ok 861 1 (pc' := 1250) (l' := [(0, .ref 2000), (1, .ref v1), (2, .ref v2), (3, .int v3)]) (st' := [.ref v2, .long p184.1]) rfl ?_
      obtain ⟨gp185, hf⟩ := mj_gd hf
      obtain ⟨p185, ep185, hf⟩ := mj_bd hf
      refine mj_callV (T := TX9) (N := 20) (ci := 9) mX9_digest [] 862 rfl ll_L_159 lb_X9_digest li_X9_digest ⟨Nat.le_of_ble_eq_true rfl, Nat.le_of_ble_eq_true rfl⟩ rfl gp185 rfl (rest := [.long p184.1]) rfl (Nat.le_of_ble_eq_true rfl) ⟨Nat.le_of_ble_eq_true rfl, Nat.le_of_ble_eq_true rfl⟩ (c_X9_digest v2 p184.2 p185 ep185) ?_
      show mj_W (mL_law nm) (mj_FX L xs p) 1253 [(0, .ref 2000), (1, .ref v1), (2, .ref v2), (3, .int v3)] [.long p185.1, .long p184.1] p185.2 65 3281
      refine mj_lcmp_eq 863 1259 rfl rfl (by decide) (fun q => ?_) (fun q => ?_)
      · have hf := (if_pos q).symm.trans hf
        exact w_L_law_1259 L xs K18 hK18 v1 v2 v3 p185.2 _ hf
      · have hf := (if_neg q).symm.trans hf
        refine mj_blk k_L_ok 865 1 (pc' := 1258) (l' := [(0, .ref 2000), (1, .ref v1), (2, .ref v2), (3, .int v3)]) (st' := [.int (0 : Int32)]) rfl ?_
        obtain rfl := Option.some.inj hf
        exact mj_end (some (.int (0 : Int32))) ⟨mj_dec tok_L_law (a := 866) rfl, .boolean, rfl, rfl⟩ ⟨rfl, rfl⟩ (Nat.le_of_ble_eq_true rfl) (Nat.le_of_ble_eq_true rfl)
    have hf := (if_neg q33).symm.trans hf
    refine mj_swOut 21 1259 rfl (by have z0 := mj_neI (i := 0) (by decide) q0; have z1 := mj_neI (i := 1) (by decide) q1; have z2 := mj_neI (i := 2) (by decide) q2; have z3 := mj_neI (i := 3) (by decide) q3; have z4 := mj_neI (i := 4) (by decide) q4; have z5 := mj_neI (i := 5) (by decide) q5; have z6 := mj_neI (i := 6) (by decide) q6; have z7 := mj_neI (i := 7) (by decide) q7; have z8 := mj_neI (i := 8) (by decide) q8; have z9 := mj_neI (i := 9) (by decide) q9; have z10 := mj_neI (i := 10) (by decide) q10; have z11 := mj_neI (i := 11) (by decide) q11; have z12 := mj_neI (i := 12) (by decide) q12; have z13 := mj_neI (i := 13) (by decide) q13; have z14 := mj_neI (i := 14) (by decide) q14; have z15 := mj_neI (i := 15) (by decide) q15; have z16 := mj_neI (i := 16) (by decide) q16; have z17 := mj_neI (i := 17) (by decide) q17; have z18 := mj_neI (i := 18) (by decide) q18; have z19 := mj_neI (i := 19) (by decide) q19; have z20 := mj_neI (i := 20) (by decide) q20; have z21 := mj_neI (i := 21) (by decide) q21; have z22 := mj_neI (i := 22) (by decide) q22; have z23 := mj_neI (i := 23) (by decide) q23; have z24 := mj_neI (i := 24) (by decide) q24; have z25 := mj_neI (i := 25) (by decide) q25; have z26 := mj_neI (i := 26) (by decide) q26; have z27 := mj_neI (i := 27) (by decide) q27; have z28 := mj_neI (i := 28) (by decide) q28; have z29 := mj_neI (i := 29) (by decide) q29; have z30 := mj_neI (i := 30) (by decide) q30; have z31 := mj_neI (i := 31) (by decide) q31; have z32 := mj_neI (i := 32) (by decide) q32; have z33 := mj_neI (i := 33) (by decide) q33; omega) (by decide) ?_
    exact w_L_law_1259 L xs K18 hK18 v1 v2 v3 h _ hf
def f_L_law_18 (L : Nat) (xs : Nat → Int32) (v1 : Nat) (v2 : Nat) (v3 : Int32) (h : mj_H) : Option (Int32 × mj_H) := mj_fix (fun (K18 : (Nat × Nat × Int32 × mj_H) → Option (Int32 × mj_H)) (s : Nat × Nat × Int32 × mj_H) => b_L_law_18 L xs  (fun v1 v2 v3 h => K18 (v1, v2, v3, h)) s.1 s.2.1 s.2.2.1 s.2.2.2) 1000 (v1, v2, v3, h)
set_option maxHeartbeats 4000000 in
set_option maxRecDepth 100000 in
theorem w_L_law_18 {nm : String} (L : Nat) (xs : Nat → Int32) (v1 : Nat) (v2 : Nat) (v3 : Int32) (h : mj_H) (p : Int32 × mj_H) (hf : f_L_law_18 L xs  v1 v2 v3 h = some p) : mj_W (mL_law nm) (mj_FX L xs p) 18 [(0, .ref 2000), (1, .ref v1), (2, .ref v2), (3, .int v3)] [] h 65 3281 := by
  unfold f_L_law_18 at hf
  exact mj_fix_ind (F := (fun (K18 : (Nat × Nat × Int32 × mj_H) → Option (Int32 × mj_H)) (s : Nat × Nat × Int32 × mj_H) => b_L_law_18 L xs  (fun v1 v2 v3 h => K18 (v1, v2, v3, h)) s.1 s.2.1 s.2.2.1 s.2.2.2)) (P := fun s p => mj_W (mL_law nm) (mj_FX L xs p) 18 [(0, .ref 2000), (1, .ref s.1), (2, .ref s.2.1), (3, .int s.2.2.1)] [] s.2.2.2 65 3281) (fun K18 hK18 s p hf => wb_L_law_18 L xs   (fun v1 v2 v3 h => K18 (v1, v2, v3, h)) (fun v1 v2 v3 h p e => hK18 (v1, v2, v3, h) p e) s.1 s.2.1 s.2.2.1 s.2.2.2 p hf) 1000 (v1, v2, v3, h) p hf
def f_L_law (L : Nat) (xs : Nat → Int32) (h : mj_H) : Option (Int32 × mj_H) := (mj_mk h (.inr (8, [.null, .null, .null, .null, .null, .null, .null, .null, .null, .long 0, .long 0, .int 0, .int 0, .int 0]))).bind fun p186 => (f_X8_init p186.1 p186.2).bind fun p187 => (mj_mk p187 (.inr (9, [.null, .null, .null, .null, .int 0, .long 0, .long 0, .null, .null, .int 0, .int 0, .int 0, .int 0, .long 0, .null, .int 0, .null, .null, .null, .null]))).bind fun p188 => (f_X9_init p188.1 p188.2).bind fun p189 => f_L_law_18 L xs p186.1 p188.1 (0 : Int32) p189
set_option maxHeartbeats 4000000 in
set_option maxRecDepth 100000 in
theorem w_L_law {nm : String} (L : Nat) (xs : Nat → Int32) (h : mj_H) (p : Int32 × mj_H) (hf : f_L_law L xs h = some p) : mj_W (mL_law nm) (mj_FX L xs p) 0 [(0, .ref 2000)] [] h 0 0 := by
  unfold f_L_law at hf
  obtain ⟨p186, ep186, hf⟩ := mj_bd hf
  refine mj_newP 0 rfl nw_L_7 (by simp [mj_0]) ep186 (Nat.le_of_ble_eq_true rfl) (Nat.le_of_ble_eq_true rfl) ?_
  refine mj_blk k_L_ok 1 1 (pc' := 4) (l' := [(0, .ref 2000)]) (st' := [.ref p186.1, .ref p186.1]) rfl ?_
  obtain ⟨p187, ep187, hf⟩ := mj_bd hf
  refine mj_callI mX8_init [] 2 rfl ll_L_9 lb_X8_init li_X8_init ⟨Nat.le_of_ble_eq_true rfl, Nat.le_of_ble_eq_true rfl⟩ rfl (rest := [.ref p186.1]) rfl (Nat.le_of_ble_eq_true rfl) ⟨Nat.le_of_ble_eq_true rfl, Nat.le_of_ble_eq_true rfl⟩ (c_X8_init p186.1 p186.2 p187 ep187) ?_
  show mj_W (mL_law nm) (mj_FX L xs p) 7 [(0, .ref 2000)] [.ref p186.1] p187 53 1404
  refine mj_blk k_L_ok 3 1 (pc' := 8) (l' := [(1, .ref p186.1), (0, .ref 2000)]) (st' := []) rfl ?_
  obtain ⟨p188, ep188, hf⟩ := mj_bd hf
  refine mj_newP 4 rfl nw_L_10 (by simp [mj_0]) ep188 (Nat.le_of_ble_eq_true rfl) (Nat.le_of_ble_eq_true rfl) ?_
  refine mj_blk k_L_ok 5 1 (pc' := 12) (l' := [(1, .ref p186.1), (0, .ref 2000)]) (st' := [.ref p188.1, .ref p188.1]) rfl ?_
  obtain ⟨p189, ep189, hf⟩ := mj_bd hf
  refine mj_callI mX9_init [] 6 rfl ll_L_12 lb_X9_init li_X9_init ⟨Nat.le_of_ble_eq_true rfl, Nat.le_of_ble_eq_true rfl⟩ rfl (rest := [.ref p188.1]) rfl (Nat.le_of_ble_eq_true rfl) ⟨Nat.le_of_ble_eq_true rfl, Nat.le_of_ble_eq_true rfl⟩ (c_X9_init p188.1 p188.2 p189 ep189) ?_
  show mj_W (mL_law nm) (mj_FX L xs p) 15 [(1, .ref p186.1), (0, .ref 2000)] [.ref p188.1] p189 65 3281
  refine mj_blk k_L_ok 7 3 (pc' := 18) (l' := [(3, .int (0 : Int32)), (2, .ref p188.1), (1, .ref p186.1), (0, .ref 2000)]) (st' := []) rfl ?_
  refine mj_locs [3, 2, 1, 0] (l' := [(0, .ref 2000), (1, .ref p186.1), (2, .ref p188.1), (3, .int (0 : Int32))]) rfl ?_
  exact w_L_law_18 L xs p186.1 p188.1 (0 : Int32) p189 _ hf
