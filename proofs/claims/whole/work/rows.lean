section
-- ===== PART A: goes FIRST, ahead of the names: the tables' words, and 'selects' of the private methods out of them =====
/-- a private method of a class that the tables say can be made, by its rows of tables_1 -/
def lw_okq (q : MethodName × Nat) : Prop := (q.1.cls ≠ "java/lang/invoke/MethodHandle" ∧ q.1.cls ≠ "java/lang/invoke/VarHandle") ∧ Cond.instantiable q.1.cls q.2 ∈ tables_1 ∧ Cond.privateMethod q.1 ∈ tables_1 ∧ Cond.instanceMethod q.1 ∈ tables_1
theorem lw_p0 : lw_okq (⟨"RiverChoice", "accepted", "(I)I"⟩, 14) := ⟨⟨by decide +kernel, by decide +kernel⟩, List.mem_of_getElem? (i := 19) (by decide +kernel), List.mem_of_getElem? (i := 262) (by decide +kernel), List.mem_of_getElem? (i := 263) (by decide +kernel)⟩
theorem lw_p1 : lw_okq (⟨"RiverChoice", "refused", "(I)I"⟩, 14) := ⟨⟨by decide +kernel, by decide +kernel⟩, List.mem_of_getElem? (i := 19) (by decide +kernel), List.mem_of_getElem? (i := 266) (by decide +kernel), List.mem_of_getElem? (i := 267) (by decide +kernel)⟩
theorem lw_p2 : lw_okq (⟨"RiverChoice", "refusedAs", "(II)I"⟩, 14) := ⟨⟨by decide +kernel, by decide +kernel⟩, List.mem_of_getElem? (i := 19) (by decide +kernel), List.mem_of_getElem? (i := 270) (by decide +kernel), List.mem_of_getElem? (i := 271) (by decide +kernel)⟩
theorem lw_p3 : lw_okq (⟨"RiverChoice$Reader", "skipBlanks", "()V"⟩, 9) := ⟨⟨by decide +kernel, by decide +kernel⟩, List.mem_of_getElem? (i := 120) (by decide +kernel), List.mem_of_getElem? (i := 360) (by decide +kernel), List.mem_of_getElem? (i := 361) (by decide +kernel)⟩
theorem lw_p4 : lw_okq (⟨"RiverChoice$Reader", "readItem", "(Z)Z"⟩, 9) := ⟨⟨by decide +kernel, by decide +kernel⟩, List.mem_of_getElem? (i := 120) (by decide +kernel), List.mem_of_getElem? (i := 368) (by decide +kernel), List.mem_of_getElem? (i := 369) (by decide +kernel)⟩
theorem lw_p5 : lw_okq (⟨"RiverChoice$Reader", "readToken", "()V"⟩, 9) := ⟨⟨by decide +kernel, by decide +kernel⟩, List.mem_of_getElem? (i := 120) (by decide +kernel), List.mem_of_getElem? (i := 372) (by decide +kernel), List.mem_of_getElem? (i := 373) (by decide +kernel)⟩
theorem lw_p6 : lw_okq (⟨"RiverChoice$Reader", "readWord", "()V"⟩, 9) := ⟨⟨by decide +kernel, by decide +kernel⟩, List.mem_of_getElem? (i := 120) (by decide +kernel), List.mem_of_getElem? (i := 379) (by decide +kernel), List.mem_of_getElem? (i := 380) (by decide +kernel)⟩
theorem lw_p7 : lw_okq (⟨"RiverChoice$Reader", "readNumber", "()V"⟩, 9) := ⟨⟨by decide +kernel, by decide +kernel⟩, List.mem_of_getElem? (i := 120) (by decide +kernel), List.mem_of_getElem? (i := 444) (by decide +kernel), List.mem_of_getElem? (i := 445) (by decide +kernel)⟩
theorem lw_p8 : lw_okq (⟨"RiverChoice$Reader", "tellItem", "()I"⟩, 9) := ⟨⟨by decide +kernel, by decide +kernel⟩, List.mem_of_getElem? (i := 120) (by decide +kernel), List.mem_of_getElem? (i := 454) (by decide +kernel), List.mem_of_getElem? (i := 455) (by decide +kernel)⟩
theorem lw_p9 : lw_okq (⟨"RiverChoice$Row", "sum", "()J"⟩, 1) := ⟨⟨by decide +kernel, by decide +kernel⟩, List.mem_of_getElem? (i := 33) (by decide +kernel), List.mem_of_getElem? (i := 514) (by decide +kernel), List.mem_of_getElem? (i := 515) (by decide +kernel)⟩
theorem lw_p10 : lw_okq (⟨"RiverChoice$Row", "cutBy", "(J)V"⟩, 1) := ⟨⟨by decide +kernel, by decide +kernel⟩, List.mem_of_getElem? (i := 33) (by decide +kernel), List.mem_of_getElem? (i := 521) (by decide +kernel), List.mem_of_getElem? (i := 522) (by decide +kernel)⟩
theorem lw_p11 : lw_okq (⟨"RiverChoice$Row", "most", "()J"⟩, 1) := ⟨⟨by decide +kernel, by decide +kernel⟩, List.mem_of_getElem? (i := 33) (by decide +kernel), List.mem_of_getElem? (i := 525) (by decide +kernel), List.mem_of_getElem? (i := 526) (by decide +kernel)⟩
theorem lw_p12 : lw_okq (⟨"RiverChoice$Odds", "addMan", "(I)V"⟩, 3) := ⟨⟨by decide +kernel, by decide +kernel⟩, List.mem_of_getElem? (i := 173) (by decide +kernel), List.mem_of_getElem? (i := 620) (by decide +kernel), List.mem_of_getElem? (i := 621) (by decide +kernel)⟩
theorem lw_p13 : lw_okq (⟨"RiverChoice", "waysNow", "(II)J"⟩, 14) := ⟨⟨by decide +kernel, by decide +kernel⟩, List.mem_of_getElem? (i := 19) (by decide +kernel), List.mem_of_getElem? (i := 652) (by decide +kernel), List.mem_of_getElem? (i := 653) (by decide +kernel)⟩
theorem lw_p14 : lw_okq (⟨"RiverChoice", "gainOf", "(IIIIJ)I"⟩, 14) := ⟨⟨by decide +kernel, by decide +kernel⟩, List.mem_of_getElem? (i := 19) (by decide +kernel), List.mem_of_getElem? (i := 656) (by decide +kernel), List.mem_of_getElem? (i := 657) (by decide +kernel)⟩
theorem lw_p15 : lw_okq (⟨"RiverChoice$Sifted", "decode", "(II)V"⟩, 3) := ⟨⟨by decide +kernel, by decide +kernel⟩, List.mem_of_getElem? (i := 192) (by decide +kernel), List.mem_of_getElem? (i := 680) (by decide +kernel), List.mem_of_getElem? (i := 681) (by decide +kernel)⟩
def lw_privs_1 : List (MethodName × Nat) := [(⟨"RiverChoice", "accepted", "(I)I"⟩, 14), (⟨"RiverChoice", "refused", "(I)I"⟩, 14), (⟨"RiverChoice", "refusedAs", "(II)I"⟩, 14), (⟨"RiverChoice$Reader", "skipBlanks", "()V"⟩, 9), (⟨"RiverChoice$Reader", "readItem", "(Z)Z"⟩, 9), (⟨"RiverChoice$Reader", "readToken", "()V"⟩, 9), (⟨"RiverChoice$Reader", "readWord", "()V"⟩, 9), (⟨"RiverChoice$Reader", "readNumber", "()V"⟩, 9), (⟨"RiverChoice$Reader", "tellItem", "()I"⟩, 9), (⟨"RiverChoice$Row", "sum", "()J"⟩, 1), (⟨"RiverChoice$Row", "cutBy", "(J)V"⟩, 1), (⟨"RiverChoice$Row", "most", "()J"⟩, 1), (⟨"RiverChoice$Odds", "addMan", "(I)V"⟩, 3), (⟨"RiverChoice", "waysNow", "(II)J"⟩, 14), (⟨"RiverChoice", "gainOf", "(IIIIJ)I"⟩, 14), (⟨"RiverChoice$Sifted", "decode", "(II)V"⟩, 3)]
theorem lw_r1 : ∀ q ∈ lw_privs_1, lw_okq q := List.forall_mem_cons.mpr ⟨lw_p0, List.forall_mem_cons.mpr ⟨lw_p1, List.forall_mem_cons.mpr ⟨lw_p2, List.forall_mem_cons.mpr ⟨lw_p3, List.forall_mem_cons.mpr ⟨lw_p4, List.forall_mem_cons.mpr ⟨lw_p5, List.forall_mem_cons.mpr ⟨lw_p6, List.forall_mem_cons.mpr ⟨lw_p7, List.forall_mem_cons.mpr ⟨lw_p8, List.forall_mem_cons.mpr ⟨lw_p9, List.forall_mem_cons.mpr ⟨lw_p10, List.forall_mem_cons.mpr ⟨lw_p11, List.forall_mem_cons.mpr ⟨lw_p12, List.forall_mem_cons.mpr ⟨lw_p13, List.forall_mem_cons.mpr ⟨lw_p14, List.forall_mem_cons.mpr ⟨lw_p15, fun _ h => absurd h List.not_mem_nil⟩⟩⟩⟩⟩⟩⟩⟩⟩⟩⟩⟩⟩⟩⟩⟩
theorem lw_p16 : lw_okq (⟨"RiverChoice$Sifted", "fits", "(LRiverChoice$Band;II)Z"⟩, 3) := ⟨⟨by decide +kernel, by decide +kernel⟩, List.mem_of_getElem? (i := 192) (by decide +kernel), List.mem_of_getElem? (i := 684) (by decide +kernel), List.mem_of_getElem? (i := 685) (by decide +kernel)⟩
theorem lw_p17 : lw_okq (⟨"RiverChoice", "mayStay", "(II)Z"⟩, 14) := ⟨⟨by decide +kernel, by decide +kernel⟩, List.mem_of_getElem? (i := 19) (by decide +kernel), List.mem_of_getElem? (i := 706) (by decide +kernel), List.mem_of_getElem? (i := 707) (by decide +kernel)⟩
theorem lw_p18 : lw_okq (⟨"RiverChoice", "isOpen", "(II)Z"⟩, 14) := ⟨⟨by decide +kernel, by decide +kernel⟩, List.mem_of_getElem? (i := 19) (by decide +kernel), List.mem_of_getElem? (i := 740) (by decide +kernel), List.mem_of_getElem? (i := 741) (by decide +kernel)⟩
theorem lw_p19 : lw_okq (⟨"RiverChoice", "imageAt", "(I)LRiverChoice$Image;"⟩, 14) := ⟨⟨by decide +kernel, by decide +kernel⟩, List.mem_of_getElem? (i := 19) (by decide +kernel), List.mem_of_getElem? (i := 776) (by decide +kernel), List.mem_of_getElem? (i := 777) (by decide +kernel)⟩
theorem lw_p20 : lw_okq (⟨"RiverChoice", "howMany", "(I)I"⟩, 14) := ⟨⟨by decide +kernel, by decide +kernel⟩, List.mem_of_getElem? (i := 19) (by decide +kernel), List.mem_of_getElem? (i := 796) (by decide +kernel), List.mem_of_getElem? (i := 797) (by decide +kernel)⟩
theorem lw_p21 : lw_okq (⟨"RiverChoiceModel", "clean", "(I)V"⟩, 20) := ⟨⟨by decide +kernel, by decide +kernel⟩, List.mem_of_getElem? (i := 811) (by decide +kernel), List.mem_of_getElem? (i := 817) (by decide +kernel), List.mem_of_getElem? (i := 818) (by decide +kernel)⟩
theorem lw_p22 : lw_okq (⟨"RiverChoiceModel", "bad", "(I)I"⟩, 20) := ⟨⟨by decide +kernel, by decide +kernel⟩, List.mem_of_getElem? (i := 811) (by decide +kernel), List.mem_of_getElem? (i := 891) (by decide +kernel), List.mem_of_getElem? (i := 892) (by decide +kernel)⟩
theorem lw_p23 : lw_okq (⟨"RiverChoiceModel", "doMan", "()I"⟩, 20) := ⟨⟨by decide +kernel, by decide +kernel⟩, List.mem_of_getElem? (i := 811) (by decide +kernel), List.mem_of_getElem? (i := 899) (by decide +kernel), List.mem_of_getElem? (i := 900) (by decide +kernel)⟩
theorem lw_p24 : lw_okq (⟨"RiverChoiceModel", "tell", "(I)I"⟩, 20) := ⟨⟨by decide +kernel, by decide +kernel⟩, List.mem_of_getElem? (i := 811) (by decide +kernel), List.mem_of_getElem? (i := 907) (by decide +kernel), List.mem_of_getElem? (i := 908) (by decide +kernel)⟩
theorem lw_p25 : lw_okq (⟨"RiverChoiceModel", "doWorn", "(II)I"⟩, 20) := ⟨⟨by decide +kernel, by decide +kernel⟩, List.mem_of_getElem? (i := 811) (by decide +kernel), List.mem_of_getElem? (i := 915) (by decide +kernel), List.mem_of_getElem? (i := 916) (by decide +kernel)⟩
theorem lw_p26 : lw_okq (⟨"RiverChoiceModel", "isMan", "(I)Z"⟩, 20) := ⟨⟨by decide +kernel, by decide +kernel⟩, List.mem_of_getElem? (i := 811) (by decide +kernel), List.mem_of_getElem? (i := 919) (by decide +kernel), List.mem_of_getElem? (i := 920) (by decide +kernel)⟩
theorem lw_p27 : lw_okq (⟨"RiverChoiceModel", "doPair", "(II)I"⟩, 20) := ⟨⟨by decide +kernel, by decide +kernel⟩, List.mem_of_getElem? (i := 811) (by decide +kernel), List.mem_of_getElem? (i := 928) (by decide +kernel), List.mem_of_getElem? (i := 929) (by decide +kernel)⟩
theorem lw_p28 : lw_okq (⟨"RiverChoiceModel", "doWord", "(I)I"⟩, 20) := ⟨⟨by decide +kernel, by decide +kernel⟩, List.mem_of_getElem? (i := 811) (by decide +kernel), List.mem_of_getElem? (i := 939) (by decide +kernel), List.mem_of_getElem? (i := 940) (by decide +kernel)⟩
theorem lw_p29 : lw_okq (⟨"RiverChoiceModel", "reads", "()I"⟩, 20) := ⟨⟨by decide +kernel, by decide +kernel⟩, List.mem_of_getElem? (i := 811) (by decide +kernel), List.mem_of_getElem? (i := 956) (by decide +kernel), List.mem_of_getElem? (i := 957) (by decide +kernel)⟩
theorem lw_p30 : lw_okq (⟨"RiverChoiceModel", "takes", "()V"⟩, 20) := ⟨⟨by decide +kernel, by decide +kernel⟩, List.mem_of_getElem? (i := 811) (by decide +kernel), List.mem_of_getElem? (i := 960) (by decide +kernel), List.mem_of_getElem? (i := 961) (by decide +kernel)⟩
theorem lw_p31 : lw_okq (⟨"RiverChoiceModel", "doItem", "(I)I"⟩, 20) := ⟨⟨by decide +kernel, by decide +kernel⟩, List.mem_of_getElem? (i := 811) (by decide +kernel), List.mem_of_getElem? (i := 978) (by decide +kernel), List.mem_of_getElem? (i := 979) (by decide +kernel)⟩
def lw_privs_2 : List (MethodName × Nat) := [(⟨"RiverChoice$Sifted", "fits", "(LRiverChoice$Band;II)Z"⟩, 3), (⟨"RiverChoice", "mayStay", "(II)Z"⟩, 14), (⟨"RiverChoice", "isOpen", "(II)Z"⟩, 14), (⟨"RiverChoice", "imageAt", "(I)LRiverChoice$Image;"⟩, 14), (⟨"RiverChoice", "howMany", "(I)I"⟩, 14), (⟨"RiverChoiceModel", "clean", "(I)V"⟩, 20), (⟨"RiverChoiceModel", "bad", "(I)I"⟩, 20), (⟨"RiverChoiceModel", "doMan", "()I"⟩, 20), (⟨"RiverChoiceModel", "tell", "(I)I"⟩, 20), (⟨"RiverChoiceModel", "doWorn", "(II)I"⟩, 20), (⟨"RiverChoiceModel", "isMan", "(I)Z"⟩, 20), (⟨"RiverChoiceModel", "doPair", "(II)I"⟩, 20), (⟨"RiverChoiceModel", "doWord", "(I)I"⟩, 20), (⟨"RiverChoiceModel", "reads", "()I"⟩, 20), (⟨"RiverChoiceModel", "takes", "()V"⟩, 20), (⟨"RiverChoiceModel", "doItem", "(I)I"⟩, 20)]
theorem lw_r2 : ∀ q ∈ lw_privs_2, lw_okq q := List.forall_mem_cons.mpr ⟨lw_p16, List.forall_mem_cons.mpr ⟨lw_p17, List.forall_mem_cons.mpr ⟨lw_p18, List.forall_mem_cons.mpr ⟨lw_p19, List.forall_mem_cons.mpr ⟨lw_p20, List.forall_mem_cons.mpr ⟨lw_p21, List.forall_mem_cons.mpr ⟨lw_p22, List.forall_mem_cons.mpr ⟨lw_p23, List.forall_mem_cons.mpr ⟨lw_p24, List.forall_mem_cons.mpr ⟨lw_p25, List.forall_mem_cons.mpr ⟨lw_p26, List.forall_mem_cons.mpr ⟨lw_p27, List.forall_mem_cons.mpr ⟨lw_p28, List.forall_mem_cons.mpr ⟨lw_p29, List.forall_mem_cons.mpr ⟨lw_p30, List.forall_mem_cons.mpr ⟨lw_p31, fun _ h => absurd h List.not_mem_nil⟩⟩⟩⟩⟩⟩⟩⟩⟩⟩⟩⟩⟩⟩⟩⟩
theorem lw_p32 : lw_okq (⟨"RiverChoiceModel", "no", "(I)I"⟩, 20) := ⟨⟨by decide +kernel, by decide +kernel⟩, List.mem_of_getElem? (i := 811) (by decide +kernel), List.mem_of_getElem? (i := 993) (by decide +kernel), List.mem_of_getElem? (i := 994) (by decide +kernel)⟩
theorem lw_p33 : lw_okq (⟨"RiverChoiceModel", "remember", "()V"⟩, 20) := ⟨⟨by decide +kernel, by decide +kernel⟩, List.mem_of_getElem? (i := 811) (by decide +kernel), List.mem_of_getElem? (i := 997) (by decide +kernel), List.mem_of_getElem? (i := 998) (by decide +kernel)⟩
theorem lw_p34 : lw_okq (⟨"RiverChoiceModel", "showsOn", "(II)I"⟩, 20) := ⟨⟨by decide +kernel, by decide +kernel⟩, List.mem_of_getElem? (i := 811) (by decide +kernel), List.mem_of_getElem? (i := 1050) (by decide +kernel), List.mem_of_getElem? (i := 1051) (by decide +kernel)⟩
theorem lw_p35 : lw_okq (⟨"RiverChoiceModel", "areMen", "(I)Z"⟩, 20) := ⟨⟨by decide +kernel, by decide +kernel⟩, List.mem_of_getElem? (i := 811) (by decide +kernel), List.mem_of_getElem? (i := 1062) (by decide +kernel), List.mem_of_getElem? (i := 1063) (by decide +kernel)⟩
theorem lw_p36 : lw_okq (⟨"RiverChoiceModel", "holdOn", "([III)J"⟩, 20) := ⟨⟨by decide +kernel, by decide +kernel⟩, List.mem_of_getElem? (i := 811) (by decide +kernel), List.mem_of_getElem? (i := 1070) (by decide +kernel), List.mem_of_getElem? (i := 1071) (by decide +kernel)⟩
theorem lw_p37 : lw_okq (⟨"RiverChoiceModel", "fraction", "(JJ)V"⟩, 20) := ⟨⟨by decide +kernel, by decide +kernel⟩, List.mem_of_getElem? (i := 811) (by decide +kernel), List.mem_of_getElem? (i := 1074) (by decide +kernel), List.mem_of_getElem? (i := 1075) (by decide +kernel)⟩
theorem lw_p38 : lw_okq (⟨"RiverChoiceModel", "keepOn", "([III)I"⟩, 20) := ⟨⟨by decide +kernel, by decide +kernel⟩, List.mem_of_getElem? (i := 811) (by decide +kernel), List.mem_of_getElem? (i := 1082) (by decide +kernel), List.mem_of_getElem? (i := 1083) (by decide +kernel)⟩
theorem lw_p39 : lw_okq (⟨"RiverChoiceModel", "worthOf", "(IIII)I"⟩, 20) := ⟨⟨by decide +kernel, by decide +kernel⟩, List.mem_of_getElem? (i := 811) (by decide +kernel), List.mem_of_getElem? (i := 1092) (by decide +kernel), List.mem_of_getElem? (i := 1093) (by decide +kernel)⟩
theorem lw_p40 : lw_okq (⟨"RiverChoiceModel", "behind", "(IIZII)J"⟩, 20) := ⟨⟨by decide +kernel, by decide +kernel⟩, List.mem_of_getElem? (i := 811) (by decide +kernel), List.mem_of_getElem? (i := 1096) (by decide +kernel), List.mem_of_getElem? (i := 1097) (by decide +kernel)⟩
theorem lw_p41 : lw_okq (⟨"RiverChoiceModel", "layDay", "()V"⟩, 20) := ⟨⟨by decide +kernel, by decide +kernel⟩, List.mem_of_getElem? (i := 811) (by decide +kernel), List.mem_of_getElem? (i := 1100) (by decide +kernel), List.mem_of_getElem? (i := 1101) (by decide +kernel)⟩
theorem lw_p42 : lw_okq (⟨"RiverChoiceModel", "sifts", "(IIII)Z"⟩, 20) := ⟨⟨by decide +kernel, by decide +kernel⟩, List.mem_of_getElem? (i := 811) (by decide +kernel), List.mem_of_getElem? (i := 1112) (by decide +kernel), List.mem_of_getElem? (i := 1113) (by decide +kernel)⟩
theorem lw_p43 : lw_okq (⟨"RiverChoiceModel", "areWell", "(II)Z"⟩, 20) := ⟨⟨by decide +kernel, by decide +kernel⟩, List.mem_of_getElem? (i := 811) (by decide +kernel), List.mem_of_getElem? (i := 1125) (by decide +kernel), List.mem_of_getElem? (i := 1126) (by decide +kernel)⟩
theorem lw_p44 : lw_okq (⟨"RiverChoiceModel", "wearing", "(IZ)I"⟩, 20) := ⟨⟨by decide +kernel, by decide +kernel⟩, List.mem_of_getElem? (i := 811) (by decide +kernel), List.mem_of_getElem? (i := 1140) (by decide +kernel), List.mem_of_getElem? (i := 1141) (by decide +kernel)⟩
theorem lw_p45 : lw_okq (⟨"RiverChoiceModel", "gets", "(III)I"⟩, 20) := ⟨⟨by decide +kernel, by decide +kernel⟩, List.mem_of_getElem? (i := 811) (by decide +kernel), List.mem_of_getElem? (i := 1152) (by decide +kernel), List.mem_of_getElem? (i := 1153) (by decide +kernel)⟩
theorem lw_p46 : lw_okq (⟨"RiverChoiceModel", "counted", "(I)I"⟩, 20) := ⟨⟨by decide +kernel, by decide +kernel⟩, List.mem_of_getElem? (i := 811) (by decide +kernel), List.mem_of_getElem? (i := 1190) (by decide +kernel), List.mem_of_getElem? (i := 1191) (by decide +kernel)⟩
def lw_privs_3 : List (MethodName × Nat) := [(⟨"RiverChoiceModel", "no", "(I)I"⟩, 20), (⟨"RiverChoiceModel", "remember", "()V"⟩, 20), (⟨"RiverChoiceModel", "showsOn", "(II)I"⟩, 20), (⟨"RiverChoiceModel", "areMen", "(I)Z"⟩, 20), (⟨"RiverChoiceModel", "holdOn", "([III)J"⟩, 20), (⟨"RiverChoiceModel", "fraction", "(JJ)V"⟩, 20), (⟨"RiverChoiceModel", "keepOn", "([III)I"⟩, 20), (⟨"RiverChoiceModel", "worthOf", "(IIII)I"⟩, 20), (⟨"RiverChoiceModel", "behind", "(IIZII)J"⟩, 20), (⟨"RiverChoiceModel", "layDay", "()V"⟩, 20), (⟨"RiverChoiceModel", "sifts", "(IIII)Z"⟩, 20), (⟨"RiverChoiceModel", "areWell", "(II)Z"⟩, 20), (⟨"RiverChoiceModel", "wearing", "(IZ)I"⟩, 20), (⟨"RiverChoiceModel", "gets", "(III)I"⟩, 20), (⟨"RiverChoiceModel", "counted", "(I)I"⟩, 20)]
theorem lw_r3 : ∀ q ∈ lw_privs_3, lw_okq q := List.forall_mem_cons.mpr ⟨lw_p32, List.forall_mem_cons.mpr ⟨lw_p33, List.forall_mem_cons.mpr ⟨lw_p34, List.forall_mem_cons.mpr ⟨lw_p35, List.forall_mem_cons.mpr ⟨lw_p36, List.forall_mem_cons.mpr ⟨lw_p37, List.forall_mem_cons.mpr ⟨lw_p38, List.forall_mem_cons.mpr ⟨lw_p39, List.forall_mem_cons.mpr ⟨lw_p40, List.forall_mem_cons.mpr ⟨lw_p41, List.forall_mem_cons.mpr ⟨lw_p42, List.forall_mem_cons.mpr ⟨lw_p43, List.forall_mem_cons.mpr ⟨lw_p44, List.forall_mem_cons.mpr ⟨lw_p45, List.forall_mem_cons.mpr ⟨lw_p46, fun _ h => absurd h List.not_mem_nil⟩⟩⟩⟩⟩⟩⟩⟩⟩⟩⟩⟩⟩⟩⟩
def lw_privs : List (MethodName × Nat) := lw_privs_1 ++ (lw_privs_2 ++ (lw_privs_3))
def lw_tbl : List Cond := k2_sels lw_privs ++ tables_1
theorem lw_privs_ok : ∀ q ∈ lw_privs, lw_okq q := by
  show ∀ q ∈ lw_privs_1 ++ (lw_privs_2 ++ (lw_privs_3)), lw_okq q
  exact List.forall_mem_append.mpr ⟨lw_r1, List.forall_mem_append.mpr ⟨lw_r2, lw_r3⟩⟩
end
section
def RX0 : String := "RiverChoice$Band"
def TX0 : u_T := fun k => match k with
  | 0 => ("RiverChoice$Band", "weights", "[J", true)
  | 1 => ("RiverChoice$Band", "signs", "[I", true)
  | 2 => ("RiverChoice$Band", "brothers", "[I", true)
  | 3 => ("RiverChoice$Band", "row", "LRiverChoice$Row;", true)
  | 4 => ("RiverChoice$Band", "size", "I", false)
  | 5 => ("RiverChoice$Band", "informed", "I", false)
  | _ => ("RiverChoice$Band", "daylight", "I", false)
def tyX0 : Nat → FieldType := fun k => match k with
  | 0 => .array .long
  | 1 => .array .int
  | 2 => .array .int
  | 3 => .object "RiverChoice$Row"
  | 4 => .int
  | 5 => .int
  | _ => .int
abbrev wsX00 : List Cond := u_ws RX0 TX0 7
theorem nmX0 : ∀ a, a < 7 → ∀ b, b < 7 → a ≠ b → (TX0 a).2.1 ≠ (TX0 b).2.1 := by decide +kernel
theorem tyX0_ok : ∀ k, k < 7 → parseFieldDescriptor (TX0 k).2.2.1 = some (tyX0 k) := by decide +kernel
abbrev cX0_init : ByteArray := prog_2_method_1_code
def yX0_init : MethodName := ⟨RX0, "<init>", "()V"⟩
abbrev cX0_has : ByteArray := prog_2_method_2_code
def yX0_has : MethodName := ⟨RX0, "has", "(I)Z"⟩
abbrev cX0_hasAll : ByteArray := prog_2_method_3_code
def yX0_hasAll : MethodName := ⟨RX0, "hasAll", "(I)Z"⟩
abbrev cX0_begin : ByteArray := prog_2_method_4_code
def yX0_begin : MethodName := ⟨RX0, "begin", "(I)I"⟩
abbrev cX0_enrol : ByteArray := prog_2_method_5_code
def yX0_enrol : MethodName := ⟨RX0, "enrol", "([I)I"⟩
abbrev cX0_areWeights : ByteArray := prog_2_method_6_code
def yX0_areWeights : MethodName := ⟨RX0, "areWeights", "([I)Z"⟩
abbrev cX0_dress : ByteArray := prog_2_method_7_code
def yX0_dress : MethodName := ⟨RX0, "dress", "(II)I"⟩
abbrev cX0_bind : ByteArray := prog_2_method_8_code
def yX0_bind : MethodName := ⟨RX0, "bind", "(II)I"⟩
abbrev cX0_inform : ByteArray := prog_2_method_9_code
def yX0_inform : MethodName := ⟨RX0, "inform", "(I)I"⟩
abbrev cX0_knows : ByteArray := prog_2_method_10_code
def yX0_knows : MethodName := ⟨RX0, "knows", "(I)Z"⟩
abbrev cX0_weightOf : ByteArray := prog_2_method_11_code
def yX0_weightOf : MethodName := ⟨RX0, "weightOf", "(II)J"⟩
abbrev cX0_setWeight : ByteArray := prog_2_method_12_code
def yX0_setWeight : MethodName := ⟨RX0, "setWeight", "(IIJ)V"⟩
abbrev cX0_signsOf : ByteArray := prog_2_method_13_code
def yX0_signsOf : MethodName := ⟨RX0, "signsOf", "(I)I"⟩
abbrev cX0_brothersOf : ByteArray := prog_2_method_14_code
def yX0_brothersOf : MethodName := ⟨RX0, "brothersOf", "(I)I"⟩
abbrev cX0_areBrothers : ByteArray := prog_2_method_15_code
def yX0_areBrothers : MethodName := ⟨RX0, "areBrothers", "(II)Z"⟩
abbrev cX0_pairs : ByteArray := prog_2_method_16_code
def yX0_pairs : MethodName := ⟨RX0, "pairs", "()I"⟩
abbrev cX0_likeliestOf : ByteArray := prog_2_method_17_code
def yX0_likeliestOf : MethodName := ⟨RX0, "likeliestOf", "(I)I"⟩
abbrev cX0_trustOf : ByteArray := prog_2_method_18_code
def yX0_trustOf : MethodName := ⟨RX0, "trustOf", "(I)I"⟩
abbrev cX0_showsOf : ByteArray := prog_2_method_19_code
def yX0_showsOf : MethodName := ⟨RX0, "showsOf", "(II)I"⟩
abbrev cX0_trustBehind : ByteArray := prog_2_method_20_code
def yX0_trustBehind : MethodName := ⟨RX0, "trustBehind", "(IIIZ)I"⟩
abbrev cX0_pass : ByteArray := prog_2_method_21_code
def yX0_pass : MethodName := ⟨RX0, "pass", "(IIZ)V"⟩
abbrev cX0_besides : ByteArray := prog_2_method_22_code
def yX0_besides : MethodName := ⟨RX0, "besides", "(I)I"⟩
abbrev cX0_wearers : ByteArray := prog_2_method_23_code
def yX0_wearers : MethodName := ⟨RX0, "wearers", "(IZ)I"⟩
abbrev cX0_become : ByteArray := prog_2_method_24_code
def yX0_become : MethodName := ⟨RX0, "become", "(LRiverChoice$Band;)V"⟩
def RX1 : String := "RiverChoice$Image"
def TX1 : u_T := fun k => match k with
  | 0 => ("RiverChoice$Image", "band", "LRiverChoice$Band;", true)
  | 1 => ("RiverChoice$Image", "past", "LRiverChoice$Past;", true)
  | _ => ("RiverChoice$Image", "exists", "Z", false)
def tyX1 : Nat → FieldType := fun k => match k with
  | 0 => .object "RiverChoice$Band"
  | 1 => .object "RiverChoice$Past"
  | _ => .boolean
abbrev wsX10 : List Cond := u_ws RX1 TX1 3
theorem nmX1 : ∀ a, a < 3 → ∀ b, b < 3 → a ≠ b → (TX1 a).2.1 ≠ (TX1 b).2.1 := by decide +kernel
theorem tyX1_ok : ∀ k, k < 3 → parseFieldDescriptor (TX1 k).2.2.1 = some (tyX1 k) := by decide +kernel
abbrev cX1_init : ByteArray := prog_3_method_1_code
def yX1_init : MethodName := ⟨RX1, "<init>", "()V"⟩
def RX2 : String := "RiverChoice$Odds"
def TX2 : u_T := fun k => match k with
  | 0 => ("RiverChoice$Odds", "trusts", "[I", true)
  | 1 => ("RiverChoice$Odds", "ways", "[J", true)
  | _ => ("RiverChoice$Odds", "bestMen", "I", false)
def tyX2 : Nat → FieldType := fun k => match k with
  | 0 => .array .int
  | 1 => .array .long
  | _ => .int
abbrev wsX20 : List Cond := u_ws RX2 TX2 3
theorem nmX2 : ∀ a, a < 3 → ∀ b, b < 3 → a ≠ b → (TX2 a).2.1 ≠ (TX2 b).2.1 := by decide +kernel
theorem tyX2_ok : ∀ k, k < 3 → parseFieldDescriptor (TX2 k).2.2.1 = some (tyX2 k) := by decide +kernel
abbrev cX2_init : ByteArray := prog_4_method_1_code
def yX2_init : MethodName := ⟨RX2, "<init>", "()V"⟩
abbrev cX2_seeNow : ByteArray := prog_4_method_2_code
def yX2_seeNow : MethodName := ⟨RX2, "seeNow", "(LRiverChoice$Band;)V"⟩
abbrev cX2_seeBehind : ByteArray := prog_4_method_3_code
def yX2_seeBehind : MethodName := ⟨RX2, "seeBehind", "(LRiverChoice$Band;IIZ)V"⟩
abbrev cX2_trustSeen : ByteArray := prog_4_method_4_code
def yX2_trustSeen : MethodName := ⟨RX2, "trustSeen", "(I)I"⟩
abbrev cX2_waysToHold : ByteArray := prog_4_method_5_code
def yX2_waysToHold : MethodName := ⟨RX2, "waysToHold", "(II)J"⟩
abbrev cX2_addMan : ByteArray := prog_4_method_6_code
def yX2_addMan : MethodName := ⟨RX2, "addMan", "(I)V"⟩
abbrev cX2_chooseBest : ByteArray := prog_4_method_7_code
def yX2_chooseBest : MethodName := ⟨RX2, "chooseBest", "(III)J"⟩
def RX3 : String := "RiverChoice$Past"
def TX3 : u_T := fun k => match k with
  | 0 => ("RiverChoice$Past", "weights", "[J", true)
  | 1 => ("RiverChoice$Past", "informed", "[I", true)
  | 2 => ("RiverChoice$Past", "daylight", "[I", true)
  | 3 => ("RiverChoice$Past", "oldest", "I", false)
  | _ => ("RiverChoice$Past", "size", "I", false)
def tyX3 : Nat → FieldType := fun k => match k with
  | 0 => .array .long
  | 1 => .array .int
  | 2 => .array .int
  | 3 => .int
  | _ => .int
abbrev wsX30 : List Cond := u_ws RX3 TX3 5
theorem nmX3 : ∀ a, a < 5 → ∀ b, b < 5 → a ≠ b → (TX3 a).2.1 ≠ (TX3 b).2.1 := by decide +kernel
theorem tyX3_ok : ∀ k, k < 5 → parseFieldDescriptor (TX3 k).2.2.1 = some (tyX3 k) := by decide +kernel
abbrev cX3_init : ByteArray := prog_5_method_1_code
def yX3_init : MethodName := ⟨RX3, "<init>", "()V"⟩
abbrev cX3_push : ByteArray := prog_5_method_2_code
def yX3_push : MethodName := ⟨RX3, "push", "(LRiverChoice$Band;)V"⟩
abbrev cX3_pop : ByteArray := prog_5_method_3_code
def yX3_pop : MethodName := ⟨RX3, "pop", "(LRiverChoice$Band;)Z"⟩
abbrev cX3_forget : ByteArray := prog_5_method_4_code
def yX3_forget : MethodName := ⟨RX3, "forget", "()V"⟩
abbrev cX3_become : ByteArray := prog_5_method_5_code
def yX3_become : MethodName := ⟨RX3, "become", "(LRiverChoice$Past;)V"⟩
def RX4 : String := "RiverChoice$Reader"
def TX4 : u_T := fun k => match k with
  | 0 => ("RiverChoice$Reader", "text", "LRiverChoice$Text;", true)
  | 1 => ("RiverChoice$Reader", "draft", "LRiverChoice$Band;", true)
  | 2 => ("RiverChoice$Reader", "numbers", "[I", true)
  | 3 => ("RiverChoice$Reader", "place", "I", false)
  | 4 => ("RiverChoice$Reader", "start", "I", false)
  | 5 => ("RiverChoice$Reader", "token", "I", false)
  | 6 => ("RiverChoice$Reader", "value", "I", false)
  | 7 => ("RiverChoice$Reader", "item", "I", false)
  | _ => ("RiverChoice$Reader", "items", "I", false)
def tyX4 : Nat → FieldType := fun k => match k with
  | 0 => .object "RiverChoice$Text"
  | 1 => .object "RiverChoice$Band"
  | 2 => .array .int
  | 3 => .int
  | 4 => .int
  | 5 => .int
  | 6 => .int
  | 7 => .int
  | _ => .int
abbrev wsX40 : List Cond := u_ws RX4 TX4 9
theorem nmX4 : ∀ a, a < 9 → ∀ b, b < 9 → a ≠ b → (TX4 a).2.1 ≠ (TX4 b).2.1 := by decide +kernel
theorem tyX4_ok : ∀ k, k < 9 → parseFieldDescriptor (TX4 k).2.2.1 = some (tyX4 k) := by decide +kernel
abbrev cX4_init : ByteArray := prog_6_method_1_code
def yX4_init : MethodName := ⟨RX4, "<init>", "()V"⟩
abbrev cX4_findFault : ByteArray := prog_6_method_2_code
def yX4_findFault : MethodName := ⟨RX4, "findFault", "()I"⟩
abbrev cX4_tellDraft : ByteArray := prog_6_method_3_code
def yX4_tellDraft : MethodName := ⟨RX4, "tellDraft", "()I"⟩
abbrev cX4_tellItem : ByteArray := prog_6_method_4_code
def yX4_tellItem : MethodName := ⟨RX4, "tellItem", "()I"⟩
abbrev cX4_readItem : ByteArray := prog_6_method_5_code
def yX4_readItem : MethodName := ⟨RX4, "readItem", "(Z)Z"⟩
abbrev cX4_readToken : ByteArray := prog_6_method_6_code
def yX4_readToken : MethodName := ⟨RX4, "readToken", "()V"⟩
abbrev cX4_readWord : ByteArray := prog_6_method_7_code
def yX4_readWord : MethodName := ⟨RX4, "readWord", "()V"⟩
abbrev cX4_readNumber : ByteArray := prog_6_method_8_code
def yX4_readNumber : MethodName := ⟨RX4, "readNumber", "()V"⟩
abbrev cX4_skipBlanks : ByteArray := prog_6_method_9_code
def yX4_skipBlanks : MethodName := ⟨RX4, "skipBlanks", "()V"⟩
abbrev cX4_isLetter : ByteArray := prog_6_method_10_code
def yX4_isLetter : MethodName := ⟨RX4, "isLetter", "(I)Z"⟩
abbrev cX4_isFigure : ByteArray := prog_6_method_11_code
def yX4_isFigure : MethodName := ⟨RX4, "isFigure", "(I)Z"⟩
def RX5 : String := "RiverChoice$Row"
def TX5 : u_T := fun k => match k with
  | _ => ("RiverChoice$Row", "weights", "[J", true)
def tyX5 : Nat → FieldType := fun k => match k with
  | _ => .array .long
abbrev wsX50 : List Cond := u_ws RX5 TX5 1
theorem nmX5 : ∀ a, a < 1 → ∀ b, b < 1 → a ≠ b → (TX5 a).2.1 ≠ (TX5 b).2.1 := by decide +kernel
theorem tyX5_ok : ∀ k, k < 1 → parseFieldDescriptor (TX5 k).2.2.1 = some (tyX5 k) := by decide +kernel
abbrev cX5_init : ByteArray := prog_7_method_1_code
def yX5_init : MethodName := ⟨RX5, "<init>", "()V"⟩
abbrev cX5_load : ByteArray := prog_7_method_2_code
def yX5_load : MethodName := ⟨RX5, "load", "(LRiverChoice$Band;I)V"⟩
abbrev cX5_store : ByteArray := prog_7_method_3_code
def yX5_store : MethodName := ⟨RX5, "store", "(LRiverChoice$Band;I)V"⟩
abbrev cX5_dropSpy : ByteArray := prog_7_method_4_code
def yX5_dropSpy : MethodName := ⟨RX5, "dropSpy", "()V"⟩
abbrev cX5_isEmpty : ByteArray := prog_7_method_5_code
def yX5_isEmpty : MethodName := ⟨RX5, "isEmpty", "()Z"⟩
abbrev cX5_weigh : ByteArray := prog_7_method_6_code
def yX5_weigh : MethodName := ⟨RX5, "weigh", "(IZZ)V"⟩
abbrev cX5_chance : ByteArray := prog_7_method_7_code
def yX5_chance : MethodName := ⟨RX5, "chance", "(IZ)I"⟩
abbrev cX5_cutBy : ByteArray := prog_7_method_8_code
def yX5_cutBy : MethodName := ⟨RX5, "cutBy", "(J)V"⟩
abbrev cX5_sum : ByteArray := prog_7_method_9_code
def yX5_sum : MethodName := ⟨RX5, "sum", "()J"⟩
abbrev cX5_most : ByteArray := prog_7_method_10_code
def yX5_most : MethodName := ⟨RX5, "most", "()J"⟩
def RX6 : String := "RiverChoice$Sifted"
def TX6 : u_T := fun k => match k with
  | 0 => ("RiverChoice$Sifted", "tests", "[I", true)
  | 1 => ("RiverChoice$Sifted", "row", "LRiverChoice$Row;", true)
  | _ => ("RiverChoice$Sifted", "size", "I", false)
def tyX6 : Nat → FieldType := fun k => match k with
  | 0 => .array .int
  | 1 => .object "RiverChoice$Row"
  | _ => .int
abbrev wsX60 : List Cond := u_ws RX6 TX6 3
theorem nmX6 : ∀ a, a < 3 → ∀ b, b < 3 → a ≠ b → (TX6 a).2.1 ≠ (TX6 b).2.1 := by decide +kernel
theorem tyX6_ok : ∀ k, k < 3 → parseFieldDescriptor (TX6 k).2.2.1 = some (tyX6 k) := by decide +kernel
abbrev cX6_init : ByteArray := prog_8_method_1_code
def yX6_init : MethodName := ⟨RX6, "<init>", "()V"⟩
abbrev cX6_find : ByteArray := prog_8_method_2_code
def yX6_find : MethodName := ⟨RX6, "find", "(LRiverChoice$Band;II)Z"⟩
abbrev cX6_testAt : ByteArray := prog_8_method_3_code
def yX6_testAt : MethodName := ⟨RX6, "testAt", "(I)I"⟩
abbrev cX6_decode : ByteArray := prog_8_method_4_code
def yX6_decode : MethodName := ⟨RX6, "decode", "(II)V"⟩
abbrev cX6_fits : ByteArray := prog_8_method_5_code
def yX6_fits : MethodName := ⟨RX6, "fits", "(LRiverChoice$Band;II)Z"⟩
def RX7 : String := "RiverChoice$Text"
def TX7 : u_T := fun k => match k with
  | 0 => ("RiverChoice$Text", "bytes", "[I", true)
  | _ => ("RiverChoice$Text", "size", "I", false)
def tyX7 : Nat → FieldType := fun k => match k with
  | 0 => .array .int
  | _ => .int
abbrev wsX70 : List Cond := u_ws RX7 TX7 2
theorem nmX7 : ∀ a, a < 2 → ∀ b, b < 2 → a ≠ b → (TX7 a).2.1 ≠ (TX7 b).2.1 := by decide +kernel
theorem tyX7_ok : ∀ k, k < 2 → parseFieldDescriptor (TX7 k).2.2.1 = some (tyX7 k) := by decide +kernel
abbrev cX7_init : ByteArray := prog_9_method_1_code
def yX7_init : MethodName := ⟨RX7, "<init>", "()V"⟩
abbrev cX7_append : ByteArray := prog_9_method_2_code
def yX7_append : MethodName := ⟨RX7, "append", "(I)I"⟩
abbrev cX7_empty : ByteArray := prog_9_method_3_code
def yX7_empty : MethodName := ⟨RX7, "empty", "()I"⟩
abbrev cX7_byteAt : ByteArray := prog_9_method_4_code
def yX7_byteAt : MethodName := ⟨RX7, "byteAt", "(I)I"⟩
abbrev cX7_spells : ByteArray := prog_9_method_5_code
def yX7_spells : MethodName := ⟨RX7, "spells", "(Ljava/lang/String;II)Z"⟩
def RX8 : String := "RiverChoice"
def TX8 : u_T := fun k => match k with
  | 0 => ("RiverChoice", "band", "LRiverChoice$Band;", true)
  | 1 => ("RiverChoice", "past", "LRiverChoice$Past;", true)
  | 2 => ("RiverChoice", "firstImage", "LRiverChoice$Image;", true)
  | 3 => ("RiverChoice", "secondImage", "LRiverChoice$Image;", true)
  | 4 => ("RiverChoice", "reader", "LRiverChoice$Reader;", true)
  | 5 => ("RiverChoice", "odds", "LRiverChoice$Odds;", true)
  | 6 => ("RiverChoice", "trial", "LRiverChoice$Row;", true)
  | 7 => ("RiverChoice", "sifted", "LRiverChoice$Sifted;", true)
  | 8 => ("RiverChoice", "told", "[I", true)
  | 9 => ("RiverChoice", "above", "J", false)
  | 10 => ("RiverChoice", "below", "J", false)
  | 11 => ("RiverChoice", "badCalls", "I", false)
  | 12 => ("RiverChoice", "noCalls", "I", false)
  | _ => ("RiverChoice", "fullCalls", "I", false)
def tyX8 : Nat → FieldType := fun k => match k with
  | 0 => .object "RiverChoice$Band"
  | 1 => .object "RiverChoice$Past"
  | 2 => .object "RiverChoice$Image"
  | 3 => .object "RiverChoice$Image"
  | 4 => .object "RiverChoice$Reader"
  | 5 => .object "RiverChoice$Odds"
  | 6 => .object "RiverChoice$Row"
  | 7 => .object "RiverChoice$Sifted"
  | 8 => .array .int
  | 9 => .long
  | 10 => .long
  | 11 => .int
  | 12 => .int
  | _ => .int
abbrev wsX80 : List Cond := u_ws RX8 TX8 14
theorem nmX8 : ∀ a, a < 14 → ∀ b, b < 14 → a ≠ b → (TX8 a).2.1 ≠ (TX8 b).2.1 := by decide +kernel
theorem tyX8_ok : ∀ k, k < 14 → parseFieldDescriptor (TX8 k).2.2.1 = some (tyX8 k) := by decide +kernel
abbrev cX8_init : ByteArray := prog_1_method_1_code
def yX8_init : MethodName := ⟨RX8, "<init>", "()V"⟩
abbrev cX8_muster : ByteArray := prog_1_method_2_code
def yX8_muster : MethodName := ⟨RX8, "muster", "(I)I"⟩
abbrev cX8_man : ByteArray := prog_1_method_3_code
def yX8_man : MethodName := ⟨RX8, "man", "(IIIIII)I"⟩
abbrev cX8_worn : ByteArray := prog_1_method_4_code
def yX8_worn : MethodName := ⟨RX8, "worn", "(II)I"⟩
abbrev cX8_pair : ByteArray := prog_1_method_5_code
def yX8_pair : MethodName := ⟨RX8, "pair", "(II)I"⟩
abbrev cX8_word : ByteArray := prog_1_method_6_code
def yX8_word : MethodName := ⟨RX8, "word", "(I)I"⟩
abbrev cX8_type : ByteArray := prog_1_method_7_code
def yX8_type : MethodName := ⟨RX8, "type", "(I)I"⟩
abbrev cX8_clear : ByteArray := prog_1_method_8_code
def yX8_clear : MethodName := ⟨RX8, "clear", "()I"⟩
abbrev cX8_read : ByteArray := prog_1_method_9_code
def yX8_read : MethodName := ⟨RX8, "read", "()I"⟩
abbrev cX8_test : ByteArray := prog_1_method_10_code
def yX8_test : MethodName := ⟨RX8, "test", "(IIZ)I"⟩
abbrev cX8_undo : ByteArray := prog_1_method_11_code
def yX8_undo : MethodName := ⟨RX8, "undo", "()I"⟩
abbrev cX8_weight : ByteArray := prog_1_method_12_code
def yX8_weight : MethodName := ⟨RX8, "weight", "(II)J"⟩
abbrev cX8_cases : ByteArray := prog_1_method_13_code
def yX8_cases : MethodName := ⟨RX8, "cases", "(IIZ)I"⟩
abbrev cX8_trust : ByteArray := prog_1_method_14_code
def yX8_trust : MethodName := ⟨RX8, "trust", "(I)I"⟩
abbrev cX8_shows : ByteArray := prog_1_method_15_code
def yX8_shows : MethodName := ⟨RX8, "shows", "(II)I"⟩
abbrev cX8_of : ByteArray := prog_1_method_16_code
def yX8_of : MethodName := ⟨RX8, "of", "(II)I"⟩
abbrev cX8_hold : ByteArray := prog_1_method_17_code
def yX8_hold : MethodName := ⟨RX8, "hold", "(II)I"⟩
abbrev cX8_keep : ByteArray := prog_1_method_18_code
def yX8_keep : MethodName := ⟨RX8, "keep", "(II)I"⟩
abbrev cX8_worth : ByteArray := prog_1_method_19_code
def yX8_worth : MethodName := ⟨RX8, "worth", "(IIII)I"⟩
abbrev cX8_best : ByteArray := prog_1_method_20_code
def yX8_best : MethodName := ⟨RX8, "best", "(II)I"⟩
abbrev cX8_sift : ByteArray := prog_1_method_21_code
def yX8_sift : MethodName := ⟨RX8, "sift", "(III)I"⟩
abbrev cX8_runs : ByteArray := prog_1_method_22_code
def yX8_runs : MethodName := ⟨RX8, "runs", "(I)I"⟩
abbrev cX8_home : ByteArray := prog_1_method_23_code
def yX8_home : MethodName := ⟨RX8, "home", "(I)I"⟩
abbrev cX8_spy : ByteArray := prog_1_method_24_code
def yX8_spy : MethodName := ⟨RX8, "spy", "(I)I"⟩
abbrev cX8_looks : ByteArray := prog_1_method_25_code
def yX8_looks : MethodName := ⟨RX8, "looks", "(IZI)I"⟩
abbrev cX8_next : ByteArray := prog_1_method_26_code
def yX8_next : MethodName := ⟨RX8, "next", "(I)I"⟩
abbrev cX8_boast : ByteArray := prog_1_method_27_code
def yX8_boast : MethodName := ⟨RX8, "boast", "(III)I"⟩
abbrev cX8_again : ByteArray := prog_1_method_28_code
def yX8_again : MethodName := ⟨RX8, "again", "(I)I"⟩
abbrev cX8_drawn : ByteArray := prog_1_method_29_code
def yX8_drawn : MethodName := ⟨RX8, "drawn", "(III)I"⟩
abbrev cX8_part : ByteArray := prog_1_method_30_code
def yX8_part : MethodName := ⟨RX8, "part", "(I)J"⟩
abbrev cX8_image : ByteArray := prog_1_method_31_code
def yX8_image : MethodName := ⟨RX8, "image", "(I)I"⟩
abbrev cX8_from : ByteArray := prog_1_method_32_code
def yX8_from : MethodName := ⟨RX8, "from", "(I)I"⟩
abbrev cX8_status : ByteArray := prog_1_method_33_code
def yX8_status : MethodName := ⟨RX8, "status", "(I)I"⟩
abbrev cX8_count : ByteArray := prog_1_method_34_code
def yX8_count : MethodName := ⟨RX8, "count", "(I)I"⟩
abbrev cX8_digest : ByteArray := prog_1_method_35_code
def yX8_digest : MethodName := ⟨RX8, "digest", "()J"⟩
abbrev cX8_accepted : ByteArray := prog_1_method_36_code
def yX8_accepted : MethodName := ⟨RX8, "accepted", "(I)I"⟩
abbrev cX8_refused : ByteArray := prog_1_method_37_code
def yX8_refused : MethodName := ⟨RX8, "refused", "(I)I"⟩
abbrev cX8_refusedAs : ByteArray := prog_1_method_38_code
def yX8_refusedAs : MethodName := ⟨RX8, "refusedAs", "(II)I"⟩
abbrev cX8_howMany : ByteArray := prog_1_method_39_code
def yX8_howMany : MethodName := ⟨RX8, "howMany", "(I)I"⟩
abbrev cX8_imageAt : ByteArray := prog_1_method_40_code
def yX8_imageAt : MethodName := ⟨RX8, "imageAt", "(I)LRiverChoice$Image;"⟩
abbrev cX8_waysNow : ByteArray := prog_1_method_41_code
def yX8_waysNow : MethodName := ⟨RX8, "waysNow", "(II)J"⟩
abbrev cX8_gainOf : ByteArray := prog_1_method_42_code
def yX8_gainOf : MethodName := ⟨RX8, "gainOf", "(IIIIJ)I"⟩
abbrev cX8_mayStay : ByteArray := prog_1_method_43_code
def yX8_mayStay : MethodName := ⟨RX8, "mayStay", "(II)Z"⟩
abbrev cX8_isOpen : ByteArray := prog_1_method_44_code
def yX8_isOpen : MethodName := ⟨RX8, "isOpen", "(II)Z"⟩
abbrev cX8_rests : ByteArray := prog_1_method_45_code
def yX8_rests : MethodName := ⟨RX8, "rests", "(III)Z"⟩
abbrev cX8_gets : ByteArray := prog_1_method_46_code
def yX8_gets : MethodName := ⟨RX8, "gets", "(III)I"⟩
abbrev cX8_isIn : ByteArray := prog_1_method_47_code
def yX8_isIn : MethodName := ⟨RX8, "isIn", "(II)Z"⟩
abbrev cX8_isTest : ByteArray := prog_1_method_48_code
def yX8_isTest : MethodName := ⟨RX8, "isTest", "(I)Z"⟩
abbrev cX8_isNeed : ByteArray := prog_1_method_49_code
def yX8_isNeed : MethodName := ⟨RX8, "isNeed", "(I)Z"⟩
abbrev cX8_isWeighed : ByteArray := prog_1_method_50_code
def yX8_isWeighed : MethodName := ⟨RX8, "isWeighed", "(I)Z"⟩
abbrev cX8_costOf : ByteArray := prog_1_method_51_code
def yX8_costOf : MethodName := ⟨RX8, "costOf", "(I)I"⟩
abbrev cX8_casesOf : ByteArray := prog_1_method_52_code
def yX8_casesOf : MethodName := ⟨RX8, "casesOf", "(IIZ)I"⟩
abbrev cX8_greatestCommon : ByteArray := prog_1_method_53_code
def yX8_greatestCommon : MethodName := ⟨RX8, "greatestCommon", "(JJ)J"⟩
def RX9 : String := "RiverChoiceModel"
def TX9 : u_T := fun k => match k with
  | 0 => ("RiverChoiceModel", "now", "[I", true)
  | 1 => ("RiverChoiceModel", "images", "[I", true)
  | 2 => ("RiverChoiceModel", "kept", "[Z", true)
  | 3 => ("RiverChoiceModel", "text", "[I", true)
  | 4 => ("RiverChoiceModel", "size", "I", false)
  | 5 => ("RiverChoiceModel", "above", "J", false)
  | 6 => ("RiverChoiceModel", "below", "J", false)
  | 7 => ("RiverChoiceModel", "refusals", "[I", true)
  | 8 => ("RiverChoiceModel", "told", "[I", true)
  | 9 => ("RiverChoiceModel", "at", "I", false)
  | 10 => ("RiverChoiceModel", "begin", "I", false)
  | 11 => ("RiverChoiceModel", "token", "I", false)
  | 12 => ("RiverChoiceModel", "value", "I", false)
  | 13 => ("RiverChoiceModel", "letters", "J", false)
  | 14 => ("RiverChoiceModel", "items", "[I", true)
  | 15 => ("RiverChoiceModel", "itemMany", "I", false)
  | 16 => ("RiverChoiceModel", "saved", "[I", true)
  | 17 => ("RiverChoiceModel", "ways", "[J", true)
  | 18 => ("RiverChoiceModel", "day", "[I", true)
  | _ => ("RiverChoiceModel", "row", "[I", true)
def tyX9 : Nat → FieldType := fun k => match k with
  | 0 => .array .int
  | 1 => .array .int
  | 2 => .array .boolean
  | 3 => .array .int
  | 4 => .int
  | 5 => .long
  | 6 => .long
  | 7 => .array .int
  | 8 => .array .int
  | 9 => .int
  | 10 => .int
  | 11 => .int
  | 12 => .int
  | 13 => .long
  | 14 => .array .int
  | 15 => .int
  | 16 => .array .int
  | 17 => .array .long
  | 18 => .array .int
  | _ => .array .int
abbrev wsX90 : List Cond := u_ws RX9 TX9 20
theorem nmX9 : ∀ a, a < 20 → ∀ b, b < 20 → a ≠ b → (TX9 a).2.1 ≠ (TX9 b).2.1 := by decide +kernel
theorem tyX9_ok : ∀ k, k < 20 → parseFieldDescriptor (TX9 k).2.2.1 = some (tyX9 k) := by decide +kernel
abbrev cX9_init : ByteArray := prog_11_method_1_code
def yX9_init : MethodName := ⟨RX9, "<init>", "()V"⟩
abbrev cX9_in : ByteArray := prog_11_method_3_code
def yX9_in : MethodName := ⟨RX9, "in", "(JJJ)Z"⟩
abbrev cX9_isTwo : ByteArray := prog_11_method_4_code
def yX9_isTwo : MethodName := ⟨RX9, "isTwo", "(I)Z"⟩
abbrev cX9_tell : ByteArray := prog_11_method_5_code
def yX9_tell : MethodName := ⟨RX9, "tell", "(I)I"⟩
abbrev cX9_bad : ByteArray := prog_11_method_6_code
def yX9_bad : MethodName := ⟨RX9, "bad", "(I)I"⟩
abbrev cX9_no : ByteArray := prog_11_method_7_code
def yX9_no : MethodName := ⟨RX9, "no", "(I)I"⟩
abbrev cX9_has : ByteArray := prog_11_method_8_code
def yX9_has : MethodName := ⟨RX9, "has", "(II)Z"⟩
abbrev cX9_bits : ByteArray := prog_11_method_9_code
def yX9_bits : MethodName := ⟨RX9, "bits", "(I)I"⟩
abbrev cX9_copies : ByteArray := prog_11_method_10_code
def yX9_copies : MethodName := ⟨RX9, "copies", "([II[III)V"⟩
abbrev cX9_clean : ByteArray := prog_11_method_11_code
def yX9_clean : MethodName := ⟨RX9, "clean", "(I)V"⟩
abbrev cX9_isMan : ByteArray := prog_11_method_12_code
def yX9_isMan : MethodName := ⟨RX9, "isMan", "(I)Z"⟩
abbrev cX9_areMen : ByteArray := prog_11_method_13_code
def yX9_areMen : MethodName := ⟨RX9, "areMen", "(I)Z"⟩
abbrev cX9_doMan : ByteArray := prog_11_method_14_code
def yX9_doMan : MethodName := ⟨RX9, "doMan", "()I"⟩
abbrev cX9_doWorn : ByteArray := prog_11_method_15_code
def yX9_doWorn : MethodName := ⟨RX9, "doWorn", "(II)I"⟩
abbrev cX9_doPair : ByteArray := prog_11_method_16_code
def yX9_doPair : MethodName := ⟨RX9, "doPair", "(II)I"⟩
abbrev cX9_doWord : ByteArray := prog_11_method_17_code
def yX9_doWord : MethodName := ⟨RX9, "doWord", "(I)I"⟩
abbrev cX9_muster : ByteArray := prog_11_method_18_code
def yX9_muster : MethodName := ⟨RX9, "muster", "(I)I"⟩
abbrev cX9_man : ByteArray := prog_11_method_19_code
def yX9_man : MethodName := ⟨RX9, "man", "(IIIIII)I"⟩
abbrev cX9_worn : ByteArray := prog_11_method_20_code
def yX9_worn : MethodName := ⟨RX9, "worn", "(II)I"⟩
abbrev cX9_pair : ByteArray := prog_11_method_21_code
def yX9_pair : MethodName := ⟨RX9, "pair", "(II)I"⟩
abbrev cX9_word : ByteArray := prog_11_method_22_code
def yX9_word : MethodName := ⟨RX9, "word", "(I)I"⟩
abbrev cX9_type : ByteArray := prog_11_method_23_code
def yX9_type : MethodName := ⟨RX9, "type", "(I)I"⟩
abbrev cX9_clear : ByteArray := prog_11_method_24_code
def yX9_clear : MethodName := ⟨RX9, "clear", "()I"⟩
abbrev cX9_takes : ByteArray := prog_11_method_25_code
def yX9_takes : MethodName := ⟨RX9, "takes", "()V"⟩
abbrev cX9_itemOf : ByteArray := prog_11_method_26_code
def yX9_itemOf : MethodName := ⟨RX9, "itemOf", "(J)I"⟩
abbrev cX9_reads : ByteArray := prog_11_method_27_code
def yX9_reads : MethodName := ⟨RX9, "reads", "()I"⟩
abbrev cX9_doItem : ByteArray := prog_11_method_28_code
def yX9_doItem : MethodName := ⟨RX9, "doItem", "(I)I"⟩
abbrev cX9_read : ByteArray := prog_11_method_29_code
def yX9_read : MethodName := ⟨RX9, "read", "()I"⟩
abbrev cX9_costOf : ByteArray := prog_11_method_30_code
def yX9_costOf : MethodName := ⟨RX9, "costOf", "(I)I"⟩
abbrev cX9_isTest : ByteArray := prog_11_method_31_code
def yX9_isTest : MethodName := ⟨RX9, "isTest", "(I)Z"⟩
abbrev cX9_casesOf : ByteArray := prog_11_method_32_code
def yX9_casesOf : MethodName := ⟨RX9, "casesOf", "(IIZ)I"⟩
abbrev cX9_sumOf : ByteArray := prog_11_method_33_code
def yX9_sumOf : MethodName := ⟨RX9, "sumOf", "([IIIZ)J"⟩
abbrev cX9_allOf : ByteArray := prog_11_method_34_code
def yX9_allOf : MethodName := ⟨RX9, "allOf", "([II)J"⟩
abbrev cX9_shareOf : ByteArray := prog_11_method_35_code
def yX9_shareOf : MethodName := ⟨RX9, "shareOf", "([IIIZ)I"⟩
abbrev cX9_trustOn : ByteArray := prog_11_method_36_code
def yX9_trustOn : MethodName := ⟨RX9, "trustOn", "([II)I"⟩
abbrev cX9_common : ByteArray := prog_11_method_37_code
def yX9_common : MethodName := ⟨RX9, "common", "(II)I"⟩
abbrev cX9_weighs : ByteArray := prog_11_method_38_code
def yX9_weighs : MethodName := ⟨RX9, "weighs", "([IIIZ)V"⟩
abbrev cX9_tests : ByteArray := prog_11_method_39_code
def yX9_tests : MethodName := ⟨RX9, "tests", "([IIIZ)V"⟩
abbrev cX9_remember : ByteArray := prog_11_method_40_code
def yX9_remember : MethodName := ⟨RX9, "remember", "()V"⟩
abbrev cX9_test : ByteArray := prog_11_method_41_code
def yX9_test : MethodName := ⟨RX9, "test", "(IIZ)I"⟩
abbrev cX9_undo : ByteArray := prog_11_method_42_code
def yX9_undo : MethodName := ⟨RX9, "undo", "()I"⟩
abbrev cX9_weight : ByteArray := prog_11_method_43_code
def yX9_weight : MethodName := ⟨RX9, "weight", "(II)J"⟩
abbrev cX9_cases : ByteArray := prog_11_method_44_code
def yX9_cases : MethodName := ⟨RX9, "cases", "(IIZ)I"⟩
abbrev cX9_trust : ByteArray := prog_11_method_45_code
def yX9_trust : MethodName := ⟨RX9, "trust", "(I)I"⟩
abbrev cX9_showsOn : ByteArray := prog_11_method_46_code
def yX9_showsOn : MethodName := ⟨RX9, "showsOn", "(II)I"⟩
abbrev cX9_shows : ByteArray := prog_11_method_47_code
def yX9_shows : MethodName := ⟨RX9, "shows", "(II)I"⟩
abbrev cX9_of : ByteArray := prog_11_method_48_code
def yX9_of : MethodName := ⟨RX9, "of", "(II)I"⟩
abbrev cX9_holdOn : ByteArray := prog_11_method_49_code
def yX9_holdOn : MethodName := ⟨RX9, "holdOn", "([III)J"⟩
abbrev cX9_fraction : ByteArray := prog_11_method_50_code
def yX9_fraction : MethodName := ⟨RX9, "fraction", "(JJ)V"⟩
abbrev cX9_hold : ByteArray := prog_11_method_51_code
def yX9_hold : MethodName := ⟨RX9, "hold", "(II)I"⟩
abbrev cX9_keepOn : ByteArray := prog_11_method_52_code
def yX9_keepOn : MethodName := ⟨RX9, "keepOn", "([III)I"⟩
abbrev cX9_keep : ByteArray := prog_11_method_53_code
def yX9_keep : MethodName := ⟨RX9, "keep", "(II)I"⟩
abbrev cX9_layDay : ByteArray := prog_11_method_54_code
def yX9_layDay : MethodName := ⟨RX9, "layDay", "()V"⟩
abbrev cX9_behind : ByteArray := prog_11_method_55_code
def yX9_behind : MethodName := ⟨RX9, "behind", "(IIZII)J"⟩
abbrev cX9_worthOf : ByteArray := prog_11_method_56_code
def yX9_worthOf : MethodName := ⟨RX9, "worthOf", "(IIII)I"⟩
abbrev cX9_worth : ByteArray := prog_11_method_57_code
def yX9_worth : MethodName := ⟨RX9, "worth", "(IIII)I"⟩
abbrev cX9_best : ByteArray := prog_11_method_58_code
def yX9_best : MethodName := ⟨RX9, "best", "(II)I"⟩
abbrev cX9_sifts : ByteArray := prog_11_method_59_code
def yX9_sifts : MethodName := ⟨RX9, "sifts", "(IIII)Z"⟩
abbrev cX9_sift : ByteArray := prog_11_method_60_code
def yX9_sift : MethodName := ⟨RX9, "sift", "(III)I"⟩
abbrev cX9_runs : ByteArray := prog_11_method_61_code
def yX9_runs : MethodName := ⟨RX9, "runs", "(I)I"⟩
abbrev cX9_areWell : ByteArray := prog_11_method_62_code
def yX9_areWell : MethodName := ⟨RX9, "areWell", "(II)Z"⟩
abbrev cX9_home : ByteArray := prog_11_method_63_code
def yX9_home : MethodName := ⟨RX9, "home", "(I)I"⟩
abbrev cX9_spy : ByteArray := prog_11_method_64_code
def yX9_spy : MethodName := ⟨RX9, "spy", "(I)I"⟩
abbrev cX9_wearing : ByteArray := prog_11_method_65_code
def yX9_wearing : MethodName := ⟨RX9, "wearing", "(IZ)I"⟩
abbrev cX9_looks : ByteArray := prog_11_method_66_code
def yX9_looks : MethodName := ⟨RX9, "looks", "(IZI)I"⟩
abbrev cX9_next : ByteArray := prog_11_method_67_code
def yX9_next : MethodName := ⟨RX9, "next", "(I)I"⟩
abbrev cX9_gets : ByteArray := prog_11_method_68_code
def yX9_gets : MethodName := ⟨RX9, "gets", "(III)I"⟩
abbrev cX9_boast : ByteArray := prog_11_method_69_code
def yX9_boast : MethodName := ⟨RX9, "boast", "(III)I"⟩
abbrev cX9_again : ByteArray := prog_11_method_70_code
def yX9_again : MethodName := ⟨RX9, "again", "(I)I"⟩
abbrev cX9_drawn : ByteArray := prog_11_method_71_code
def yX9_drawn : MethodName := ⟨RX9, "drawn", "(III)I"⟩
abbrev cX9_part : ByteArray := prog_11_method_72_code
def yX9_part : MethodName := ⟨RX9, "part", "(I)J"⟩
abbrev cX9_image : ByteArray := prog_11_method_73_code
def yX9_image : MethodName := ⟨RX9, "image", "(I)I"⟩
abbrev cX9_from : ByteArray := prog_11_method_74_code
def yX9_from : MethodName := ⟨RX9, "from", "(I)I"⟩
abbrev cX9_status : ByteArray := prog_11_method_75_code
def yX9_status : MethodName := ⟨RX9, "status", "(I)I"⟩
abbrev cX9_counted : ByteArray := prog_11_method_76_code
def yX9_counted : MethodName := ⟨RX9, "counted", "(I)I"⟩
abbrev cX9_count : ByteArray := prog_11_method_77_code
def yX9_count : MethodName := ⟨RX9, "count", "(I)I"⟩
abbrev cX9_digest : ByteArray := prog_11_method_78_code
def yX9_digest : MethodName := ⟨RX9, "digest", "()J"⟩
def RJ6 : String := "java/lang/Integer"
def TJ6 : u_T := fun k => match k with
  | _ => ("", "", "", false)
def tyJ6 : Nat → FieldType := fun k => match k with
  | _ => .int
abbrev wsJ60 : List Cond := u_ws RJ6 TJ6 0
theorem nmJ6 : ∀ a, a < 0 → ∀ b, b < 0 → a ≠ b → (TJ6 a).2.1 ≠ (TJ6 b).2.1 := by decide +kernel
theorem tyJ6_ok : ∀ k, k < 0 → parseFieldDescriptor (TJ6 k).2.2.1 = some (tyJ6 k) := by decide +kernel
abbrev cJ6_bitCount_0f7a4 : ByteArray := prog_12_method_49_code
def yJ6_bitCount_0f7a4 : MethodName := ⟨RJ6, "bitCount", "(I)I"⟩
def RJ9 : String := "java/lang/Math"
def TJ9 : u_T := fun k => match k with
  | _ => ("", "", "", false)
def tyJ9 : Nat → FieldType := fun k => match k with
  | _ => .int
abbrev wsJ90 : List Cond := u_ws RJ9 TJ9 0
theorem nmJ9 : ∀ a, a < 0 → ∀ b, b < 0 → a ≠ b → (TJ9 a).2.1 ≠ (TJ9 b).2.1 := by decide +kernel
theorem tyJ9_ok : ∀ k, k < 0 → parseFieldDescriptor (TJ9 k).2.2.1 = some (tyJ9 k) := by decide +kernel
abbrev cJ9_max_f86c9 : ByteArray := prog_13_method_66_code
def yJ9_max_f86c9 : MethodName := ⟨RJ9, "max", "(JJ)J"⟩
def RJ0 : String := "java/lang/String"
def TJ0 : u_T := fun k => match k with
  | _ => ("", "", "", false)
def tyJ0 : Nat → FieldType := fun k => match k with
  | _ => .int
abbrev wsJ00 : List Cond := u_ws RJ0 TJ0 0
theorem nmJ0 : ∀ a, a < 0 → ∀ b, b < 0 → a ≠ b → (TJ0 a).2.1 ≠ (TJ0 b).2.1 := by decide +kernel
theorem tyJ0_ok : ∀ k, k < 0 → parseFieldDescriptor (TJ0 k).2.2.1 = some (tyJ0 k) := by decide +kernel
abbrev cJ0_length_8abf5 : ByteArray := prog_14_method_54_code
def yJ0_length_8abf5 : MethodName := ⟨RJ0, "length", "()I"⟩
abbrev cJ0_charAt_5068e : ByteArray := prog_14_method_56_code
def yJ0_charAt_5068e : MethodName := ⟨RJ0, "charAt", "(I)C"⟩
abbrev cJ0_coder_7d493 : ByteArray := prog_14_method_152_code
def yJ0_coder_7d493 : MethodName := ⟨RJ0, "coder", "()B"⟩
abbrev cJ0_isLatin1_aae02 : ByteArray := prog_14_method_154_code
def yJ0_isLatin1_aae02 : MethodName := ⟨RJ0, "isLatin1", "()Z"⟩
abbrev cJ0_checkIndex_df160 : ByteArray := prog_14_method_155_code
def yJ0_checkIndex_df160 : MethodName := ⟨RJ0, "checkIndex", "(II)V"⟩
def RJ1 : String := "java/lang/StringLatin1"
def TJ1 : u_T := fun k => match k with
  | _ => ("", "", "", false)
def tyJ1 : Nat → FieldType := fun k => match k with
  | _ => .int
abbrev wsJ10 : List Cond := u_ws RJ1 TJ1 0
theorem nmJ1 : ∀ a, a < 0 → ∀ b, b < 0 → a ≠ b → (TJ1 a).2.1 ≠ (TJ1 b).2.1 := by decide +kernel
theorem tyJ1_ok : ∀ k, k < 0 → parseFieldDescriptor (TJ1 k).2.2.1 = some (tyJ1 k) := by decide +kernel
abbrev cJ1_charAt_3b067 : ByteArray := prog_15_method_2_code
def yJ1_charAt_3b067 : MethodName := ⟨RJ1, "charAt", "([BI)C"⟩
def RJ2 : String := "java/lang/StringUTF16"
def TJ2 : u_T := fun k => match k with
  | _ => ("", "", "", false)
def tyJ2 : Nat → FieldType := fun k => match k with
  | _ => .int
abbrev wsJ20 : List Cond := u_ws RJ2 TJ2 0
theorem nmJ2 : ∀ a, a < 0 → ∀ b, b < 0 → a ≠ b → (TJ2 a).2.1 ≠ (TJ2 b).2.1 := by decide +kernel
theorem tyJ2_ok : ∀ k, k < 0 → parseFieldDescriptor (TJ2 k).2.2.1 = some (tyJ2 k) := by decide +kernel
abbrev cJ2_getChar_3b067 : ByteArray := prog_16_method_5_code
def yJ2_getChar_3b067 : MethodName := ⟨RJ2, "getChar", "([BI)C"⟩
abbrev cJ2_length_9d52b : ByteArray := prog_16_method_6_code
def yJ2_length_9d52b : MethodName := ⟨RJ2, "length", "([B)I"⟩
abbrev cJ2_charAt_3b067 : ByteArray := prog_16_method_83_code
def yJ2_charAt_3b067 : MethodName := ⟨RJ2, "charAt", "([BI)C"⟩
abbrev cJ2_checkIndex_2214a : ByteArray := prog_16_method_91_code
def yJ2_checkIndex_2214a : MethodName := ⟨RJ2, "checkIndex", "(I[B)V"⟩
def RJ10 : String := "java/lang/System"
def TJ10 : u_T := fun k => match k with
  | _ => ("", "", "", false)
def tyJ10 : Nat → FieldType := fun k => match k with
  | _ => .int
abbrev wsJ100 : List Cond := u_ws RJ10 TJ10 0
theorem nmJ10 : ∀ a, a < 0 → ∀ b, b < 0 → a ≠ b → (TJ10 a).2.1 ≠ (TJ10 b).2.1 := by decide +kernel
theorem tyJ10_ok : ∀ k, k < 0 → parseFieldDescriptor (TJ10 k).2.2.1 = some (tyJ10 k) := by decide +kernel
def RJ3 : String := "jdk/internal/util/Preconditions"
def TJ3 : u_T := fun k => match k with
  | _ => ("", "", "", false)
def tyJ3 : Nat → FieldType := fun k => match k with
  | _ => .int
abbrev wsJ30 : List Cond := u_ws RJ3 TJ3 0
theorem nmJ3 : ∀ a, a < 0 → ∀ b, b < 0 → a ≠ b → (TJ3 a).2.1 ≠ (TJ3 b).2.1 := by decide +kernel
theorem tyJ3_ok : ∀ k, k < 0 → parseFieldDescriptor (TJ3 k).2.2.1 = some (tyJ3 k) := by decide +kernel
abbrev cJ3_checkIndex_8e157 : ByteArray := prog_18_method_11_code
def yJ3_checkIndex_8e157 : MethodName := ⟨RJ3, "checkIndex", "(IILjava/util/function/BiFunction;)I"⟩
def RL : String := "RiverChoiceLaw"
abbrev cL_law : ByteArray := code
def yL_law : MethodName := ⟨RL, "law", "([I)Z"⟩
abbrev vwCl : List vw_C := [(RX0, TX0, 7), (RX1, TX1, 3), (RX2, TX2, 3), (RX3, TX3, 5), (RX4, TX4, 9), (RX5, TX5, 1), (RX6, TX6, 3), (RX7, TX7, 2), (RX8, TX8, 14), (RX9, TX9, 20)]
end
section
/-! THE MINI LAYER: the heap as a list of cells by place; places from 1000 on are cells that nobody writes (static arrays, String constants). -/
abbrev mj_C : Type := (Nat × vp_A) ⊕ (Nat × List Value)
abbrev mj_H : Type := List mj_C
/-- a method: its name, code, how many locals, what it returns, its room, its instructions by place -/
abbrev mj_M : Type := MethodName × ByteArray × Nat × Option FieldType × Room × List (Nat × Instr × Nat)
def mj_G : List Cond := lw_tbl.filter goodWord
def mj_isN : Cond → Bool
  | .fieldLinkNest .. => true
  | .methodLinkNest .. => true
  | _ => false
def mj_N : List Cond := lw_tbl.filter mj_isN
theorem mj_inG {w : Cond} (i : Nat) (h : lw_tbl[i]? = some w) (hg : goodWord w = true) : w ∈ mj_G := List.mem_filter.mpr ⟨List.mem_of_getElem? h, hg⟩
theorem mj_inN {w : Cond} (i : Nat) (h : lw_tbl[i]? = some w) (hg : mj_isN w = true) : w ∈ mj_N := List.mem_filter.mpr ⟨List.mem_of_getElem? h, hg⟩
def mj_v (ad : Nat → Nat) (v : Value) : Value := match v with
  | .ref k => .ref (ad k)
  | w => w
theorem mj_v_cat (ad : Nat → Nat) (v : Value) : (mj_v ad v).category = v.category := by cases v <;> rfl
def mj_c (cy : Nat → ClassId) (ad : Nat → Nat) (c : mj_C) : va_E := match c with
  | .inl a => .inl (cy a.1, a.2)
  | .inr o => .inr (o.1, o.2.map (mj_v ad))
def mj_w (cy : Nat → ClassId) (ad : Nat → Nat) (h : mj_H) : va_W := h.mapIdx (fun k c => (ad k, mj_c cy ad c))
def mj_l (ad : Nat → Nat) (l : List (Nat × Value)) : List (Nat × Value) := l.map (fun q => (q.1, mj_v ad q.2))
def mj_cv (n : Nat) (v : Value) : Prop := match v with
  | .ref k => k < n ∨ 1000 ≤ k
  | _ => True
def mj_cc (n : Nat) (c : mj_C) : Prop := match c with
  | .inl _ => True
  | .inr o => ∀ v ∈ o.2, mj_cv n v
def mj_ch (h : mj_H) : Prop := h.length ≤ 1000 ∧ ∀ c ∈ h, mj_cc h.length c
def mj_ty (cy : Nat → ClassId) : List (ClassId × FieldType) := [(cy 0, .int), (cy 1, .long), (cy 2, .boolean)]
theorem mj_cv_mono {n k : Nat} (h : n ≤ k) {v : Value} (hv : mj_cv n v) : mj_cv k v := by
  cases v <;> simp only [mj_cv] at hv ⊢
  exact hv.elim (fun q => Or.inl (Nat.lt_of_lt_of_le q h)) Or.inr
theorem mj_cc_mono {n k : Nat} (h : n ≤ k) {c : mj_C} (hc : mj_cc n c) : mj_cc k c := by
  cases c with
  | inl a => trivial
  | inr o => exact fun v hv => mj_cv_mono h (hc v hv)
theorem mj_w_get (cy : Nat → ClassId) (ad : Nat → Nat) {h : mj_H} {k : Nat} {c : mj_C} (hc : h[k]? = some c) : (mj_w cy ad h)[k]? = some (ad k, mj_c cy ad c) := by
  simp [mj_w, List.getElem?_mapIdx, hc]
theorem mj_w_len (cy : Nat → ClassId) (ad : Nat → Nat) (h : mj_H) : (mj_w cy ad h).length = h.length := by simp [mj_w]
theorem mj_w_set (cy : Nat → ClassId) (ad : Nat → Nat) (h : mj_H) (k : Nat) (c : mj_C) : (mj_w cy ad h).set k (ad k, mj_c cy ad c) = mj_w cy ad (h.set k c) := by
  apply List.ext_getElem?
  intro i
  simp only [mj_w, List.getElem?_set, List.getElem?_mapIdx, List.length_mapIdx]
  by_cases hi : k = i
  · subst hi
    by_cases hl : k < h.length <;> simp [hl]
  · simp [hi]
/-- two valuations agree where a world of n cells reaches -/
def mj_ag (n : Nat) (a b : Nat → Nat) : Prop := ∀ k : Nat, k < n ∨ 1000 ≤ k → b k = a k
theorem mj_ag.rf (n : Nat) (a : Nat → Nat) : mj_ag n a a := fun _ _ => rfl
theorem mj_ag.tr {n m : Nat} {a b c : Nat → Nat} (h : mj_ag n a b) (h2 : mj_ag m b c) (hm : n ≤ m) : mj_ag n a c := fun k hk => (h2 k (by omega)).trans (h k hk)
theorem mj_v_ag {n : Nat} {a b : Nat → Nat} (h : mj_ag n a b) {v : Value} (hv : mj_cv n v) : mj_v b v = mj_v a v := by
  cases v <;> simp only [mj_v, mj_cv] at hv ⊢
  rw [h _ hv]
theorem mj_c_ag {cy : Nat → ClassId} {n : Nat} {a b : Nat → Nat} (h : mj_ag n a b) {c : mj_C} (hc : mj_cc n c) : mj_c cy b c = mj_c cy a c := by
  cases c with
  | inl x => rfl
  | inr o =>
    simp only [mj_c]
    congr 2
    exact List.map_congr_left fun v hv => mj_v_ag h (hc v hv)
theorem mj_l_ag {n : Nat} {a b : Nat → Nat} (h : mj_ag n a b) {l : List (Nat × Value)} (hl : ∀ q ∈ l, mj_cv n q.2) : mj_l b l = mj_l a l := by
  simp only [mj_l]
  exact List.map_congr_left fun q hq => by rw [mj_v_ag h (hl q hq)]
theorem mj_s_ag {n : Nat} {a b : Nat → Nat} (h : mj_ag n a b) {l : List Value} (hl : ∀ q ∈ l, mj_cv n q) : l.map (mj_v b) = l.map (mj_v a) :=
  List.map_congr_left fun q hq => mj_v_ag h (hl q hq)
theorem mj_w_ag {cy : Nat → ClassId} {a b : Nat → Nat} {h : mj_H} (hab : mj_ag h.length a b) (hc : ∀ c ∈ h, mj_cc h.length c) : mj_w cy b h = mj_w cy a h := by
  apply List.ext_getElem?
  intro i
  simp only [mj_w, List.getElem?_mapIdx]
  cases hi : h[i]? with
  | none => rfl
  | some c =>
    have hl : i < h.length := (List.getElem?_eq_some_iff.mp hi).1
    simp only [Option.map_some]
    rw [hab i (Or.inl hl), mj_c_ag hab (hc c (List.mem_of_getElem? hi))]
theorem mj_w_push (cy : Nat → ClassId) {ad : Nat → Nat} {h : mj_H} (q : Nat) {c : mj_C} (hh : mj_ch h) (hl : h.length < 1000) (hc : mj_cc h.length c) :
    mj_w cy ad h ++ [(q, mj_c cy ad c)] = mj_w cy (va_up ad h.length q) (h ++ [c]) ∧ mj_ag h.length ad (va_up ad h.length q) := by
  have hag : mj_ag h.length ad (va_up ad h.length q) := fun k hk => va_up_ne _ _ (by omega)
  refine ⟨?_, hag⟩
  have h1 : mj_w cy (va_up ad h.length q) (h ++ [c]) = mj_w cy (va_up ad h.length q) h ++ [(q, mj_c cy (va_up ad h.length q) c)] := by
    simp only [mj_w, List.mapIdx_append, List.mapIdx_cons, List.mapIdx_nil, Nat.zero_add]
    rw [va_up_self]
  rw [h1, mj_w_ag hag hh.2, mj_c_ag hag hc]
theorem mj_ch_set {h : mj_H} (hh : mj_ch h) (k : Nat) {c : mj_C} (hc : mj_cc h.length c) : mj_ch (h.set k c) := by
  refine ⟨by simpa using hh.1, fun x hx => ?_⟩
  rw [List.length_set]
  rcases List.mem_or_eq_of_mem_set hx with h1 | h1
  · exact hh.2 x h1
  · rw [h1]; exact hc
theorem mj_ch_push {h : mj_H} (hh : mj_ch h) (hl : h.length < 1000) {c : mj_C} (hc : mj_cc h.length c) : mj_ch (h ++ [c]) := by
  refine ⟨by simp; omega, fun x hx => ?_⟩
  have : h.length ≤ (h ++ [c]).length := by simp
  rcases List.mem_append.mp hx with h1 | h1
  · exact mj_cc_mono this (hh.2 x h1)
  · rw [List.mem_singleton.mp h1]; exact mj_cc_mono this hc
/-! what nobody writes -/
def mj_roI (k j : Nat) : Int32 := (([[6, 5, 4, 6, 9, 8, 7, 10, 3, 2, 1, 2, 3, 2, 1, 1, 4, 10, 9, 11, 3, 2, 1, 0], [2, 5, 3], [1, 6, 2, 2, 1]] : List (List Int32)).getD k []).getD j 0
def mj_roN (k : Nat) : Nat := ([24, 3, 5] : List Nat).getD k 0
def mj_strs : List (List Int32) := [[109, 117, 115, 116, 101, 114], [109, 97, 110], [119, 111, 114, 110], [112, 97, 105, 114], [119, 111, 114, 100]]
def mj_lens : List Nat := [6, 3, 4, 4, 4]
def mj_keys : List (Nat × String) := [(99, "muster"), (105, "man"), (107, "worn"), (109, "pair"), (111, "word")]
def mj_stat : List (String × String × Nat) := [("RiverChoice", "CASES", 0), ("RiverChoice", "COSTS", 1), ("RiverChoice$Reader", "NEEDS", 2)]
def mj_R (ad : Nat → Nat) (A : Nat → Prop) (U : State) (H : Heap) : Prop :=
  (∀ q ∈ mj_stat, va_Z q.1 q.2.1 "[I" (.ref (ad (1000 + q.2.2))) A U H ∧ va_T .int (ad (1000 + q.2.2)) (mj_roN q.2.2) (fun j => .int (mj_roI q.2.2 j)) A U H) ∧
  va_Z "java/lang/String" "COMPACT_STRINGS" "Z" (.int 1) A U H ∧ va_Zq "jdk/internal/util/Preconditions" "SIOOBE_FORMATTER" "Ljava/util/function/BiFunction;" A U H ∧
  vk_S 5 mj_lens mj_strs (fun i => ad (1010 + i)) (fun i => ad (1020 + i)) A U H ∧ ∀ (i : Nat) (q : Nat × String), mj_keys[i]? = some q → vk_R "RiverChoice$Reader" q.1 q.2 (ad (1010 + i)) U
theorem mj_R.warm {ad : Nat → Nat} {A B : Nat → Prop} {s U : State} {H H1 : Heap} (h : mj_R ad A s H) (hW : s.WarmedH U.vm) (hq : ∀ a : Nat, a < H.size → ¬ A a → H1[a]? = H[a]?) (hAB : ∀ q, B q → A q) : mj_R ad B U H1 := by
  obtain ⟨h1, h2, h3, h4, h5⟩ := h
  have ha := hW.alike
  exact ⟨fun q hm => ⟨(((h1 q hm).1.moved ha).kept hq).narrow hAB, (((h1 q hm).2.moved ha).kept hq).narrow hAB⟩, ((h2.moved ha).kept hq).narrow hAB, ((h3.moved ha).kept hq).narrow hAB, ((h4.moved ha).kept hq).narrow hAB, fun i q hi => (h5 i q hi).warm hW⟩
theorem mj_R.same {ad : Nat → Nat} {A : Nat → Prop} {s U : State} {H : Heap} (h : mj_R ad A s H) (hv : U.vm = s.vm) : mj_R ad A U H := by
  obtain ⟨h1, h2, h3, h4, h5⟩ := h
  have ha : s.vm.Alike U.vm := by rw [hv]; exact Vm.Alike.refl _
  exact ⟨fun q hm => ⟨(h1 q hm).1.moved ha, (h1 q hm).2.moved ha⟩, h2.moved ha, h3.moved ha, h4.moved ha, fun i q hi => (h5 i q hi).same hv⟩
theorem mj_R.ag {ad ad' : Nat → Nat} {n : Nat} {A : Nat → Prop} {s : State} {H : Heap} (h : mj_R ad A s H) (hg : mj_ag n ad ad') : mj_R ad' A s H := by
  have e : ∀ k, 1000 ≤ k → ad' k = ad k := fun k hk => hg k (Or.inr hk)
  obtain ⟨h1, h2, h3, h4, h5⟩ := h
  refine ⟨fun q hm => by rw [e _ (by omega)]; exact h1 q hm, h2, h3, ?_, fun i q hi => by rw [e _ (by omega)]; exact h5 i q hi⟩
  have e1 : (fun i => ad' (1010 + i)) = fun i => ad (1010 + i) := funext fun i => e _ (by omega)
  have e2 : (fun i => ad' (1020 + i)) = fun i => ad (1020 + i) := funext fun i => e _ (by omega)
  rw [e1, e2]; exact h4
theorem mj_N.warm {s U : State} (hW : s.WarmedH U.vm) (h : ∀ w ∈ mj_N, va_Nw w s) : ∀ w ∈ mj_N, va_Nw w U := by
  intro w hw
  have h1 := h w hw
  have h2 := (List.mem_filter.mp hw).2
  cases w <;> first | (simp [mj_isN] at h2; done) | exact va_Nw.warmF hW h1 | exact va_Nw.warmM hW h1
theorem mj_N.same {s U : State} (hv : U.vm = s.vm) (h : ∀ w ∈ mj_N, va_Nw w s) : ∀ w ∈ mj_N, va_Nw w U := by
  intro w hw
  have h1 := h w hw
  have h2 := (List.mem_filter.mp hw).2
  cases w <;> first | (simp [mj_isN] at h2; done) | exact va_Nw.same rfl hv.symm h1
/-! the judgement -/
def mj_CX (M : mj_M) (p : Program) (s : State) (m : MethodId) (args : Array Value) (meth : Method) (c : Code) : Prop :=
  p.tables.exec = Jvm.exec ∧ c.code = M.2.1 ∧ c.maxLocals = M.2.2.1 ∧ meth.sig.returnType = M.2.2.2.1 ∧ s.vm.findClass M.1.cls = some m.cls ∧ (∀ w ∈ mj_G, w.before args s = true) ∧ meth.locks = false ∧ meth.name = M.1.name ∧ (∀ w ∈ mj_N, va_Nw w s) ∧ ∀ q ∈ M.2.2.2.2.2, decode M.2.1 q.1 = .ok q.2
def mj_I (dC : Nat → ClassId) (dI : Nat → Nat → Nat) (cy : Nat → ClassId) (A : Nat → Prop) (s : State) (ad : Nat → Nat) (h : mj_H) (H : Heap) (locs : List Loc) : Prop :=
  va_K (dC, dI) vwCl (mj_ty cy) s ∧ (∀ q, s.heap.size ≤ q → A q) ∧ mj_R ad A s s.heap ∧ va_P (dC, dI) vwCl (mj_w cy ad h) H ∧ va_D A (mj_w cy ad h) ∧ va_S A s.heap H locs ∧ mj_ch h
def mj_ret (M : mj_M) (pc : Nat) (r : Option Value) : Prop := match r with
  | none => decode M.2.1 pc = .ok (.return_, 1) ∧ M.2.2.2.1 = none
  | some (.int x) => decode M.2.1 pc = .ok (.ireturn, 1) ∧ ∃ ty, M.2.2.2.1 = some ty ∧ narrow ty (.int x) = .int x
  | some (.long _) => decode M.2.1 pc = .ok (.lreturn, 1) ∧ M.2.2.2.1 = some .long
  | some (.ref _) => decode M.2.1 pc = .ok (.areturn, 1) ∧ ∃ n, M.2.2.2.1 = some (.object n)
  | _ => False
def mj_cr (n : Nat) (r : Option Value) : Prop := ∀ v, r = some v → mj_cv n v
/-- what the end must be, and what else is known of the start -/
abbrev mj_F : Type := (Option Value → mj_H → Prop) × (State → (Nat → Prop) → (Nat → Nat) → Prop)
def mj_W (M : mj_M) (Fin : mj_F) (pc : Nat) (l : List (Nat × Value)) (st : List Value) (h : mj_H) (k n : Nat) : Prop :=
  ∀ (p : Program) (lc : Launch) (e : Env) (s : State) (m : MethodId) (args : Array Value) (below : List Frame) (meth : Method) (c : Code) (H : Heap) (locs : List Loc) (ls : Array Slot) (A : Nat → Prop) (Q : State → Prop) (dC : Nat → ClassId) (dI : Nat → Nat → Nat) (cy : Nat → ClassId) (ad ad0 : Nat → Nat) (n0 : Nat),
    mj_CX M p s m args meth c → mj_I dC dI cy A s ad h H locs → lv_has ls M.2.2.1 (mj_l ad l) → (∀ q ∈ l, mj_cv h.length q.2) → (∀ v ∈ st, mj_cv h.length v) → mj_ag n0 ad0 ad → n0 ≤ h.length → Fin.2 s A ad0 →
    (∀ (pc : Nat) (H : Heap) (locs : List Loc) (ls : Array Slot) (ad : Nat → Nat) (h : mj_H) (r : Option Value) (k n : Nat), mj_I dC dI cy A s ad h H locs → mj_ag n0 ad0 ad → n0 ≤ h.length → mj_cr h.length r → Fin.1 r h → mj_ret M pc r → ls.size = M.2.2.1 → k ≤ M.2.2.2.2.1.cells → n ≤ M.2.2.2.2.1.slots →
      W p lc e M.2.2.2.2.1 s m args below meth c H locs k n Q (F0 m pc ls ((r.map (mj_v ad)).toList))) →
    W p lc e M.2.2.2.2.1 s m args below meth c H locs k n Q (F0 m pc ls (st.map (mj_v ad)))
end
section
/-! the pure instructions, by an evaluator -/
def mj_lk : List (Nat × Value) → Nat → Option Value
  | [], _ => none
  | (j, v) :: r, i => match Nat.beq j i with
    | true => some v
    | false => mj_lk r i
def mj_s1 (l : List (Nat × Value)) (i : Nat) (v : Value) : List (Nat × Value) := (i, v) :: l.filter (fun q => !(q.1 == i) && !(q.1 + 1 == i && q.2.category == 2))
def mj_s2 (l : List (Nat × Value)) (i : Nat) (v : Value) : List (Nat × Value) := (i, v) :: l.filter (fun q => !(q.1 == i) && (!(q.1 == i + 1) && !(q.1 + 1 == i && q.2.category == 2)))
theorem mj_lk_mem : ∀ (l : List (Nat × Value)) (i : Nat) (v : Value), mj_lk l i = some v → (i, v) ∈ l
  | [], _, _, h => by cases h
  | (j, w) :: r, i, v, h => by
    unfold mj_lk at h
    split at h
    next e => cases h; rw [Nat.eq_of_beq_eq_true e]; exact List.mem_cons_self
    next e => exact List.mem_cons_of_mem _ (mj_lk_mem r i v h)
theorem mj_lk_real {l : List (Nat × Value)} {i : Nat} {v : Value} (h : mj_lk l i = some v) (ad : Nat → Nat) : (i, mj_v ad v) ∈ mj_l ad l := List.mem_map.mpr ⟨(i, v), mj_lk_mem l i v h, rfl⟩
theorem mj_lk_at {ls : Array Slot} {nL : Nat} {l : List (Nat × Value)} {ad : Nat → Nat} (hl : lv_has ls nL (mj_l ad l)) {i : Nat} {v : Value} (h : mj_lk l i = some v) : ls[i]? = some (.val (mj_v ad v)) := hl.2.2 _ (mj_lk_real h ad)
theorem mj_lk_c {l : List (Nat × Value)} {i n : Nat} {v : Value} (h : mj_lk l i = some v) (hc : ∀ q ∈ l, mj_cv n q.2) : mj_cv n v := hc _ (mj_lk_mem l i v h)
theorem mj_s1_real (l : List (Nat × Value)) (i : Nat) (v : Value) (ad : Nat → Nat) : (i, mj_v ad v) :: (mj_l ad l).filter (fun q => !(q.1 == i) && !(q.1 + 1 == i && q.2.category == 2)) = mj_l ad (mj_s1 l i v) := by
  simp only [mj_l, mj_s1, List.map_cons, List.filter_map]
  congr 2
  exact List.filter_congr fun q _ => by simp [mj_v_cat]
theorem mj_s2_real (l : List (Nat × Value)) (i : Nat) (v : Value) (ad : Nat → Nat) : (i, mj_v ad v) :: (mj_l ad l).filter (fun q => !(q.1 == i) && (!(q.1 == i + 1) && !(q.1 + 1 == i && q.2.category == 2))) = mj_l ad (mj_s2 l i v) := by
  simp only [mj_l, mj_s2, List.map_cons, List.filter_map]
  congr 2
  exact List.filter_congr fun q _ => by simp [mj_v_cat]
theorem mj_s1_c {l : List (Nat × Value)} {i n : Nat} {v : Value} (hl : ∀ q ∈ l, mj_cv n q.2) (hv : mj_cv n v) : ∀ q ∈ mj_s1 l i v, mj_cv n q.2 := by
  intro q hq
  rcases List.mem_cons.mp hq with rfl | hq
  · exact hv
  · exact hl q (List.mem_filter.mp hq).1
theorem mj_s2_c {l : List (Nat × Value)} {i n : Nat} {v : Value} (hl : ∀ q ∈ l, mj_cv n q.2) (hv : mj_cv n v) : ∀ q ∈ mj_s2 l i v, mj_cv n q.2 := by
  intro q hq
  rcases List.mem_cons.mp hq with rfl | hq
  · exact hv
  · exact hl q (List.mem_filter.mp hq).1

def mj_ev (kon : List (Nat × Value)) (nL : Nat) (i : Instr) (n pc : Nat) (l : List (Nat × Value)) (st : List Value) : Option (Nat × List (Nat × Value) × List Value) := match i with
  | .iconst z => if n = 1 then some (pc + 1, l, .int (Int32.ofInt z) :: st) else none
  | .bipush z => if n = 2 then some (pc + 2, l, .int (Int8.ofInt z).toInt32 :: st) else none
  | .sipush z => if n = 3 then some (pc + 3, l, .int (Int16.ofInt z).toInt32 :: st) else none
  | .lconst z => if n = 1 then some (pc + 1, l, .long (Int64.ofNat (z : Nat)) :: st) else none
  | .iload_n k => if n = 1 then (match mj_lk l (k : Nat) with
    | some (.int x) => some (pc + 1, l, .int x :: st)
    | _ => none) else none
  | .iload k => if n = 2 then (match mj_lk l k with
    | some (.int x) => some (pc + 2, l, .int x :: st)
    | _ => none) else none
  | .lload_n k => if n = 1 then (match mj_lk l (k : Nat) with
    | some (.long x) => some (pc + 1, l, .long x :: st)
    | _ => none) else none
  | .lload k => if n = 2 then (match mj_lk l k with
    | some (.long x) => some (pc + 2, l, .long x :: st)
    | _ => none) else none
  | .aload_n k => if n = 1 then (match mj_lk l (k : Nat) with
    | some (.ref x) => some (pc + 1, l, .ref x :: st)
    | _ => none) else none
  | .aload k => if n = 2 then (match mj_lk l k with
    | some (.ref x) => some (pc + 2, l, .ref x :: st)
    | _ => none) else none
  | .istore_n k => if n = 1 then (if (k : Nat) < nL then (match st with
    | .int x :: r => some (pc + 1, mj_s1 l (k : Nat) (.int x), r)
    | _ => none) else none) else none
  | .istore k => if n = 2 then (if k < nL then (match st with
    | .int x :: r => some (pc + 2, mj_s1 l k (.int x), r)
    | _ => none) else none) else none
  | .astore_n k => if n = 1 then (if (k : Nat) < nL then (match st with
    | .ref x :: r => some (pc + 1, mj_s1 l (k : Nat) (.ref x), r)
    | _ => none) else none) else none
  | .astore k => if n = 2 then (if k < nL then (match st with
    | .ref x :: r => some (pc + 2, mj_s1 l k (.ref x), r)
    | _ => none) else none) else none
  | .lstore_n k => if n = 1 then (if (k : Nat) + 1 < nL then (match st with
    | .long x :: r => some (pc + 1, mj_s2 l (k : Nat) (.long x), r)
    | _ => none) else none) else none
  | .lstore k => if n = 2 then (if k + 1 < nL then (match st with
    | .long x :: r => some (pc + 2, mj_s2 l k (.long x), r)
    | _ => none) else none) else none
  | .iinc k z => if n = 3 then (if k < nL then (match mj_lk l k with
    | some (.int x) => some (pc + 3, mj_s1 l k (.int (x + Int32.ofInt z)), st)
    | _ => none) else none) else none
  | .iadd => if n = 1 then (match st with
    | .int y :: .int x :: r => some (pc + 1, l, .int (x + y) :: r)
    | _ => none) else none
  | .isub => if n = 1 then (match st with
    | .int y :: .int x :: r => some (pc + 1, l, .int (x - y) :: r)
    | _ => none) else none
  | .imul => if n = 1 then (match st with
    | .int y :: .int x :: r => some (pc + 1, l, .int (x * y) :: r)
    | _ => none) else none
  | .iand => if n = 1 then (match st with
    | .int y :: .int x :: r => some (pc + 1, l, .int (x &&& y) :: r)
    | _ => none) else none
  | .ior => if n = 1 then (match st with
    | .int y :: .int x :: r => some (pc + 1, l, .int (x ||| y) :: r)
    | _ => none) else none
  | .ixor => if n = 1 then (match st with
    | .int y :: .int x :: r => some (pc + 1, l, .int (x ^^^ y) :: r)
    | _ => none) else none
  | .ladd => if n = 1 then (match st with
    | .long y :: .long x :: r => some (pc + 1, l, .long (x + y) :: r)
    | _ => none) else none
  | .lsub => if n = 1 then (match st with
    | .long y :: .long x :: r => some (pc + 1, l, .long (x - y) :: r)
    | _ => none) else none
  | .lmul => if n = 1 then (match st with
    | .long y :: .long x :: r => some (pc + 1, l, .long (x * y) :: r)
    | _ => none) else none
  | .ishl => if n = 1 then (match st with
    | .int y :: .int x :: r => some (pc + 1, l, .int (x <<< (y &&& 31)) :: r)
    | _ => none) else none
  | .ishr => if n = 1 then (match st with
    | .int y :: .int x :: r => some (pc + 1, l, .int (x >>> (y &&& 31)) :: r)
    | _ => none) else none
  | .iushr => if n = 1 then (match st with
    | .int y :: .int x :: r => some (pc + 1, l, .int ((x.toUInt32 >>> (y.toUInt32 &&& Int32.toUInt32 31)).toInt32) :: r)
    | _ => none) else none
  | .i2l => if n = 1 then (match st with
    | .int x :: r => some (pc + 1, l, .long (x.toInt64) :: r)
    | _ => none) else none
  | .l2i => if n = 1 then (match st with
    | .long x :: r => some (pc + 1, l, .int (x.toInt32) :: r)
    | _ => none) else none
  | .i2c => if n = 1 then (match st with
    | .int x :: r => some (pc + 1, l, .int ((x.toUInt32 % 65536).toInt32) :: r)
    | _ => none) else none
  | .ineg => if n = 1 then (match st with
    | .int x :: r => some (pc + 1, l, .int (-x) :: r)
    | _ => none) else none
  | .dup => if n = 1 then (match st with
    | v :: r => if v.category = 1 then some (pc + 1, l, v :: v :: r) else none
    | _ => none) else none
  | .pop => if n = 1 then (match st with
    | v :: r => if v.category = 1 then some (pc + 1, l, r) else none
    | _ => none) else none
  | .pop2 => if n = 1 then (match st with
    | v :: r => if v.category = 2 then some (pc + 1, l, r) else none
    | _ => none) else none
  | .dup2 => if n = 1 then (match st with
    | v :: r => if v.category = 2 then some (pc + 1, l, v :: v :: r) else (match r with
      | w :: q => if w.category = 1 then some (pc + 1, l, v :: w :: v :: w :: q) else none
      | _ => none)
    | _ => none) else none
  | .goto off => if n = 3 then (match ((pc : Int) + off) with
    | .ofNat t => some (t, l, st)
    | _ => none) else none
  | .ldc k => if n = 2 then (match mj_lk kon k with
    | some (.int x) => some (pc + 2, l, .int x :: st)
    | _ => none) else none
  | .ldc_w k => if n = 3 then (match mj_lk kon k with
    | some (.int x) => some (pc + 3, l, .int x :: st)
    | _ => none) else none
  | .ldc2_w k => if n = 3 then (match mj_lk kon k with
    | some (.long x) => some (pc + 3, l, .long x :: st)
    | _ => none) else none
  | _ => none
theorem mj_e_iconst {p : Program} {lc : Launch} {e : Env} {R : Room} {s : State} {m : MethodId} {args : Array Value} {below : List Frame} {meth : Method} {c : Code} {H : Heap} {locs : List Loc} {cells slots : Nat} {Q : State → Prop} {cc : ByteArray} {ls : Array Slot} {ad : Nat → Nat} {N : Nat} {own : String} {kon : List (Nat × Value)} {nL n pc pc' : Nat} {l l' : List (Nat × Value)} {st st' : List Value} {z : Int} (hx : p.tables.exec = Jvm.exec) (hb : c.code = cc) (hown : s.vm.findClass own = some m.cls) (hkon : ∀ i v, mj_lk kon i = some v → (∃ x, v = .int x ∧ (Jvm.Cond.constant own i x).before args s = true) ∨ ∃ x, v = .long x ∧ (Jvm.Cond.constantLong own i x).before args s = true)
    (hl : lv_has ls nL (mj_l ad l)) (hcl : ∀ q ∈ l, mj_cv N q.2) (hcs : ∀ v ∈ st, mj_cv N v) (hd : decode cc pc = .ok (.iconst z, n)) (h : mj_ev kon nL (.iconst z) n pc l st = some (pc', l', st'))
    (kk : ∀ ls', lv_has ls' nL (mj_l ad l') → (∀ q ∈ l', mj_cv N q.2) → (∀ v ∈ st', mj_cv N v) → W p lc e R s m args below meth c H locs cells slots Q (F0 m pc' ls' (st'.map (mj_v ad)))) : W p lc e R s m args below meth c H locs cells slots Q (F0 m pc ls (st.map (mj_v ad))) := by
  unfold mj_ev at h
  dsimp only at h
  split at h
  next hn =>
    subst hn
    cases h
    exact lv_iconst hx hb hd rfl (kk ls hl hcl (fun v hv => by rcases List.mem_cons.mp hv with rfl | hv; trivial; exact hcs v hv))
  next => cases h

theorem mj_e_bipush {p : Program} {lc : Launch} {e : Env} {R : Room} {s : State} {m : MethodId} {args : Array Value} {below : List Frame} {meth : Method} {c : Code} {H : Heap} {locs : List Loc} {cells slots : Nat} {Q : State → Prop} {cc : ByteArray} {ls : Array Slot} {ad : Nat → Nat} {N : Nat} {own : String} {kon : List (Nat × Value)} {nL n pc pc' : Nat} {l l' : List (Nat × Value)} {st st' : List Value} {z : Int} (hx : p.tables.exec = Jvm.exec) (hb : c.code = cc) (hown : s.vm.findClass own = some m.cls) (hkon : ∀ i v, mj_lk kon i = some v → (∃ x, v = .int x ∧ (Jvm.Cond.constant own i x).before args s = true) ∨ ∃ x, v = .long x ∧ (Jvm.Cond.constantLong own i x).before args s = true)
    (hl : lv_has ls nL (mj_l ad l)) (hcl : ∀ q ∈ l, mj_cv N q.2) (hcs : ∀ v ∈ st, mj_cv N v) (hd : decode cc pc = .ok (.bipush z, n)) (h : mj_ev kon nL (.bipush z) n pc l st = some (pc', l', st'))
    (kk : ∀ ls', lv_has ls' nL (mj_l ad l') → (∀ q ∈ l', mj_cv N q.2) → (∀ v ∈ st', mj_cv N v) → W p lc e R s m args below meth c H locs cells slots Q (F0 m pc' ls' (st'.map (mj_v ad)))) : W p lc e R s m args below meth c H locs cells slots Q (F0 m pc ls (st.map (mj_v ad))) := by
  unfold mj_ev at h
  dsimp only at h
  split at h
  next hn =>
    subst hn
    cases h
    exact lv_bipush hx hb hd rfl (kk ls hl hcl (fun v hv => by rcases List.mem_cons.mp hv with rfl | hv; trivial; exact hcs v hv))
  next => cases h

theorem mj_e_sipush {p : Program} {lc : Launch} {e : Env} {R : Room} {s : State} {m : MethodId} {args : Array Value} {below : List Frame} {meth : Method} {c : Code} {H : Heap} {locs : List Loc} {cells slots : Nat} {Q : State → Prop} {cc : ByteArray} {ls : Array Slot} {ad : Nat → Nat} {N : Nat} {own : String} {kon : List (Nat × Value)} {nL n pc pc' : Nat} {l l' : List (Nat × Value)} {st st' : List Value} {z : Int} (hx : p.tables.exec = Jvm.exec) (hb : c.code = cc) (hown : s.vm.findClass own = some m.cls) (hkon : ∀ i v, mj_lk kon i = some v → (∃ x, v = .int x ∧ (Jvm.Cond.constant own i x).before args s = true) ∨ ∃ x, v = .long x ∧ (Jvm.Cond.constantLong own i x).before args s = true)
    (hl : lv_has ls nL (mj_l ad l)) (hcl : ∀ q ∈ l, mj_cv N q.2) (hcs : ∀ v ∈ st, mj_cv N v) (hd : decode cc pc = .ok (.sipush z, n)) (h : mj_ev kon nL (.sipush z) n pc l st = some (pc', l', st'))
    (kk : ∀ ls', lv_has ls' nL (mj_l ad l') → (∀ q ∈ l', mj_cv N q.2) → (∀ v ∈ st', mj_cv N v) → W p lc e R s m args below meth c H locs cells slots Q (F0 m pc' ls' (st'.map (mj_v ad)))) : W p lc e R s m args below meth c H locs cells slots Q (F0 m pc ls (st.map (mj_v ad))) := by
  unfold mj_ev at h
  dsimp only at h
  split at h
  next hn =>
    subst hn
    cases h
    exact lv_sipush hx hb hd rfl (kk ls hl hcl (fun v hv => by rcases List.mem_cons.mp hv with rfl | hv; trivial; exact hcs v hv))
  next => cases h

theorem mj_e_lconst {p : Program} {lc : Launch} {e : Env} {R : Room} {s : State} {m : MethodId} {args : Array Value} {below : List Frame} {meth : Method} {c : Code} {H : Heap} {locs : List Loc} {cells slots : Nat} {Q : State → Prop} {cc : ByteArray} {ls : Array Slot} {ad : Nat → Nat} {N : Nat} {own : String} {kon : List (Nat × Value)} {nL n pc pc' : Nat} {l l' : List (Nat × Value)} {st st' : List Value} {z : Fin 2} (hx : p.tables.exec = Jvm.exec) (hb : c.code = cc) (hown : s.vm.findClass own = some m.cls) (hkon : ∀ i v, mj_lk kon i = some v → (∃ x, v = .int x ∧ (Jvm.Cond.constant own i x).before args s = true) ∨ ∃ x, v = .long x ∧ (Jvm.Cond.constantLong own i x).before args s = true)
    (hl : lv_has ls nL (mj_l ad l)) (hcl : ∀ q ∈ l, mj_cv N q.2) (hcs : ∀ v ∈ st, mj_cv N v) (hd : decode cc pc = .ok (.lconst z, n)) (h : mj_ev kon nL (.lconst z) n pc l st = some (pc', l', st'))
    (kk : ∀ ls', lv_has ls' nL (mj_l ad l') → (∀ q ∈ l', mj_cv N q.2) → (∀ v ∈ st', mj_cv N v) → W p lc e R s m args below meth c H locs cells slots Q (F0 m pc' ls' (st'.map (mj_v ad)))) : W p lc e R s m args below meth c H locs cells slots Q (F0 m pc ls (st.map (mj_v ad))) := by
  unfold mj_ev at h
  dsimp only at h
  split at h
  next hn =>
    subst hn
    cases h
    exact lv_lconst hx hb hd rfl (kk ls hl hcl (fun v hv => by rcases List.mem_cons.mp hv with rfl | hv; trivial; exact hcs v hv))
  next => cases h

theorem mj_e_iload_n {p : Program} {lc : Launch} {e : Env} {R : Room} {s : State} {m : MethodId} {args : Array Value} {below : List Frame} {meth : Method} {c : Code} {H : Heap} {locs : List Loc} {cells slots : Nat} {Q : State → Prop} {cc : ByteArray} {ls : Array Slot} {ad : Nat → Nat} {N : Nat} {own : String} {kon : List (Nat × Value)} {nL n pc pc' : Nat} {l l' : List (Nat × Value)} {st st' : List Value} {k : Fin 4} (hx : p.tables.exec = Jvm.exec) (hb : c.code = cc) (hown : s.vm.findClass own = some m.cls) (hkon : ∀ i v, mj_lk kon i = some v → (∃ x, v = .int x ∧ (Jvm.Cond.constant own i x).before args s = true) ∨ ∃ x, v = .long x ∧ (Jvm.Cond.constantLong own i x).before args s = true)
    (hl : lv_has ls nL (mj_l ad l)) (hcl : ∀ q ∈ l, mj_cv N q.2) (hcs : ∀ v ∈ st, mj_cv N v) (hd : decode cc pc = .ok (.iload_n k, n)) (h : mj_ev kon nL (.iload_n k) n pc l st = some (pc', l', st'))
    (kk : ∀ ls', lv_has ls' nL (mj_l ad l') → (∀ q ∈ l', mj_cv N q.2) → (∀ v ∈ st', mj_cv N v) → W p lc e R s m args below meth c H locs cells slots Q (F0 m pc' ls' (st'.map (mj_v ad)))) : W p lc e R s m args below meth c H locs cells slots Q (F0 m pc ls (st.map (mj_v ad))) := by
  unfold mj_ev at h
  dsimp only at h
  split at h
  next hn =>
    subst hn
    split at h
    next x hg =>
      cases h
      exact lv_iload_n hx hb hd rfl (mj_lk_at hl hg) (kk ls hl hcl (fun v hv => by rcases List.mem_cons.mp hv with rfl | hv; exact mj_lk_c hg hcl; exact hcs v hv))
    next => cases h
  next => cases h

theorem mj_e_iload {p : Program} {lc : Launch} {e : Env} {R : Room} {s : State} {m : MethodId} {args : Array Value} {below : List Frame} {meth : Method} {c : Code} {H : Heap} {locs : List Loc} {cells slots : Nat} {Q : State → Prop} {cc : ByteArray} {ls : Array Slot} {ad : Nat → Nat} {N : Nat} {own : String} {kon : List (Nat × Value)} {nL n pc pc' : Nat} {l l' : List (Nat × Value)} {st st' : List Value} {k : Nat} (hx : p.tables.exec = Jvm.exec) (hb : c.code = cc) (hown : s.vm.findClass own = some m.cls) (hkon : ∀ i v, mj_lk kon i = some v → (∃ x, v = .int x ∧ (Jvm.Cond.constant own i x).before args s = true) ∨ ∃ x, v = .long x ∧ (Jvm.Cond.constantLong own i x).before args s = true)
    (hl : lv_has ls nL (mj_l ad l)) (hcl : ∀ q ∈ l, mj_cv N q.2) (hcs : ∀ v ∈ st, mj_cv N v) (hd : decode cc pc = .ok (.iload k, n)) (h : mj_ev kon nL (.iload k) n pc l st = some (pc', l', st'))
    (kk : ∀ ls', lv_has ls' nL (mj_l ad l') → (∀ q ∈ l', mj_cv N q.2) → (∀ v ∈ st', mj_cv N v) → W p lc e R s m args below meth c H locs cells slots Q (F0 m pc' ls' (st'.map (mj_v ad)))) : W p lc e R s m args below meth c H locs cells slots Q (F0 m pc ls (st.map (mj_v ad))) := by
  unfold mj_ev at h
  dsimp only at h
  split at h
  next hn =>
    subst hn
    split at h
    next x hg =>
      cases h
      exact lv_iload hx hb hd (mj_lk_at hl hg) (kk ls hl hcl (fun v hv => by rcases List.mem_cons.mp hv with rfl | hv; exact mj_lk_c hg hcl; exact hcs v hv))
    next => cases h
  next => cases h

theorem mj_e_lload_n {p : Program} {lc : Launch} {e : Env} {R : Room} {s : State} {m : MethodId} {args : Array Value} {below : List Frame} {meth : Method} {c : Code} {H : Heap} {locs : List Loc} {cells slots : Nat} {Q : State → Prop} {cc : ByteArray} {ls : Array Slot} {ad : Nat → Nat} {N : Nat} {own : String} {kon : List (Nat × Value)} {nL n pc pc' : Nat} {l l' : List (Nat × Value)} {st st' : List Value} {k : Fin 4} (hx : p.tables.exec = Jvm.exec) (hb : c.code = cc) (hown : s.vm.findClass own = some m.cls) (hkon : ∀ i v, mj_lk kon i = some v → (∃ x, v = .int x ∧ (Jvm.Cond.constant own i x).before args s = true) ∨ ∃ x, v = .long x ∧ (Jvm.Cond.constantLong own i x).before args s = true)
    (hl : lv_has ls nL (mj_l ad l)) (hcl : ∀ q ∈ l, mj_cv N q.2) (hcs : ∀ v ∈ st, mj_cv N v) (hd : decode cc pc = .ok (.lload_n k, n)) (h : mj_ev kon nL (.lload_n k) n pc l st = some (pc', l', st'))
    (kk : ∀ ls', lv_has ls' nL (mj_l ad l') → (∀ q ∈ l', mj_cv N q.2) → (∀ v ∈ st', mj_cv N v) → W p lc e R s m args below meth c H locs cells slots Q (F0 m pc' ls' (st'.map (mj_v ad)))) : W p lc e R s m args below meth c H locs cells slots Q (F0 m pc ls (st.map (mj_v ad))) := by
  unfold mj_ev at h
  dsimp only at h
  split at h
  next hn =>
    subst hn
    split at h
    next x hg =>
      cases h
      exact lv_lload_n hx hb hd rfl (mj_lk_at hl hg) (kk ls hl hcl (fun v hv => by rcases List.mem_cons.mp hv with rfl | hv; exact mj_lk_c hg hcl; exact hcs v hv))
    next => cases h
  next => cases h

theorem mj_e_lload {p : Program} {lc : Launch} {e : Env} {R : Room} {s : State} {m : MethodId} {args : Array Value} {below : List Frame} {meth : Method} {c : Code} {H : Heap} {locs : List Loc} {cells slots : Nat} {Q : State → Prop} {cc : ByteArray} {ls : Array Slot} {ad : Nat → Nat} {N : Nat} {own : String} {kon : List (Nat × Value)} {nL n pc pc' : Nat} {l l' : List (Nat × Value)} {st st' : List Value} {k : Nat} (hx : p.tables.exec = Jvm.exec) (hb : c.code = cc) (hown : s.vm.findClass own = some m.cls) (hkon : ∀ i v, mj_lk kon i = some v → (∃ x, v = .int x ∧ (Jvm.Cond.constant own i x).before args s = true) ∨ ∃ x, v = .long x ∧ (Jvm.Cond.constantLong own i x).before args s = true)
    (hl : lv_has ls nL (mj_l ad l)) (hcl : ∀ q ∈ l, mj_cv N q.2) (hcs : ∀ v ∈ st, mj_cv N v) (hd : decode cc pc = .ok (.lload k, n)) (h : mj_ev kon nL (.lload k) n pc l st = some (pc', l', st'))
    (kk : ∀ ls', lv_has ls' nL (mj_l ad l') → (∀ q ∈ l', mj_cv N q.2) → (∀ v ∈ st', mj_cv N v) → W p lc e R s m args below meth c H locs cells slots Q (F0 m pc' ls' (st'.map (mj_v ad)))) : W p lc e R s m args below meth c H locs cells slots Q (F0 m pc ls (st.map (mj_v ad))) := by
  unfold mj_ev at h
  dsimp only at h
  split at h
  next hn =>
    subst hn
    split at h
    next x hg =>
      cases h
      exact lv_lload hx hb hd (mj_lk_at hl hg) (kk ls hl hcl (fun v hv => by rcases List.mem_cons.mp hv with rfl | hv; exact mj_lk_c hg hcl; exact hcs v hv))
    next => cases h
  next => cases h

theorem mj_e_aload_n {p : Program} {lc : Launch} {e : Env} {R : Room} {s : State} {m : MethodId} {args : Array Value} {below : List Frame} {meth : Method} {c : Code} {H : Heap} {locs : List Loc} {cells slots : Nat} {Q : State → Prop} {cc : ByteArray} {ls : Array Slot} {ad : Nat → Nat} {N : Nat} {own : String} {kon : List (Nat × Value)} {nL n pc pc' : Nat} {l l' : List (Nat × Value)} {st st' : List Value} {k : Fin 4} (hx : p.tables.exec = Jvm.exec) (hb : c.code = cc) (hown : s.vm.findClass own = some m.cls) (hkon : ∀ i v, mj_lk kon i = some v → (∃ x, v = .int x ∧ (Jvm.Cond.constant own i x).before args s = true) ∨ ∃ x, v = .long x ∧ (Jvm.Cond.constantLong own i x).before args s = true)
    (hl : lv_has ls nL (mj_l ad l)) (hcl : ∀ q ∈ l, mj_cv N q.2) (hcs : ∀ v ∈ st, mj_cv N v) (hd : decode cc pc = .ok (.aload_n k, n)) (h : mj_ev kon nL (.aload_n k) n pc l st = some (pc', l', st'))
    (kk : ∀ ls', lv_has ls' nL (mj_l ad l') → (∀ q ∈ l', mj_cv N q.2) → (∀ v ∈ st', mj_cv N v) → W p lc e R s m args below meth c H locs cells slots Q (F0 m pc' ls' (st'.map (mj_v ad)))) : W p lc e R s m args below meth c H locs cells slots Q (F0 m pc ls (st.map (mj_v ad))) := by
  unfold mj_ev at h
  dsimp only at h
  split at h
  next hn =>
    subst hn
    split at h
    next x hg =>
      cases h
      exact lv_aload_n hx hb hd rfl (mj_lk_at hl hg) (kk ls hl hcl (fun v hv => by rcases List.mem_cons.mp hv with rfl | hv; exact mj_lk_c hg hcl; exact hcs v hv))
    next => cases h
  next => cases h

theorem mj_e_aload {p : Program} {lc : Launch} {e : Env} {R : Room} {s : State} {m : MethodId} {args : Array Value} {below : List Frame} {meth : Method} {c : Code} {H : Heap} {locs : List Loc} {cells slots : Nat} {Q : State → Prop} {cc : ByteArray} {ls : Array Slot} {ad : Nat → Nat} {N : Nat} {own : String} {kon : List (Nat × Value)} {nL n pc pc' : Nat} {l l' : List (Nat × Value)} {st st' : List Value} {k : Nat} (hx : p.tables.exec = Jvm.exec) (hb : c.code = cc) (hown : s.vm.findClass own = some m.cls) (hkon : ∀ i v, mj_lk kon i = some v → (∃ x, v = .int x ∧ (Jvm.Cond.constant own i x).before args s = true) ∨ ∃ x, v = .long x ∧ (Jvm.Cond.constantLong own i x).before args s = true)
    (hl : lv_has ls nL (mj_l ad l)) (hcl : ∀ q ∈ l, mj_cv N q.2) (hcs : ∀ v ∈ st, mj_cv N v) (hd : decode cc pc = .ok (.aload k, n)) (h : mj_ev kon nL (.aload k) n pc l st = some (pc', l', st'))
    (kk : ∀ ls', lv_has ls' nL (mj_l ad l') → (∀ q ∈ l', mj_cv N q.2) → (∀ v ∈ st', mj_cv N v) → W p lc e R s m args below meth c H locs cells slots Q (F0 m pc' ls' (st'.map (mj_v ad)))) : W p lc e R s m args below meth c H locs cells slots Q (F0 m pc ls (st.map (mj_v ad))) := by
  unfold mj_ev at h
  dsimp only at h
  split at h
  next hn =>
    subst hn
    split at h
    next x hg =>
      cases h
      exact lv_aload hx hb hd (mj_lk_at hl hg) (kk ls hl hcl (fun v hv => by rcases List.mem_cons.mp hv with rfl | hv; exact mj_lk_c hg hcl; exact hcs v hv))
    next => cases h
  next => cases h

theorem mj_e_istore_n {p : Program} {lc : Launch} {e : Env} {R : Room} {s : State} {m : MethodId} {args : Array Value} {below : List Frame} {meth : Method} {c : Code} {H : Heap} {locs : List Loc} {cells slots : Nat} {Q : State → Prop} {cc : ByteArray} {ls : Array Slot} {ad : Nat → Nat} {N : Nat} {own : String} {kon : List (Nat × Value)} {nL n pc pc' : Nat} {l l' : List (Nat × Value)} {st st' : List Value} {k : Fin 4} (hx : p.tables.exec = Jvm.exec) (hb : c.code = cc) (hown : s.vm.findClass own = some m.cls) (hkon : ∀ i v, mj_lk kon i = some v → (∃ x, v = .int x ∧ (Jvm.Cond.constant own i x).before args s = true) ∨ ∃ x, v = .long x ∧ (Jvm.Cond.constantLong own i x).before args s = true)
    (hl : lv_has ls nL (mj_l ad l)) (hcl : ∀ q ∈ l, mj_cv N q.2) (hcs : ∀ v ∈ st, mj_cv N v) (hd : decode cc pc = .ok (.istore_n k, n)) (h : mj_ev kon nL (.istore_n k) n pc l st = some (pc', l', st'))
    (kk : ∀ ls', lv_has ls' nL (mj_l ad l') → (∀ q ∈ l', mj_cv N q.2) → (∀ v ∈ st', mj_cv N v) → W p lc e R s m args below meth c H locs cells slots Q (F0 m pc' ls' (st'.map (mj_v ad)))) : W p lc e R s m args below meth c H locs cells slots Q (F0 m pc ls (st.map (mj_v ad))) := by
  unfold mj_ev at h
  dsimp only at h
  split at h
  next hn =>
    subst hn
    split at h
    next hb2 =>
      split at h
      next x r =>
        cases h
        have hx0 : mj_cv N (.int x) := hcs _ List.mem_cons_self
        exact lv_istore_n (lv' := mj_l ad (mj_s1 l (k : Nat) (.int x))) hx hb hd rfl hl hb2 (mj_s1_real l (k : Nat) (.int x) ad) (fun ls' hl' => kk ls' hl' (mj_s1_c hcl hx0) (fun v hv => hcs v (List.mem_cons_of_mem _ hv)))
      next => cases h
    next => cases h
  next => cases h

theorem mj_e_istore {p : Program} {lc : Launch} {e : Env} {R : Room} {s : State} {m : MethodId} {args : Array Value} {below : List Frame} {meth : Method} {c : Code} {H : Heap} {locs : List Loc} {cells slots : Nat} {Q : State → Prop} {cc : ByteArray} {ls : Array Slot} {ad : Nat → Nat} {N : Nat} {own : String} {kon : List (Nat × Value)} {nL n pc pc' : Nat} {l l' : List (Nat × Value)} {st st' : List Value} {k : Nat} (hx : p.tables.exec = Jvm.exec) (hb : c.code = cc) (hown : s.vm.findClass own = some m.cls) (hkon : ∀ i v, mj_lk kon i = some v → (∃ x, v = .int x ∧ (Jvm.Cond.constant own i x).before args s = true) ∨ ∃ x, v = .long x ∧ (Jvm.Cond.constantLong own i x).before args s = true)
    (hl : lv_has ls nL (mj_l ad l)) (hcl : ∀ q ∈ l, mj_cv N q.2) (hcs : ∀ v ∈ st, mj_cv N v) (hd : decode cc pc = .ok (.istore k, n)) (h : mj_ev kon nL (.istore k) n pc l st = some (pc', l', st'))
    (kk : ∀ ls', lv_has ls' nL (mj_l ad l') → (∀ q ∈ l', mj_cv N q.2) → (∀ v ∈ st', mj_cv N v) → W p lc e R s m args below meth c H locs cells slots Q (F0 m pc' ls' (st'.map (mj_v ad)))) : W p lc e R s m args below meth c H locs cells slots Q (F0 m pc ls (st.map (mj_v ad))) := by
  unfold mj_ev at h
  dsimp only at h
  split at h
  next hn =>
    subst hn
    split at h
    next hb2 =>
      split at h
      next x r =>
        cases h
        have hx0 : mj_cv N (.int x) := hcs _ List.mem_cons_self
        exact lv_istore (lv' := mj_l ad (mj_s1 l k (.int x))) hx hb hd hl hb2 (mj_s1_real l k (.int x) ad) (fun ls' hl' => kk ls' hl' (mj_s1_c hcl hx0) (fun v hv => hcs v (List.mem_cons_of_mem _ hv)))
      next => cases h
    next => cases h
  next => cases h

theorem mj_e_astore_n {p : Program} {lc : Launch} {e : Env} {R : Room} {s : State} {m : MethodId} {args : Array Value} {below : List Frame} {meth : Method} {c : Code} {H : Heap} {locs : List Loc} {cells slots : Nat} {Q : State → Prop} {cc : ByteArray} {ls : Array Slot} {ad : Nat → Nat} {N : Nat} {own : String} {kon : List (Nat × Value)} {nL n pc pc' : Nat} {l l' : List (Nat × Value)} {st st' : List Value} {k : Fin 4} (hx : p.tables.exec = Jvm.exec) (hb : c.code = cc) (hown : s.vm.findClass own = some m.cls) (hkon : ∀ i v, mj_lk kon i = some v → (∃ x, v = .int x ∧ (Jvm.Cond.constant own i x).before args s = true) ∨ ∃ x, v = .long x ∧ (Jvm.Cond.constantLong own i x).before args s = true)
    (hl : lv_has ls nL (mj_l ad l)) (hcl : ∀ q ∈ l, mj_cv N q.2) (hcs : ∀ v ∈ st, mj_cv N v) (hd : decode cc pc = .ok (.astore_n k, n)) (h : mj_ev kon nL (.astore_n k) n pc l st = some (pc', l', st'))
    (kk : ∀ ls', lv_has ls' nL (mj_l ad l') → (∀ q ∈ l', mj_cv N q.2) → (∀ v ∈ st', mj_cv N v) → W p lc e R s m args below meth c H locs cells slots Q (F0 m pc' ls' (st'.map (mj_v ad)))) : W p lc e R s m args below meth c H locs cells slots Q (F0 m pc ls (st.map (mj_v ad))) := by
  unfold mj_ev at h
  dsimp only at h
  split at h
  next hn =>
    subst hn
    split at h
    next hb2 =>
      split at h
      next x r =>
        cases h
        have hx0 : mj_cv N (.ref x) := hcs _ List.mem_cons_self
        exact lv_astore_n (lv' := mj_l ad (mj_s1 l (k : Nat) (.ref x))) hx hb hd rfl hl hb2 (mj_s1_real l (k : Nat) (.ref x) ad) (fun ls' hl' => kk ls' hl' (mj_s1_c hcl hx0) (fun v hv => hcs v (List.mem_cons_of_mem _ hv)))
      next => cases h
    next => cases h
  next => cases h

theorem mj_e_astore {p : Program} {lc : Launch} {e : Env} {R : Room} {s : State} {m : MethodId} {args : Array Value} {below : List Frame} {meth : Method} {c : Code} {H : Heap} {locs : List Loc} {cells slots : Nat} {Q : State → Prop} {cc : ByteArray} {ls : Array Slot} {ad : Nat → Nat} {N : Nat} {own : String} {kon : List (Nat × Value)} {nL n pc pc' : Nat} {l l' : List (Nat × Value)} {st st' : List Value} {k : Nat} (hx : p.tables.exec = Jvm.exec) (hb : c.code = cc) (hown : s.vm.findClass own = some m.cls) (hkon : ∀ i v, mj_lk kon i = some v → (∃ x, v = .int x ∧ (Jvm.Cond.constant own i x).before args s = true) ∨ ∃ x, v = .long x ∧ (Jvm.Cond.constantLong own i x).before args s = true)
    (hl : lv_has ls nL (mj_l ad l)) (hcl : ∀ q ∈ l, mj_cv N q.2) (hcs : ∀ v ∈ st, mj_cv N v) (hd : decode cc pc = .ok (.astore k, n)) (h : mj_ev kon nL (.astore k) n pc l st = some (pc', l', st'))
    (kk : ∀ ls', lv_has ls' nL (mj_l ad l') → (∀ q ∈ l', mj_cv N q.2) → (∀ v ∈ st', mj_cv N v) → W p lc e R s m args below meth c H locs cells slots Q (F0 m pc' ls' (st'.map (mj_v ad)))) : W p lc e R s m args below meth c H locs cells slots Q (F0 m pc ls (st.map (mj_v ad))) := by
  unfold mj_ev at h
  dsimp only at h
  split at h
  next hn =>
    subst hn
    split at h
    next hb2 =>
      split at h
      next x r =>
        cases h
        have hx0 : mj_cv N (.ref x) := hcs _ List.mem_cons_self
        exact lv_astore (lv' := mj_l ad (mj_s1 l k (.ref x))) hx hb hd hl hb2 (mj_s1_real l k (.ref x) ad) (fun ls' hl' => kk ls' hl' (mj_s1_c hcl hx0) (fun v hv => hcs v (List.mem_cons_of_mem _ hv)))
      next => cases h
    next => cases h
  next => cases h

theorem mj_e_lstore_n {p : Program} {lc : Launch} {e : Env} {R : Room} {s : State} {m : MethodId} {args : Array Value} {below : List Frame} {meth : Method} {c : Code} {H : Heap} {locs : List Loc} {cells slots : Nat} {Q : State → Prop} {cc : ByteArray} {ls : Array Slot} {ad : Nat → Nat} {N : Nat} {own : String} {kon : List (Nat × Value)} {nL n pc pc' : Nat} {l l' : List (Nat × Value)} {st st' : List Value} {k : Fin 4} (hx : p.tables.exec = Jvm.exec) (hb : c.code = cc) (hown : s.vm.findClass own = some m.cls) (hkon : ∀ i v, mj_lk kon i = some v → (∃ x, v = .int x ∧ (Jvm.Cond.constant own i x).before args s = true) ∨ ∃ x, v = .long x ∧ (Jvm.Cond.constantLong own i x).before args s = true)
    (hl : lv_has ls nL (mj_l ad l)) (hcl : ∀ q ∈ l, mj_cv N q.2) (hcs : ∀ v ∈ st, mj_cv N v) (hd : decode cc pc = .ok (.lstore_n k, n)) (h : mj_ev kon nL (.lstore_n k) n pc l st = some (pc', l', st'))
    (kk : ∀ ls', lv_has ls' nL (mj_l ad l') → (∀ q ∈ l', mj_cv N q.2) → (∀ v ∈ st', mj_cv N v) → W p lc e R s m args below meth c H locs cells slots Q (F0 m pc' ls' (st'.map (mj_v ad)))) : W p lc e R s m args below meth c H locs cells slots Q (F0 m pc ls (st.map (mj_v ad))) := by
  unfold mj_ev at h
  dsimp only at h
  split at h
  next hn =>
    subst hn
    split at h
    next hb2 =>
      split at h
      next x r =>
        cases h
        have hx0 : mj_cv N (.long x) := hcs _ List.mem_cons_self
        exact lv_lstore_n (lv' := mj_l ad (mj_s2 l (k : Nat) (.long x))) hx hb hd rfl hl hb2 (mj_s2_real l (k : Nat) (.long x) ad) (fun ls' hl' => kk ls' hl' (mj_s2_c hcl hx0) (fun v hv => hcs v (List.mem_cons_of_mem _ hv)))
      next => cases h
    next => cases h
  next => cases h

theorem mj_e_lstore {p : Program} {lc : Launch} {e : Env} {R : Room} {s : State} {m : MethodId} {args : Array Value} {below : List Frame} {meth : Method} {c : Code} {H : Heap} {locs : List Loc} {cells slots : Nat} {Q : State → Prop} {cc : ByteArray} {ls : Array Slot} {ad : Nat → Nat} {N : Nat} {own : String} {kon : List (Nat × Value)} {nL n pc pc' : Nat} {l l' : List (Nat × Value)} {st st' : List Value} {k : Nat} (hx : p.tables.exec = Jvm.exec) (hb : c.code = cc) (hown : s.vm.findClass own = some m.cls) (hkon : ∀ i v, mj_lk kon i = some v → (∃ x, v = .int x ∧ (Jvm.Cond.constant own i x).before args s = true) ∨ ∃ x, v = .long x ∧ (Jvm.Cond.constantLong own i x).before args s = true)
    (hl : lv_has ls nL (mj_l ad l)) (hcl : ∀ q ∈ l, mj_cv N q.2) (hcs : ∀ v ∈ st, mj_cv N v) (hd : decode cc pc = .ok (.lstore k, n)) (h : mj_ev kon nL (.lstore k) n pc l st = some (pc', l', st'))
    (kk : ∀ ls', lv_has ls' nL (mj_l ad l') → (∀ q ∈ l', mj_cv N q.2) → (∀ v ∈ st', mj_cv N v) → W p lc e R s m args below meth c H locs cells slots Q (F0 m pc' ls' (st'.map (mj_v ad)))) : W p lc e R s m args below meth c H locs cells slots Q (F0 m pc ls (st.map (mj_v ad))) := by
  unfold mj_ev at h
  dsimp only at h
  split at h
  next hn =>
    subst hn
    split at h
    next hb2 =>
      split at h
      next x r =>
        cases h
        have hx0 : mj_cv N (.long x) := hcs _ List.mem_cons_self
        exact lv_lstore (lv' := mj_l ad (mj_s2 l k (.long x))) hx hb hd hl hb2 (mj_s2_real l k (.long x) ad) (fun ls' hl' => kk ls' hl' (mj_s2_c hcl hx0) (fun v hv => hcs v (List.mem_cons_of_mem _ hv)))
      next => cases h
    next => cases h
  next => cases h

theorem mj_e_iinc {p : Program} {lc : Launch} {e : Env} {R : Room} {s : State} {m : MethodId} {args : Array Value} {below : List Frame} {meth : Method} {c : Code} {H : Heap} {locs : List Loc} {cells slots : Nat} {Q : State → Prop} {cc : ByteArray} {ls : Array Slot} {ad : Nat → Nat} {N : Nat} {own : String} {kon : List (Nat × Value)} {nL n pc pc' : Nat} {l l' : List (Nat × Value)} {st st' : List Value} {k : Nat} {z : Int} (hx : p.tables.exec = Jvm.exec) (hb : c.code = cc) (hown : s.vm.findClass own = some m.cls) (hkon : ∀ i v, mj_lk kon i = some v → (∃ x, v = .int x ∧ (Jvm.Cond.constant own i x).before args s = true) ∨ ∃ x, v = .long x ∧ (Jvm.Cond.constantLong own i x).before args s = true)
    (hl : lv_has ls nL (mj_l ad l)) (hcl : ∀ q ∈ l, mj_cv N q.2) (hcs : ∀ v ∈ st, mj_cv N v) (hd : decode cc pc = .ok (.iinc k z, n)) (h : mj_ev kon nL (.iinc k z) n pc l st = some (pc', l', st'))
    (kk : ∀ ls', lv_has ls' nL (mj_l ad l') → (∀ q ∈ l', mj_cv N q.2) → (∀ v ∈ st', mj_cv N v) → W p lc e R s m args below meth c H locs cells slots Q (F0 m pc' ls' (st'.map (mj_v ad)))) : W p lc e R s m args below meth c H locs cells slots Q (F0 m pc ls (st.map (mj_v ad))) := by
  unfold mj_ev at h
  dsimp only at h
  split at h
  next hn =>
    subst hn
    split at h
    next hb2 =>
      split at h
      next x hg =>
        cases h
        obtain ⟨j, hj⟩ := List.mem_iff_getElem?.mp (mj_lk_real hg ad)
        exact lv_iinc (k := j) (x := x) (v := x + Int32.ofInt z) (lv' := mj_l ad (mj_s1 l k (.int (x + Int32.ofInt z)))) hx hb hd hl hj rfl hb2 (mj_s1_real l k (.int (x + Int32.ofInt z)) ad) (fun ls' hl' => kk ls' hl' (mj_s1_c hcl trivial) hcs)
      next => cases h
    next => cases h
  next => cases h

theorem mj_e_iadd {p : Program} {lc : Launch} {e : Env} {R : Room} {s : State} {m : MethodId} {args : Array Value} {below : List Frame} {meth : Method} {c : Code} {H : Heap} {locs : List Loc} {cells slots : Nat} {Q : State → Prop} {cc : ByteArray} {ls : Array Slot} {ad : Nat → Nat} {N : Nat} {own : String} {kon : List (Nat × Value)} {nL n pc pc' : Nat} {l l' : List (Nat × Value)} {st st' : List Value} (hx : p.tables.exec = Jvm.exec) (hb : c.code = cc) (hown : s.vm.findClass own = some m.cls) (hkon : ∀ i v, mj_lk kon i = some v → (∃ x, v = .int x ∧ (Jvm.Cond.constant own i x).before args s = true) ∨ ∃ x, v = .long x ∧ (Jvm.Cond.constantLong own i x).before args s = true)
    (hl : lv_has ls nL (mj_l ad l)) (hcl : ∀ q ∈ l, mj_cv N q.2) (hcs : ∀ v ∈ st, mj_cv N v) (hd : decode cc pc = .ok (.iadd, n)) (h : mj_ev kon nL (.iadd) n pc l st = some (pc', l', st'))
    (kk : ∀ ls', lv_has ls' nL (mj_l ad l') → (∀ q ∈ l', mj_cv N q.2) → (∀ v ∈ st', mj_cv N v) → W p lc e R s m args below meth c H locs cells slots Q (F0 m pc' ls' (st'.map (mj_v ad)))) : W p lc e R s m args below meth c H locs cells slots Q (F0 m pc ls (st.map (mj_v ad))) := by
  unfold mj_ev at h
  dsimp only at h
  split at h
  next hn =>
    subst hn
    split at h
    next y x r =>
      cases h
      exact lv_iadd hx hb hd (kk ls hl hcl (fun v hv => by rcases List.mem_cons.mp hv with rfl | hv; trivial; exact hcs v (List.mem_cons_of_mem _ (List.mem_cons_of_mem _ hv))))
    next => cases h
  next => cases h

theorem mj_e_isub {p : Program} {lc : Launch} {e : Env} {R : Room} {s : State} {m : MethodId} {args : Array Value} {below : List Frame} {meth : Method} {c : Code} {H : Heap} {locs : List Loc} {cells slots : Nat} {Q : State → Prop} {cc : ByteArray} {ls : Array Slot} {ad : Nat → Nat} {N : Nat} {own : String} {kon : List (Nat × Value)} {nL n pc pc' : Nat} {l l' : List (Nat × Value)} {st st' : List Value} (hx : p.tables.exec = Jvm.exec) (hb : c.code = cc) (hown : s.vm.findClass own = some m.cls) (hkon : ∀ i v, mj_lk kon i = some v → (∃ x, v = .int x ∧ (Jvm.Cond.constant own i x).before args s = true) ∨ ∃ x, v = .long x ∧ (Jvm.Cond.constantLong own i x).before args s = true)
    (hl : lv_has ls nL (mj_l ad l)) (hcl : ∀ q ∈ l, mj_cv N q.2) (hcs : ∀ v ∈ st, mj_cv N v) (hd : decode cc pc = .ok (.isub, n)) (h : mj_ev kon nL (.isub) n pc l st = some (pc', l', st'))
    (kk : ∀ ls', lv_has ls' nL (mj_l ad l') → (∀ q ∈ l', mj_cv N q.2) → (∀ v ∈ st', mj_cv N v) → W p lc e R s m args below meth c H locs cells slots Q (F0 m pc' ls' (st'.map (mj_v ad)))) : W p lc e R s m args below meth c H locs cells slots Q (F0 m pc ls (st.map (mj_v ad))) := by
  unfold mj_ev at h
  dsimp only at h
  split at h
  next hn =>
    subst hn
    split at h
    next y x r =>
      cases h
      exact lv_isub hx hb hd (kk ls hl hcl (fun v hv => by rcases List.mem_cons.mp hv with rfl | hv; trivial; exact hcs v (List.mem_cons_of_mem _ (List.mem_cons_of_mem _ hv))))
    next => cases h
  next => cases h

theorem mj_e_imul {p : Program} {lc : Launch} {e : Env} {R : Room} {s : State} {m : MethodId} {args : Array Value} {below : List Frame} {meth : Method} {c : Code} {H : Heap} {locs : List Loc} {cells slots : Nat} {Q : State → Prop} {cc : ByteArray} {ls : Array Slot} {ad : Nat → Nat} {N : Nat} {own : String} {kon : List (Nat × Value)} {nL n pc pc' : Nat} {l l' : List (Nat × Value)} {st st' : List Value} (hx : p.tables.exec = Jvm.exec) (hb : c.code = cc) (hown : s.vm.findClass own = some m.cls) (hkon : ∀ i v, mj_lk kon i = some v → (∃ x, v = .int x ∧ (Jvm.Cond.constant own i x).before args s = true) ∨ ∃ x, v = .long x ∧ (Jvm.Cond.constantLong own i x).before args s = true)
    (hl : lv_has ls nL (mj_l ad l)) (hcl : ∀ q ∈ l, mj_cv N q.2) (hcs : ∀ v ∈ st, mj_cv N v) (hd : decode cc pc = .ok (.imul, n)) (h : mj_ev kon nL (.imul) n pc l st = some (pc', l', st'))
    (kk : ∀ ls', lv_has ls' nL (mj_l ad l') → (∀ q ∈ l', mj_cv N q.2) → (∀ v ∈ st', mj_cv N v) → W p lc e R s m args below meth c H locs cells slots Q (F0 m pc' ls' (st'.map (mj_v ad)))) : W p lc e R s m args below meth c H locs cells slots Q (F0 m pc ls (st.map (mj_v ad))) := by
  unfold mj_ev at h
  dsimp only at h
  split at h
  next hn =>
    subst hn
    split at h
    next y x r =>
      cases h
      exact lv_imul hx hb hd (kk ls hl hcl (fun v hv => by rcases List.mem_cons.mp hv with rfl | hv; trivial; exact hcs v (List.mem_cons_of_mem _ (List.mem_cons_of_mem _ hv))))
    next => cases h
  next => cases h

theorem mj_e_iand {p : Program} {lc : Launch} {e : Env} {R : Room} {s : State} {m : MethodId} {args : Array Value} {below : List Frame} {meth : Method} {c : Code} {H : Heap} {locs : List Loc} {cells slots : Nat} {Q : State → Prop} {cc : ByteArray} {ls : Array Slot} {ad : Nat → Nat} {N : Nat} {own : String} {kon : List (Nat × Value)} {nL n pc pc' : Nat} {l l' : List (Nat × Value)} {st st' : List Value} (hx : p.tables.exec = Jvm.exec) (hb : c.code = cc) (hown : s.vm.findClass own = some m.cls) (hkon : ∀ i v, mj_lk kon i = some v → (∃ x, v = .int x ∧ (Jvm.Cond.constant own i x).before args s = true) ∨ ∃ x, v = .long x ∧ (Jvm.Cond.constantLong own i x).before args s = true)
    (hl : lv_has ls nL (mj_l ad l)) (hcl : ∀ q ∈ l, mj_cv N q.2) (hcs : ∀ v ∈ st, mj_cv N v) (hd : decode cc pc = .ok (.iand, n)) (h : mj_ev kon nL (.iand) n pc l st = some (pc', l', st'))
    (kk : ∀ ls', lv_has ls' nL (mj_l ad l') → (∀ q ∈ l', mj_cv N q.2) → (∀ v ∈ st', mj_cv N v) → W p lc e R s m args below meth c H locs cells slots Q (F0 m pc' ls' (st'.map (mj_v ad)))) : W p lc e R s m args below meth c H locs cells slots Q (F0 m pc ls (st.map (mj_v ad))) := by
  unfold mj_ev at h
  dsimp only at h
  split at h
  next hn =>
    subst hn
    split at h
    next y x r =>
      cases h
      exact lv_iand hx hb hd (kk ls hl hcl (fun v hv => by rcases List.mem_cons.mp hv with rfl | hv; trivial; exact hcs v (List.mem_cons_of_mem _ (List.mem_cons_of_mem _ hv))))
    next => cases h
  next => cases h

theorem mj_e_ior {p : Program} {lc : Launch} {e : Env} {R : Room} {s : State} {m : MethodId} {args : Array Value} {below : List Frame} {meth : Method} {c : Code} {H : Heap} {locs : List Loc} {cells slots : Nat} {Q : State → Prop} {cc : ByteArray} {ls : Array Slot} {ad : Nat → Nat} {N : Nat} {own : String} {kon : List (Nat × Value)} {nL n pc pc' : Nat} {l l' : List (Nat × Value)} {st st' : List Value} (hx : p.tables.exec = Jvm.exec) (hb : c.code = cc) (hown : s.vm.findClass own = some m.cls) (hkon : ∀ i v, mj_lk kon i = some v → (∃ x, v = .int x ∧ (Jvm.Cond.constant own i x).before args s = true) ∨ ∃ x, v = .long x ∧ (Jvm.Cond.constantLong own i x).before args s = true)
    (hl : lv_has ls nL (mj_l ad l)) (hcl : ∀ q ∈ l, mj_cv N q.2) (hcs : ∀ v ∈ st, mj_cv N v) (hd : decode cc pc = .ok (.ior, n)) (h : mj_ev kon nL (.ior) n pc l st = some (pc', l', st'))
    (kk : ∀ ls', lv_has ls' nL (mj_l ad l') → (∀ q ∈ l', mj_cv N q.2) → (∀ v ∈ st', mj_cv N v) → W p lc e R s m args below meth c H locs cells slots Q (F0 m pc' ls' (st'.map (mj_v ad)))) : W p lc e R s m args below meth c H locs cells slots Q (F0 m pc ls (st.map (mj_v ad))) := by
  unfold mj_ev at h
  dsimp only at h
  split at h
  next hn =>
    subst hn
    split at h
    next y x r =>
      cases h
      exact lv_ior hx hb hd (kk ls hl hcl (fun v hv => by rcases List.mem_cons.mp hv with rfl | hv; trivial; exact hcs v (List.mem_cons_of_mem _ (List.mem_cons_of_mem _ hv))))
    next => cases h
  next => cases h

theorem mj_e_ixor {p : Program} {lc : Launch} {e : Env} {R : Room} {s : State} {m : MethodId} {args : Array Value} {below : List Frame} {meth : Method} {c : Code} {H : Heap} {locs : List Loc} {cells slots : Nat} {Q : State → Prop} {cc : ByteArray} {ls : Array Slot} {ad : Nat → Nat} {N : Nat} {own : String} {kon : List (Nat × Value)} {nL n pc pc' : Nat} {l l' : List (Nat × Value)} {st st' : List Value} (hx : p.tables.exec = Jvm.exec) (hb : c.code = cc) (hown : s.vm.findClass own = some m.cls) (hkon : ∀ i v, mj_lk kon i = some v → (∃ x, v = .int x ∧ (Jvm.Cond.constant own i x).before args s = true) ∨ ∃ x, v = .long x ∧ (Jvm.Cond.constantLong own i x).before args s = true)
    (hl : lv_has ls nL (mj_l ad l)) (hcl : ∀ q ∈ l, mj_cv N q.2) (hcs : ∀ v ∈ st, mj_cv N v) (hd : decode cc pc = .ok (.ixor, n)) (h : mj_ev kon nL (.ixor) n pc l st = some (pc', l', st'))
    (kk : ∀ ls', lv_has ls' nL (mj_l ad l') → (∀ q ∈ l', mj_cv N q.2) → (∀ v ∈ st', mj_cv N v) → W p lc e R s m args below meth c H locs cells slots Q (F0 m pc' ls' (st'.map (mj_v ad)))) : W p lc e R s m args below meth c H locs cells slots Q (F0 m pc ls (st.map (mj_v ad))) := by
  unfold mj_ev at h
  dsimp only at h
  split at h
  next hn =>
    subst hn
    split at h
    next y x r =>
      cases h
      exact lv_ixor hx hb hd (kk ls hl hcl (fun v hv => by rcases List.mem_cons.mp hv with rfl | hv; trivial; exact hcs v (List.mem_cons_of_mem _ (List.mem_cons_of_mem _ hv))))
    next => cases h
  next => cases h

theorem mj_e_ladd {p : Program} {lc : Launch} {e : Env} {R : Room} {s : State} {m : MethodId} {args : Array Value} {below : List Frame} {meth : Method} {c : Code} {H : Heap} {locs : List Loc} {cells slots : Nat} {Q : State → Prop} {cc : ByteArray} {ls : Array Slot} {ad : Nat → Nat} {N : Nat} {own : String} {kon : List (Nat × Value)} {nL n pc pc' : Nat} {l l' : List (Nat × Value)} {st st' : List Value} (hx : p.tables.exec = Jvm.exec) (hb : c.code = cc) (hown : s.vm.findClass own = some m.cls) (hkon : ∀ i v, mj_lk kon i = some v → (∃ x, v = .int x ∧ (Jvm.Cond.constant own i x).before args s = true) ∨ ∃ x, v = .long x ∧ (Jvm.Cond.constantLong own i x).before args s = true)
    (hl : lv_has ls nL (mj_l ad l)) (hcl : ∀ q ∈ l, mj_cv N q.2) (hcs : ∀ v ∈ st, mj_cv N v) (hd : decode cc pc = .ok (.ladd, n)) (h : mj_ev kon nL (.ladd) n pc l st = some (pc', l', st'))
    (kk : ∀ ls', lv_has ls' nL (mj_l ad l') → (∀ q ∈ l', mj_cv N q.2) → (∀ v ∈ st', mj_cv N v) → W p lc e R s m args below meth c H locs cells slots Q (F0 m pc' ls' (st'.map (mj_v ad)))) : W p lc e R s m args below meth c H locs cells slots Q (F0 m pc ls (st.map (mj_v ad))) := by
  unfold mj_ev at h
  dsimp only at h
  split at h
  next hn =>
    subst hn
    split at h
    next y x r =>
      cases h
      exact lv_ladd hx hb hd (kk ls hl hcl (fun v hv => by rcases List.mem_cons.mp hv with rfl | hv; trivial; exact hcs v (List.mem_cons_of_mem _ (List.mem_cons_of_mem _ hv))))
    next => cases h
  next => cases h

theorem mj_e_lsub {p : Program} {lc : Launch} {e : Env} {R : Room} {s : State} {m : MethodId} {args : Array Value} {below : List Frame} {meth : Method} {c : Code} {H : Heap} {locs : List Loc} {cells slots : Nat} {Q : State → Prop} {cc : ByteArray} {ls : Array Slot} {ad : Nat → Nat} {N : Nat} {own : String} {kon : List (Nat × Value)} {nL n pc pc' : Nat} {l l' : List (Nat × Value)} {st st' : List Value} (hx : p.tables.exec = Jvm.exec) (hb : c.code = cc) (hown : s.vm.findClass own = some m.cls) (hkon : ∀ i v, mj_lk kon i = some v → (∃ x, v = .int x ∧ (Jvm.Cond.constant own i x).before args s = true) ∨ ∃ x, v = .long x ∧ (Jvm.Cond.constantLong own i x).before args s = true)
    (hl : lv_has ls nL (mj_l ad l)) (hcl : ∀ q ∈ l, mj_cv N q.2) (hcs : ∀ v ∈ st, mj_cv N v) (hd : decode cc pc = .ok (.lsub, n)) (h : mj_ev kon nL (.lsub) n pc l st = some (pc', l', st'))
    (kk : ∀ ls', lv_has ls' nL (mj_l ad l') → (∀ q ∈ l', mj_cv N q.2) → (∀ v ∈ st', mj_cv N v) → W p lc e R s m args below meth c H locs cells slots Q (F0 m pc' ls' (st'.map (mj_v ad)))) : W p lc e R s m args below meth c H locs cells slots Q (F0 m pc ls (st.map (mj_v ad))) := by
  unfold mj_ev at h
  dsimp only at h
  split at h
  next hn =>
    subst hn
    split at h
    next y x r =>
      cases h
      exact lv_lsub hx hb hd (kk ls hl hcl (fun v hv => by rcases List.mem_cons.mp hv with rfl | hv; trivial; exact hcs v (List.mem_cons_of_mem _ (List.mem_cons_of_mem _ hv))))
    next => cases h
  next => cases h

theorem mj_e_lmul {p : Program} {lc : Launch} {e : Env} {R : Room} {s : State} {m : MethodId} {args : Array Value} {below : List Frame} {meth : Method} {c : Code} {H : Heap} {locs : List Loc} {cells slots : Nat} {Q : State → Prop} {cc : ByteArray} {ls : Array Slot} {ad : Nat → Nat} {N : Nat} {own : String} {kon : List (Nat × Value)} {nL n pc pc' : Nat} {l l' : List (Nat × Value)} {st st' : List Value} (hx : p.tables.exec = Jvm.exec) (hb : c.code = cc) (hown : s.vm.findClass own = some m.cls) (hkon : ∀ i v, mj_lk kon i = some v → (∃ x, v = .int x ∧ (Jvm.Cond.constant own i x).before args s = true) ∨ ∃ x, v = .long x ∧ (Jvm.Cond.constantLong own i x).before args s = true)
    (hl : lv_has ls nL (mj_l ad l)) (hcl : ∀ q ∈ l, mj_cv N q.2) (hcs : ∀ v ∈ st, mj_cv N v) (hd : decode cc pc = .ok (.lmul, n)) (h : mj_ev kon nL (.lmul) n pc l st = some (pc', l', st'))
    (kk : ∀ ls', lv_has ls' nL (mj_l ad l') → (∀ q ∈ l', mj_cv N q.2) → (∀ v ∈ st', mj_cv N v) → W p lc e R s m args below meth c H locs cells slots Q (F0 m pc' ls' (st'.map (mj_v ad)))) : W p lc e R s m args below meth c H locs cells slots Q (F0 m pc ls (st.map (mj_v ad))) := by
  unfold mj_ev at h
  dsimp only at h
  split at h
  next hn =>
    subst hn
    split at h
    next y x r =>
      cases h
      exact lv_lmul hx hb hd (kk ls hl hcl (fun v hv => by rcases List.mem_cons.mp hv with rfl | hv; trivial; exact hcs v (List.mem_cons_of_mem _ (List.mem_cons_of_mem _ hv))))
    next => cases h
  next => cases h

theorem mj_e_ishl {p : Program} {lc : Launch} {e : Env} {R : Room} {s : State} {m : MethodId} {args : Array Value} {below : List Frame} {meth : Method} {c : Code} {H : Heap} {locs : List Loc} {cells slots : Nat} {Q : State → Prop} {cc : ByteArray} {ls : Array Slot} {ad : Nat → Nat} {N : Nat} {own : String} {kon : List (Nat × Value)} {nL n pc pc' : Nat} {l l' : List (Nat × Value)} {st st' : List Value} (hx : p.tables.exec = Jvm.exec) (hb : c.code = cc) (hown : s.vm.findClass own = some m.cls) (hkon : ∀ i v, mj_lk kon i = some v → (∃ x, v = .int x ∧ (Jvm.Cond.constant own i x).before args s = true) ∨ ∃ x, v = .long x ∧ (Jvm.Cond.constantLong own i x).before args s = true)
    (hl : lv_has ls nL (mj_l ad l)) (hcl : ∀ q ∈ l, mj_cv N q.2) (hcs : ∀ v ∈ st, mj_cv N v) (hd : decode cc pc = .ok (.ishl, n)) (h : mj_ev kon nL (.ishl) n pc l st = some (pc', l', st'))
    (kk : ∀ ls', lv_has ls' nL (mj_l ad l') → (∀ q ∈ l', mj_cv N q.2) → (∀ v ∈ st', mj_cv N v) → W p lc e R s m args below meth c H locs cells slots Q (F0 m pc' ls' (st'.map (mj_v ad)))) : W p lc e R s m args below meth c H locs cells slots Q (F0 m pc ls (st.map (mj_v ad))) := by
  unfold mj_ev at h
  dsimp only at h
  split at h
  next hn =>
    subst hn
    split at h
    next y x r =>
      cases h
      exact lv_ishl hx hb hd (kk ls hl hcl (fun v hv => by rcases List.mem_cons.mp hv with rfl | hv; trivial; exact hcs v (List.mem_cons_of_mem _ (List.mem_cons_of_mem _ hv))))
    next => cases h
  next => cases h

theorem mj_e_ishr {p : Program} {lc : Launch} {e : Env} {R : Room} {s : State} {m : MethodId} {args : Array Value} {below : List Frame} {meth : Method} {c : Code} {H : Heap} {locs : List Loc} {cells slots : Nat} {Q : State → Prop} {cc : ByteArray} {ls : Array Slot} {ad : Nat → Nat} {N : Nat} {own : String} {kon : List (Nat × Value)} {nL n pc pc' : Nat} {l l' : List (Nat × Value)} {st st' : List Value} (hx : p.tables.exec = Jvm.exec) (hb : c.code = cc) (hown : s.vm.findClass own = some m.cls) (hkon : ∀ i v, mj_lk kon i = some v → (∃ x, v = .int x ∧ (Jvm.Cond.constant own i x).before args s = true) ∨ ∃ x, v = .long x ∧ (Jvm.Cond.constantLong own i x).before args s = true)
    (hl : lv_has ls nL (mj_l ad l)) (hcl : ∀ q ∈ l, mj_cv N q.2) (hcs : ∀ v ∈ st, mj_cv N v) (hd : decode cc pc = .ok (.ishr, n)) (h : mj_ev kon nL (.ishr) n pc l st = some (pc', l', st'))
    (kk : ∀ ls', lv_has ls' nL (mj_l ad l') → (∀ q ∈ l', mj_cv N q.2) → (∀ v ∈ st', mj_cv N v) → W p lc e R s m args below meth c H locs cells slots Q (F0 m pc' ls' (st'.map (mj_v ad)))) : W p lc e R s m args below meth c H locs cells slots Q (F0 m pc ls (st.map (mj_v ad))) := by
  unfold mj_ev at h
  dsimp only at h
  split at h
  next hn =>
    subst hn
    split at h
    next y x r =>
      cases h
      exact lv_ishr hx hb hd (kk ls hl hcl (fun v hv => by rcases List.mem_cons.mp hv with rfl | hv; trivial; exact hcs v (List.mem_cons_of_mem _ (List.mem_cons_of_mem _ hv))))
    next => cases h
  next => cases h

theorem mj_e_iushr {p : Program} {lc : Launch} {e : Env} {R : Room} {s : State} {m : MethodId} {args : Array Value} {below : List Frame} {meth : Method} {c : Code} {H : Heap} {locs : List Loc} {cells slots : Nat} {Q : State → Prop} {cc : ByteArray} {ls : Array Slot} {ad : Nat → Nat} {N : Nat} {own : String} {kon : List (Nat × Value)} {nL n pc pc' : Nat} {l l' : List (Nat × Value)} {st st' : List Value} (hx : p.tables.exec = Jvm.exec) (hb : c.code = cc) (hown : s.vm.findClass own = some m.cls) (hkon : ∀ i v, mj_lk kon i = some v → (∃ x, v = .int x ∧ (Jvm.Cond.constant own i x).before args s = true) ∨ ∃ x, v = .long x ∧ (Jvm.Cond.constantLong own i x).before args s = true)
    (hl : lv_has ls nL (mj_l ad l)) (hcl : ∀ q ∈ l, mj_cv N q.2) (hcs : ∀ v ∈ st, mj_cv N v) (hd : decode cc pc = .ok (.iushr, n)) (h : mj_ev kon nL (.iushr) n pc l st = some (pc', l', st'))
    (kk : ∀ ls', lv_has ls' nL (mj_l ad l') → (∀ q ∈ l', mj_cv N q.2) → (∀ v ∈ st', mj_cv N v) → W p lc e R s m args below meth c H locs cells slots Q (F0 m pc' ls' (st'.map (mj_v ad)))) : W p lc e R s m args below meth c H locs cells slots Q (F0 m pc ls (st.map (mj_v ad))) := by
  unfold mj_ev at h
  dsimp only at h
  split at h
  next hn =>
    subst hn
    split at h
    next y x r =>
      cases h
      exact lv_iushr hx hb hd rfl (kk ls hl hcl (fun v hv => by rcases List.mem_cons.mp hv with rfl | hv; trivial; exact hcs v (List.mem_cons_of_mem _ (List.mem_cons_of_mem _ hv))))
    next => cases h
  next => cases h

theorem mj_e_i2l {p : Program} {lc : Launch} {e : Env} {R : Room} {s : State} {m : MethodId} {args : Array Value} {below : List Frame} {meth : Method} {c : Code} {H : Heap} {locs : List Loc} {cells slots : Nat} {Q : State → Prop} {cc : ByteArray} {ls : Array Slot} {ad : Nat → Nat} {N : Nat} {own : String} {kon : List (Nat × Value)} {nL n pc pc' : Nat} {l l' : List (Nat × Value)} {st st' : List Value} (hx : p.tables.exec = Jvm.exec) (hb : c.code = cc) (hown : s.vm.findClass own = some m.cls) (hkon : ∀ i v, mj_lk kon i = some v → (∃ x, v = .int x ∧ (Jvm.Cond.constant own i x).before args s = true) ∨ ∃ x, v = .long x ∧ (Jvm.Cond.constantLong own i x).before args s = true)
    (hl : lv_has ls nL (mj_l ad l)) (hcl : ∀ q ∈ l, mj_cv N q.2) (hcs : ∀ v ∈ st, mj_cv N v) (hd : decode cc pc = .ok (.i2l, n)) (h : mj_ev kon nL (.i2l) n pc l st = some (pc', l', st'))
    (kk : ∀ ls', lv_has ls' nL (mj_l ad l') → (∀ q ∈ l', mj_cv N q.2) → (∀ v ∈ st', mj_cv N v) → W p lc e R s m args below meth c H locs cells slots Q (F0 m pc' ls' (st'.map (mj_v ad)))) : W p lc e R s m args below meth c H locs cells slots Q (F0 m pc ls (st.map (mj_v ad))) := by
  unfold mj_ev at h
  dsimp only at h
  split at h
  next hn =>
    subst hn
    split at h
    next x r =>
      cases h
      exact lv_i2l hx hb hd rfl (kk ls hl hcl (fun v hv => by rcases List.mem_cons.mp hv with rfl | hv; trivial; exact hcs v (List.mem_cons_of_mem _ hv)))
    next => cases h
  next => cases h

theorem mj_e_l2i {p : Program} {lc : Launch} {e : Env} {R : Room} {s : State} {m : MethodId} {args : Array Value} {below : List Frame} {meth : Method} {c : Code} {H : Heap} {locs : List Loc} {cells slots : Nat} {Q : State → Prop} {cc : ByteArray} {ls : Array Slot} {ad : Nat → Nat} {N : Nat} {own : String} {kon : List (Nat × Value)} {nL n pc pc' : Nat} {l l' : List (Nat × Value)} {st st' : List Value} (hx : p.tables.exec = Jvm.exec) (hb : c.code = cc) (hown : s.vm.findClass own = some m.cls) (hkon : ∀ i v, mj_lk kon i = some v → (∃ x, v = .int x ∧ (Jvm.Cond.constant own i x).before args s = true) ∨ ∃ x, v = .long x ∧ (Jvm.Cond.constantLong own i x).before args s = true)
    (hl : lv_has ls nL (mj_l ad l)) (hcl : ∀ q ∈ l, mj_cv N q.2) (hcs : ∀ v ∈ st, mj_cv N v) (hd : decode cc pc = .ok (.l2i, n)) (h : mj_ev kon nL (.l2i) n pc l st = some (pc', l', st'))
    (kk : ∀ ls', lv_has ls' nL (mj_l ad l') → (∀ q ∈ l', mj_cv N q.2) → (∀ v ∈ st', mj_cv N v) → W p lc e R s m args below meth c H locs cells slots Q (F0 m pc' ls' (st'.map (mj_v ad)))) : W p lc e R s m args below meth c H locs cells slots Q (F0 m pc ls (st.map (mj_v ad))) := by
  unfold mj_ev at h
  dsimp only at h
  split at h
  next hn =>
    subst hn
    split at h
    next x r =>
      cases h
      exact lv_l2i hx hb hd rfl (kk ls hl hcl (fun v hv => by rcases List.mem_cons.mp hv with rfl | hv; trivial; exact hcs v (List.mem_cons_of_mem _ hv)))
    next => cases h
  next => cases h

theorem mj_e_i2c {p : Program} {lc : Launch} {e : Env} {R : Room} {s : State} {m : MethodId} {args : Array Value} {below : List Frame} {meth : Method} {c : Code} {H : Heap} {locs : List Loc} {cells slots : Nat} {Q : State → Prop} {cc : ByteArray} {ls : Array Slot} {ad : Nat → Nat} {N : Nat} {own : String} {kon : List (Nat × Value)} {nL n pc pc' : Nat} {l l' : List (Nat × Value)} {st st' : List Value} (hx : p.tables.exec = Jvm.exec) (hb : c.code = cc) (hown : s.vm.findClass own = some m.cls) (hkon : ∀ i v, mj_lk kon i = some v → (∃ x, v = .int x ∧ (Jvm.Cond.constant own i x).before args s = true) ∨ ∃ x, v = .long x ∧ (Jvm.Cond.constantLong own i x).before args s = true)
    (hl : lv_has ls nL (mj_l ad l)) (hcl : ∀ q ∈ l, mj_cv N q.2) (hcs : ∀ v ∈ st, mj_cv N v) (hd : decode cc pc = .ok (.i2c, n)) (h : mj_ev kon nL (.i2c) n pc l st = some (pc', l', st'))
    (kk : ∀ ls', lv_has ls' nL (mj_l ad l') → (∀ q ∈ l', mj_cv N q.2) → (∀ v ∈ st', mj_cv N v) → W p lc e R s m args below meth c H locs cells slots Q (F0 m pc' ls' (st'.map (mj_v ad)))) : W p lc e R s m args below meth c H locs cells slots Q (F0 m pc ls (st.map (mj_v ad))) := by
  unfold mj_ev at h
  dsimp only at h
  split at h
  next hn =>
    subst hn
    split at h
    next x r =>
      cases h
      exact lv_i2c hx hb hd rfl (kk ls hl hcl (fun v hv => by rcases List.mem_cons.mp hv with rfl | hv; trivial; exact hcs v (List.mem_cons_of_mem _ hv)))
    next => cases h
  next => cases h

theorem mj_e_ineg {p : Program} {lc : Launch} {e : Env} {R : Room} {s : State} {m : MethodId} {args : Array Value} {below : List Frame} {meth : Method} {c : Code} {H : Heap} {locs : List Loc} {cells slots : Nat} {Q : State → Prop} {cc : ByteArray} {ls : Array Slot} {ad : Nat → Nat} {N : Nat} {own : String} {kon : List (Nat × Value)} {nL n pc pc' : Nat} {l l' : List (Nat × Value)} {st st' : List Value} (hx : p.tables.exec = Jvm.exec) (hb : c.code = cc) (hown : s.vm.findClass own = some m.cls) (hkon : ∀ i v, mj_lk kon i = some v → (∃ x, v = .int x ∧ (Jvm.Cond.constant own i x).before args s = true) ∨ ∃ x, v = .long x ∧ (Jvm.Cond.constantLong own i x).before args s = true)
    (hl : lv_has ls nL (mj_l ad l)) (hcl : ∀ q ∈ l, mj_cv N q.2) (hcs : ∀ v ∈ st, mj_cv N v) (hd : decode cc pc = .ok (.ineg, n)) (h : mj_ev kon nL (.ineg) n pc l st = some (pc', l', st'))
    (kk : ∀ ls', lv_has ls' nL (mj_l ad l') → (∀ q ∈ l', mj_cv N q.2) → (∀ v ∈ st', mj_cv N v) → W p lc e R s m args below meth c H locs cells slots Q (F0 m pc' ls' (st'.map (mj_v ad)))) : W p lc e R s m args below meth c H locs cells slots Q (F0 m pc ls (st.map (mj_v ad))) := by
  unfold mj_ev at h
  dsimp only at h
  split at h
  next hn =>
    subst hn
    split at h
    next x r =>
      cases h
      exact lv_ineg hx hb hd (kk ls hl hcl (fun v hv => by rcases List.mem_cons.mp hv with rfl | hv; trivial; exact hcs v (List.mem_cons_of_mem _ hv)))
    next => cases h
  next => cases h

theorem mj_e_dup {p : Program} {lc : Launch} {e : Env} {R : Room} {s : State} {m : MethodId} {args : Array Value} {below : List Frame} {meth : Method} {c : Code} {H : Heap} {locs : List Loc} {cells slots : Nat} {Q : State → Prop} {cc : ByteArray} {ls : Array Slot} {ad : Nat → Nat} {N : Nat} {own : String} {kon : List (Nat × Value)} {nL n pc pc' : Nat} {l l' : List (Nat × Value)} {st st' : List Value} (hx : p.tables.exec = Jvm.exec) (hb : c.code = cc) (hown : s.vm.findClass own = some m.cls) (hkon : ∀ i v, mj_lk kon i = some v → (∃ x, v = .int x ∧ (Jvm.Cond.constant own i x).before args s = true) ∨ ∃ x, v = .long x ∧ (Jvm.Cond.constantLong own i x).before args s = true)
    (hl : lv_has ls nL (mj_l ad l)) (hcl : ∀ q ∈ l, mj_cv N q.2) (hcs : ∀ v ∈ st, mj_cv N v) (hd : decode cc pc = .ok (.dup, n)) (h : mj_ev kon nL (.dup) n pc l st = some (pc', l', st'))
    (kk : ∀ ls', lv_has ls' nL (mj_l ad l') → (∀ q ∈ l', mj_cv N q.2) → (∀ v ∈ st', mj_cv N v) → W p lc e R s m args below meth c H locs cells slots Q (F0 m pc' ls' (st'.map (mj_v ad)))) : W p lc e R s m args below meth c H locs cells slots Q (F0 m pc ls (st.map (mj_v ad))) := by
  unfold mj_ev at h
  dsimp only at h
  split at h
  next hn =>
    subst hn
    split at h
    next v r =>
      split at h
      next hc1 =>
        cases h
        exact lv_dup hx hb hd (by rw [mj_v_cat]; exact hc1) (kk ls hl hcl (fun w hw => by rcases List.mem_cons.mp hw with rfl | hw; exact hcs _ List.mem_cons_self; exact hcs w hw))
      next => cases h
    next => cases h
  next => cases h

theorem mj_e_pop {p : Program} {lc : Launch} {e : Env} {R : Room} {s : State} {m : MethodId} {args : Array Value} {below : List Frame} {meth : Method} {c : Code} {H : Heap} {locs : List Loc} {cells slots : Nat} {Q : State → Prop} {cc : ByteArray} {ls : Array Slot} {ad : Nat → Nat} {N : Nat} {own : String} {kon : List (Nat × Value)} {nL n pc pc' : Nat} {l l' : List (Nat × Value)} {st st' : List Value} (hx : p.tables.exec = Jvm.exec) (hb : c.code = cc) (hown : s.vm.findClass own = some m.cls) (hkon : ∀ i v, mj_lk kon i = some v → (∃ x, v = .int x ∧ (Jvm.Cond.constant own i x).before args s = true) ∨ ∃ x, v = .long x ∧ (Jvm.Cond.constantLong own i x).before args s = true)
    (hl : lv_has ls nL (mj_l ad l)) (hcl : ∀ q ∈ l, mj_cv N q.2) (hcs : ∀ v ∈ st, mj_cv N v) (hd : decode cc pc = .ok (.pop, n)) (h : mj_ev kon nL (.pop) n pc l st = some (pc', l', st'))
    (kk : ∀ ls', lv_has ls' nL (mj_l ad l') → (∀ q ∈ l', mj_cv N q.2) → (∀ v ∈ st', mj_cv N v) → W p lc e R s m args below meth c H locs cells slots Q (F0 m pc' ls' (st'.map (mj_v ad)))) : W p lc e R s m args below meth c H locs cells slots Q (F0 m pc ls (st.map (mj_v ad))) := by
  unfold mj_ev at h
  dsimp only at h
  split at h
  next hn =>
    subst hn
    split at h
    next v r =>
      split at h
      next hc1 =>
        cases h
        exact lv_pop hx hb hd (by rw [mj_v_cat]; exact hc1) (kk ls hl hcl (fun w hw => hcs w (List.mem_cons_of_mem _ hw)))
      next => cases h
    next => cases h
  next => cases h

theorem mj_e_pop2 {p : Program} {lc : Launch} {e : Env} {R : Room} {s : State} {m : MethodId} {args : Array Value} {below : List Frame} {meth : Method} {c : Code} {H : Heap} {locs : List Loc} {cells slots : Nat} {Q : State → Prop} {cc : ByteArray} {ls : Array Slot} {ad : Nat → Nat} {N : Nat} {own : String} {kon : List (Nat × Value)} {nL n pc pc' : Nat} {l l' : List (Nat × Value)} {st st' : List Value} (hx : p.tables.exec = Jvm.exec) (hb : c.code = cc) (hown : s.vm.findClass own = some m.cls) (hkon : ∀ i v, mj_lk kon i = some v → (∃ x, v = .int x ∧ (Jvm.Cond.constant own i x).before args s = true) ∨ ∃ x, v = .long x ∧ (Jvm.Cond.constantLong own i x).before args s = true)
    (hl : lv_has ls nL (mj_l ad l)) (hcl : ∀ q ∈ l, mj_cv N q.2) (hcs : ∀ v ∈ st, mj_cv N v) (hd : decode cc pc = .ok (.pop2, n)) (h : mj_ev kon nL (.pop2) n pc l st = some (pc', l', st'))
    (kk : ∀ ls', lv_has ls' nL (mj_l ad l') → (∀ q ∈ l', mj_cv N q.2) → (∀ v ∈ st', mj_cv N v) → W p lc e R s m args below meth c H locs cells slots Q (F0 m pc' ls' (st'.map (mj_v ad)))) : W p lc e R s m args below meth c H locs cells slots Q (F0 m pc ls (st.map (mj_v ad))) := by
  unfold mj_ev at h
  dsimp only at h
  split at h
  next hn =>
    subst hn
    split at h
    next v r =>
      split at h
      next hc1 =>
        cases h
        exact lv_pop2_2 hx hb hd (by rw [mj_v_cat]; exact hc1) (kk ls hl hcl (fun w hw => hcs w (List.mem_cons_of_mem _ hw)))
      next => cases h
    next => cases h
  next => cases h

theorem mj_e_dup2 {p : Program} {lc : Launch} {e : Env} {R : Room} {s : State} {m : MethodId} {args : Array Value} {below : List Frame} {meth : Method} {c : Code} {H : Heap} {locs : List Loc} {cells slots : Nat} {Q : State → Prop} {cc : ByteArray} {ls : Array Slot} {ad : Nat → Nat} {N : Nat} {own : String} {kon : List (Nat × Value)} {nL n pc pc' : Nat} {l l' : List (Nat × Value)} {st st' : List Value} (hx : p.tables.exec = Jvm.exec) (hb : c.code = cc) (hown : s.vm.findClass own = some m.cls) (hkon : ∀ i v, mj_lk kon i = some v → (∃ x, v = .int x ∧ (Jvm.Cond.constant own i x).before args s = true) ∨ ∃ x, v = .long x ∧ (Jvm.Cond.constantLong own i x).before args s = true)
    (hl : lv_has ls nL (mj_l ad l)) (hcl : ∀ q ∈ l, mj_cv N q.2) (hcs : ∀ v ∈ st, mj_cv N v) (hd : decode cc pc = .ok (.dup2, n)) (h : mj_ev kon nL (.dup2) n pc l st = some (pc', l', st'))
    (kk : ∀ ls', lv_has ls' nL (mj_l ad l') → (∀ q ∈ l', mj_cv N q.2) → (∀ v ∈ st', mj_cv N v) → W p lc e R s m args below meth c H locs cells slots Q (F0 m pc' ls' (st'.map (mj_v ad)))) : W p lc e R s m args below meth c H locs cells slots Q (F0 m pc ls (st.map (mj_v ad))) := by
  unfold mj_ev at h
  dsimp only at h
  split at h
  next hn =>
    subst hn
    split at h
    next v r =>
      split at h
      next hc1 =>
        cases h
        exact lv_dup2_2 hx hb hd (by rw [mj_v_cat]; exact hc1) (kk ls hl hcl (fun w hw => by rcases List.mem_cons.mp hw with rfl | hw; exact hcs _ List.mem_cons_self; exact hcs w hw))
      next hc1 =>
        split at h
        next w q =>
          split at h
          next hc2 =>
            cases h
            have hv1 : v.category = 1 := (lv_cat v).resolve_right hc1
            exact lv_dup2_11 hx hb hd (by rw [mj_v_cat]; exact hv1) (by rw [mj_v_cat]; exact hc2) (kk ls hl hcl (fun z hz => by
              rcases List.mem_cons.mp hz with rfl | hz
              · exact hcs _ List.mem_cons_self
              · rcases List.mem_cons.mp hz with rfl | hz
                · exact hcs _ (List.mem_cons_of_mem _ List.mem_cons_self)
                · exact hcs z hz))
          next => cases h
        next => cases h
    next => cases h
  next => cases h

theorem mj_e_goto {p : Program} {lc : Launch} {e : Env} {R : Room} {s : State} {m : MethodId} {args : Array Value} {below : List Frame} {meth : Method} {c : Code} {H : Heap} {locs : List Loc} {cells slots : Nat} {Q : State → Prop} {cc : ByteArray} {ls : Array Slot} {ad : Nat → Nat} {N : Nat} {own : String} {kon : List (Nat × Value)} {nL n pc pc' : Nat} {l l' : List (Nat × Value)} {st st' : List Value} {off : Int} (hx : p.tables.exec = Jvm.exec) (hb : c.code = cc) (hown : s.vm.findClass own = some m.cls) (hkon : ∀ i v, mj_lk kon i = some v → (∃ x, v = .int x ∧ (Jvm.Cond.constant own i x).before args s = true) ∨ ∃ x, v = .long x ∧ (Jvm.Cond.constantLong own i x).before args s = true)
    (hl : lv_has ls nL (mj_l ad l)) (hcl : ∀ q ∈ l, mj_cv N q.2) (hcs : ∀ v ∈ st, mj_cv N v) (hd : decode cc pc = .ok (.goto off, n)) (h : mj_ev kon nL (.goto off) n pc l st = some (pc', l', st'))
    (kk : ∀ ls', lv_has ls' nL (mj_l ad l') → (∀ q ∈ l', mj_cv N q.2) → (∀ v ∈ st', mj_cv N v) → W p lc e R s m args below meth c H locs cells slots Q (F0 m pc' ls' (st'.map (mj_v ad)))) : W p lc e R s m args below meth c H locs cells slots Q (F0 m pc ls (st.map (mj_v ad))) := by
  unfold mj_ev at h
  dsimp only at h
  split at h
  next hn =>
    subst hn
    split at h
    next t ht =>
      cases h
      exact lv_goto hx hb hd ht (kk ls hl hcl hcs)
    next => cases h
  next => cases h

theorem mj_e_ldc {p : Program} {lc : Launch} {e : Env} {R : Room} {s : State} {m : MethodId} {args : Array Value} {below : List Frame} {meth : Method} {c : Code} {H : Heap} {locs : List Loc} {cells slots : Nat} {Q : State → Prop} {cc : ByteArray} {ls : Array Slot} {ad : Nat → Nat} {N : Nat} {own : String} {kon : List (Nat × Value)} {nL n pc pc' : Nat} {l l' : List (Nat × Value)} {st st' : List Value} {k : Nat} (hx : p.tables.exec = Jvm.exec) (hb : c.code = cc) (hown : s.vm.findClass own = some m.cls) (hkon : ∀ i v, mj_lk kon i = some v → (∃ x, v = .int x ∧ (Jvm.Cond.constant own i x).before args s = true) ∨ ∃ x, v = .long x ∧ (Jvm.Cond.constantLong own i x).before args s = true)
    (hl : lv_has ls nL (mj_l ad l)) (hcl : ∀ q ∈ l, mj_cv N q.2) (hcs : ∀ v ∈ st, mj_cv N v) (hd : decode cc pc = .ok (.ldc k, n)) (h : mj_ev kon nL (.ldc k) n pc l st = some (pc', l', st'))
    (kk : ∀ ls', lv_has ls' nL (mj_l ad l') → (∀ q ∈ l', mj_cv N q.2) → (∀ v ∈ st', mj_cv N v) → W p lc e R s m args below meth c H locs cells slots Q (F0 m pc' ls' (st'.map (mj_v ad)))) : W p lc e R s m args below meth c H locs cells slots Q (F0 m pc ls (st.map (mj_v ad))) := by
  unfold mj_ev at h
  dsimp only at h
  split at h
  next hn =>
    subst hn
    split at h
    next x hg =>
      cases h
      have hk : (Jvm.Cond.constant own k x).before args s = true := by
        rcases hkon _ _ hg with ⟨y, h1, h2⟩ | ⟨y, h1, h2⟩
        all_goals (cases h1; try exact h2)
      exact lv_ldc hx hb hown hk hd (kk ls hl hcl (fun v hv => by rcases List.mem_cons.mp hv with rfl | hv; trivial; exact hcs v hv))
    next => cases h
  next => cases h

theorem mj_e_ldc_w {p : Program} {lc : Launch} {e : Env} {R : Room} {s : State} {m : MethodId} {args : Array Value} {below : List Frame} {meth : Method} {c : Code} {H : Heap} {locs : List Loc} {cells slots : Nat} {Q : State → Prop} {cc : ByteArray} {ls : Array Slot} {ad : Nat → Nat} {N : Nat} {own : String} {kon : List (Nat × Value)} {nL n pc pc' : Nat} {l l' : List (Nat × Value)} {st st' : List Value} {k : Nat} (hx : p.tables.exec = Jvm.exec) (hb : c.code = cc) (hown : s.vm.findClass own = some m.cls) (hkon : ∀ i v, mj_lk kon i = some v → (∃ x, v = .int x ∧ (Jvm.Cond.constant own i x).before args s = true) ∨ ∃ x, v = .long x ∧ (Jvm.Cond.constantLong own i x).before args s = true)
    (hl : lv_has ls nL (mj_l ad l)) (hcl : ∀ q ∈ l, mj_cv N q.2) (hcs : ∀ v ∈ st, mj_cv N v) (hd : decode cc pc = .ok (.ldc_w k, n)) (h : mj_ev kon nL (.ldc_w k) n pc l st = some (pc', l', st'))
    (kk : ∀ ls', lv_has ls' nL (mj_l ad l') → (∀ q ∈ l', mj_cv N q.2) → (∀ v ∈ st', mj_cv N v) → W p lc e R s m args below meth c H locs cells slots Q (F0 m pc' ls' (st'.map (mj_v ad)))) : W p lc e R s m args below meth c H locs cells slots Q (F0 m pc ls (st.map (mj_v ad))) := by
  unfold mj_ev at h
  dsimp only at h
  split at h
  next hn =>
    subst hn
    split at h
    next x hg =>
      cases h
      have hk : (Jvm.Cond.constant own k x).before args s = true := by
        rcases hkon _ _ hg with ⟨y, h1, h2⟩ | ⟨y, h1, h2⟩
        all_goals (cases h1; try exact h2)
      exact lv_ldcw hx hb hown hk hd (kk ls hl hcl (fun v hv => by rcases List.mem_cons.mp hv with rfl | hv; trivial; exact hcs v hv))
    next => cases h
  next => cases h

theorem mj_e_ldc2_w {p : Program} {lc : Launch} {e : Env} {R : Room} {s : State} {m : MethodId} {args : Array Value} {below : List Frame} {meth : Method} {c : Code} {H : Heap} {locs : List Loc} {cells slots : Nat} {Q : State → Prop} {cc : ByteArray} {ls : Array Slot} {ad : Nat → Nat} {N : Nat} {own : String} {kon : List (Nat × Value)} {nL n pc pc' : Nat} {l l' : List (Nat × Value)} {st st' : List Value} {k : Nat} (hx : p.tables.exec = Jvm.exec) (hb : c.code = cc) (hown : s.vm.findClass own = some m.cls) (hkon : ∀ i v, mj_lk kon i = some v → (∃ x, v = .int x ∧ (Jvm.Cond.constant own i x).before args s = true) ∨ ∃ x, v = .long x ∧ (Jvm.Cond.constantLong own i x).before args s = true)
    (hl : lv_has ls nL (mj_l ad l)) (hcl : ∀ q ∈ l, mj_cv N q.2) (hcs : ∀ v ∈ st, mj_cv N v) (hd : decode cc pc = .ok (.ldc2_w k, n)) (h : mj_ev kon nL (.ldc2_w k) n pc l st = some (pc', l', st'))
    (kk : ∀ ls', lv_has ls' nL (mj_l ad l') → (∀ q ∈ l', mj_cv N q.2) → (∀ v ∈ st', mj_cv N v) → W p lc e R s m args below meth c H locs cells slots Q (F0 m pc' ls' (st'.map (mj_v ad)))) : W p lc e R s m args below meth c H locs cells slots Q (F0 m pc ls (st.map (mj_v ad))) := by
  unfold mj_ev at h
  dsimp only at h
  split at h
  next hn =>
    subst hn
    split at h
    next x hg =>
      cases h
      have hk : (Jvm.Cond.constantLong own k x).before args s = true := by
        rcases hkon _ _ hg with ⟨y, h1, h2⟩ | ⟨y, h1, h2⟩
        all_goals (cases h1; try exact h2)
      exact lv_ldc2 hx hb hown hk hd (kk ls hl hcl (fun v hv => by rcases List.mem_cons.mp hv with rfl | hv; trivial; exact hcs v hv))
    next => cases h
  next => cases h

theorem mj_ev_W {p : Program} {lc : Launch} {e : Env} {R : Room} {s : State} {m : MethodId} {args : Array Value} {below : List Frame} {meth : Method} {c : Code} {H : Heap} {locs : List Loc} {cells slots : Nat} {Q : State → Prop} {cc : ByteArray} {ls : Array Slot} {ad : Nat → Nat} {N : Nat} {own : String} {kon : List (Nat × Value)} {nL n pc pc' : Nat} {i : Instr} {l l' : List (Nat × Value)} {st st' : List Value} (hx : p.tables.exec = Jvm.exec) (hb : c.code = cc) (hown : s.vm.findClass own = some m.cls) (hkon : ∀ i v, mj_lk kon i = some v → (∃ x, v = .int x ∧ (Jvm.Cond.constant own i x).before args s = true) ∨ ∃ x, v = .long x ∧ (Jvm.Cond.constantLong own i x).before args s = true)
    (hl : lv_has ls nL (mj_l ad l)) (hcl : ∀ q ∈ l, mj_cv N q.2) (hcs : ∀ v ∈ st, mj_cv N v) (hd : decode cc pc = .ok (i, n)) (h : mj_ev kon nL i n pc l st = some (pc', l', st'))
    (kk : ∀ ls', lv_has ls' nL (mj_l ad l') → (∀ q ∈ l', mj_cv N q.2) → (∀ v ∈ st', mj_cv N v) → W p lc e R s m args below meth c H locs cells slots Q (F0 m pc' ls' (st'.map (mj_v ad)))) : W p lc e R s m args below meth c H locs cells slots Q (F0 m pc ls (st.map (mj_v ad))) := by
  cases i
  case iconst z => exact mj_e_iconst hx hb hown hkon hl hcl hcs hd h kk
  case bipush z => exact mj_e_bipush hx hb hown hkon hl hcl hcs hd h kk
  case sipush z => exact mj_e_sipush hx hb hown hkon hl hcl hcs hd h kk
  case lconst z => exact mj_e_lconst hx hb hown hkon hl hcl hcs hd h kk
  case iload_n k => exact mj_e_iload_n hx hb hown hkon hl hcl hcs hd h kk
  case iload k => exact mj_e_iload hx hb hown hkon hl hcl hcs hd h kk
  case lload_n k => exact mj_e_lload_n hx hb hown hkon hl hcl hcs hd h kk
  case lload k => exact mj_e_lload hx hb hown hkon hl hcl hcs hd h kk
  case aload_n k => exact mj_e_aload_n hx hb hown hkon hl hcl hcs hd h kk
  case aload k => exact mj_e_aload hx hb hown hkon hl hcl hcs hd h kk
  case istore_n k => exact mj_e_istore_n hx hb hown hkon hl hcl hcs hd h kk
  case istore k => exact mj_e_istore hx hb hown hkon hl hcl hcs hd h kk
  case astore_n k => exact mj_e_astore_n hx hb hown hkon hl hcl hcs hd h kk
  case astore k => exact mj_e_astore hx hb hown hkon hl hcl hcs hd h kk
  case lstore_n k => exact mj_e_lstore_n hx hb hown hkon hl hcl hcs hd h kk
  case lstore k => exact mj_e_lstore hx hb hown hkon hl hcl hcs hd h kk
  case iinc k z => exact mj_e_iinc hx hb hown hkon hl hcl hcs hd h kk
  case iadd => exact mj_e_iadd hx hb hown hkon hl hcl hcs hd h kk
  case isub => exact mj_e_isub hx hb hown hkon hl hcl hcs hd h kk
  case imul => exact mj_e_imul hx hb hown hkon hl hcl hcs hd h kk
  case iand => exact mj_e_iand hx hb hown hkon hl hcl hcs hd h kk
  case ior => exact mj_e_ior hx hb hown hkon hl hcl hcs hd h kk
  case ixor => exact mj_e_ixor hx hb hown hkon hl hcl hcs hd h kk
  case ladd => exact mj_e_ladd hx hb hown hkon hl hcl hcs hd h kk
  case lsub => exact mj_e_lsub hx hb hown hkon hl hcl hcs hd h kk
  case lmul => exact mj_e_lmul hx hb hown hkon hl hcl hcs hd h kk
  case ishl => exact mj_e_ishl hx hb hown hkon hl hcl hcs hd h kk
  case ishr => exact mj_e_ishr hx hb hown hkon hl hcl hcs hd h kk
  case iushr => exact mj_e_iushr hx hb hown hkon hl hcl hcs hd h kk
  case i2l => exact mj_e_i2l hx hb hown hkon hl hcl hcs hd h kk
  case l2i => exact mj_e_l2i hx hb hown hkon hl hcl hcs hd h kk
  case i2c => exact mj_e_i2c hx hb hown hkon hl hcl hcs hd h kk
  case ineg => exact mj_e_ineg hx hb hown hkon hl hcl hcs hd h kk
  case dup => exact mj_e_dup hx hb hown hkon hl hcl hcs hd h kk
  case pop => exact mj_e_pop hx hb hown hkon hl hcl hcs hd h kk
  case pop2 => exact mj_e_pop2 hx hb hown hkon hl hcl hcs hd h kk
  case dup2 => exact mj_e_dup2 hx hb hown hkon hl hcl hcs hd h kk
  case goto off => exact mj_e_goto hx hb hown hkon hl hcl hcs hd h kk
  case ldc k => exact mj_e_ldc hx hb hown hkon hl hcl hcs hd h kk
  case ldc_w k => exact mj_e_ldc_w hx hb hown hkon hl hcl hcs hd h kk
  case ldc2_w k => exact mj_e_ldc2_w hx hb hown hkon hl hcl hcs hd h kk
  all_goals (cases h)

def mj_evs (kon : List (Nat × Value)) (nL : Nat) : List (Nat × Instr × Nat) → Nat → List (Nat × Value) → List Value → Option (Nat × List (Nat × Value) × List Value)
  | [], pc, l, st => some (pc, l, st)
  | q :: r, pc, l, st => match Nat.beq q.1 pc with
    | true => (match mj_ev kon nL q.2.1 q.2.2 pc l st with
      | some z => mj_evs kon nL r z.1 z.2.1 z.2.2
      | none => none)
    | false => none
theorem mj_evs_W {p : Program} {lc : Launch} {e : Env} {R : Room} {s : State} {m : MethodId} {args : Array Value} {below : List Frame} {meth : Method} {c : Code} {H : Heap} {locs : List Loc} {cells slots : Nat} {Q : State → Prop} {cc : ByteArray} {ad : Nat → Nat} {N : Nat} {own : String} {kon : List (Nat × Value)} {nL : Nat} (hx : p.tables.exec = Jvm.exec) (hb : c.code = cc) (hown : s.vm.findClass own = some m.cls) (hkon : ∀ i v, mj_lk kon i = some v → (∃ x, v = .int x ∧ (Jvm.Cond.constant own i x).before args s = true) ∨ ∃ x, v = .long x ∧ (Jvm.Cond.constantLong own i x).before args s = true) {pc' : Nat} {l' : List (Nat × Value)} {st' : List Value}
    (kk : ∀ ls', lv_has ls' nL (mj_l ad l') → (∀ q ∈ l', mj_cv N q.2) → (∀ v ∈ st', mj_cv N v) → W p lc e R s m args below meth c H locs cells slots Q (F0 m pc' ls' (st'.map (mj_v ad)))) : ∀ (b : List (Nat × Instr × Nat)) (pc : Nat) (l : List (Nat × Value)) (st : List Value) (ls : Array Slot), (∀ q ∈ b, decode cc q.1 = .ok q.2) → mj_evs kon nL b pc l st = some (pc', l', st') → lv_has ls nL (mj_l ad l) → (∀ q ∈ l, mj_cv N q.2) → (∀ v ∈ st, mj_cv N v) → W p lc e R s m args below meth c H locs cells slots Q (F0 m pc ls (st.map (mj_v ad)))
  | [], pc, l, st, ls, hb2, h, hl, hcl, hcs => by
    cases h
    exact kk ls hl hcl hcs
  | q :: r, pc, l, st, ls, hb2, h, hl, hcl, hcs => by
    unfold mj_evs at h
    split at h
    next e =>
      have e := Nat.eq_of_beq_eq_true e
      split at h
      next z hz =>
        have hd : decode cc pc = .ok (q.2.1, q.2.2) := by rw [← e]; exact hb2 q List.mem_cons_self
        exact mj_ev_W hx hb hown hkon hl hcl hcs hd (pc' := z.1) (l' := z.2.1) (st' := z.2.2) hz (fun ls' hl' hcl' hcs' => mj_evs_W hx hb hown hkon kk r z.1 z.2.1 z.2.2 ls' (fun w hw => hb2 w (List.mem_cons_of_mem _ hw)) h hl' hcl' hcs')
      next => cases h
    next => cases h
/-- a class's constants -/
def mj_KO (own : String) (kon : List (Nat × Value)) : Prop := ∀ i v, mj_lk kon i = some v → (∃ x, v = .int x ∧ Jvm.Cond.constant own i x ∈ mj_G) ∨ ∃ x, v = .long x ∧ Jvm.Cond.constantLong own i x ∈ mj_G
/-- a block of pure instructions: b of them, from the a-th of the table on -/
theorem mj_blk {M : mj_M} {Fin : mj_F} {pc : Nat} {l : List (Nat × Value)} {st : List Value} {h : mj_H} {k n : Nat} {kon : List (Nat × Value)} (hkon : mj_KO M.1.cls kon) (a b : Nat) {pc' : Nat} {l' : List (Nat × Value)} {st' : List Value} (hev : mj_evs kon M.2.2.1 ((M.2.2.2.2.2.drop a).take b) pc l st = some (pc', l', st')) (kk : mj_W M Fin pc' l' st' h k n) : mj_W M Fin pc l st h k n := by
  intro p lc e s m args below meth c H locs ls A Q dC dI cy ad ad0 n0 CX I hl hcl hcs hag hn hz hret
  have CX' := CX
  obtain ⟨hx, hb, hml, hr, hown, hts, hlk, hnm, hN, hT⟩ := CX
  exact mj_evs_W hx hb hown (fun i v hv => (hkon i v hv).imp (fun ⟨x, h1, h2⟩ => ⟨x, h1, hts _ h2⟩) (fun ⟨x, h1, h2⟩ => ⟨x, h1, hts _ h2⟩)) (fun ls' hl' hcl' hcs' => kk p lc e s m args below meth c H locs ls' A Q dC dI cy ad ad0 n0 CX' I hl' hcl' hcs' hag hn hz hret) _ pc l st ls (fun q hq => hT q (List.mem_of_mem_drop (List.mem_of_mem_take hq))) hev hl hcl hcs
end
section
/-! rules: branches -/
theorem mj_dec {cc : ByteArray} {t : List (Nat × Instr × Nat)} (hT : ∀ q ∈ t, decode cc q.1 = .ok q.2) {a pc len : Nat} {i : Instr} (h : t[a]? = some (pc, i, len)) : decode cc pc = .ok (i, len) := hT (pc, i, len) (List.mem_of_getElem? h)
theorem mj_tl {n : Nat} {v : Value} {st : List Value} (h : ∀ w ∈ v :: st, mj_cv n w) : ∀ w ∈ st, mj_cv n w := fun w hw => h w (List.mem_cons_of_mem _ hw)
theorem mj_cs {n : Nat} {v : Value} {st : List Value} (hv : mj_cv n v) (h : ∀ w ∈ st, mj_cv n w) : ∀ w ∈ v :: st, mj_cv n w := fun w hw => (List.mem_cons.mp hw).elim (fun e => e ▸ hv) (h w)
theorem mj_if_eq {M : mj_M} {Fin : mj_F} {pc : Nat} {l : List (Nat × Value)} {st : List Value} {h : mj_H} {k n : Nat} {x : Int32} (a : Nat) {off : Int} (tgt : Nat) (ha : M.2.2.2.2.2[a]? = some (pc, .ifCond .eq off, 3)) (ht : (pc : Int) + off = (tgt : Int)) (kt : x = 0 → mj_W M Fin tgt l st h k n) (kf : ¬ x = 0 → mj_W M Fin (pc + 3) l st h k n) : mj_W M Fin pc l (.int x :: st) h k n := by
  intro p lc e s m args below meth c H locs ls A Q dC dI cy ad ad0 n0 CX I hl hcl hcs hag hn hzz hret
  have CX' := CX
  have I' := I
  obtain ⟨hx, hb, hml, hr, hown, hts, hlk, hnm, hN, hT⟩ := CX
  obtain ⟨hK, hA, hR, hP, hD, hS, hch⟩ := I
  exact lv_if_eq hx hb (mj_dec hT ha) ht (fun q => kt q p lc e s m args below meth c H locs ls A Q dC dI cy ad ad0 n0 CX' I' hl hcl (mj_tl hcs) hag hn hzz hret) (fun q => kf q p lc e s m args below meth c H locs ls A Q dC dI cy ad ad0 n0 CX' I' hl hcl (mj_tl hcs) hag hn hzz hret)
theorem mj_if_ne {M : mj_M} {Fin : mj_F} {pc : Nat} {l : List (Nat × Value)} {st : List Value} {h : mj_H} {k n : Nat} {x : Int32} (a : Nat) {off : Int} (tgt : Nat) (ha : M.2.2.2.2.2[a]? = some (pc, .ifCond .ne off, 3)) (ht : (pc : Int) + off = (tgt : Int)) (kt : ¬ x = 0 → mj_W M Fin tgt l st h k n) (kf : x = 0 → mj_W M Fin (pc + 3) l st h k n) : mj_W M Fin pc l (.int x :: st) h k n := by
  intro p lc e s m args below meth c H locs ls A Q dC dI cy ad ad0 n0 CX I hl hcl hcs hag hn hzz hret
  have CX' := CX
  have I' := I
  obtain ⟨hx, hb, hml, hr, hown, hts, hlk, hnm, hN, hT⟩ := CX
  obtain ⟨hK, hA, hR, hP, hD, hS, hch⟩ := I
  exact lv_if_ne hx hb (mj_dec hT ha) ht (fun q => kt q p lc e s m args below meth c H locs ls A Q dC dI cy ad ad0 n0 CX' I' hl hcl (mj_tl hcs) hag hn hzz hret) (fun q => kf q p lc e s m args below meth c H locs ls A Q dC dI cy ad ad0 n0 CX' I' hl hcl (mj_tl hcs) hag hn hzz hret)
theorem mj_if_lt {M : mj_M} {Fin : mj_F} {pc : Nat} {l : List (Nat × Value)} {st : List Value} {h : mj_H} {k n : Nat} {x : Int32} (a : Nat) {off : Int} (tgt : Nat) (ha : M.2.2.2.2.2[a]? = some (pc, .ifCond .lt off, 3)) (ht : (pc : Int) + off = (tgt : Int)) (kt : x < 0 → mj_W M Fin tgt l st h k n) (kf : ¬ x < 0 → mj_W M Fin (pc + 3) l st h k n) : mj_W M Fin pc l (.int x :: st) h k n := by
  intro p lc e s m args below meth c H locs ls A Q dC dI cy ad ad0 n0 CX I hl hcl hcs hag hn hzz hret
  have CX' := CX
  have I' := I
  obtain ⟨hx, hb, hml, hr, hown, hts, hlk, hnm, hN, hT⟩ := CX
  obtain ⟨hK, hA, hR, hP, hD, hS, hch⟩ := I
  exact lv_if_lt hx hb (mj_dec hT ha) ht (fun q => kt q p lc e s m args below meth c H locs ls A Q dC dI cy ad ad0 n0 CX' I' hl hcl (mj_tl hcs) hag hn hzz hret) (fun q => kf q p lc e s m args below meth c H locs ls A Q dC dI cy ad ad0 n0 CX' I' hl hcl (mj_tl hcs) hag hn hzz hret)
theorem mj_if_ge {M : mj_M} {Fin : mj_F} {pc : Nat} {l : List (Nat × Value)} {st : List Value} {h : mj_H} {k n : Nat} {x : Int32} (a : Nat) {off : Int} (tgt : Nat) (ha : M.2.2.2.2.2[a]? = some (pc, .ifCond .ge off, 3)) (ht : (pc : Int) + off = (tgt : Int)) (kt : 0 ≤ x → mj_W M Fin tgt l st h k n) (kf : ¬ 0 ≤ x → mj_W M Fin (pc + 3) l st h k n) : mj_W M Fin pc l (.int x :: st) h k n := by
  intro p lc e s m args below meth c H locs ls A Q dC dI cy ad ad0 n0 CX I hl hcl hcs hag hn hzz hret
  have CX' := CX
  have I' := I
  obtain ⟨hx, hb, hml, hr, hown, hts, hlk, hnm, hN, hT⟩ := CX
  obtain ⟨hK, hA, hR, hP, hD, hS, hch⟩ := I
  exact lv_if_ge hx hb (mj_dec hT ha) ht (fun q => kt q p lc e s m args below meth c H locs ls A Q dC dI cy ad ad0 n0 CX' I' hl hcl (mj_tl hcs) hag hn hzz hret) (fun q => kf q p lc e s m args below meth c H locs ls A Q dC dI cy ad ad0 n0 CX' I' hl hcl (mj_tl hcs) hag hn hzz hret)
theorem mj_if_gt {M : mj_M} {Fin : mj_F} {pc : Nat} {l : List (Nat × Value)} {st : List Value} {h : mj_H} {k n : Nat} {x : Int32} (a : Nat) {off : Int} (tgt : Nat) (ha : M.2.2.2.2.2[a]? = some (pc, .ifCond .gt off, 3)) (ht : (pc : Int) + off = (tgt : Int)) (kt : 0 < x → mj_W M Fin tgt l st h k n) (kf : ¬ 0 < x → mj_W M Fin (pc + 3) l st h k n) : mj_W M Fin pc l (.int x :: st) h k n := by
  intro p lc e s m args below meth c H locs ls A Q dC dI cy ad ad0 n0 CX I hl hcl hcs hag hn hzz hret
  have CX' := CX
  have I' := I
  obtain ⟨hx, hb, hml, hr, hown, hts, hlk, hnm, hN, hT⟩ := CX
  obtain ⟨hK, hA, hR, hP, hD, hS, hch⟩ := I
  exact lv_if_gt hx hb (mj_dec hT ha) ht (fun q => kt q p lc e s m args below meth c H locs ls A Q dC dI cy ad ad0 n0 CX' I' hl hcl (mj_tl hcs) hag hn hzz hret) (fun q => kf q p lc e s m args below meth c H locs ls A Q dC dI cy ad ad0 n0 CX' I' hl hcl (mj_tl hcs) hag hn hzz hret)
theorem mj_if_le {M : mj_M} {Fin : mj_F} {pc : Nat} {l : List (Nat × Value)} {st : List Value} {h : mj_H} {k n : Nat} {x : Int32} (a : Nat) {off : Int} (tgt : Nat) (ha : M.2.2.2.2.2[a]? = some (pc, .ifCond .le off, 3)) (ht : (pc : Int) + off = (tgt : Int)) (kt : x ≤ 0 → mj_W M Fin tgt l st h k n) (kf : ¬ x ≤ 0 → mj_W M Fin (pc + 3) l st h k n) : mj_W M Fin pc l (.int x :: st) h k n := by
  intro p lc e s m args below meth c H locs ls A Q dC dI cy ad ad0 n0 CX I hl hcl hcs hag hn hzz hret
  have CX' := CX
  have I' := I
  obtain ⟨hx, hb, hml, hr, hown, hts, hlk, hnm, hN, hT⟩ := CX
  obtain ⟨hK, hA, hR, hP, hD, hS, hch⟩ := I
  exact lv_if_le hx hb (mj_dec hT ha) ht (fun q => kt q p lc e s m args below meth c H locs ls A Q dC dI cy ad ad0 n0 CX' I' hl hcl (mj_tl hcs) hag hn hzz hret) (fun q => kf q p lc e s m args below meth c H locs ls A Q dC dI cy ad ad0 n0 CX' I' hl hcl (mj_tl hcs) hag hn hzz hret)
theorem mj_icmp_eq {M : mj_M} {Fin : mj_F} {pc : Nat} {l : List (Nat × Value)} {st : List Value} {h : mj_H} {k n : Nat} {x y : Int32} (a : Nat) {off : Int} (tgt : Nat) (ha : M.2.2.2.2.2[a]? = some (pc, .if_icmp .eq off, 3)) (ht : (pc : Int) + off = (tgt : Int)) (kt : x = y → mj_W M Fin tgt l st h k n) (kf : ¬ x = y → mj_W M Fin (pc + 3) l st h k n) : mj_W M Fin pc l (.int y :: .int x :: st) h k n := by
  intro p lc e s m args below meth c H locs ls A Q dC dI cy ad ad0 n0 CX I hl hcl hcs hag hn hzz hret
  have CX' := CX
  have I' := I
  obtain ⟨hx, hb, hml, hr, hown, hts, hlk, hnm, hN, hT⟩ := CX
  obtain ⟨hK, hA, hR, hP, hD, hS, hch⟩ := I
  exact lv_icmp_eq hx hb (mj_dec hT ha) ht (fun q => kt q p lc e s m args below meth c H locs ls A Q dC dI cy ad ad0 n0 CX' I' hl hcl (mj_tl (mj_tl hcs)) hag hn hzz hret) (fun q => kf q p lc e s m args below meth c H locs ls A Q dC dI cy ad ad0 n0 CX' I' hl hcl (mj_tl (mj_tl hcs)) hag hn hzz hret)
theorem mj_icmp_ne {M : mj_M} {Fin : mj_F} {pc : Nat} {l : List (Nat × Value)} {st : List Value} {h : mj_H} {k n : Nat} {x y : Int32} (a : Nat) {off : Int} (tgt : Nat) (ha : M.2.2.2.2.2[a]? = some (pc, .if_icmp .ne off, 3)) (ht : (pc : Int) + off = (tgt : Int)) (kt : ¬ x = y → mj_W M Fin tgt l st h k n) (kf : x = y → mj_W M Fin (pc + 3) l st h k n) : mj_W M Fin pc l (.int y :: .int x :: st) h k n := by
  intro p lc e s m args below meth c H locs ls A Q dC dI cy ad ad0 n0 CX I hl hcl hcs hag hn hzz hret
  have CX' := CX
  have I' := I
  obtain ⟨hx, hb, hml, hr, hown, hts, hlk, hnm, hN, hT⟩ := CX
  obtain ⟨hK, hA, hR, hP, hD, hS, hch⟩ := I
  exact lv_icmp_ne hx hb (mj_dec hT ha) ht (fun q => kt q p lc e s m args below meth c H locs ls A Q dC dI cy ad ad0 n0 CX' I' hl hcl (mj_tl (mj_tl hcs)) hag hn hzz hret) (fun q => kf q p lc e s m args below meth c H locs ls A Q dC dI cy ad ad0 n0 CX' I' hl hcl (mj_tl (mj_tl hcs)) hag hn hzz hret)
theorem mj_icmp_lt {M : mj_M} {Fin : mj_F} {pc : Nat} {l : List (Nat × Value)} {st : List Value} {h : mj_H} {k n : Nat} {x y : Int32} (a : Nat) {off : Int} (tgt : Nat) (ha : M.2.2.2.2.2[a]? = some (pc, .if_icmp .lt off, 3)) (ht : (pc : Int) + off = (tgt : Int)) (kt : x < y → mj_W M Fin tgt l st h k n) (kf : ¬ x < y → mj_W M Fin (pc + 3) l st h k n) : mj_W M Fin pc l (.int y :: .int x :: st) h k n := by
  intro p lc e s m args below meth c H locs ls A Q dC dI cy ad ad0 n0 CX I hl hcl hcs hag hn hzz hret
  have CX' := CX
  have I' := I
  obtain ⟨hx, hb, hml, hr, hown, hts, hlk, hnm, hN, hT⟩ := CX
  obtain ⟨hK, hA, hR, hP, hD, hS, hch⟩ := I
  exact lv_icmp_lt hx hb (mj_dec hT ha) ht (fun q => kt q p lc e s m args below meth c H locs ls A Q dC dI cy ad ad0 n0 CX' I' hl hcl (mj_tl (mj_tl hcs)) hag hn hzz hret) (fun q => kf q p lc e s m args below meth c H locs ls A Q dC dI cy ad ad0 n0 CX' I' hl hcl (mj_tl (mj_tl hcs)) hag hn hzz hret)
theorem mj_icmp_ge {M : mj_M} {Fin : mj_F} {pc : Nat} {l : List (Nat × Value)} {st : List Value} {h : mj_H} {k n : Nat} {x y : Int32} (a : Nat) {off : Int} (tgt : Nat) (ha : M.2.2.2.2.2[a]? = some (pc, .if_icmp .ge off, 3)) (ht : (pc : Int) + off = (tgt : Int)) (kt : y ≤ x → mj_W M Fin tgt l st h k n) (kf : ¬ y ≤ x → mj_W M Fin (pc + 3) l st h k n) : mj_W M Fin pc l (.int y :: .int x :: st) h k n := by
  intro p lc e s m args below meth c H locs ls A Q dC dI cy ad ad0 n0 CX I hl hcl hcs hag hn hzz hret
  have CX' := CX
  have I' := I
  obtain ⟨hx, hb, hml, hr, hown, hts, hlk, hnm, hN, hT⟩ := CX
  obtain ⟨hK, hA, hR, hP, hD, hS, hch⟩ := I
  exact lv_icmp_ge hx hb (mj_dec hT ha) ht (fun q => kt q p lc e s m args below meth c H locs ls A Q dC dI cy ad ad0 n0 CX' I' hl hcl (mj_tl (mj_tl hcs)) hag hn hzz hret) (fun q => kf q p lc e s m args below meth c H locs ls A Q dC dI cy ad ad0 n0 CX' I' hl hcl (mj_tl (mj_tl hcs)) hag hn hzz hret)
theorem mj_icmp_gt {M : mj_M} {Fin : mj_F} {pc : Nat} {l : List (Nat × Value)} {st : List Value} {h : mj_H} {k n : Nat} {x y : Int32} (a : Nat) {off : Int} (tgt : Nat) (ha : M.2.2.2.2.2[a]? = some (pc, .if_icmp .gt off, 3)) (ht : (pc : Int) + off = (tgt : Int)) (kt : y < x → mj_W M Fin tgt l st h k n) (kf : ¬ y < x → mj_W M Fin (pc + 3) l st h k n) : mj_W M Fin pc l (.int y :: .int x :: st) h k n := by
  intro p lc e s m args below meth c H locs ls A Q dC dI cy ad ad0 n0 CX I hl hcl hcs hag hn hzz hret
  have CX' := CX
  have I' := I
  obtain ⟨hx, hb, hml, hr, hown, hts, hlk, hnm, hN, hT⟩ := CX
  obtain ⟨hK, hA, hR, hP, hD, hS, hch⟩ := I
  exact lv_icmp_gt hx hb (mj_dec hT ha) ht (fun q => kt q p lc e s m args below meth c H locs ls A Q dC dI cy ad ad0 n0 CX' I' hl hcl (mj_tl (mj_tl hcs)) hag hn hzz hret) (fun q => kf q p lc e s m args below meth c H locs ls A Q dC dI cy ad ad0 n0 CX' I' hl hcl (mj_tl (mj_tl hcs)) hag hn hzz hret)
theorem mj_icmp_le {M : mj_M} {Fin : mj_F} {pc : Nat} {l : List (Nat × Value)} {st : List Value} {h : mj_H} {k n : Nat} {x y : Int32} (a : Nat) {off : Int} (tgt : Nat) (ha : M.2.2.2.2.2[a]? = some (pc, .if_icmp .le off, 3)) (ht : (pc : Int) + off = (tgt : Int)) (kt : x ≤ y → mj_W M Fin tgt l st h k n) (kf : ¬ x ≤ y → mj_W M Fin (pc + 3) l st h k n) : mj_W M Fin pc l (.int y :: .int x :: st) h k n := by
  intro p lc e s m args below meth c H locs ls A Q dC dI cy ad ad0 n0 CX I hl hcl hcs hag hn hzz hret
  have CX' := CX
  have I' := I
  obtain ⟨hx, hb, hml, hr, hown, hts, hlk, hnm, hN, hT⟩ := CX
  obtain ⟨hK, hA, hR, hP, hD, hS, hch⟩ := I
  exact lv_icmp_le hx hb (mj_dec hT ha) ht (fun q => kt q p lc e s m args below meth c H locs ls A Q dC dI cy ad ad0 n0 CX' I' hl hcl (mj_tl (mj_tl hcs)) hag hn hzz hret) (fun q => kf q p lc e s m args below meth c H locs ls A Q dC dI cy ad ad0 n0 CX' I' hl hcl (mj_tl (mj_tl hcs)) hag hn hzz hret)
theorem mj_lcmp_eq {M : mj_M} {Fin : mj_F} {pc : Nat} {l : List (Nat × Value)} {st : List Value} {h : mj_H} {k n : Nat} {x y : Int64} (a : Nat) {off : Int} (tgt : Nat) (hc0 : M.2.2.2.2.2[a]? = some (pc, .lcmp, 1)) (ha : M.2.2.2.2.2[a + 1]? = some (pc + 1, .ifCond .eq off, 3)) (ht : ((pc + 1 : Nat) : Int) + off = (tgt : Int)) (kt : x = y → mj_W M Fin tgt l st h k n) (kf : ¬ x = y → mj_W M Fin (pc + 1 + 3) l st h k n) : mj_W M Fin pc l (.long y :: .long x :: st) h k n := by
  intro p lc e s m args below meth c H locs ls A Q dC dI cy ad ad0 n0 CX I hl hcl hcs hag hn hzz hret
  have CX' := CX
  have I' := I
  obtain ⟨hx, hb, hml, hr, hown, hts, hlk, hnm, hN, hT⟩ := CX
  obtain ⟨hK, hA, hR, hP, hD, hS, hch⟩ := I
  refine W.lcmp hx hb (mj_dec hT hc0) ?_
  exact lv_if_eq hx hb (mj_dec hT ha) ht (fun q => kt ((lg_cmp_eq x y).mp q) p lc e s m args below meth c H locs ls A Q dC dI cy ad ad0 n0 CX' I' hl hcl (mj_tl (mj_tl hcs)) hag hn hzz hret) (fun q => kf ((not_congr (lg_cmp_eq x y)).mp q) p lc e s m args below meth c H locs ls A Q dC dI cy ad ad0 n0 CX' I' hl hcl (mj_tl (mj_tl hcs)) hag hn hzz hret)
theorem mj_lcmp_ne {M : mj_M} {Fin : mj_F} {pc : Nat} {l : List (Nat × Value)} {st : List Value} {h : mj_H} {k n : Nat} {x y : Int64} (a : Nat) {off : Int} (tgt : Nat) (hc0 : M.2.2.2.2.2[a]? = some (pc, .lcmp, 1)) (ha : M.2.2.2.2.2[a + 1]? = some (pc + 1, .ifCond .ne off, 3)) (ht : ((pc + 1 : Nat) : Int) + off = (tgt : Int)) (kt : ¬ x = y → mj_W M Fin tgt l st h k n) (kf : x = y → mj_W M Fin (pc + 1 + 3) l st h k n) : mj_W M Fin pc l (.long y :: .long x :: st) h k n := by
  intro p lc e s m args below meth c H locs ls A Q dC dI cy ad ad0 n0 CX I hl hcl hcs hag hn hzz hret
  have CX' := CX
  have I' := I
  obtain ⟨hx, hb, hml, hr, hown, hts, hlk, hnm, hN, hT⟩ := CX
  obtain ⟨hK, hA, hR, hP, hD, hS, hch⟩ := I
  refine W.lcmp hx hb (mj_dec hT hc0) ?_
  exact lv_if_ne hx hb (mj_dec hT ha) ht (fun q => kt ((not_congr (lg_cmp_eq x y)).mp q) p lc e s m args below meth c H locs ls A Q dC dI cy ad ad0 n0 CX' I' hl hcl (mj_tl (mj_tl hcs)) hag hn hzz hret) (fun q => kf ((lg_cmp_eq x y).mp q) p lc e s m args below meth c H locs ls A Q dC dI cy ad ad0 n0 CX' I' hl hcl (mj_tl (mj_tl hcs)) hag hn hzz hret)
theorem mj_lcmp_lt {M : mj_M} {Fin : mj_F} {pc : Nat} {l : List (Nat × Value)} {st : List Value} {h : mj_H} {k n : Nat} {x y : Int64} (a : Nat) {off : Int} (tgt : Nat) (hc0 : M.2.2.2.2.2[a]? = some (pc, .lcmp, 1)) (ha : M.2.2.2.2.2[a + 1]? = some (pc + 1, .ifCond .lt off, 3)) (ht : ((pc + 1 : Nat) : Int) + off = (tgt : Int)) (kt : x < y → mj_W M Fin tgt l st h k n) (kf : ¬ x < y → mj_W M Fin (pc + 1 + 3) l st h k n) : mj_W M Fin pc l (.long y :: .long x :: st) h k n := by
  intro p lc e s m args below meth c H locs ls A Q dC dI cy ad ad0 n0 CX I hl hcl hcs hag hn hzz hret
  have CX' := CX
  have I' := I
  obtain ⟨hx, hb, hml, hr, hown, hts, hlk, hnm, hN, hT⟩ := CX
  obtain ⟨hK, hA, hR, hP, hD, hS, hch⟩ := I
  refine W.lcmp hx hb (mj_dec hT hc0) ?_
  exact lv_if_lt hx hb (mj_dec hT ha) ht (fun q => kt ((lg_cmp_lt x y).mp q) p lc e s m args below meth c H locs ls A Q dC dI cy ad ad0 n0 CX' I' hl hcl (mj_tl (mj_tl hcs)) hag hn hzz hret) (fun q => kf ((not_congr (lg_cmp_lt x y)).mp q) p lc e s m args below meth c H locs ls A Q dC dI cy ad ad0 n0 CX' I' hl hcl (mj_tl (mj_tl hcs)) hag hn hzz hret)
theorem mj_lcmp_ge {M : mj_M} {Fin : mj_F} {pc : Nat} {l : List (Nat × Value)} {st : List Value} {h : mj_H} {k n : Nat} {x y : Int64} (a : Nat) {off : Int} (tgt : Nat) (hc0 : M.2.2.2.2.2[a]? = some (pc, .lcmp, 1)) (ha : M.2.2.2.2.2[a + 1]? = some (pc + 1, .ifCond .ge off, 3)) (ht : ((pc + 1 : Nat) : Int) + off = (tgt : Int)) (kt : y ≤ x → mj_W M Fin tgt l st h k n) (kf : ¬ y ≤ x → mj_W M Fin (pc + 1 + 3) l st h k n) : mj_W M Fin pc l (.long y :: .long x :: st) h k n := by
  intro p lc e s m args below meth c H locs ls A Q dC dI cy ad ad0 n0 CX I hl hcl hcs hag hn hzz hret
  have CX' := CX
  have I' := I
  obtain ⟨hx, hb, hml, hr, hown, hts, hlk, hnm, hN, hT⟩ := CX
  obtain ⟨hK, hA, hR, hP, hD, hS, hch⟩ := I
  refine W.lcmp hx hb (mj_dec hT hc0) ?_
  exact lv_if_ge hx hb (mj_dec hT ha) ht (fun q => kt ((lg_cmp_ge x y).mp q) p lc e s m args below meth c H locs ls A Q dC dI cy ad ad0 n0 CX' I' hl hcl (mj_tl (mj_tl hcs)) hag hn hzz hret) (fun q => kf ((not_congr (lg_cmp_ge x y)).mp q) p lc e s m args below meth c H locs ls A Q dC dI cy ad ad0 n0 CX' I' hl hcl (mj_tl (mj_tl hcs)) hag hn hzz hret)
theorem mj_lcmp_gt {M : mj_M} {Fin : mj_F} {pc : Nat} {l : List (Nat × Value)} {st : List Value} {h : mj_H} {k n : Nat} {x y : Int64} (a : Nat) {off : Int} (tgt : Nat) (hc0 : M.2.2.2.2.2[a]? = some (pc, .lcmp, 1)) (ha : M.2.2.2.2.2[a + 1]? = some (pc + 1, .ifCond .gt off, 3)) (ht : ((pc + 1 : Nat) : Int) + off = (tgt : Int)) (kt : y < x → mj_W M Fin tgt l st h k n) (kf : ¬ y < x → mj_W M Fin (pc + 1 + 3) l st h k n) : mj_W M Fin pc l (.long y :: .long x :: st) h k n := by
  intro p lc e s m args below meth c H locs ls A Q dC dI cy ad ad0 n0 CX I hl hcl hcs hag hn hzz hret
  have CX' := CX
  have I' := I
  obtain ⟨hx, hb, hml, hr, hown, hts, hlk, hnm, hN, hT⟩ := CX
  obtain ⟨hK, hA, hR, hP, hD, hS, hch⟩ := I
  refine W.lcmp hx hb (mj_dec hT hc0) ?_
  exact lv_if_gt hx hb (mj_dec hT ha) ht (fun q => kt ((lg_cmp_gt x y).mp q) p lc e s m args below meth c H locs ls A Q dC dI cy ad ad0 n0 CX' I' hl hcl (mj_tl (mj_tl hcs)) hag hn hzz hret) (fun q => kf ((not_congr (lg_cmp_gt x y)).mp q) p lc e s m args below meth c H locs ls A Q dC dI cy ad ad0 n0 CX' I' hl hcl (mj_tl (mj_tl hcs)) hag hn hzz hret)
theorem mj_lcmp_le {M : mj_M} {Fin : mj_F} {pc : Nat} {l : List (Nat × Value)} {st : List Value} {h : mj_H} {k n : Nat} {x y : Int64} (a : Nat) {off : Int} (tgt : Nat) (hc0 : M.2.2.2.2.2[a]? = some (pc, .lcmp, 1)) (ha : M.2.2.2.2.2[a + 1]? = some (pc + 1, .ifCond .le off, 3)) (ht : ((pc + 1 : Nat) : Int) + off = (tgt : Int)) (kt : x ≤ y → mj_W M Fin tgt l st h k n) (kf : ¬ x ≤ y → mj_W M Fin (pc + 1 + 3) l st h k n) : mj_W M Fin pc l (.long y :: .long x :: st) h k n := by
  intro p lc e s m args below meth c H locs ls A Q dC dI cy ad ad0 n0 CX I hl hcl hcs hag hn hzz hret
  have CX' := CX
  have I' := I
  obtain ⟨hx, hb, hml, hr, hown, hts, hlk, hnm, hN, hT⟩ := CX
  obtain ⟨hK, hA, hR, hP, hD, hS, hch⟩ := I
  refine W.lcmp hx hb (mj_dec hT hc0) ?_
  exact lv_if_le hx hb (mj_dec hT ha) ht (fun q => kt ((lg_cmp_le x y).mp q) p lc e s m args below meth c H locs ls A Q dC dI cy ad ad0 n0 CX' I' hl hcl (mj_tl (mj_tl hcs)) hag hn hzz hret) (fun q => kf ((not_congr (lg_cmp_le x y)).mp q) p lc e s m args below meth c H locs ls A Q dC dI cy ad ad0 n0 CX' I' hl hcl (mj_tl (mj_tl hcs)) hag hn hzz hret)
theorem mj_ifnull {M : mj_M} {Fin : mj_F} {pc : Nat} {l : List (Nat × Value)} {st : List Value} {h : mj_H} {k n : Nat} {b : Nat} (a : Nat) {off : Int} (ha : M.2.2.2.2.2[a]? = some (pc, .ifnull off, 3)) (kk : mj_W M Fin (pc + 3) l st h k n) : mj_W M Fin pc l (.ref b :: st) h k n := by
  intro p lc e s m args below meth c H locs ls A Q dC dI cy ad ad0 n0 CX I hl hcl hcs hag hn hzz hret
  have CX' := CX
  have I' := I
  obtain ⟨hx, hb, hml, hr, hown, hts, hlk, hnm, hN, hT⟩ := CX
  obtain ⟨hK, hA, hR, hP, hD, hS, hch⟩ := I
  exact lv_ifnull hx hb (mj_dec hT ha) (kk p lc e s m args below meth c H locs ls A Q dC dI cy ad ad0 n0 CX' I' hl hcl (mj_tl hcs) hag hn hzz hret)
theorem mj_ifnonnull {M : mj_M} {Fin : mj_F} {pc : Nat} {l : List (Nat × Value)} {st : List Value} {h : mj_H} {k n : Nat} {b : Nat} (a : Nat) {off : Int} (tgt : Nat) (ha : M.2.2.2.2.2[a]? = some (pc, .ifnonnull off, 3)) (ht : (pc : Int) + off = (tgt : Int)) (kk : mj_W M Fin tgt l st h k n) : mj_W M Fin pc l (.ref b :: st) h k n := by
  intro p lc e s m args below meth c H locs ls A Q dC dI cy ad ad0 n0 CX I hl hcl hcs hag hn hzz hret
  have CX' := CX
  have I' := I
  obtain ⟨hx, hb, hml, hr, hown, hts, hlk, hnm, hN, hT⟩ := CX
  obtain ⟨hK, hA, hR, hP, hD, hS, hch⟩ := I
  exact lv_ifnonnull hx hb (mj_dec hT ha) ht (kk p lc e s m args below meth c H locs ls A Q dC dI cy ad ad0 n0 CX' I' hl hcl (mj_tl hcs) hag hn hzz hret)
theorem mj_swIn {M : mj_M} {Fin : mj_F} {pc : Nat} {l : List (Nat × Value)} {st : List Value} {h : mj_H} {k n : Nat} {x : Int32} (a : Nat) {df lo hi : Int} {offs : Array Int} {len : Nat} (z : Int32) {off : Int} (tgt : Nat) (hz : x = z) (ha : M.2.2.2.2.2[a]? = some (pc, .tableswitch df lo hi offs, len)) (h1 : ¬ z.toInt < lo) (h2 : ¬ hi < z.toInt) (ho : offs[(z.toInt - lo).toNat]? = some off) (ht : (pc : Int) + off = (tgt : Int)) (kk : mj_W M Fin tgt l st h k n) : mj_W M Fin pc l (.int x :: st) h k n := by
  intro p lc e s m args below meth c H locs ls A Q dC dI cy ad ad0 n0 CX I hl hcl hcs hag hn hzz hret
  have CX' := CX
  have I' := I
  obtain ⟨hx, hb, hml, hr, hown, hts, hlk, hnm, hN, hT⟩ := CX
  obtain ⟨hK, hA, hR, hP, hD, hS, hch⟩ := I
  subst hz
  exact lv_tableIn hx hb (mj_dec hT ha) h1 h2 ho ht (kk p lc e s m args below meth c H locs ls A Q dC dI cy ad ad0 n0 CX' I' hl hcl (mj_tl hcs) hag hn hzz hret)
theorem mj_swOut {M : mj_M} {Fin : mj_F} {pc : Nat} {l : List (Nat × Value)} {st : List Value} {h : mj_H} {k n : Nat} {x : Int32} (a : Nat) {df lo hi : Int} {offs : Array Int} {len : Nat} (tgt : Nat) (ha : M.2.2.2.2.2[a]? = some (pc, .tableswitch df lo hi offs, len)) (hz : x.toInt < lo ∨ hi < x.toInt) (ht : (pc : Int) + df = (tgt : Int)) (kk : mj_W M Fin tgt l st h k n) : mj_W M Fin pc l (.int x :: st) h k n := by
  intro p lc e s m args below meth c H locs ls A Q dC dI cy ad ad0 n0 CX I hl hcl hcs hag hn hzz hret
  have CX' := CX
  have I' := I
  obtain ⟨hx, hb, hml, hr, hown, hts, hlk, hnm, hN, hT⟩ := CX
  obtain ⟨hK, hA, hR, hP, hD, hS, hch⟩ := I
  exact lv_tableOut hx hb (mj_dec hT ha) hz ht (kk p lc e s m args below meth c H locs ls A Q dC dI cy ad ad0 n0 CX' I' hl hcl (mj_tl hcs) hag hn hzz hret)
theorem mj_neI {x z : Int32} {i : Int} (hi : z.toInt = i) (h : ¬ x = z) : x.toInt ≠ i := fun e => h (Int32.toInt_inj.mp (e.trans hi.symm))
theorem mj_idiv {M : mj_M} {Fin : mj_F} {pc : Nat} {l : List (Nat × Value)} {st : List Value} {h : mj_H} {k n : Nat} {x y : Int32} (a : Nat) (ha : M.2.2.2.2.2[a]? = some (pc, .idiv, 1)) (hy : ¬ y = 0) (kk : mj_W M Fin (pc + 1) l (.int (x / y) :: st) h k n) : mj_W M Fin pc l (.int y :: .int x :: st) h k n := by
  intro p lc e s m args below meth c H locs ls A Q dC dI cy ad ad0 n0 CX I hl hcl hcs hag hn hzz hret
  have CX' := CX
  have I' := I
  obtain ⟨hx, hb, hml, hr, hown, hts, hlk, hnm, hN, hT⟩ := CX
  obtain ⟨hK, hA, hR, hP, hD, hS, hch⟩ := I
  exact lv_idiv hx hb (mj_dec hT ha) hy (kk p lc e s m args below meth c H locs ls A Q dC dI cy ad ad0 n0 CX' I' hl hcl (mj_cs trivial (mj_tl (mj_tl hcs))) hag hn hzz hret)
theorem mj_irem {M : mj_M} {Fin : mj_F} {pc : Nat} {l : List (Nat × Value)} {st : List Value} {h : mj_H} {k n : Nat} {x y : Int32} (a : Nat) (ha : M.2.2.2.2.2[a]? = some (pc, .irem, 1)) (hy : ¬ y = 0) (kk : mj_W M Fin (pc + 1) l (.int (x - x / y * y) :: st) h k n) : mj_W M Fin pc l (.int y :: .int x :: st) h k n := by
  intro p lc e s m args below meth c H locs ls A Q dC dI cy ad ad0 n0 CX I hl hcl hcs hag hn hzz hret
  have CX' := CX
  have I' := I
  obtain ⟨hx, hb, hml, hr, hown, hts, hlk, hnm, hN, hT⟩ := CX
  obtain ⟨hK, hA, hR, hP, hD, hS, hch⟩ := I
  exact lv_irem hx hb (mj_dec hT ha) hy (kk p lc e s m args below meth c H locs ls A Q dC dI cy ad ad0 n0 CX' I' hl hcl (mj_cs trivial (mj_tl (mj_tl hcs))) hag hn hzz hret)
theorem mj_ldiv {M : mj_M} {Fin : mj_F} {pc : Nat} {l : List (Nat × Value)} {st : List Value} {h : mj_H} {k n : Nat} {x y : Int64} (a : Nat) (ha : M.2.2.2.2.2[a]? = some (pc, .ldiv, 1)) (hy : ¬ y = 0) (kk : mj_W M Fin (pc + 1) l (.long (x / y) :: st) h k n) : mj_W M Fin pc l (.long y :: .long x :: st) h k n := by
  intro p lc e s m args below meth c H locs ls A Q dC dI cy ad ad0 n0 CX I hl hcl hcs hag hn hzz hret
  have CX' := CX
  have I' := I
  obtain ⟨hx, hb, hml, hr, hown, hts, hlk, hnm, hN, hT⟩ := CX
  obtain ⟨hK, hA, hR, hP, hD, hS, hch⟩ := I
  exact lv_ldiv hx hb (mj_dec hT ha) hy (kk p lc e s m args below meth c H locs ls A Q dC dI cy ad ad0 n0 CX' I' hl hcl (mj_cs trivial (mj_tl (mj_tl hcs))) hag hn hzz hret)
theorem mj_lrem {M : mj_M} {Fin : mj_F} {pc : Nat} {l : List (Nat × Value)} {st : List Value} {h : mj_H} {k n : Nat} {x y : Int64} (a : Nat) (ha : M.2.2.2.2.2[a]? = some (pc, .lrem, 1)) (hy : ¬ y = 0) (kk : mj_W M Fin (pc + 1) l (.long (x - x / y * y) :: st) h k n) : mj_W M Fin pc l (.long y :: .long x :: st) h k n := by
  intro p lc e s m args below meth c H locs ls A Q dC dI cy ad ad0 n0 CX I hl hcl hcs hag hn hzz hret
  have CX' := CX
  have I' := I
  obtain ⟨hx, hb, hml, hr, hown, hts, hlk, hnm, hN, hT⟩ := CX
  obtain ⟨hK, hA, hR, hP, hD, hS, hch⟩ := I
  exact lv_lrem hx hb (mj_dec hT ha) hy (kk p lc e s m args below meth c H locs ls A Q dC dI cy ad ad0 n0 CX' I' hl hcl (mj_cs trivial (mj_tl (mj_tl hcs))) hag hn hzz hret)
end
section
/-! rules: fields -/
def mj_FL (own : String) (idx ci fk : Nat) : Prop := ∃ (C : String) (T : u_T) (N : Nat), vwCl[ci]? = some (C, T, N) ∧ fk < N ∧ (∀ w ∈ u_ws C T N, w ∈ mj_G) ∧ (Jvm.Cond.fieldLink own idx (T fk).1 (T fk).2.1 (T fk).2.2.1 ∈ mj_G ∨ ∃ host, Jvm.Cond.fieldLinkNest own idx (T fk).1 (T fk).2.1 (T fk).2.2.1 host ∈ mj_N)
def mj_FP (own name : String) (idx ci fk : Nat) (ty : FieldType) : Prop := ∃ (C : String) (T : u_T) (N : Nat) (ty0 : Nat → FieldType), vwCl[ci]? = some (C, T, N) ∧ fk < N ∧ (∀ w ∈ u_ws C T N, w ∈ mj_G) ∧ (∀ k, k < N → parseFieldDescriptor (T k).2.2.1 = some (ty0 k)) ∧ (∀ a, a < N → ∀ b, b < N → a ≠ b → (T a).2.1 ≠ (T b).2.1) ∧ ty0 fk = ty ∧
  (((T fk).2.2.2 = false ∧ (Jvm.Cond.fieldLink own idx (T fk).1 (T fk).2.1 (T fk).2.2.1 ∈ mj_G ∨ ∃ host, Jvm.Cond.fieldLinkNest own idx (T fk).1 (T fk).2.1 (T fk).2.2.1 host ∈ mj_N)) ∨ ((T fk).2.2.2 = true ∧ name = "<init>" ∧ (T fk).1 = own ∧ Jvm.Cond.fieldLink own idx (T fk).1 (T fk).2.1 (T fk).2.2.1 ∈ mj_G))
def mj_gV (h : mj_H) (b ci fk : Nat) : Option Value := match h[b]? with
  | some (.inr q) => if q.1 = ci then q.2[fk]? else none
  | _ => none
def mj_gI (h : mj_H) (b ci fk : Nat) : Option Int32 := match mj_gV h b ci fk with
  | some (.int x) => some x
  | _ => none
def mj_gJ (h : mj_H) (b ci fk : Nat) : Option Int64 := match mj_gV h b ci fk with
  | some (.long x) => some x
  | _ => none
def mj_gR (h : mj_H) (b ci fk : Nat) : Option Nat := match mj_gV h b ci fk with
  | some (.ref x) => some x
  | _ => none
theorem mj_gI_V {h : mj_H} {b ci fk : Nat} {x : Int32} (e : mj_gI h b ci fk = some x) : mj_gV h b ci fk = some (.int x) := by
  unfold mj_gI at e
  split at e
  next y hy => cases e; exact hy
  next => cases e
theorem mj_gJ_V {h : mj_H} {b ci fk : Nat} {x : Int64} (e : mj_gJ h b ci fk = some x) : mj_gV h b ci fk = some (.long x) := by
  unfold mj_gJ at e
  split at e
  next y hy => cases e; exact hy
  next => cases e
theorem mj_gR_V {h : mj_H} {b ci fk : Nat} {x : Nat} (e : mj_gR h b ci fk = some x) : mj_gV h b ci fk = some (.ref x) := by
  unfold mj_gR at e
  split at e
  next y hy => cases e; exact hy
  next => cases e
theorem mj_gV_at {h : mj_H} {b ci fk : Nat} {v : Value} (e : mj_gV h b ci fk = some v) : ∃ fs : List Value, h[b]? = some (.inr (ci, fs)) ∧ fs[fk]? = some v := by
  unfold mj_gV at e
  split at e
  next q hq =>
    split at e
    next hc => exact ⟨q.2, by rw [hq, ← hc], e⟩
    next => cases e
  next => cases e
def mj_sV (h : mj_H) (b ci fk : Nat) (v : Value) : Option mj_H := match h[b]? with
  | some (.inr q) => if q.1 = ci then (if fk < q.2.length then some (h.set b (.inr (ci, q.2.set fk v))) else none) else none
  | _ => none
theorem mj_sV_at {h h' : mj_H} {b ci fk : Nat} {v : Value} (e : mj_sV h b ci fk v = some h') : ∃ fs : List Value, h[b]? = some (.inr (ci, fs)) ∧ fk < fs.length ∧ h' = h.set b (.inr (ci, fs.set fk v)) := by
  unfold mj_sV at e
  split at e
  next q hq =>
    split at e
    next hc =>
      split at e
      next hl => cases e; exact ⟨q.2, by rw [hq, ← hc], hl, rfl⟩
      next => cases e
    next => cases e
  next => cases e
theorem mj_gV_c {h : mj_H} (hch : mj_ch h) {b ci fk : Nat} {v : Value} (e : mj_gV h b ci fk = some v) : mj_cv h.length v := by
  obtain ⟨fs, h1, h2⟩ := mj_gV_at e
  exact hch.2 _ (List.mem_of_getElem? h1) v (List.mem_of_getElem? h2)
theorem mj_get {M : mj_M} {Fin : mj_F} {pc : Nat} {l : List (Nat × Value)} {st : List Value} {h : mj_H} {k n : Nat} {b ci fk idx : Nat} {v : Value} (a : Nat) (ha : M.2.2.2.2.2[a]? = some (pc, .getfield idx, 3)) (hf : mj_FL M.1.cls idx ci fk) (hv : mj_gV h b ci fk = some v) (kk : mj_W M Fin (pc + 3) l (v :: st) h k n) : mj_W M Fin pc l (.ref b :: st) h k n := by
  intro p lc e s m args below meth c H locs ls A Q dC dI cy ad ad0 n0 CX I hl hcl hcs hag hn hzz hret
  have CX' := CX
  have I' := I
  obtain ⟨hx, hb, hml, hr, hown, hts, hlk, hnm, hN, hT⟩ := CX
  obtain ⟨hK, hA, hR, hP, hD, hS, hch⟩ := I
  obtain ⟨C, T, N, f1, f2, f3, f4⟩ := hf
  obtain ⟨fs, h1, h2⟩ := mj_gV_at hv
  have hw := mj_w_get cy ad h1
  have hv2 : (fs.map (mj_v ad))[fk]? = some (mj_v ad v) := by rw [List.getElem?_map, h2]; rfl
  have hvc := mj_gV_c hch hv
  rcases f4 with f4 | ⟨host, f4⟩
  · exact va_get hx hb hts f3 hown hK hP b hw f1 fk f2 (hts _ f4) (fun _ q => q) hv2 (mj_dec hT ha) (kk p lc e s m args below meth c H locs ls A Q dC dI cy ad ad0 n0 CX' I' hl hcl (mj_cs hvc (mj_tl hcs)) hag hn hzz hret)
  · exact va_getN hx hb hts f3 hown hK hP b hw f1 fk f2 (va_Nw.use rfl (hN _ f4)) (fun _ q => q) hv2 (mj_dec hT ha) (kk p lc e s m args below meth c H locs ls A Q dC dI cy ad ad0 n0 CX' I' hl hcl (mj_cs hvc (mj_tl hcs)) hag hn hzz hret)
theorem mj_put {M : mj_M} {Fin : mj_F} {pc : Nat} {l : List (Nat × Value)} {st : List Value} {h : mj_H} {k n : Nat} {b ci fk idx : Nat} {v : Value} {ty : FieldType} {h' : mj_H} (a : Nat) (ha : M.2.2.2.2.2[a]? = some (pc, .putfield idx, 3)) (hf : mj_FP M.1.cls M.1.name idx ci fk ty) (hv : ∀ ad, narrow ty (mj_v ad v) = mj_v ad v ∧ fits ty (mj_v ad v) = true) (hs : mj_sV h b ci fk v = some h') (kk : mj_W M Fin (pc + 3) l st h' k n) : mj_W M Fin pc l (v :: .ref b :: st) h k n := by
  intro p lc e s m args below meth c H locs ls A Q dC dI cy ad ad0 n0 CX I hl hcl hcs hag hn hzz hret
  have CX' := CX
  have I' := I
  obtain ⟨hx, hb, hml, hr, hown, hts, hlk, hnm, hN, hT⟩ := CX
  obtain ⟨hK, hA, hR, hP, hD, hS, hch⟩ := I
  obtain ⟨C, T, N, ty0, f1, f2, f3, f4, f5, f6, f7⟩ := hf
  obtain ⟨fs, h1, h2, rfl⟩ := mj_sV_at hs
  have hw := mj_w_get cy ad h1
  have hv2 : fk < (fs.map (mj_v ad)).length := by rw [List.length_map]; exact h2
  have hvc : mj_cv h.length v := hcs v List.mem_cons_self
  have hset : (mj_w cy ad h).set b (ad b, .inr (ci, (fs.map (mj_v ad)).set fk (mj_v ad v))) = mj_w cy ad (h.set b (.inr (ci, fs.set fk v))) := by
    rw [← mj_w_set]
    simp only [mj_c, List.map_set]
  have hcc : mj_cc h.length (.inr (ci, fs.set fk v)) := by
    intro w hw2
    rcases List.mem_or_eq_of_mem_set hw2 with q | q
    · exact hch.2 _ (List.mem_of_getElem? h1) w q
    · rw [q]; exact hvc
  have hch' := mj_ch_set hch b hcc
  have hlen : (h.set b (.inr (ci, fs.set fk v))).length = h.length := List.length_set
  have hd := f6 ▸ f4 fk f2
  rcases f7 with ⟨g1, g2⟩ | ⟨g1, g2, g3, g4⟩
  · rcases g2 with g2 | ⟨host, g2⟩
    · exact va_put hx hb hts f3 ty0 f4 f5 hown hK hP hD hS b hw f1 fk f2 (hts _ g2) (fun _ q => q) g1 hd (hv ad).1 (hv ad).2 hv2 (mj_dec hT ha) (fun H1 locs1 hP1 hD1 hS1 => kk p lc e s m args below meth c H1 locs1 ls A Q dC dI cy ad ad0 n0 CX' ⟨hK, hA, hR, hset ▸ hP1, hset ▸ hD1, hS1, hch'⟩ hl (by rw [hlen]; exact hcl) (by rw [hlen]; exact mj_tl (mj_tl hcs)) hag (by rw [hlen]; exact hn) hzz hret)
    · exact va_putN hx hb hts f3 ty0 f4 f5 hown hK hP hD hS b hw f1 fk f2 (va_Nw.use rfl (hN _ g2)) (fun _ q => q) g1 hd (hv ad).1 (hv ad).2 hv2 (mj_dec hT ha) (fun H1 locs1 hP1 hD1 hS1 => kk p lc e s m args below meth c H1 locs1 ls A Q dC dI cy ad ad0 n0 CX' ⟨hK, hA, hR, hset ▸ hP1, hset ▸ hD1, hS1, hch'⟩ hl (by rw [hlen]; exact hcl) (by rw [hlen]; exact mj_tl (mj_tl hcs)) hag (by rw [hlen]; exact hn) hzz hret)
  · exact va_putF hx hb hts f3 ty0 f4 f5 hown hK hP hD hS b hw f1 fk f2 (hts _ g4) (fun _ q => q) g1 (hnm.trans g2) g3 hd (hv ad).1 (hv ad).2 hv2 (mj_dec hT ha) (fun H1 locs1 hP1 hD1 hS1 => kk p lc e s m args below meth c H1 locs1 ls A Q dC dI cy ad ad0 n0 CX' ⟨hK, hA, hR, hset ▸ hP1, hset ▸ hD1, hS1, hch'⟩ hl (by rw [hlen]; exact hcl) (by rw [hlen]; exact mj_tl (mj_tl hcs)) hag (by rw [hlen]; exact hn) hzz hret)
end
section
/-! rules: arrays -/
def mj_ok (j : Int32) (n : Nat) : Bool := decide (0 ≤ j.toInt) && decide (j.toInt < n)
theorem mj_ok_in {j : Int32} {n : Nat} (h : mj_ok j n = true) : vp_in j n := by
  simp only [mj_ok, Bool.and_eq_true, decide_eq_true_eq] at h
  exact vp_in_iff.mpr h
def mj_aI (h : mj_H) (b : Nat) (j : Int32) : Option Int32 := match h[b]? with
  | some (.inl (0, n, .inl f)) => if mj_ok j n then some (f j.toNatClampNeg) else none
  | _ => none
def mj_aZ (h : mj_H) (b : Nat) (j : Int32) : Option Int32 := match h[b]? with
  | some (.inl (2, n, .inl f)) => if mj_ok j n then some (f j.toNatClampNeg) else none
  | _ => none
def mj_aJ (h : mj_H) (b : Nat) (j : Int32) : Option Int64 := match h[b]? with
  | some (.inl (1, n, .inr (.inl f))) => if mj_ok j n then some (f j.toNatClampNeg) else none
  | _ => none
def mj_uI (h : mj_H) (b : Nat) (j : Int32) (x : Int32) : Option mj_H := match h[b]? with
  | some (.inl (0, n, .inl f)) => if mj_ok j n then some (h.set b (.inl (0, n, .inl (upd f j.toNatClampNeg x)))) else none
  | _ => none
def mj_uZ (h : mj_H) (b : Nat) (j : Int32) (x : Int32) : Option mj_H := match h[b]? with
  | some (.inl (2, n, .inl f)) => if mj_ok j n then some (h.set b (.inl (2, n, .inl (upd f j.toNatClampNeg (vp_nar .boolean x))))) else none
  | _ => none
def mj_uJ (h : mj_H) (b : Nat) (j : Int32) (x : Int64) : Option mj_H := match h[b]? with
  | some (.inl (1, n, .inr (.inl f))) => if mj_ok j n then some (h.set b (.inl (1, n, .inr (.inl (vp_updL f j.toNatClampNeg x))))) else none
  | _ => none
def mj_aL (h : mj_H) (b : Nat) : Option Int32 := match h[b]? with
  | some (.inl (0, n, _)) => some (Int32.ofNat n)
  | some (.inl (1, n, _)) => some (Int32.ofNat n)
  | _ => none
theorem mj_iald {M : mj_M} {Fin : mj_F} {pc : Nat} {l : List (Nat × Value)} {st : List Value} {h : mj_H} {k n : Nat} {b : Nat} {j : Int32} {x : Int32} (a : Nat) (ha : M.2.2.2.2.2[a]? = some (pc, .iaload, 1)) (hv : mj_aI h b j = some x) (kk : mj_W M Fin (pc + 1) l (.int x :: st) h k n) : mj_W M Fin pc l (.int j :: .ref b :: st) h k n := by
  intro p lc e s m args below meth c H locs ls A Q dC dI cy ad ad0 n0 CX I hl hcl hcs hag hn hzz hret
  have CX' := CX
  have I' := I
  obtain ⟨hx, hb, hml, hr, hown, hts, hlk, hnm, hN, hT⟩ := CX
  obtain ⟨hK, hA, hR, hP, hD, hS, hch⟩ := I
  unfold mj_aI at hv
  split at hv
  next nn f hq =>
    split at hv
    next hin =>
      cases hv
      exact va_iald hx hb hK hP b 0 (mj_w_get cy ad hq) rfl (mj_ok_in hin) (mj_dec hT ha) (kk p lc e s m args below meth c H locs ls A Q dC dI cy ad ad0 n0 CX' I' hl hcl (mj_cs trivial (mj_tl (mj_tl hcs))) hag hn hzz hret)
    next => cases hv
  next => cases hv
theorem mj_zald {M : mj_M} {Fin : mj_F} {pc : Nat} {l : List (Nat × Value)} {st : List Value} {h : mj_H} {k n : Nat} {b : Nat} {j : Int32} {x : Int32} (a : Nat) (ha : M.2.2.2.2.2[a]? = some (pc, .baload, 1)) (hv : mj_aZ h b j = some x) (kk : mj_W M Fin (pc + 1) l (.int x :: st) h k n) : mj_W M Fin pc l (.int j :: .ref b :: st) h k n := by
  intro p lc e s m args below meth c H locs ls A Q dC dI cy ad ad0 n0 CX I hl hcl hcs hag hn hzz hret
  have CX' := CX
  have I' := I
  obtain ⟨hx, hb, hml, hr, hown, hts, hlk, hnm, hN, hT⟩ := CX
  obtain ⟨hK, hA, hR, hP, hD, hS, hch⟩ := I
  unfold mj_aZ at hv
  split at hv
  next nn f hq =>
    split at hv
    next hin =>
      cases hv
      exact va_zald hx hb hK hP b 2 (mj_w_get cy ad hq) rfl (mj_ok_in hin) (mj_dec hT ha) (kk p lc e s m args below meth c H locs ls A Q dC dI cy ad ad0 n0 CX' I' hl hcl (mj_cs trivial (mj_tl (mj_tl hcs))) hag hn hzz hret)
    next => cases hv
  next => cases hv
theorem mj_lald {M : mj_M} {Fin : mj_F} {pc : Nat} {l : List (Nat × Value)} {st : List Value} {h : mj_H} {k n : Nat} {b : Nat} {j : Int32} {x : Int64} (a : Nat) (ha : M.2.2.2.2.2[a]? = some (pc, .laload, 1)) (hv : mj_aJ h b j = some x) (kk : mj_W M Fin (pc + 1) l (.long x :: st) h k n) : mj_W M Fin pc l (.int j :: .ref b :: st) h k n := by
  intro p lc e s m args below meth c H locs ls A Q dC dI cy ad ad0 n0 CX I hl hcl hcs hag hn hzz hret
  have CX' := CX
  have I' := I
  obtain ⟨hx, hb, hml, hr, hown, hts, hlk, hnm, hN, hT⟩ := CX
  obtain ⟨hK, hA, hR, hP, hD, hS, hch⟩ := I
  unfold mj_aJ at hv
  split at hv
  next nn f hq =>
    split at hv
    next hin =>
      cases hv
      exact va_lald hx hb hK hP b 1 (mj_w_get cy ad hq) rfl (mj_ok_in hin) (mj_dec hT ha) (kk p lc e s m args below meth c H locs ls A Q dC dI cy ad ad0 n0 CX' I' hl hcl (mj_cs trivial (mj_tl (mj_tl hcs))) hag hn hzz hret)
    next => cases hv
  next => cases hv
theorem mj_iast {M : mj_M} {Fin : mj_F} {pc : Nat} {l : List (Nat × Value)} {st : List Value} {h : mj_H} {k n : Nat} {b : Nat} {j : Int32} {x : Int32} {h' : mj_H} (a : Nat) (ha : M.2.2.2.2.2[a]? = some (pc, .iastore, 1)) (hv : mj_uI h b j x = some h') (kk : mj_W M Fin (pc + 1) l st h' k n) : mj_W M Fin pc l (.int x :: .int j :: .ref b :: st) h k n := by
  intro p lc e s m args below meth c H locs ls A Q dC dI cy ad ad0 n0 CX I hl hcl hcs hag hn hzz hret
  have CX' := CX
  have I' := I
  obtain ⟨hx, hb, hml, hr, hown, hts, hlk, hnm, hN, hT⟩ := CX
  obtain ⟨hK, hA, hR, hP, hD, hS, hch⟩ := I
  unfold mj_uI at hv
  split at hv
  next nn f hq =>
    split at hv
    next hin =>
      cases hv
      have hch' := mj_ch_set hch b (c := .inl (0, nn, .inl (upd f j.toNatClampNeg x))) trivial
      have hlen : (h.set b (.inl (0, nn, .inl (upd f j.toNatClampNeg x)))).length = h.length := List.length_set
      have hset := mj_w_set cy ad h b (.inl (0, nn, .inl (upd f j.toNatClampNeg x)))
      exact va_iast hx hb hK hP hD hS b 0 (mj_w_get cy ad hq) rfl (mj_ok_in hin) (mj_dec hT ha) (fun H1 locs1 hP1 hD1 hS1 => kk p lc e s m args below meth c H1 locs1 ls A Q dC dI cy ad ad0 n0 CX' ⟨hK, hA, hR, hset ▸ hP1, hset ▸ hD1, hS1, hch'⟩ hl (by rw [hlen]; exact hcl) (by rw [hlen]; exact mj_tl (mj_tl (mj_tl hcs))) hag (by rw [hlen]; exact hn) hzz hret)
    next => cases hv
  next => cases hv
theorem mj_zast {M : mj_M} {Fin : mj_F} {pc : Nat} {l : List (Nat × Value)} {st : List Value} {h : mj_H} {k n : Nat} {b : Nat} {j : Int32} {x : Int32} {h' : mj_H} (a : Nat) (ha : M.2.2.2.2.2[a]? = some (pc, .bastore, 1)) (hv : mj_uZ h b j x = some h') (kk : mj_W M Fin (pc + 1) l st h' k n) : mj_W M Fin pc l (.int x :: .int j :: .ref b :: st) h k n := by
  intro p lc e s m args below meth c H locs ls A Q dC dI cy ad ad0 n0 CX I hl hcl hcs hag hn hzz hret
  have CX' := CX
  have I' := I
  obtain ⟨hx, hb, hml, hr, hown, hts, hlk, hnm, hN, hT⟩ := CX
  obtain ⟨hK, hA, hR, hP, hD, hS, hch⟩ := I
  unfold mj_uZ at hv
  split at hv
  next nn f hq =>
    split at hv
    next hin =>
      cases hv
      have hch' := mj_ch_set hch b (c := .inl (2, nn, .inl (upd f j.toNatClampNeg (vp_nar .boolean x)))) trivial
      have hlen : (h.set b (.inl (2, nn, .inl (upd f j.toNatClampNeg (vp_nar .boolean x))))).length = h.length := List.length_set
      have hset := mj_w_set cy ad h b (.inl (2, nn, .inl (upd f j.toNatClampNeg (vp_nar .boolean x))))
      exact va_zast hx hb hK hP hD hS b 2 (mj_w_get cy ad hq) rfl (mj_ok_in hin) (mj_dec hT ha) (fun H1 locs1 hP1 hD1 hS1 => kk p lc e s m args below meth c H1 locs1 ls A Q dC dI cy ad ad0 n0 CX' ⟨hK, hA, hR, hset ▸ hP1, hset ▸ hD1, hS1, hch'⟩ hl (by rw [hlen]; exact hcl) (by rw [hlen]; exact mj_tl (mj_tl (mj_tl hcs))) hag (by rw [hlen]; exact hn) hzz hret)
    next => cases hv
  next => cases hv
theorem mj_last {M : mj_M} {Fin : mj_F} {pc : Nat} {l : List (Nat × Value)} {st : List Value} {h : mj_H} {k n : Nat} {b : Nat} {j : Int32} {x : Int64} {h' : mj_H} (a : Nat) (ha : M.2.2.2.2.2[a]? = some (pc, .lastore, 1)) (hv : mj_uJ h b j x = some h') (kk : mj_W M Fin (pc + 1) l st h' k n) : mj_W M Fin pc l (.long x :: .int j :: .ref b :: st) h k n := by
  intro p lc e s m args below meth c H locs ls A Q dC dI cy ad ad0 n0 CX I hl hcl hcs hag hn hzz hret
  have CX' := CX
  have I' := I
  obtain ⟨hx, hb, hml, hr, hown, hts, hlk, hnm, hN, hT⟩ := CX
  obtain ⟨hK, hA, hR, hP, hD, hS, hch⟩ := I
  unfold mj_uJ at hv
  split at hv
  next nn f hq =>
    split at hv
    next hin =>
      cases hv
      have hch' := mj_ch_set hch b (c := .inl (1, nn, .inr (.inl (vp_updL f j.toNatClampNeg x)))) trivial
      have hlen : (h.set b (.inl (1, nn, .inr (.inl (vp_updL f j.toNatClampNeg x))))).length = h.length := List.length_set
      have hset := mj_w_set cy ad h b (.inl (1, nn, .inr (.inl (vp_updL f j.toNatClampNeg x))))
      exact va_last hx hb hK hP hD hS b 1 (mj_w_get cy ad hq) rfl (mj_ok_in hin) (mj_dec hT ha) (fun H1 locs1 hP1 hD1 hS1 => kk p lc e s m args below meth c H1 locs1 ls A Q dC dI cy ad ad0 n0 CX' ⟨hK, hA, hR, hset ▸ hP1, hset ▸ hD1, hS1, hch'⟩ hl (by rw [hlen]; exact hcl) (by rw [hlen]; exact mj_tl (mj_tl (mj_tl hcs))) hag (by rw [hlen]; exact hn) hzz hret)
    next => cases hv
  next => cases hv
theorem mj_alen {M : mj_M} {Fin : mj_F} {pc : Nat} {l : List (Nat × Value)} {st : List Value} {h : mj_H} {k n : Nat} {b : Nat} {x : Int32} (a : Nat) (ha : M.2.2.2.2.2[a]? = some (pc, .arraylength, 1)) (hv : mj_aL h b = some x) (kk : mj_W M Fin (pc + 1) l (.int x :: st) h k n) : mj_W M Fin pc l (.ref b :: st) h k n := by
  intro p lc e s m args below meth c H locs ls A Q dC dI cy ad ad0 n0 CX I hl hcl hcs hag hn hzz hret
  have CX' := CX
  have I' := I
  obtain ⟨hx, hb, hml, hr, hown, hts, hlk, hnm, hN, hT⟩ := CX
  obtain ⟨hK, hA, hR, hP, hD, hS, hch⟩ := I
  unfold mj_aL at hv
  split at hv
  next nn f hq =>
    cases hv
    exact va_alen hx hb hK hP b 0 (mj_w_get cy ad hq) rfl rfl (mj_dec hT ha) (kk p lc e s m args below meth c H locs ls A Q dC dI cy ad ad0 n0 CX' I' hl hcl (mj_cs trivial (mj_tl hcs)) hag hn hzz hret)
  next nn f hq =>
    cases hv
    exact va_alen hx hb hK hP b 1 (mj_w_get cy ad hq) rfl rfl (mj_dec hT ha) (kk p lc e s m args below meth c H locs ls A Q dC dI cy ad ad0 n0 CX' I' hl hcl (mj_cs trivial (mj_tl hcs)) hag hn hzz hret)
  next => cases hv
end
section
/-! rules: static arrays, String constants -/
def mj_roA (q : Nat) (j : Int32) : Option Int32 := if mj_ok j (mj_roN q) then some (mj_roI q j.toNatClampNeg) else none
theorem mj_gets {M : mj_M} {Fin : mj_F} {pc : Nat} {l : List (Nat × Value)} {st : List Value} {h : mj_H} {k n : Nat} {idx : Nat} (q : String × String × Nat) (a : Nat) (ha : M.2.2.2.2.2[a]? = some (pc, .getstatic idx, 3)) (hq : q ∈ mj_stat) (hw : Jvm.Cond.fieldLink M.1.cls idx q.1 q.2.1 "[I" ∈ mj_G) (kk : mj_W M Fin (pc + 3) l (.ref (1000 + q.2.2) :: st) h k n) : mj_W M Fin pc l st h k n := by
  intro p lc e s m args below meth c H locs ls A Q dC dI cy ad ad0 n0 CX I hl hcl hcs hag hn hzz hret
  have CX' := CX
  have I' := I
  obtain ⟨hx, hb, hml, hr, hown, hts, hlk, hnm, hN, hT⟩ := CX
  obtain ⟨hK, hA, hR, hP, hD, hS, hch⟩ := I
  exact va_gets hx hb (hR.1 q hq).1 hS hown (hts _ hw) (fun _ z => z) (mj_dec hT ha) (kk p lc e s m args below meth c H locs ls A Q dC dI cy ad ad0 n0 CX' I' hl hcl (mj_cs (Or.inr (Nat.le_add_right _ _)) hcs) hag hn hzz hret)
theorem mj_ialdR {M : mj_M} {Fin : mj_F} {pc : Nat} {l : List (Nat × Value)} {st : List Value} {h : mj_H} {k n : Nat} {j x : Int32} (q : String × String × Nat) (a : Nat) (ha : M.2.2.2.2.2[a]? = some (pc, .iaload, 1)) (hq : q ∈ mj_stat) (hv : mj_roA q.2.2 j = some x) (kk : mj_W M Fin (pc + 1) l (.int x :: st) h k n) : mj_W M Fin pc l (.int j :: .ref (1000 + q.2.2) :: st) h k n := by
  intro p lc e s m args below meth c H locs ls A Q dC dI cy ad ad0 n0 CX I hl hcl hcs hag hn hzz hret
  have CX' := CX
  have I' := I
  obtain ⟨hx, hb, hml, hr, hown, hts, hlk, hnm, hN, hT⟩ := CX
  obtain ⟨hK, hA, hR, hP, hD, hS, hch⟩ := I
  unfold mj_roA at hv
  split at hv
  next hin =>
    cases hv
    exact va_ti hx hb (hR.1 q hq).2 hS (mj_ok_in hin) rfl (mj_dec hT ha) (kk p lc e s m args below meth c H locs ls A Q dC dI cy ad ad0 n0 CX' I' hl hcl (mj_cs trivial (mj_tl (mj_tl hcs))) hag hn hzz hret)
  next => cases hv
theorem mj_alenR {M : mj_M} {Fin : mj_F} {pc : Nat} {l : List (Nat × Value)} {st : List Value} {h : mj_H} {k n : Nat} (q : String × String × Nat) (a : Nat) (ha : M.2.2.2.2.2[a]? = some (pc, .arraylength, 1)) (hq : q ∈ mj_stat) (kk : mj_W M Fin (pc + 1) l (.int (Int32.ofNat (mj_roN q.2.2)) :: st) h k n) : mj_W M Fin pc l (.ref (1000 + q.2.2) :: st) h k n := by
  intro p lc e s m args below meth c H locs ls A Q dC dI cy ad ad0 n0 CX I hl hcl hcs hag hn hzz hret
  have CX' := CX
  have I' := I
  obtain ⟨hx, hb, hml, hr, hown, hts, hlk, hnm, hN, hT⟩ := CX
  obtain ⟨hK, hA, hR, hP, hD, hS, hch⟩ := I
  exact va_tlen hx hb (hR.1 q hq).2 hS rfl (mj_dec hT ha) (kk p lc e s m args below meth c H locs ls A Q dC dI cy ad ad0 n0 CX' I' hl hcl (mj_cs trivial (mj_tl hcs)) hag hn hzz hret)
theorem mj_ldcS {M : mj_M} {Fin : mj_F} {pc : Nat} {l : List (Nat × Value)} {st : List Value} {h : mj_H} {k n : Nat} {idx : Nat} {tx : String} (i a : Nat) (ha : M.2.2.2.2.2[a]? = some (pc, .ldc idx, 2)) (hi : mj_keys[i]? = some (idx, tx)) (ho : M.1.cls = "RiverChoice$Reader") (kk : mj_W M Fin (pc + 2) l (.ref (1010 + i) :: st) h k n) : mj_W M Fin pc l st h k n := by
  intro p lc e s m args below meth c H locs ls A Q dC dI cy ad ad0 n0 CX I hl hcl hcs hag hn hzz hret
  have CX' := CX
  have I' := I
  obtain ⟨hx, hb, hml, hr, hown, hts, hlk, hnm, hN, hT⟩ := CX
  obtain ⟨hK, hA, hR, hP, hD, hS, hch⟩ := I
  rw [ho] at hown
  exact va_ldcS hx hb hown (hR.2.2.2.2 i _ hi) (mj_dec hT ha) (kk p lc e s m args below meth c H locs ls A Q dC dI cy ad ad0 n0 CX' I' hl hcl (mj_cs (Or.inr (Nat.le_trans (by decide : (1000 : Nat) ≤ 1010) (Nat.le_add_right _ _))) hcs) hag hn hzz hret)
end
section
/-! rules: what is made -/
def mj_dflt (c : String × u_T × Nat) (ty : Nat → FieldType) (fs : List Value) : Prop := fs.length = c.2.2 ∧ ∀ j, j < c.2.2 → defaultValue (ty j) = vp_V fs j
def mj_NW (own : String) (idx ci N : Nat) (fs : List Value) : Prop := ∃ (C : String) (T : u_T) (ty0 : Nat → FieldType), vwCl[ci]? = some (C, T, N) ∧ (∀ w ∈ u_ws C T N, w ∈ mj_G) ∧ (∀ k, k < N → parseFieldDescriptor (T k).2.2.1 = some (ty0 k)) ∧ Jvm.Cond.classLink own idx C ∈ mj_G ∧ Jvm.Cond.instantiable C N ∈ mj_G ∧ Jvm.Cond.initialized C ∈ mj_G ∧ (∀ j, j < N → defaultValue (ty0 j) = vp_V fs j)
def mj_0 (v : Value) : Prop := match v with
  | .ref _ => False
  | _ => True
theorem mj_0_map {fs : List Value} (h : ∀ v ∈ fs, mj_0 v) (ad : Nat → Nat) : fs.map (mj_v ad) = fs := by
  conv => rhs; rw [← List.map_id fs]
  exact List.map_congr_left fun v hv => by
    have := h v hv
    cases v <;> first | rfl | exact this.elim
theorem mj_0_c {fs : List Value} (h : ∀ v ∈ fs, mj_0 v) (n : Nat) : ∀ v ∈ fs, mj_cv n v := fun v hv => by
  have := h v hv
  cases v <;> first | trivial | exact this.elim
theorem mj_push_I {dC : Nat → ClassId} {dI : Nat → Nat → Nat} {cy : Nat → ClassId} {A : Nat → Prop} {s : State} {ad : Nat → Nat} {h : mj_H} {H1 : Heap} {locs : List Loc} {q : Nat} {c : mj_C} (hK : va_K (dC, dI) vwCl (mj_ty cy) s) (hA : ∀ q, s.heap.size ≤ q → A q) (hR : mj_R ad A s s.heap) (hch : mj_ch h) (hl : h.length < 1000) (hc : mj_cc h.length c) (hP : va_P (dC, dI) vwCl (mj_w cy ad h ++ [(q, mj_c cy ad c)]) H1) (hD : va_D A (mj_w cy ad h ++ [(q, mj_c cy ad c)])) (hS : va_S A s.heap H1 locs) : mj_I dC dI cy A s (va_up ad h.length q) (h ++ [c]) H1 locs ∧ mj_ag h.length ad (va_up ad h.length q) := by
  obtain ⟨e1, e2⟩ := mj_w_push cy (ad := ad) q hch hl hc
  exact ⟨⟨hK, hA, hR.ag e2, e1 ▸ hP, e1 ▸ hD, hS, mj_ch_push hch hl hc⟩, e2⟩
theorem mj_new {M : mj_M} {Fin : mj_F} {pc : Nat} {l : List (Nat × Value)} {st : List Value} {h : mj_H} {k n : Nat} {idx ci N : Nat} {fs : List Value} (a : Nat) (ha : M.2.2.2.2.2[a]? = some (pc, .new idx, 3)) (hf : mj_NW M.1.cls idx ci N fs) (h0 : ∀ v ∈ fs, mj_0 v) (hl0 : h.length < 1000) (hk : k + 1 ≤ M.2.2.2.2.1.cells) (hn0 : n + N ≤ M.2.2.2.2.1.slots) (kk : mj_W M Fin (pc + 3) l (.ref h.length :: st) (h ++ [.inr (ci, fs)]) (k + 1) (n + N)) : mj_W M Fin pc l st h k n := by
  intro p lc e s m args below meth c H locs ls A Q dC dI cy ad ad0 n0 CX I hl hcl hcs hag hn hzz hret
  have CX' := CX
  have I' := I
  obtain ⟨hx, hb, hml, hr, hown, hts, hlk, hnm, hN, hT⟩ := CX
  obtain ⟨hK, hA, hR, hP, hD, hS, hch⟩ := I
  obtain ⟨C, T, ty0, f1, f2, f3, f4, f5, f6, f7⟩ := hf
  refine va_new hx hb hts f2 ty0 f3 hown (hts _ f4) (hts _ f5) (hts _ f6) hK hP hD hS hA f1 f7 hk hn0 (mj_dec hT ha) (fun q H1 hP1 hD1 hS1 => ?_)
  have ec : (Sum.inr (ci, fs) : va_E) = mj_c cy ad (.inr (ci, fs)) := by simp only [mj_c]; rw [mj_0_map h0]
  rw [ec] at hP1 hD1
  obtain ⟨I2, e2⟩ := mj_push_I (c := .inr (ci, fs)) hK hA hR hch hl0 (show mj_cc h.length (.inr (ci, fs)) from mj_0_c h0 h.length) hP1 hD1 hS1
  have HCS : ∀ v ∈ Value.ref h.length :: st, mj_cv (h ++ ([.inr (ci, fs)] : mj_H)).length v := mj_cs (Or.inl (by simp)) (fun w hw => mj_cv_mono (by simp) (hcs w hw))
  have key := kk p lc e s m args below meth c H1 locs ls A Q dC dI cy (va_up ad h.length q) ad0 n0 CX' I2 (by rw [mj_l_ag e2 hcl]; exact hl) (fun w hw => mj_cv_mono (by simp) (hcl w hw)) HCS (hag.tr e2 hn) (by simp; omega) hzz hret
  have est : (Value.ref h.length :: st).map (mj_v (va_up ad h.length q)) = Value.ref q :: st.map (mj_v ad) := by
    rw [List.map_cons, mj_s_ag e2 hcs]
    simp [mj_v, va_up_self]
  rw [est] at key
  exact key
theorem mj_newI {M : mj_M} {Fin : mj_F} {pc : Nat} {l : List (Nat × Value)} {st : List Value} {h : mj_H} {k n : Nat} {z : Int32} (N : Nat) (a : Nat) (ha : M.2.2.2.2.2[a]? = some (pc, .newarray .int, 2)) (hz : z = Int32.ofNat N) (hN : N < 65536) (hw : Jvm.Cond.arrayClass .int ∈ mj_G) (hl0 : h.length < 1000) (hk : k + 1 ≤ M.2.2.2.2.1.cells) (hn0 : n + N ≤ M.2.2.2.2.1.slots) (kk : mj_W M Fin (pc + 2) l (.ref h.length :: st) (h ++ [.inl (0, N, .inl (fun _ => (0 : Int32)))]) (k + 1) (n + N)) : mj_W M Fin pc l (.int z :: st) h k n := by
  intro p lc e s m args below meth c H locs ls A Q dC dI cy ad ad0 n0 CX I hl hcl hcs hag hn hzz hret
  have CX' := CX
  have I' := I
  obtain ⟨hx, hb, hml, hr, hown, hts, hlk, hnm, hN, hT⟩ := CX
  obtain ⟨hK, hA, hR, hP, hD, hS, hch⟩ := I
  subst hz
  have hz0 : ¬ Int32.ofNat N < 0 := nI_pos (n := N) (by omega)
  have hz1 : (Int32.ofNat N).toNatClampNeg = N := nI_clamp (n := N) (by omega)
  refine va_newa (atype := .int) (ty := .int) (a0 := (N, .inl (fun _ => (0 : Int32)))) hx hb (hts _ hw) rfl hK hP hD hS hA (fun _ => rfl) hz0 hz1 (by simp only [componentBytes]; omega) hk hn0 (mj_dec hT ha) (fun q cA H1 hK1 hP1 hD1 hS1 => ?_)
  have hca : cA = cy 0 := by
    have g1 := va_nm_int (hK1.2 3 _ rfl).2
    have g2 := va_nm_int (hK.2 0 _ rfl).2
    rw [g1] at g2
    exact Option.some.inj g2
  subst hca
  obtain ⟨I2, e2⟩ := mj_push_I (c := .inl (0, N, .inl (fun _ => (0 : Int32)))) hK hA hR hch hl0 trivial hP1 hD1 hS1
  have HCS : ∀ v ∈ Value.ref h.length :: st, mj_cv (h ++ ([.inl (0, N, .inl (fun _ => (0 : Int32)))] : mj_H)).length v := mj_cs (Or.inl (by simp)) (fun w hw => mj_cv_mono (by simp) (mj_tl hcs w hw))
  have key := kk p lc e s m args below meth c H1 locs ls A Q dC dI cy (va_up ad h.length q) ad0 n0 CX' I2 (by rw [mj_l_ag e2 hcl]; exact hl) (fun w hw => mj_cv_mono (by simp) (hcl w hw)) HCS (hag.tr e2 hn) (by simp; omega) hzz hret
  have est : (Value.ref h.length :: st).map (mj_v (va_up ad h.length q)) = Value.ref q :: st.map (mj_v ad) := by
    rw [List.map_cons, mj_s_ag e2 (mj_tl hcs)]
    simp [mj_v, va_up_self]
  rw [est] at key
  exact key
theorem mj_newJ {M : mj_M} {Fin : mj_F} {pc : Nat} {l : List (Nat × Value)} {st : List Value} {h : mj_H} {k n : Nat} {z : Int32} (N : Nat) (a : Nat) (ha : M.2.2.2.2.2[a]? = some (pc, .newarray .long, 2)) (hz : z = Int32.ofNat N) (hN : N < 65536) (hw : Jvm.Cond.arrayClass .long ∈ mj_G) (hl0 : h.length < 1000) (hk : k + 1 ≤ M.2.2.2.2.1.cells) (hn0 : n + N ≤ M.2.2.2.2.1.slots) (kk : mj_W M Fin (pc + 2) l (.ref h.length :: st) (h ++ [.inl (1, N, .inr (.inl (fun _ => (0 : Int64))))]) (k + 1) (n + N)) : mj_W M Fin pc l (.int z :: st) h k n := by
  intro p lc e s m args below meth c H locs ls A Q dC dI cy ad ad0 n0 CX I hl hcl hcs hag hn hzz hret
  have CX' := CX
  have I' := I
  obtain ⟨hx, hb, hml, hr, hown, hts, hlk, hnm, hN, hT⟩ := CX
  obtain ⟨hK, hA, hR, hP, hD, hS, hch⟩ := I
  subst hz
  have hz0 : ¬ Int32.ofNat N < 0 := nI_pos (n := N) (by omega)
  have hz1 : (Int32.ofNat N).toNatClampNeg = N := nI_clamp (n := N) (by omega)
  refine va_newa (atype := .long) (ty := .long) (a0 := (N, .inr (.inl (fun _ => (0 : Int64))))) hx hb (hts _ hw) rfl hK hP hD hS hA (fun _ => rfl) hz0 hz1 (by simp only [componentBytes]; omega) hk hn0 (mj_dec hT ha) (fun q cA H1 hK1 hP1 hD1 hS1 => ?_)
  have hca : cA = cy 1 := by
    have g1 := va_nm_long (hK1.2 3 _ rfl).2
    have g2 := va_nm_long (hK.2 1 _ rfl).2
    rw [g1] at g2
    exact Option.some.inj g2
  subst hca
  obtain ⟨I2, e2⟩ := mj_push_I (c := .inl (1, N, .inr (.inl (fun _ => (0 : Int64))))) hK hA hR hch hl0 trivial hP1 hD1 hS1
  have HCS : ∀ v ∈ Value.ref h.length :: st, mj_cv (h ++ ([.inl (1, N, .inr (.inl (fun _ => (0 : Int64))))] : mj_H)).length v := mj_cs (Or.inl (by simp)) (fun w hw => mj_cv_mono (by simp) (mj_tl hcs w hw))
  have key := kk p lc e s m args below meth c H1 locs ls A Q dC dI cy (va_up ad h.length q) ad0 n0 CX' I2 (by rw [mj_l_ag e2 hcl]; exact hl) (fun w hw => mj_cv_mono (by simp) (hcl w hw)) HCS (hag.tr e2 hn) (by simp; omega) hzz hret
  have est : (Value.ref h.length :: st).map (mj_v (va_up ad h.length q)) = Value.ref q :: st.map (mj_v ad) := by
    rw [List.map_cons, mj_s_ag e2 (mj_tl hcs)]
    simp [mj_v, va_up_self]
  rw [est] at key
  exact key
theorem mj_newZ {M : mj_M} {Fin : mj_F} {pc : Nat} {l : List (Nat × Value)} {st : List Value} {h : mj_H} {k n : Nat} {z : Int32} (N : Nat) (a : Nat) (ha : M.2.2.2.2.2[a]? = some (pc, .newarray .boolean, 2)) (hz : z = Int32.ofNat N) (hN : N < 65536) (hw : Jvm.Cond.arrayClass .boolean ∈ mj_G) (hl0 : h.length < 1000) (hk : k + 1 ≤ M.2.2.2.2.1.cells) (hn0 : n + N ≤ M.2.2.2.2.1.slots) (kk : mj_W M Fin (pc + 2) l (.ref h.length :: st) (h ++ [.inl (2, N, .inl (fun _ => (0 : Int32)))]) (k + 1) (n + N)) : mj_W M Fin pc l (.int z :: st) h k n := by
  intro p lc e s m args below meth c H locs ls A Q dC dI cy ad ad0 n0 CX I hl hcl hcs hag hn hzz hret
  have CX' := CX
  have I' := I
  obtain ⟨hx, hb, hml, hr, hown, hts, hlk, hnm, hN, hT⟩ := CX
  obtain ⟨hK, hA, hR, hP, hD, hS, hch⟩ := I
  subst hz
  have hz0 : ¬ Int32.ofNat N < 0 := nI_pos (n := N) (by omega)
  have hz1 : (Int32.ofNat N).toNatClampNeg = N := nI_clamp (n := N) (by omega)
  refine va_newa (atype := .boolean) (ty := .boolean) (a0 := (N, .inl (fun _ => (0 : Int32)))) hx hb (hts _ hw) rfl hK hP hD hS hA (fun _ => rfl) hz0 hz1 (by simp only [componentBytes]; omega) hk hn0 (mj_dec hT ha) (fun q cA H1 hK1 hP1 hD1 hS1 => ?_)
  have hca : cA = cy 2 := by
    have g1 := va_nm_boolean (hK1.2 3 _ rfl).2
    have g2 := va_nm_boolean (hK.2 2 _ rfl).2
    rw [g1] at g2
    exact Option.some.inj g2
  subst hca
  obtain ⟨I2, e2⟩ := mj_push_I (c := .inl (2, N, .inl (fun _ => (0 : Int32)))) hK hA hR hch hl0 trivial hP1 hD1 hS1
  have HCS : ∀ v ∈ Value.ref h.length :: st, mj_cv (h ++ ([.inl (2, N, .inl (fun _ => (0 : Int32)))] : mj_H)).length v := mj_cs (Or.inl (by simp)) (fun w hw => mj_cv_mono (by simp) (mj_tl hcs w hw))
  have key := kk p lc e s m args below meth c H1 locs ls A Q dC dI cy (va_up ad h.length q) ad0 n0 CX' I2 (by rw [mj_l_ag e2 hcl]; exact hl) (fun w hw => mj_cv_mono (by simp) (hcl w hw)) HCS (hag.tr e2 hn) (by simp; omega) hzz hret
  have est : (Value.ref h.length :: st).map (mj_v (va_up ad h.length q)) = Value.ref q :: st.map (mj_v ad) := by
    rw [List.map_cons, mj_s_ag e2 (mj_tl hcs)]
    simp [mj_v, va_up_self]
  rw [est] at key
  exact key
end
section
/-! contracts, calls, returns -/
def mj_ws (M : mj_M) : List Cond := .code M.1 M.2.1 M.2.2.1 M.2.2.2.1 :: mj_G
def mj_Pre (dC : Nat → ClassId) (dI : Nat → Nat → Nat) (cy : Nat → ClassId) (ad : Nat → Nat) (h : mj_H) (sz : Nat) (U : State) : Prop :=
  U.heap.size = sz ∧ va_P (dC, dI) vwCl (mj_w cy ad h) U.heap ∧ va_K (dC, dI) vwCl (mj_ty cy) U ∧ va_D (fun _ => True) (mj_w cy ad h) ∧ mj_ch h ∧ mj_R ad (va_A (mj_w cy ad h) sz) U U.heap ∧ ∀ w ∈ mj_N, va_Nw w U
def mj_B (dC : Nat → ClassId) (dI : Nat → Nat → Nat) (cy : Nat → ClassId) (ad : Nat → Nat) (h : mj_H) (A : Nat → Prop) (r : Option Value) (h' : mj_H) (ad' : Nat → Nat) (t : State) : Prop :=
  mj_ag h.length ad ad' ∧ h.length ≤ h'.length ∧ mj_ch h' ∧ mj_cr h'.length r ∧ va_P (dC, dI) vwCl (mj_w cy ad' h') t.heap ∧ va_D A (mj_w cy ad' h')
def mj_Q (r : Option Value) (B : (Nat → Nat) → State → Prop) (A : Nat → Prop) : Array Value → State → Outcome → State → Prop := match r with
  | none => va_Qv (fun _ => True) B A
  | some (.int x) => va_Qi (fun y _ => y = x) B A
  | some (.long x) => va_Ql (fun y _ => y = x) B A
  | some (.ref k) => va_Qr (fun _ => True) (fun (ad' : Nat → Nat) a t => a = ad' k ∧ B ad' t) A
  | _ => fun _ _ _ _ => False
/-- what a method does: from every world that looks like h, with these arguments, it answers r, and the world looks like h' -/
def mj_Met (M : mj_M) (as : List Value) (h : mj_H) (r : Option Value) (h' : mj_H) : Prop :=
  ∀ (lc : Launch) (dC : Nat → ClassId) (dI : Nat → Nat → Nat) (cy : Nat → ClassId) (ad : Nat → Nat) (sz : Nat), (∀ v ∈ as, mj_cv h.length v) →
    Met lc M.1 (mj_ws M) M.2.2.2.2.1 (va_Pc (as.map (mj_v ad)) (mj_Pre dC dI cy ad h sz)) (mj_Q r (mj_B dC dI cy ad h (va_A (mj_w cy ad h) sz) r h') (va_A (mj_w cy ad h) sz)) M.2.2.2.2.1.cells M.2.2.2.2.1.slots (va_A (mj_w cy ad h) sz)
theorem mj_args_real (ad : Nat → Nat) : ∀ (as : List Value) (i : Nat), lv_args i (as.map (mj_v ad)) = mj_l ad (lv_args i as)
  | [], _ => rfl
  | v :: r, i => by
    simp only [List.map_cons, lv_args, mj_v_cat, mj_args_real ad r, mj_l]
theorem mj_args_c {n : Nat} : ∀ (as : List Value) (i : Nat), (∀ v ∈ as, mj_cv n v) → ∀ q ∈ lv_args i as, mj_cv n q.2
  | [], _, _, q, hq => by cases hq
  | v :: r, i, h, q, hq => by
    rcases List.mem_cons.mp hq with rfl | hq
    · exact h v List.mem_cons_self
    · exact mj_args_c r _ (fun w hw => h w (List.mem_cons_of_mem _ hw)) q hq
theorem mj_sl_real (ad : Nat → Nat) (as : List Value) : (lg_sl (as.map (mj_v ad))).length = (lg_sl as).length := by
  induction as with
  | nil => rfl
  | cons v r ih =>
    simp only [lg_sl, List.map_cons, List.flatMap_cons, List.length_append, mj_v_cat] at ih ⊢
    rw [ih]
    congr 1
    split <;> rfl
theorem mj_code_in {M : mj_M} (h : Jvm.Cond.code M.1 M.2.1 M.2.2.1 M.2.2.2.1 ∈ mj_G) : ∀ w ∈ mj_ws M, w ∈ mj_G := fun w hw => (List.mem_cons.mp hw).elim (fun e => e ▸ h) id
theorem mj_ws_good {M' : mj_M} (hc : Jvm.Cond.code M'.1 M'.2.1 M'.2.2.1 M'.2.2.2.1 ∈ mj_G) : GoodIn mj_G (mj_ws M') := fun w hw => ⟨mj_code_in hc w hw, good_of_word (List.mem_filter.mp (mj_code_in hc w hw)).2⟩
theorem mj_met {M : mj_M} {as : List Value} {h : mj_H} {r : Option Value} {h' : mj_H} (hpl : plainName M.1.cls = true) (hT : ∀ q ∈ M.2.2.2.2.2, decode M.2.1 q.1 = .ok q.2) (hlen : (lg_sl as).length ≤ M.2.2.1) (hW : mj_W M (fun r' h'' => r' = r ∧ h'' = h', fun _ _ _ => True) 0 (lv_args 0 as) [] h 0 0) : mj_Met M as h r h' := by
  intro lc dC dI cy ad sz hcas
  refine Met.ofW (cc := M.2.1) (maxL := M.2.2.1) (ret := M.2.2.2.1) (ws' := mj_G) hpl rfl ?_
  intro p e s m args below meth c s₁ B hml hv
  obtain ⟨rfl, hsz, hP, hK, hD0, hch, hR, hN⟩ := hv
  have hts := atoms_spec (ws := mj_ws M) B.pre
  have hown : s.vm.findClass M.1.cls = some m.cls := findClass_of_methodNamed B.named
  have hnm : meth.name = M.1.name := (name_of_methodNamed B.named B.method).1
  subst hsz
  have hD := hD0.self (sz := s.heap.size)
  generalize hAe : va_A (mj_w cy ad h) s.heap.size = A at hD hR ⊢
  have hA : ∀ q : Nat, s.heap.size ≤ q → A q := fun q h => by rw [← hAe]; exact Or.inr h
  have hS : va_S A s.heap s.heap [] := va_S.rf
  have hl := lv_entry (as.map (mj_v ad)) (n := M.2.2.1) (by rw [mj_sl_real]; exact hlen)
  rw [mj_args_real] at hl
  rw [lg_entry_eq]
  generalize (lg_sl (as.map (mj_v ad)) ++ List.replicate (M.2.2.1 - (lg_sl (as.map (mj_v ad))).length) Slot.unset).toArray = ls at hl ⊢
  have CX : mj_CX M p s m (as.map (mj_v ad)).toArray meth c := ⟨B.exec, B.bytes, hml, B.returns, hown, fun w hw => hts w (List.mem_cons_of_mem _ hw), B.notSynchronized, hnm, hN, hT⟩
  refine hW p lc e s m (as.map (mj_v ad)).toArray below meth c s.heap [] ls A _ dC dI cy ad ad h.length CX ⟨hK, hA, hR, hP, hD, hS, hch⟩ hl (mj_args_c as 0 hcas) (fun v hv => by cases hv) (mj_ag.rf _ _) (Nat.le_refl _) trivial ?_
  intro pc H locs ls2 ad2 h2 r2 k2 n2 I2 hag2 hn2 hcr2 hfin hret hsz2 hk2 hns2
  obtain ⟨rfl, rfl⟩ := hfin
  obtain ⟨-, -, -, hP2, hD2, hS2, hch2⟩ := I2
  refine W.widen hk2 hns2 ?_
  have hBB : ∀ t : State, t.heap = H → mj_B dC dI cy ad h A r2 h2 ad2 t := fun t ht => ⟨hag2, hn2, hch2, hcr2, by rw [ht]; exact hP2, hD2⟩
  match r2, hret, hBB with
  | none, hret, hBB => exact W.vret B.exec B.bytes (B.returns.trans hret.2) (fun t ht hW => ⟨⟨ad2, rfl, trivial, hBB t ht⟩, hS2.F ht⟩) hS2.2.2 hret.1 B.notSynchronized
  | some (.int x), hret, hBB =>
    obtain ⟨h1, ty, h3, h4⟩ := hret
    exact W.zret B.exec B.bytes (B.returns.trans h3) h4 (fun t ht hW => ⟨⟨x, ad2, rfl, rfl, hBB t ht⟩, hS2.F ht⟩) hS2.2.2 h1 B.notSynchronized
  | some (.long x), hret, hBB => exact W.lret B.exec B.bytes (B.returns.trans hret.2) (fun t ht hW => ⟨⟨x, ad2, rfl, rfl, hBB t ht⟩, hS2.F ht⟩) hS2.2.2 hret.1 B.notSynchronized
  | some (.ref x), hret, hBB =>
    obtain ⟨h1, nm, h3⟩ := hret
    exact W.aret (rt := .object nm) B.exec B.bytes (B.returns.trans h3) (Or.inl ⟨nm, rfl⟩) (Or.inr ⟨ad2 x, rfl⟩) (fun t ht hW => ⟨⟨ad2, ad2 x, rfl, trivial, rfl, hBB t ht⟩, hS2.F ht⟩) hS2.2.2 h1 B.notSynchronized
/-- a method's own end -/
theorem mj_end {M : mj_M} {Fin : mj_F} {pc : Nat} {l : List (Nat × Value)} {h : mj_H} {k n : Nat} (r : Option Value) (hr : mj_ret M pc r) (hF : Fin.1 r h) (hk : k ≤ M.2.2.2.2.1.cells) (hn : n ≤ M.2.2.2.2.1.slots) : mj_W M Fin pc l r.toList h k n := by
  intro p lc e s m args below meth c H locs ls A Q dC dI cy ad ad0 n0 CX I hl hcl hcs hag hn0 hz hret
  have key := hret pc H locs ls ad h r k n I hag hn0 (fun v hv => hcs v (by rw [hv]; exact List.mem_cons_self)) hF hr hl.1 hk hn
  have e1 : r.toList.map (mj_v ad) = (r.map (mj_v ad)).toList := by cases r <;> rfl
  rw [e1]
  exact key
/-- behind a call -/
theorem mj_after {M : mj_M} {Fin : mj_F} {pc : Nat} {l : List (Nat × Value)} {rest : List Value} {h h' : mj_H} {k n mc ms : Nat} {r : Option Value} (kk : mj_W M Fin (pc + 3) l (r.toList ++ rest) h' (k + mc) (n + ms))
    {p : Program} {lc : Launch} {e : Env} {s : State} {m : MethodId} {args : Array Value} {below : List Frame} {meth : Method} {c : Code} {H : Heap} {locs : List Loc} {ls : Array Slot} {A : Nat → Prop} {Q : State → Prop} {dC : Nat → ClassId} {dI : Nat → Nat → Nat} {cy : Nat → ClassId} {ad ad0 : Nat → Nat} {n0 : Nat} {st0 : List Value} {a : Array Value}
    (CX : mj_CX M p s m args meth c) (I : mj_I dC dI cy A s ad h H locs) (hl : lv_has ls M.2.2.1 (mj_l ad l)) (hcl : ∀ q ∈ l, mj_cv h.length q.2) (hcs : ∀ v ∈ rest, mj_cv h.length v) (hag : mj_ag n0 ad0 ad) (hn : n0 ≤ h.length) (hz : Fin.2 s A ad0)
    (hret : ∀ (pc : Nat) (H : Heap) (locs : List Loc) (ls : Array Slot) (ad : Nat → Nat) (h : mj_H) (r : Option Value) (k n : Nat), mj_I dC dI cy A s ad h H locs → mj_ag n0 ad0 ad → n0 ≤ h.length → mj_cr h.length r → Fin.1 r h → mj_ret M pc r → ls.size = M.2.2.1 → k ≤ M.2.2.2.2.1.cells → n ≤ M.2.2.2.2.1.slots →
      W p lc e M.2.2.2.2.1 s m args below meth c H locs k n Q (F0 m pc ls ((r.map (mj_v ad)).toList)))
    (hr : va_Run p lc e M.2.2.2.2.1 s m args below meth c H locs k n mc ms (F0 m pc ls st0) (rest.map (mj_v ad)) (mj_Q r (mj_B dC dI cy ad h (va_A (mj_w cy ad h) H.size) r h') (va_A (mj_w cy ad h) H.size) a) (va_A (mj_w cy ad h) H.size)) : W p lc e M.2.2.2.2.1 s m args below meth c H locs k n Q (F0 m pc ls st0) := by
  obtain ⟨hK, hA, hR, hP, hD, hS, hch⟩ := I
  have hAA : ∀ q, va_A (mj_w cy ad h) H.size q → A q := by
    intro q hq
    rcases hq with ⟨k2, e2, hq⟩ | hq
    · exact hD.2 k2 _ hq
    · exact hA q (Nat.le_trans hS.1 hq)
  have fin : ∀ (ad' : Nat → Nat) (t : State) (H1 : Heap) (locs1 : List Loc), t.heap = H1 → mj_B dC dI cy ad h (va_A (mj_w cy ad h) H.size) r h' ad' t → va_S A s.heap H1 locs1 →
      W p lc e M.2.2.2.2.1 s m args below meth c H1 locs1 (k + mc) (n + ms) Q (F0 m (pc + 3) ls ((r.toList ++ rest).map (mj_v ad'))) := by
    intro ad' t H1 locs1 ht hB hS1
    obtain ⟨b1, b2, b3, b4, b5, b6⟩ := hB
    rw [ht] at b5
    refine kk p lc e s m args below meth c H1 locs1 ls A Q dC dI cy ad' ad0 n0 CX ⟨hK, hA, hR.ag b1, b5, b6.weaken (fun _ q _ hq => hAA q.1 hq), hS1, b3⟩ (by rw [mj_l_ag b1 hcl]; exact hl) (fun q hq => mj_cv_mono b2 (hcl q hq)) (fun v hv => ?_) (hag.tr b1 hn) (Nat.le_trans hn b2) hz hret
    rcases List.mem_append.mp hv with h1 | h1
    · exact b4 v (Option.mem_toList.mp h1)
    · exact mj_cv_mono b2 (hcs v h1)
  have er : ∀ ad', mj_ag h.length ad ad' → (r.toList ++ rest).map (mj_v ad') = (r.map (mj_v ad')).toList ++ rest.map (mj_v ad) := by
    intro ad' hg
    rw [List.map_append, mj_s_ag hg hcs]
    cases r <;> rfl
  match r, hr, fin, er with
  | none, hr, fin, er =>
    refine va_callv (a := a) hr hS (fun q _ h => hAA q h) hAA (fun u t H1 locs1 ht hvm _ hB hz1 hk1 hS1 => ?_)
    have := fin u t H1 locs1 ht hB hS1
    rw [er u hB.1] at this
    exact this
  | some (.int x), hr, fin, er =>
    refine va_calli (a := a) hr hS (fun q _ h => hAA q h) hAA (fun y u t H1 locs1 ht hvm hy hB hz1 hk1 hS1 => ?_)
    have := fin u t H1 locs1 ht hB hS1
    rw [er u hB.1] at this
    subst hy
    exact this
  | some (.long x), hr, fin, er =>
    refine va_calll (a := a) hr hS (fun q _ h => hAA q h) hAA (fun y u t H1 locs1 ht hvm hy hB hz1 hk1 hS1 => ?_)
    have := fin u t H1 locs1 ht hB hS1
    rw [er u hB.1] at this
    subst hy
    exact this
  | some (.ref x), hr, fin, er =>
    refine va_callr (a := a) hr hS (fun q _ h => hAA q h) hAA (fun u ra t H1 locs1 ht hvm _ hB hz1 hk1 hS1 => ?_)
    have := fin u t H1 locs1 ht hB.2 hS1
    rw [er u hB.2.1] at this
    rw [hB.1]
    exact this
  | some (.float x), hr, fin, er =>
    intro T hT X
    obtain ⟨v, st₀, t, T', L, h0, X', hL, e1, e2, hq, st⟩ := hr T hT X
    exact hq.elim
  | some (.double x), hr, fin, er =>
    intro T hT X
    obtain ⟨v, st₀, t, T', L, h0, X', hL, e1, e2, hq, st⟩ := hr T hT X
    exact hq.elim
  | some .null, hr, fin, er =>
    intro T hT X
    obtain ⟨v, st₀, t, T', L, h0, X', hL, e1, e2, hq, st⟩ := hr T hT X
    exact hq.elim
  | some (.retAddr x), hr, fin, er =>
    intro T hT X
    obtain ⟨v, st₀, t, T', L, h0, X', hL, e1, e2, hq, st⟩ := hr T hT X
    exact hq.elim
theorem mj_pre_at {dC : Nat → ClassId} {dI : Nat → Nat → Nat} {cy : Nat → ClassId} {A : Nat → Prop} {s U : State} {ad : Nat → Nat} {h : mj_H} {H : Heap} {locs : List Loc} (I : mj_I dC dI cy A s ad h H locs) (hN : ∀ w ∈ mj_N, va_Nw w s) (hU : U.heap = H) (hW : s.WarmedH U.vm) : mj_Pre dC dI cy ad h H.size U := by
  obtain ⟨hK, hA, hR, hP, hD, hS, hch⟩ := I
  have hAA : ∀ q, va_A (mj_w cy ad h) H.size q → A q := by
    intro q hq
    rcases hq with ⟨k2, e2, hq⟩ | hq
    · exact hD.2 k2 _ hq
    · exact hA q (Nat.le_trans hS.1 hq)
  refine ⟨by rw [hU], by rw [hU]; exact hP, hK.moved hW.alike, hD.weaken (fun _ _ _ _ => trivial), hch, ?_, mj_N.warm hW hN⟩
  exact hR.warm hW (fun a h1 h2 => by rw [hU]; exact hS.2.1 a h1 h2) hAA
theorem mj_blind {dC : Nat → ClassId} {dI : Nat → Nat → Nat} {cy : Nat → ClassId} {ad : Nat → Nat} {h : mj_H} {sz : Nat} {av : List Value} : FrameBlind (va_Pc av (mj_Pre dC dI cy ad h sz)) := by
  intro a U g mk q
  obtain ⟨q0, q1, q2, q3, q4, q5, q6, q7⟩ := q
  exact ⟨q0, q1, q2, q3.moved (Vm.Alike.refl U.vm), q4, q5, mj_R.same (s := U) (U := U.calling g mk a) q6 rfl, mj_N.same (s := U) (U := U.calling g mk a) rfl q7⟩
/-- the rooms fit -/
def mj_rm (R : Room) (M' : mj_M) : Prop := M'.2.2.2.2.1.frames + 1 ≤ R.frames ∧ 8 + (M'.2.2.1 + 11) + M'.2.2.2.2.1.locals ≤ R.locals
/-- what the tables say of a call -/
def mj_LB (M' : mj_M) (n : Nat) : Prop := Jvm.Cond.code M'.1 M'.2.1 M'.2.2.1 M'.2.2.2.1 ∈ mj_G ∧ Jvm.Cond.initialized M'.1.cls ∈ mj_G ∧ (M'.1.cls ≠ "java/lang/invoke/MethodHandle" ∧ M'.1.cls ≠ "java/lang/invoke/VarHandle" ∧ (parseMethodDescriptor M'.1.desc).map (fun d => d.parameters.length) = some n)
def mj_LL (own : String) (idx : Nat) (M' : mj_M) : Prop := Jvm.Cond.methodLink own idx M'.1 ∈ mj_G ∨ ∃ host, Jvm.Cond.methodLinkNest own idx M'.1 host ∈ mj_N
def mj_ob (h : mj_H) (b ci : Nat) : Bool := match h[b]? with
  | some (.inr q) => q.1 == ci
  | _ => false
theorem mj_ob_at {h : mj_H} {b ci : Nat} (e : mj_ob h b ci = true) : ∃ fs : List Value, h[b]? = some (.inr (ci, fs)) := by
  unfold mj_ob at e
  split at e
  next q hq => exact ⟨q.2, by rw [hq, ← (beq_iff_eq.mp e)]⟩
  next => cases e
theorem mj_cat (ad : Nat → Nat) (st : List Value) : ((st.map (mj_v ad)).map fun v => v.category).sum = (st.map fun v => v.category).sum := by
  rw [List.map_map]
  congr 1
  exact List.map_congr_left fun v _ => mj_v_cat ad v
theorem mj_callV {M : mj_M} {Fin : mj_F} {pc : Nat} {l : List (Nat × Value)} {st rest : List Value} {h h' : mj_H} {k n : Nat} {idx b ci np : Nat} {T : u_T} {N : Nat} {r : Option Value} (M' : mj_M) (as : List Value) (a : Nat) (ha : M.2.2.2.2.2[a]? = some (pc, .invokevirtual idx, 3)) (hL : mj_LL M.1.cls idx M') (hB : mj_LB M' np) (hi : Jvm.Cond.instanceMethod M'.1 ∈ mj_G ∧ Jvm.Cond.selects M'.1.cls M'.1 M'.1 ∈ mj_G) (hm : mj_rm M.2.2.2.2.1 M') (hci : vwCl[ci]? = some (M'.1.cls, T, N)) (hob : mj_ob h b ci = true) (hnp : as.length = np) (hst : st = as.reverse ++ .ref b :: rest) (hcat : (rest.map fun v => v.category).sum ≤ 8) (hk : k + M'.2.2.2.2.1.cells ≤ M.2.2.2.2.1.cells ∧ n + M'.2.2.2.2.1.slots ≤ M.2.2.2.2.1.slots) (hM : mj_Met M' (.ref b :: as) h r h')
    (kk : mj_W M Fin (pc + 3) l (r.toList ++ rest) h' (k + M'.2.2.2.2.1.cells) (n + M'.2.2.2.2.1.slots)) : mj_W M Fin pc l st h k n := by
  intro p lc e s m args below meth c H locs ls A Q dC dI cy ad ad0 n0 CX I hl hcl hcs hag hn hz hret
  have CX' := CX
  obtain ⟨hx, hb, hml, hr, hown, hts, hlk, hnm, hN, hT⟩ := CX
  subst hst
  have hca : ∀ v ∈ Value.ref b :: as, mj_cv h.length v := by
    intro v hv
    rcases List.mem_cons.mp hv with rfl | hv
    · exact hcs _ (List.mem_append_right _ List.mem_cons_self)
    · exact hcs _ (List.mem_append_left _ (List.mem_reverse.mpr hv))
  have hcr : ∀ v ∈ rest, mj_cv h.length v := fun v hv => hcs _ (List.mem_append_right _ (List.mem_cons_of_mem _ hv))
  have hMt := hM lc dC dI cy ad H.size hca
  have hrecv : ∃ cellB : Cell, H[ad b]? = some cellB ∧ cellB.vm.isStatics = false ∧ s.vm.findClass M'.1.cls = some cellB.cls := by
    obtain ⟨fs, hq⟩ := mj_ob_at hob
    exact va_recv I.1 I.2.2.2.1 (q0 := b) hci (mj_w_get cy ad hq)
  have hp : PreV s H M'.1.cls (ad b) (va_Pc ((Value.ref b :: as).map (mj_v ad)) (mj_Pre dC dI cy ad h H.size)) (as.map (mj_v ad)) := ⟨mj_blind, hrecv, fun U hU hW => ⟨rfl, mj_pre_at I hN hU hW⟩⟩
  have hstk : ((as.reverse ++ Value.ref b :: rest).map (mj_v ad)) = (as.map (mj_v ad)).reverse ++ .ref (ad b) :: rest.map (mj_v ad) := by
    rw [List.map_append, List.map_reverse]; rfl
  have hGW := mj_ws_good hB.1
  have hd := mj_dec hT ha
  rw [hstk]
  rcases hL with hL | ⟨host, hL⟩
  · exact mj_after kk CX' I hl hcl hcr hag hn hz hret (va_runV (As := as.map (mj_v ad)) (rest := rest.map (mj_v ad)) (nL := M.2.2.1) (Ts := mj_G) (own := M.1.cls) ⟨hx, hb, hml, hown, hts⟩ hMt ⟨callB_of np hts hGW rfl rfl rfl (hts _ hB.2.1) (hts _ hL) hB.2.2 hm, hts _ hi.1, hts _ hi.2⟩ hp rfl (by rw [List.length_map]; exact hnp) hl.1 rfl (by rw [mj_cat]; exact Nat.le_trans (by simp) (Nat.le_trans (Nat.le_of_eq (Nat.zero_add _)) hcat)) hd hk)
  · exact mj_after kk CX' I hl hcl hcr hag hn hz hret (va_runVN (As := as.map (mj_v ad)) (rest := rest.map (mj_v ad)) (nL := M.2.2.1) (Ts := mj_G) (own := M.1.cls) ⟨hx, hb, hml, hown, hts⟩ hMt ⟨va_cnB np hts hGW rfl rfl rfl (hN _ hL) (hts _ hB.2.1) hB.2.2 hm, hts _ hi.1, hts _ hi.2⟩ hp rfl (by rw [List.length_map]; exact hnp) hl.1 rfl (by rw [mj_cat]; exact Nat.le_trans (by simp) (Nat.le_trans (Nat.le_of_eq (Nat.zero_add _)) hcat)) hd hk)
theorem mj_callS {M : mj_M} {Fin : mj_F} {pc : Nat} {l : List (Nat × Value)} {st rest : List Value} {h h' : mj_H} {k n : Nat} {idx np : Nat} {r : Option Value} (M' : mj_M) (as : List Value) (a : Nat) (ha : M.2.2.2.2.2[a]? = some (pc, .invokestatic idx, 3)) (hL : mj_LL M.1.cls idx M') (hB : mj_LB M' np) (hi : Jvm.Cond.static M'.1 ∈ mj_G) (hm : mj_rm M.2.2.2.2.1 M') (hnp : as.length = np) (hst : st = as.reverse ++ rest) (hcat : (rest.map fun v => v.category).sum ≤ 8) (hk : k + M'.2.2.2.2.1.cells ≤ M.2.2.2.2.1.cells ∧ n + M'.2.2.2.2.1.slots ≤ M.2.2.2.2.1.slots) (hM : mj_Met M' as h r h')
    (kk : mj_W M Fin (pc + 3) l (r.toList ++ rest) h' (k + M'.2.2.2.2.1.cells) (n + M'.2.2.2.2.1.slots)) : mj_W M Fin pc l st h k n := by
  intro p lc e s m args below meth c H locs ls A Q dC dI cy ad ad0 n0 CX I hl hcl hcs hag hn hz hret
  have CX' := CX
  obtain ⟨hx, hb, hml, hr, hown, hts, hlk, hnm, hN, hT⟩ := CX
  subst hst
  have hca : ∀ v ∈ as, mj_cv h.length v := fun v hv => hcs _ (List.mem_append_left _ (List.mem_reverse.mpr hv))
  have hcr : ∀ v ∈ rest, mj_cv h.length v := fun v hv => hcs _ (List.mem_append_right _ hv)
  have hMt := hM lc dC dI cy ad H.size hca
  have hp : PreS s H (va_Pc (as.map (mj_v ad)) (mj_Pre dC dI cy ad h H.size)) (as.map (mj_v ad)) := ⟨mj_blind, fun U hU hW => ⟨rfl, mj_pre_at I hN hU hW⟩⟩
  have hstk : ((as.reverse ++ rest).map (mj_v ad)) = (as.map (mj_v ad)).reverse ++ rest.map (mj_v ad) := by
    rw [List.map_append, List.map_reverse]
  have hGW := mj_ws_good hB.1
  have hd := mj_dec hT ha
  rw [hstk]
  rcases hL with hL | ⟨host, hL⟩
  · exact mj_after kk CX' I hl hcl hcr hag hn hz hret (va_runS (As := as.map (mj_v ad)) (rest := rest.map (mj_v ad)) (nL := M.2.2.1) (Ts := mj_G) (own := M.1.cls) ⟨hx, hb, hml, hown, hts⟩ hMt ⟨callB_of np hts hGW rfl rfl rfl (hts _ hB.2.1) (hts _ hL) hB.2.2 hm, hts _ hi⟩ hp rfl (by rw [List.length_map]; exact hnp) hl.1 rfl (by rw [mj_cat]; exact Nat.le_trans (by simp) (Nat.le_trans (Nat.le_of_eq (Nat.zero_add _)) hcat)) hd hk)
  · exact mj_after kk CX' I hl hcl hcr hag hn hz hret (va_runSN (As := as.map (mj_v ad)) (rest := rest.map (mj_v ad)) (nL := M.2.2.1) (Ts := mj_G) (own := M.1.cls) ⟨hx, hb, hml, hown, hts⟩ hMt ⟨va_cnB np hts hGW rfl rfl rfl (hN _ hL) (hts _ hB.2.1) hB.2.2 hm, hts _ hi, trivial⟩ hp rfl (by rw [List.length_map]; exact hnp) hl.1 rfl (by rw [mj_cat]; exact Nat.le_trans (by simp) (Nat.le_trans (Nat.le_of_eq (Nat.zero_add _)) hcat)) hd hk)
theorem mj_callI {M : mj_M} {Fin : mj_F} {pc : Nat} {l : List (Nat × Value)} {st rest : List Value} {h h' : mj_H} {k n : Nat} {idx b np : Nat} (M' : mj_M) (as : List Value) (a : Nat) (ha : M.2.2.2.2.2[a]? = some (pc, .invokespecial idx, 3)) (hL : mj_LL M.1.cls idx M') (hB : mj_LB M' np) (hi : M'.1.name = "<init>" ∧ M'.2.2.2.1 = none ∧ Jvm.Cond.instanceMethod M'.1 ∈ mj_G) (hm : mj_rm M.2.2.2.2.1 M') (hnp : as.length = np) (hst : st = as.reverse ++ .ref b :: rest) (hcat : (rest.map fun v => v.category).sum ≤ 8) (hk : k + M'.2.2.2.2.1.cells ≤ M.2.2.2.2.1.cells ∧ n + M'.2.2.2.2.1.slots ≤ M.2.2.2.2.1.slots) (hM : mj_Met M' (.ref b :: as) h none h')
    (kk : mj_W M Fin (pc + 3) l rest h' (k + M'.2.2.2.2.1.cells) (n + M'.2.2.2.2.1.slots)) : mj_W M Fin pc l st h k n := by
  intro p lc e s m args below meth c H locs ls A Q dC dI cy ad ad0 n0 CX I hl hcl hcs hag hn hz hret
  have CX' := CX
  obtain ⟨hx, hb, hml, hr, hown, hts, hlk, hnm, hN, hT⟩ := CX
  subst hst
  have hca : ∀ v ∈ Value.ref b :: as, mj_cv h.length v := by
    intro v hv
    rcases List.mem_cons.mp hv with rfl | hv
    · exact hcs _ (List.mem_append_right _ List.mem_cons_self)
    · exact hcs _ (List.mem_append_left _ (List.mem_reverse.mpr hv))
  have hcr : ∀ v ∈ rest, mj_cv h.length v := fun v hv => hcs _ (List.mem_append_right _ (List.mem_cons_of_mem _ hv))
  have hMt := hM lc dC dI cy ad H.size hca
  have hp : PreS s H (va_Pc ((Value.ref b :: as).map (mj_v ad)) (mj_Pre dC dI cy ad h H.size)) (.ref (ad b) :: as.map (mj_v ad)) := ⟨mj_blind, fun U hU hW => ⟨rfl, mj_pre_at I hN hU hW⟩⟩
  have hstk : ((as.reverse ++ Value.ref b :: rest).map (mj_v ad)) = (as.map (mj_v ad)).reverse ++ .ref (ad b) :: rest.map (mj_v ad) := by
    rw [List.map_append, List.map_reverse]; rfl
  have hcode : Jvm.Cond.code M'.1 M'.2.1 M'.2.2.1 none ∈ mj_G := by rw [← hi.2.1]; exact hB.1
  have hGW : GoodIn mj_G (mj_ws M') := mj_ws_good hB.1
  have hws : mj_ws M' = Jvm.Cond.code M'.1 M'.2.1 M'.2.2.1 none :: mj_G := by unfold mj_ws; rw [hi.2.1]
  have hd := mj_dec hT ha
  rw [hstk]
  rcases hL with hL | ⟨host, hL⟩
  · exact mj_after (r := none) kk CX' I hl hcl hcr hag hn hz hret (va_runI (As := as.map (mj_v ad)) (rest := rest.map (mj_v ad)) (nL := M.2.2.1) (Ts := mj_G) (own := M.1.cls) ⟨hx, hb, hml, hown, hts⟩ hMt ⟨callB_of np hts hGW hws rfl rfl (hts _ hB.2.1) (hts _ hL) hB.2.2 hm, hi.1, hts _ hi.2.2⟩ hp rfl (by rw [List.length_map]; exact hnp) hl.1 rfl (by rw [mj_cat]; exact Nat.le_trans (by simp) (Nat.le_trans (Nat.le_of_eq (Nat.zero_add _)) hcat)) hd hk)
  · exact mj_after (r := none) kk CX' I hl hcl hcr hag hn hz hret (va_runIN (As := as.map (mj_v ad)) (rest := rest.map (mj_v ad)) (nL := M.2.2.1) (Ts := mj_G) (own := M.1.cls) ⟨hx, hb, hml, hown, hts⟩ hMt ⟨va_cnB np hts hGW hws rfl rfl (hN _ hL) (hts _ hB.2.1) hB.2.2 hm, hi.1, hts _ hi.2.2⟩ hp rfl (by rw [List.length_map]; exact hnp) hl.1 rfl (by rw [mj_cat]; exact Nat.le_trans (by simp) (Nat.le_trans (Nat.le_of_eq (Nat.zero_add _)) hcat)) hd hk)
/-- Object's own constructor -/
theorem mj_obj {M : mj_M} {Fin : mj_F} {pc : Nat} {l : List (Nat × Value)} {st : List Value} {h : mj_H} {k n : Nat} {idx b : Nat} (a : Nat) (ha : M.2.2.2.2.2[a]? = some (pc, .invokespecial idx, 3)) (hw : Jvm.Cond.methodLink M.1.cls idx Lib.objectInit ∈ mj_G ∧ Jvm.Cond.instanceMethod Lib.objectInit ∈ mj_G ∧ Jvm.Cond.code Lib.objectInit ⟨#[0xb1]⟩ 1 none ∈ mj_G) (hm : 1 ≤ M.2.2.2.2.1.frames ∧ (st.map fun v => v.category).sum + 12 ≤ M.2.2.2.2.1.locals) (kk : mj_W M Fin (pc + 3) l st h k n) : mj_W M Fin pc l (.ref b :: st) h k n := by
  intro p lc e s m args below meth c H locs ls A Q dC dI cy ad ad0 n0 CX I hl hcl hcs hag hn hz hret
  have CX' := CX
  obtain ⟨hx, hb, hml, hr, hown, hts, hlk, hnm, hN, hT⟩ := CX
  have hd := mj_dec hT ha
  refine W.objInit hx hb hown (hts _ hw.1) (hts _ hw.2.1) (hts _ hw.2.2) rfl (by rw [hml]; exact hl.1) rfl hd hm.1 (by rw [mj_cat]; exact Nat.le_trans (by simp) hm.2) ?_
  exact W.eq (g2 := F0 m (pc + 3) ls (st.map (mj_v ad))) rfl (kk p lc e s m args below meth c H locs ls A Q dC dI cy ad ad0 n0 CX' I hl hcl (mj_tl hcs) hag hn hz hret)
end
section
/-! helpers of the decompiled functions -/
theorem mj_bd {α β : Type} {x : Option α} {f : α → Option β} {b : β} (h : x.bind f = some b) : ∃ a, x = some a ∧ f a = some b := Option.bind_eq_some_iff.mp h
theorem mj_gd {α : Type} {c : Bool} {a : Option α} {x : α} (h : (if c = true then a else none) = some x) : c = true ∧ a = some x := by
  by_cases hc : c = true
  · rw [if_pos hc] at h; exact ⟨hc, h⟩
  · rw [if_neg hc] at h; cases h
theorem mj_gp {α : Type} {c : Prop} [Decidable c] {a : Option α} {x : α} (h : (if c then a else none) = some x) : c ∧ a = some x := by
  by_cases hc : c
  · rw [if_pos hc] at h; exact ⟨hc, h⟩
  · rw [if_neg hc] at h; cases h
theorem mj_g0 {α : Type} {c : Prop} [Decidable c] {a : Option α} {x : α} (h : (if c then none else a) = some x) : ¬ c ∧ a = some x := by
  by_cases hc : c
  · rw [if_pos hc] at h; cases h
  · rw [if_neg hc] at h; exact ⟨hc, h⟩
def mj_fix {S R : Type} (F : (S → Option R) → S → Option R) : Nat → S → Option R
  | 0, _ => none
  | n + 1, s => F (mj_fix F n) s
theorem mj_fix_ind {S R : Type} {F : (S → Option R) → S → Option R} {P : S → R → Prop} (hs : ∀ K : S → Option R, (∀ s r, K s = some r → P s r) → ∀ s r, F K s = some r → P s r) : ∀ (n : Nat) (s : S) (r : R), mj_fix F n s = some r → P s r
  | 0, _, _, h => by cases h
  | n + 1, s, r, h => hs (mj_fix F n) (mj_fix_ind hs n) s r h
def mj_FI (p : Int32 × mj_H) : mj_F := (fun a b => a = some (.int p.1) ∧ b = p.2, fun _ _ _ => True)
def mj_FJ (p : Int64 × mj_H) : mj_F := (fun a b => a = some (.long p.1) ∧ b = p.2, fun _ _ _ => True)
def mj_FR (p : Nat × mj_H) : mj_F := (fun a b => a = some (.ref p.1) ∧ b = p.2, fun _ _ _ => True)
def mj_FV (p : mj_H) : mj_F := (fun a b => a = none ∧ b = p, fun _ _ _ => True)
theorem mj_bool {x : Int32} (h : x = 0 ∨ x = 1) : narrow .boolean (.int x) = .int x := by
  rcases h with rfl | rfl <;> rfl
def mj_mk (h : mj_H) (c : mj_C) : Option (Nat × mj_H) := if h.length < 1000 then some (h.length, h ++ [c]) else none
theorem mj_mk_at {h : mj_H} {c : mj_C} {p : Nat × mj_H} (e : mj_mk h c = some p) : h.length < 1000 ∧ p = (h.length, h ++ [c]) := by
  unfold mj_mk at e
  split at e
  next hl => cases e; exact ⟨hl, rfl⟩
  next => cases e
theorem mj_newP {M : mj_M} {Fin : mj_F} {pc : Nat} {l : List (Nat × Value)} {st : List Value} {h : mj_H} {k n : Nat} {idx ci N : Nat} {fs : List Value} {p : Nat × mj_H} (a : Nat) (ha : M.2.2.2.2.2[a]? = some (pc, .new idx, 3)) (hf : mj_NW M.1.cls idx ci N fs) (h0 : ∀ v ∈ fs, mj_0 v) (e : mj_mk h (.inr (ci, fs)) = some p) (hk : k + 1 ≤ M.2.2.2.2.1.cells) (hn0 : n + N ≤ M.2.2.2.2.1.slots) (kk : mj_W M Fin (pc + 3) l (.ref p.1 :: st) p.2 (k + 1) (n + N)) : mj_W M Fin pc l st h k n := by
  obtain ⟨hl, rfl⟩ := mj_mk_at e
  exact mj_new a ha hf h0 hl hk hn0 kk
theorem mj_newIP {M : mj_M} {Fin : mj_F} {pc : Nat} {l : List (Nat × Value)} {st : List Value} {h : mj_H} {k n : Nat} {z : Int32} {p : Nat × mj_H} (N : Nat) (a : Nat) (ha : M.2.2.2.2.2[a]? = some (pc, .newarray .int, 2)) (hz : z = Int32.ofNat N) (hN : N < 65536) (hw : Jvm.Cond.arrayClass .int ∈ mj_G) (e : mj_mk h (.inl (0, N, .inl (fun _ => (0 : Int32)))) = some p) (hk : k + 1 ≤ M.2.2.2.2.1.cells) (hn0 : n + N ≤ M.2.2.2.2.1.slots) (kk : mj_W M Fin (pc + 2) l (.ref p.1 :: st) p.2 (k + 1) (n + N)) : mj_W M Fin pc l (.int z :: st) h k n := by
  obtain ⟨hl, rfl⟩ := mj_mk_at e
  exact mj_newI N a ha hz hN hw hl hk hn0 kk
theorem mj_newJP {M : mj_M} {Fin : mj_F} {pc : Nat} {l : List (Nat × Value)} {st : List Value} {h : mj_H} {k n : Nat} {z : Int32} {p : Nat × mj_H} (N : Nat) (a : Nat) (ha : M.2.2.2.2.2[a]? = some (pc, .newarray .long, 2)) (hz : z = Int32.ofNat N) (hN : N < 65536) (hw : Jvm.Cond.arrayClass .long ∈ mj_G) (e : mj_mk h (.inl (1, N, .inr (.inl (fun _ => (0 : Int64))))) = some p) (hk : k + 1 ≤ M.2.2.2.2.1.cells) (hn0 : n + N ≤ M.2.2.2.2.1.slots) (kk : mj_W M Fin (pc + 2) l (.ref p.1 :: st) p.2 (k + 1) (n + N)) : mj_W M Fin pc l (.int z :: st) h k n := by
  obtain ⟨hl, rfl⟩ := mj_mk_at e
  exact mj_newJ N a ha hz hN hw hl hk hn0 kk
theorem mj_newZP {M : mj_M} {Fin : mj_F} {pc : Nat} {l : List (Nat × Value)} {st : List Value} {h : mj_H} {k n : Nat} {z : Int32} {p : Nat × mj_H} (N : Nat) (a : Nat) (ha : M.2.2.2.2.2[a]? = some (pc, .newarray .boolean, 2)) (hz : z = Int32.ofNat N) (hN : N < 65536) (hw : Jvm.Cond.arrayClass .boolean ∈ mj_G) (e : mj_mk h (.inl (2, N, .inl (fun _ => (0 : Int32)))) = some p) (hk : k + 1 ≤ M.2.2.2.2.1.cells) (hn0 : n + N ≤ M.2.2.2.2.1.slots) (kk : mj_W M Fin (pc + 2) l (.ref p.1 :: st) p.2 (k + 1) (n + N)) : mj_W M Fin pc l (.int z :: st) h k n := by
  obtain ⟨hl, rfl⟩ := mj_mk_at e
  exact mj_newZ N a ha hz hN hw hl hk hn0 kk
/-- fewer locals, in any order -/
theorem mj_locs {M : mj_M} {Fin : mj_F} {pc : Nat} {l l' : List (Nat × Value)} {st : List Value} {h : mj_H} {k n : Nat} (ks : List Nat) (e : lv_pick l ks = l') (kk : mj_W M Fin pc l' st h k n) : mj_W M Fin pc l st h k n := by
  intro p lc e0 s m args below meth c H locs ls A Q dC dI cy ad ad0 n0 CX I hl hcl hcs hag hn hzz hret
  have hm : ∀ q ∈ l', q ∈ l := by
    intro q hq
    rw [← e] at hq
    obtain ⟨i, -, hi⟩ := List.mem_filterMap.mp hq
    exact List.mem_of_getElem? hi
  refine kk p lc e0 s m args below meth c H locs ls A Q dC dI cy ad ad0 n0 CX I ⟨hl.1, hl.2.1, fun q hq => ?_⟩ (fun q hq => hcl q (hm q hq)) hcs hag hn hzz hret
  obtain ⟨q0, h1, rfl⟩ := List.mem_map.mp hq
  exact hl.2.2 _ (List.mem_map.mpr ⟨q0, hm q0 h1, rfl⟩)
/-! System.arraycopy -/
def mj_cok (sp dp n : Int32) (n0 n1 : Nat) : Bool := decide (0 ≤ sp.toInt) && decide (0 ≤ dp.toInt) && decide (0 ≤ n.toInt) && decide (sp.toInt + n.toInt ≤ n0) && decide (dp.toInt + n.toInt ≤ n1)
def mj_cpI (h : mj_H) (b0 : Nat) (sp : Int32) (b1 : Nat) (dp n : Int32) : Option mj_H := match h[b0]? with
  | some (.inl (0, n0, .inl f)) => (match h[b1]? with
    | some (.inl (0, n1, .inl g)) => if mj_cok sp dp n n0 n1 then some (h.set b1 (.inl (0, n1, .inl (va_cpy f g sp.toNatClampNeg dp.toNatClampNeg n.toNatClampNeg)))) else none
    | _ => none)
  | _ => none
def mj_cpJ (h : mj_H) (b0 : Nat) (sp : Int32) (b1 : Nat) (dp n : Int32) : Option mj_H := match h[b0]? with
  | some (.inl (1, n0, .inr (.inl f))) => (match h[b1]? with
    | some (.inl (1, n1, .inr (.inl g))) => if mj_cok sp dp n n0 n1 then some (h.set b1 (.inl (1, n1, .inr (.inl (va_cpy f g sp.toNatClampNeg dp.toNatClampNeg n.toNatClampNeg))))) else none
    | _ => none)
  | _ => none
theorem mj_cok_of {sp dp n : Int32} {n0 n1 : Nat} (h : mj_cok sp dp n n0 n1 = true) : ¬ sp < 0 ∧ ¬ dp < 0 ∧ ¬ n < 0 ∧ sp.toNatClampNeg + n.toNatClampNeg ≤ n0 ∧ dp.toNatClampNeg + n.toNatClampNeg ≤ n1 := by
  simp only [mj_cok, Bool.and_eq_true, decide_eq_true_eq] at h
  obtain ⟨⟨⟨⟨h1, h2⟩, h3⟩, h4⟩, h5⟩ := h
  have e : ∀ z : Int32, z.toNatClampNeg = z.toInt.toNat := fun _ => rfl
  have lt0 : ∀ z : Int32, 0 ≤ z.toInt → ¬ z < 0 := fun z hz q => by
    have := Int32.lt_iff_toInt_lt.mp q
    rw [Int32.toInt_zero] at this
    omega
  refine ⟨lt0 _ h1, lt0 _ h2, lt0 _ h3, ?_, ?_⟩ <;> rw [e, e] <;> omega
def mj_cpW (own : String) (idx : Nat) : Prop := Jvm.Cond.methodLink own idx arraycopyName ∈ mj_G ∧ Jvm.Cond.native arraycopyName ∈ mj_G ∧ Jvm.Cond.static arraycopyName ∈ mj_G ∧ Jvm.Cond.initialized "java/lang/System" ∈ mj_G
theorem mj_cpI_W {M : mj_M} {Fin : mj_F} {pc : Nat} {l : List (Nat × Value)} {st : List Value} {h h' : mj_H} {k n : Nat} {idx b0 b1 : Nat} {sp dp nn : Int32} (a : Nat) (ha : M.2.2.2.2.2[a]? = some (pc, .invokestatic idx, 3)) (hw : mj_cpW M.1.cls idx) (hm : 1 ≤ M.2.2.2.2.1.frames ∧ (st.map fun v => v.category).sum + (nativeFrameWords "java/lang/System" "arraycopy" 5 + 11) ≤ M.2.2.2.2.1.locals) (hv : mj_cpI h b0 sp b1 dp nn = some h') (kk : mj_W M Fin (pc + 3) l st h' k n) : mj_W M Fin pc l (.int nn :: .int dp :: .ref b1 :: .int sp :: .ref b0 :: st) h k n := by
  intro p lc e s m args below meth c H locs ls A Q dC dI cy ad ad0 n0 CX I hl hcl hcs hag hn hzz hret
  have CX' := CX
  obtain ⟨hx, hb, hml, hr, hown, hts, hlk, hnm, hN, hT⟩ := CX
  obtain ⟨hK, hA, hR, hP, hD, hS, hch⟩ := I
  obtain ⟨w1, w2, w3, w4⟩ := hw
  unfold mj_cpI at hv
  split at hv
  next nn0 f hq0 =>
    split at hv
    next nn1 g hq1 =>
      split at hv
      next hok =>
        cases hv
        obtain ⟨z1, z2, z3, z4, z5⟩ := mj_cok_of hok
        have hch' := mj_ch_set hch b1 (c := .inl (0, nn1, .inl (va_cpy f g sp.toNatClampNeg dp.toNatClampNeg nn.toNatClampNeg))) trivial
        have hlen : (h.set b1 (.inl (0, nn1, .inl (va_cpy f g sp.toNatClampNeg dp.toNatClampNeg nn.toNatClampNeg)))).length = h.length := List.length_set
        have hset := mj_w_set cy ad h b1 (.inl (0, nn1, .inl (va_cpy f g sp.toNatClampNeg dp.toNatClampNeg nn.toNatClampNeg)))
        have hcs' : ∀ v ∈ st, mj_cv h.length v := fun v hv => hcs v (List.mem_cons_of_mem _ (List.mem_cons_of_mem _ (List.mem_cons_of_mem _ (List.mem_cons_of_mem _ (List.mem_cons_of_mem _ hv)))))
        exact va_copyi hx hb (hml.trans hl.1.symm) hown (hts _ w1) (hts _ w2) (hts _ w3) (hts _ w4) hK hP hD hS b0 b1 0 0 (mj_w_get cy ad hq0) (mj_w_get cy ad hq1) rfl rfl rfl z1 z2 z3 z4 z5 (fun _ _ => rfl) hm.1 (by rw [mj_cat]; exact hm.2) (mj_dec hT ha) (fun H1 locs1 hP1 hD1 hS1 => kk p lc e s m args below meth c H1 locs1 ls A Q dC dI cy ad ad0 n0 CX' ⟨hK, hA, hR, hset ▸ hP1, hset ▸ hD1, hS1, hch'⟩ hl (by rw [hlen]; exact hcl) (by rw [hlen]; exact hcs') hag (by rw [hlen]; exact hn) hzz hret)
      next => cases hv
    next => cases hv
  next => cases hv
theorem mj_cpJ_W {M : mj_M} {Fin : mj_F} {pc : Nat} {l : List (Nat × Value)} {st : List Value} {h h' : mj_H} {k n : Nat} {idx b0 b1 : Nat} {sp dp nn : Int32} (a : Nat) (ha : M.2.2.2.2.2[a]? = some (pc, .invokestatic idx, 3)) (hw : mj_cpW M.1.cls idx) (hm : 1 ≤ M.2.2.2.2.1.frames ∧ (st.map fun v => v.category).sum + (nativeFrameWords "java/lang/System" "arraycopy" 5 + 11) ≤ M.2.2.2.2.1.locals) (hv : mj_cpJ h b0 sp b1 dp nn = some h') (kk : mj_W M Fin (pc + 3) l st h' k n) : mj_W M Fin pc l (.int nn :: .int dp :: .ref b1 :: .int sp :: .ref b0 :: st) h k n := by
  intro p lc e s m args below meth c H locs ls A Q dC dI cy ad ad0 n0 CX I hl hcl hcs hag hn hzz hret
  have CX' := CX
  obtain ⟨hx, hb, hml, hr, hown, hts, hlk, hnm, hN, hT⟩ := CX
  obtain ⟨hK, hA, hR, hP, hD, hS, hch⟩ := I
  obtain ⟨w1, w2, w3, w4⟩ := hw
  unfold mj_cpJ at hv
  split at hv
  next nn0 f hq0 =>
    split at hv
    next nn1 g hq1 =>
      split at hv
      next hok =>
        cases hv
        obtain ⟨z1, z2, z3, z4, z5⟩ := mj_cok_of hok
        have hch' := mj_ch_set hch b1 (c := .inl (1, nn1, .inr (.inl (va_cpy f g sp.toNatClampNeg dp.toNatClampNeg nn.toNatClampNeg)))) trivial
        have hlen : (h.set b1 (.inl (1, nn1, .inr (.inl (va_cpy f g sp.toNatClampNeg dp.toNatClampNeg nn.toNatClampNeg))))).length = h.length := List.length_set
        have hset := mj_w_set cy ad h b1 (.inl (1, nn1, .inr (.inl (va_cpy f g sp.toNatClampNeg dp.toNatClampNeg nn.toNatClampNeg))))
        have hcs' : ∀ v ∈ st, mj_cv h.length v := fun v hv => hcs v (List.mem_cons_of_mem _ (List.mem_cons_of_mem _ (List.mem_cons_of_mem _ (List.mem_cons_of_mem _ (List.mem_cons_of_mem _ hv)))))
        exact va_copyl hx hb (hml.trans hl.1.symm) hown (hts _ w1) (hts _ w2) (hts _ w3) (hts _ w4) hK hP hD hS b0 b1 1 1 (mj_w_get cy ad hq0) (mj_w_get cy ad hq1) rfl rfl rfl z1 z2 z3 z4 z5 (fun _ _ => rfl) hm.1 (by rw [mj_cat]; exact hm.2) (mj_dec hT ha) (fun H1 locs1 hP1 hD1 hS1 => kk p lc e s m args below meth c H1 locs1 ls A Q dC dI cy ad ad0 n0 CX' ⟨hK, hA, hR, hset ▸ hP1, hset ▸ hD1, hS1, hch'⟩ hl (by rw [hlen]; exact hcl) (by rw [hlen]; exact hcs') hag (by rw [hlen]; exact hn) hzz hret)
      next => cases hv
    next => cases hv
  next => cases hv
def mj_maxW (own : String) (idx : Nat) : Prop := Jvm.Cond.methodLink own idx Lib.MathLoose.max_long.x ∈ mj_G ∧ Jvm.Cond.static Lib.MathLoose.max_long.x ∈ mj_G ∧ Jvm.Cond.initialized "java/lang/Math" ∈ mj_G ∧ Jvm.Cond.code Lib.MathLoose.max_long.x Lib.MathLoose.max_long.code 4 (some .long) ∈ mj_G
theorem mj_maxJ {M : mj_M} {Fin : mj_F} {pc : Nat} {l : List (Nat × Value)} {st : List Value} {h : mj_H} {k n : Nat} {idx : Nat} {x y : Int64} (a : Nat) (ha : M.2.2.2.2.2[a]? = some (pc, .invokestatic idx, 3)) (hw : mj_maxW M.1.cls idx) (hm : 1 ≤ M.2.2.2.2.1.frames ∧ (st.map fun v => v.category).sum + 15 ≤ M.2.2.2.2.1.locals ∧ k ≤ M.2.2.2.2.1.cells ∧ n ≤ M.2.2.2.2.1.slots) (kk : mj_W M Fin (pc + 3) l (.long (if y < x then x else y) :: st) h k n) : mj_W M Fin pc l (.long y :: .long x :: st) h k n := by
  intro p lc e s m args below meth c H locs ls A Q dC dI cy ad ad0 n0 CX I hl hcl hcs hag hn hzz hret
  have CX' := CX
  obtain ⟨hx, hb, hml, hr, hown, hts, hlk, hnm, hN, hT⟩ := CX
  obtain ⟨w1, w2, w3, w4⟩ := hw
  exact va_mmax_long hx hb (hml.trans hl.1.symm) hown (hts _ w1) (hts _ w2) (hts _ w3) (hts _ w4) hm.1 (by rw [mj_cat]; exact hm.2.1) hm.2.2.1 hm.2.2.2 (mj_dec hT ha) (kk p lc e s m args below meth c H locs ls A Q dC dI cy ad ad0 n0 CX' I hl hcl (mj_cs trivial (mj_tl (mj_tl hcs))) hag hn hzz hret)
end
section
/-! printed by wip/whole/gen.py: the methods and their instructions -/
def tX5_init : List (Nat × Instr × Nat) := [(0, .aload_n 0, 1), (1, .invokespecial 3, 3), (4, .aload_n 0, 1), (5, .bipush 6, 2), (7, .newarray .long, 2), (9, .putfield 9, 3), (12, .return_, 1)]
def mX5_init : mj_M := (yX5_init, cX5_init, 1, none, { frames := 1, cells := 1, slots := 6, locals := 20 }, tX5_init)
set_option maxRecDepth 100000 in
theorem tok_X5_init : ∀ q ∈ mX5_init.2.2.2.2.2, decode mX5_init.2.1 q.1 = .ok q.2 := by decide +kernel
def tX0_init : List (Nat × Instr × Nat) := [(0, .aload_n 0, 1), (1, .invokespecial 3, 3), (4, .aload_n 0, 1), (5, .bipush 36, 2), (7, .newarray .long, 2), (9, .putfield 9, 3), (12, .aload_n 0, 1), (13, .bipush 6, 2), (15, .newarray .int, 2), (17, .putfield 15, 3), (20, .aload_n 0, 1), (21, .bipush 6, 2), (23, .newarray .int, 2), (25, .putfield 19, 3), (28, .aload_n 0, 1), (29, .new 22, 3), (32, .dup, 1), (33, .invokespecial 24, 3), (36, .putfield 25, 3), (39, .aload_n 0, 1), (40, .bipush 40, 2), (42, .putfield 29, 3), (45, .return_, 1)]
def mX0_init : mj_M := (yX0_init, cX0_init, 1, none, { frames := 2, cells := 5, slots := 55, locals := 40 }, tX0_init)
set_option maxRecDepth 100000 in
theorem tok_X0_init : ∀ q ∈ mX0_init.2.2.2.2.2, decode mX0_init.2.1 q.1 = .ok q.2 := by decide +kernel
def tX0_has : List (Nat × Instr × Nat) := [(0, .iload_n 1, 1), (1, .ifCond .lt 15, 3), (4, .iload_n 1, 1), (5, .aload_n 0, 1), (6, .getfield 33, 3), (9, .if_icmp .ge 7, 3), (12, .iconst 1, 1), (13, .goto 4, 3), (16, .iconst 0, 1), (17, .ireturn, 1)]
def mX0_has : mj_M := (yX0_has, cX0_has, 2, (some .boolean), { frames := 0, cells := 0, slots := 0, locals := 0 }, tX0_has)
set_option maxRecDepth 100000 in
theorem tok_X0_has : ∀ q ∈ mX0_has.2.2.2.2.2, decode mX0_has.2.1 q.1 = .ok q.2 := by decide +kernel
def tX0_hasAll : List (Nat × Instr × Nat) := [(0, .iload_n 1, 1), (1, .ifCond .lt 17, 3), (4, .iload_n 1, 1), (5, .iconst 1, 1), (6, .aload_n 0, 1), (7, .getfield 33, 3), (10, .ishl, 1), (11, .if_icmp .ge 7, 3), (14, .iconst 1, 1), (15, .goto 4, 3), (18, .iconst 0, 1), (19, .ireturn, 1)]
def mX0_hasAll : mj_M := (yX0_hasAll, cX0_hasAll, 2, (some .boolean), { frames := 0, cells := 0, slots := 0, locals := 0 }, tX0_hasAll)
set_option maxRecDepth 100000 in
theorem tok_X0_hasAll : ∀ q ∈ mX0_hasAll.2.2.2.2.2, decode mX0_hasAll.2.1 q.1 = .ok q.2 := by decide +kernel
def tX0_begin : List (Nat × Instr × Nat) := [(0, .iload_n 1, 1), (1, .ifCond .lt 9, 3), (4, .iload_n 1, 1), (5, .bipush 99, 2), (7, .if_icmp .le 6, 3), (10, .bipush (-2), 2), (12, .ireturn, 1), (13, .aload_n 0, 1), (14, .getfield 33, 3), (17, .istore_n 2, 1), (18, .aload_n 0, 1), (19, .iconst 0, 1), (20, .putfield 33, 3), (23, .aload_n 0, 1), (24, .iconst 0, 1), (25, .putfield 36, 3), (28, .aload_n 0, 1), (29, .iload_n 1, 1), (30, .putfield 29, 3), (33, .iload_n 2, 1), (34, .ireturn, 1)]
def mX0_begin : mj_M := (yX0_begin, cX0_begin, 3, (some .int), { frames := 0, cells := 0, slots := 0, locals := 0 }, tX0_begin)
set_option maxRecDepth 100000 in
theorem tok_X0_begin : ∀ q ∈ mX0_begin.2.2.2.2.2, decode mX0_begin.2.1 q.1 = .ok q.2 := by decide +kernel
def tX0_areWeights : List (Nat × Instr × Nat) := [(0, .iconst 0, 1), (1, .istore_n 1, 1), (2, .iconst 0, 1), (3, .istore_n 2, 1), (4, .iload_n 2, 1), (5, .aload_n 0, 1), (6, .arraylength, 1), (7, .if_icmp .ge 39, 3), (10, .aload_n 0, 1), (11, .iload_n 2, 1), (12, .iaload, 1), (13, .ifCond .lt 11, 3), (16, .aload_n 0, 1), (17, .iload_n 2, 1), (18, .iaload, 1), (19, .bipush 9, 2), (21, .if_icmp .le 5, 3), (24, .iconst 0, 1), (25, .ireturn, 1), (26, .iload_n 1, 1), (27, .aload_n 0, 1), (28, .iload_n 2, 1), (29, .iaload, 1), (30, .ifCond .le 7, 3), (33, .iconst 1, 1), (34, .goto 4, 3), (37, .iconst 0, 1), (38, .ior, 1), (39, .istore_n 1, 1), (40, .iinc 2 1, 3), (43, .goto (-39), 3), (46, .iload_n 1, 1), (47, .ireturn, 1)]
def mX0_areWeights : mj_M := (yX0_areWeights, cX0_areWeights, 3, (some .boolean), { frames := 0, cells := 0, slots := 0, locals := 0 }, tX0_areWeights)
set_option maxRecDepth 100000 in
theorem tok_X0_areWeights : ∀ q ∈ mX0_areWeights.2.2.2.2.2, decode mX0_areWeights.2.1 q.1 = .ok q.2 := by decide +kernel
def tX0_setWeight : List (Nat × Instr × Nat) := [(0, .iload_n 1, 1), (1, .bipush 6, 2), (3, .imul, 1), (4, .iload_n 2, 1), (5, .iadd, 1), (6, .istore 5, 2), (8, .iload 5, 2), (10, .ifCond .lt 21, 3), (13, .iload 5, 2), (15, .aload_n 0, 1), (16, .getfield 9, 3), (19, .arraylength, 1), (20, .if_icmp .ge 11, 3), (23, .aload_n 0, 1), (24, .getfield 9, 3), (27, .iload 5, 2), (29, .lload_n 3, 1), (30, .lastore, 1), (31, .return_, 1)]
def mX0_setWeight : mj_M := (yX0_setWeight, cX0_setWeight, 6, none, { frames := 0, cells := 0, slots := 0, locals := 0 }, tX0_setWeight)
set_option maxRecDepth 100000 in
theorem tok_X0_setWeight : ∀ q ∈ mX0_setWeight.2.2.2.2.2, decode mX0_setWeight.2.1 q.1 = .ok q.2 := by decide +kernel
def tX0_enrol : List (Nat × Instr × Nat) := [(0, .aload_n 1, 1), (1, .ifnull 17, 3), (4, .aload_n 1, 1), (5, .arraylength, 1), (6, .bipush 6, 2), (8, .if_icmp .ne 10, 3), (11, .aload_n 1, 1), (12, .invokestatic 39, 3), (15, .ifCond .ne 6, 3), (18, .bipush (-2), 2), (20, .ireturn, 1), (21, .aload_n 0, 1), (22, .getfield 33, 3), (25, .istore_n 2, 1), (26, .iload_n 2, 1), (27, .ifCond .lt 9, 3), (30, .iload_n 2, 1), (31, .bipush 6, 2), (33, .if_icmp .lt 6, 3), (36, .bipush (-4), 2), (38, .ireturn, 1), (39, .iconst 0, 1), (40, .istore_n 3, 1), (41, .iload_n 3, 1), (42, .bipush 6, 2), (44, .if_icmp .ge 19, 3), (47, .aload_n 0, 1), (48, .iload_n 2, 1), (49, .iload_n 3, 1), (50, .aload_n 1, 1), (51, .iload_n 3, 1), (52, .iaload, 1), (53, .i2l, 1), (54, .invokevirtual 43, 3), (57, .iinc 3 1, 3), (60, .goto (-19), 3), (63, .aload_n 0, 1), (64, .getfield 15, 3), (67, .iload_n 2, 1), (68, .iconst 0, 1), (69, .iastore, 1), (70, .aload_n 0, 1), (71, .getfield 19, 3), (74, .iload_n 2, 1), (75, .iconst 0, 1), (76, .iastore, 1), (77, .aload_n 0, 1), (78, .dup, 1), (79, .getfield 33, 3), (82, .iconst 1, 1), (83, .iadd, 1), (84, .putfield 33, 3), (87, .iload_n 2, 1), (88, .ireturn, 1)]
def mX0_enrol : mj_M := (yX0_enrol, cX0_enrol, 4, (some .int), { frames := 1, cells := 0, slots := 0, locals := 25 }, tX0_enrol)
set_option maxRecDepth 100000 in
theorem tok_X0_enrol : ∀ q ∈ mX0_enrol.2.2.2.2.2, decode mX0_enrol.2.1 q.1 = .ok q.2 := by decide +kernel
def tX0_dress : List (Nat × Instr × Nat) := [(0, .aload_n 0, 1), (1, .iload_n 1, 1), (2, .invokevirtual 47, 3), (5, .ifCond .eq 22, 3), (8, .iload_n 1, 1), (9, .aload_n 0, 1), (10, .getfield 15, 3), (13, .arraylength, 1), (14, .if_icmp .ge 13, 3), (17, .iload_n 2, 1), (18, .ifCond .lt 9, 3), (21, .iload_n 2, 1), (22, .bipush 31, 2), (24, .if_icmp .le 6, 3), (27, .bipush (-2), 2), (29, .ireturn, 1), (30, .aload_n 0, 1), (31, .getfield 15, 3), (34, .iload_n 1, 1), (35, .iaload, 1), (36, .istore_n 3, 1), (37, .aload_n 0, 1), (38, .getfield 15, 3), (41, .iload_n 1, 1), (42, .iload_n 2, 1), (43, .iastore, 1), (44, .iload_n 3, 1), (45, .ireturn, 1)]
def mX0_dress : mj_M := (yX0_dress, cX0_dress, 4, (some .int), { frames := 1, cells := 0, slots := 0, locals := 21 }, tX0_dress)
set_option maxRecDepth 100000 in
theorem tok_X0_dress : ∀ q ∈ mX0_dress.2.2.2.2.2, decode mX0_dress.2.1 q.1 = .ok q.2 := by decide +kernel
def tX0_brothersOf : List (Nat × Instr × Nat) := [(0, .iload_n 1, 1), (1, .ifCond .lt 21, 3), (4, .iload_n 1, 1), (5, .aload_n 0, 1), (6, .getfield 19, 3), (9, .arraylength, 1), (10, .if_icmp .ge 12, 3), (13, .aload_n 0, 1), (14, .getfield 19, 3), (17, .iload_n 1, 1), (18, .iaload, 1), (19, .goto 4, 3), (22, .iconst 0, 1), (23, .ireturn, 1)]
def mX0_brothersOf : mj_M := (yX0_brothersOf, cX0_brothersOf, 2, (some .int), { frames := 0, cells := 0, slots := 0, locals := 0 }, tX0_brothersOf)
set_option maxRecDepth 100000 in
theorem tok_X0_brothersOf : ∀ q ∈ mX0_brothersOf.2.2.2.2.2, decode mX0_brothersOf.2.1 q.1 = .ok q.2 := by decide +kernel
def tX8_isIn : List (Nat × Instr × Nat) := [(0, .iload_n 0, 1), (1, .iload_n 1, 1), (2, .ishr, 1), (3, .iconst 1, 1), (4, .iand, 1), (5, .iconst 1, 1), (6, .if_icmp .ne 7, 3), (9, .iconst 1, 1), (10, .goto 4, 3), (13, .iconst 0, 1), (14, .ireturn, 1)]
def mX8_isIn : mj_M := (yX8_isIn, cX8_isIn, 2, (some .boolean), { frames := 0, cells := 0, slots := 0, locals := 0 }, tX8_isIn)
set_option maxRecDepth 100000 in
theorem tok_X8_isIn : ∀ q ∈ mX8_isIn.2.2.2.2.2, decode mX8_isIn.2.1 q.1 = .ok q.2 := by decide +kernel
def tX0_areBrothers : List (Nat × Instr × Nat) := [(0, .aload_n 0, 1), (1, .iload_n 1, 1), (2, .invokevirtual 61, 3), (5, .iload_n 2, 1), (6, .invokestatic 58, 3), (9, .ireturn, 1)]
def mX0_areBrothers : mj_M := (yX0_areBrothers, cX0_areBrothers, 3, (some .boolean), { frames := 1, cells := 0, slots := 0, locals := 21 }, tX0_areBrothers)
set_option maxRecDepth 100000 in
theorem tok_X0_areBrothers : ∀ q ∈ mX0_areBrothers.2.2.2.2.2, decode mX0_areBrothers.2.1 q.1 = .ok q.2 := by decide +kernel
def tX0_bind : List (Nat × Instr × Nat) := [(0, .aload_n 0, 1), (1, .iload_n 1, 1), (2, .invokevirtual 47, 3), (5, .ifCond .eq 34, 3), (8, .aload_n 0, 1), (9, .iload_n 2, 1), (10, .invokevirtual 47, 3), (13, .ifCond .eq 26, 3), (16, .iload_n 1, 1), (17, .iload_n 2, 1), (18, .if_icmp .eq 21, 3), (21, .iload_n 1, 1), (22, .aload_n 0, 1), (23, .getfield 19, 3), (26, .arraylength, 1), (27, .if_icmp .ge 12, 3), (30, .iload_n 2, 1), (31, .aload_n 0, 1), (32, .getfield 19, 3), (35, .arraylength, 1), (36, .if_icmp .lt 6, 3), (39, .bipush (-2), 2), (41, .ireturn, 1), (42, .aload_n 0, 1), (43, .iload_n 1, 1), (44, .iload_n 2, 1), (45, .invokevirtual 51, 3), (48, .ifCond .eq 6, 3), (51, .bipush (-3), 2), (53, .ireturn, 1), (54, .aload_n 0, 1), (55, .getfield 19, 3), (58, .iload_n 1, 1), (59, .dup2, 1), (60, .iaload, 1), (61, .iconst 1, 1), (62, .iload_n 2, 1), (63, .ishl, 1), (64, .ior, 1), (65, .iastore, 1), (66, .aload_n 0, 1), (67, .getfield 19, 3), (70, .iload_n 2, 1), (71, .dup2, 1), (72, .iaload, 1), (73, .iconst 1, 1), (74, .iload_n 1, 1), (75, .ishl, 1), (76, .ior, 1), (77, .iastore, 1), (78, .iconst 1, 1), (79, .ireturn, 1)]
def mX0_bind : mj_M := (yX0_bind, cX0_bind, 3, (some .int), { frames := 2, cells := 0, slots := 0, locals := 43 }, tX0_bind)
set_option maxRecDepth 100000 in
theorem tok_X0_bind : ∀ q ∈ mX0_bind.2.2.2.2.2, decode mX0_bind.2.1 q.1 = .ok q.2 := by decide +kernel
def tX0_knows : List (Nat × Instr × Nat) := [(0, .aload_n 0, 1), (1, .getfield 36, 3), (4, .iload_n 1, 1), (5, .invokestatic 58, 3), (8, .ireturn, 1)]
def mX0_knows : mj_M := (yX0_knows, cX0_knows, 2, (some .boolean), { frames := 1, cells := 0, slots := 0, locals := 21 }, tX0_knows)
set_option maxRecDepth 100000 in
theorem tok_X0_knows : ∀ q ∈ mX0_knows.2.2.2.2.2, decode mX0_knows.2.1 q.1 = .ok q.2 := by decide +kernel
def tX0_inform : List (Nat × Instr × Nat) := [(0, .aload_n 0, 1), (1, .iload_n 1, 1), (2, .invokevirtual 47, 3), (5, .ifCond .ne 6, 3), (8, .bipush (-2), 2), (10, .ireturn, 1), (11, .aload_n 0, 1), (12, .iload_n 1, 1), (13, .invokevirtual 55, 3), (16, .ifCond .eq 6, 3), (19, .bipush (-3), 2), (21, .ireturn, 1), (22, .aload_n 0, 1), (23, .dup, 1), (24, .getfield 36, 3), (27, .iconst 1, 1), (28, .iload_n 1, 1), (29, .ishl, 1), (30, .ior, 1), (31, .putfield 36, 3), (34, .iconst 1, 1), (35, .ireturn, 1)]
def mX0_inform : mj_M := (yX0_inform, cX0_inform, 2, (some .int), { frames := 2, cells := 0, slots := 0, locals := 42 }, tX0_inform)
set_option maxRecDepth 100000 in
theorem tok_X0_inform : ∀ q ∈ mX0_inform.2.2.2.2.2, decode mX0_inform.2.1 q.1 = .ok q.2 := by decide +kernel
def tX0_weightOf : List (Nat × Instr × Nat) := [(0, .iload_n 1, 1), (1, .bipush 6, 2), (3, .imul, 1), (4, .iload_n 2, 1), (5, .iadd, 1), (6, .istore_n 3, 1), (7, .iload_n 3, 1), (8, .ifCond .lt 21, 3), (11, .iload_n 3, 1), (12, .aload_n 0, 1), (13, .getfield 9, 3), (16, .arraylength, 1), (17, .if_icmp .ge 12, 3), (20, .aload_n 0, 1), (21, .getfield 9, 3), (24, .iload_n 3, 1), (25, .laload, 1), (26, .goto 4, 3), (29, .lconst 0, 1), (30, .lreturn, 1)]
def mX0_weightOf : mj_M := (yX0_weightOf, cX0_weightOf, 4, (some .long), { frames := 0, cells := 0, slots := 0, locals := 0 }, tX0_weightOf)
set_option maxRecDepth 100000 in
theorem tok_X0_weightOf : ∀ q ∈ mX0_weightOf.2.2.2.2.2, decode mX0_weightOf.2.1 q.1 = .ok q.2 := by decide +kernel
def tX0_signsOf : List (Nat × Instr × Nat) := [(0, .iload_n 1, 1), (1, .ifCond .lt 21, 3), (4, .iload_n 1, 1), (5, .aload_n 0, 1), (6, .getfield 15, 3), (9, .arraylength, 1), (10, .if_icmp .ge 12, 3), (13, .aload_n 0, 1), (14, .getfield 15, 3), (17, .iload_n 1, 1), (18, .iaload, 1), (19, .goto 4, 3), (22, .iconst 0, 1), (23, .ireturn, 1)]
def mX0_signsOf : mj_M := (yX0_signsOf, cX0_signsOf, 2, (some .int), { frames := 0, cells := 0, slots := 0, locals := 0 }, tX0_signsOf)
set_option maxRecDepth 100000 in
theorem tok_X0_signsOf : ∀ q ∈ mX0_signsOf.2.2.2.2.2, decode mX0_signsOf.2.1 q.1 = .ok q.2 := by decide +kernel
def tJ6_bitCount_0f7a4 : List (Nat × Instr × Nat) := [(0, .iload_n 0, 1), (1, .iload_n 0, 1), (2, .iconst 1, 1), (3, .iushr, 1), (4, .ldc_w 265, 3), (7, .iand, 1), (8, .isub, 1), (9, .istore_n 0, 1), (10, .iload_n 0, 1), (11, .ldc_w 266, 3), (14, .iand, 1), (15, .iload_n 0, 1), (16, .iconst 2, 1), (17, .iushr, 1), (18, .ldc_w 266, 3), (21, .iand, 1), (22, .iadd, 1), (23, .istore_n 0, 1), (24, .iload_n 0, 1), (25, .iload_n 0, 1), (26, .iconst 4, 1), (27, .iushr, 1), (28, .iadd, 1), (29, .ldc_w 267, 3), (32, .iand, 1), (33, .istore_n 0, 1), (34, .iload_n 0, 1), (35, .iload_n 0, 1), (36, .bipush 8, 2), (38, .iushr, 1), (39, .iadd, 1), (40, .istore_n 0, 1), (41, .iload_n 0, 1), (42, .iload_n 0, 1), (43, .bipush 16, 2), (45, .iushr, 1), (46, .iadd, 1), (47, .istore_n 0, 1), (48, .iload_n 0, 1), (49, .bipush 63, 2), (51, .iand, 1), (52, .ireturn, 1)]
def mJ6_bitCount_0f7a4 : mj_M := (yJ6_bitCount_0f7a4, cJ6_bitCount_0f7a4, 1, (some .int), { frames := 0, cells := 0, slots := 0, locals := 0 }, tJ6_bitCount_0f7a4)
set_option maxRecDepth 100000 in
theorem tok_J6_bitCount_0f7a4 : ∀ q ∈ mJ6_bitCount_0f7a4.2.2.2.2.2, decode mJ6_bitCount_0f7a4.2.1 q.1 = .ok q.2 := by decide +kernel
def tX0_pairs : List (Nat × Instr × Nat) := [(0, .iconst 0, 1), (1, .istore_n 1, 1), (2, .iconst 0, 1), (3, .istore_n 2, 1), (4, .iload_n 2, 1), (5, .aload_n 0, 1), (6, .getfield 33, 3), (9, .if_icmp .ge 20, 3), (12, .iload_n 1, 1), (13, .aload_n 0, 1), (14, .iload_n 2, 1), (15, .invokevirtual 61, 3), (18, .invokestatic 65, 3), (21, .iadd, 1), (22, .istore_n 1, 1), (23, .iinc 2 1, 3), (26, .goto (-22), 3), (29, .iload_n 1, 1), (30, .iconst 2, 1), (31, .idiv, 1), (32, .ireturn, 1)]
def mX0_pairs : mj_M := (yX0_pairs, cX0_pairs, 3, (some .int), { frames := 1, cells := 0, slots := 0, locals := 21 }, tX0_pairs)
set_option maxRecDepth 100000 in
theorem tok_X0_pairs : ∀ q ∈ mX0_pairs.2.2.2.2.2, decode mX0_pairs.2.1 q.1 = .ok q.2 := by decide +kernel
def tX0_likeliestOf : List (Nat × Instr × Nat) := [(0, .iconst 0, 1), (1, .istore_n 2, 1), (2, .iconst 1, 1), (3, .istore_n 3, 1), (4, .iload_n 3, 1), (5, .bipush 6, 2), (7, .if_icmp .ge 27, 3), (10, .aload_n 0, 1), (11, .iload_n 1, 1), (12, .iload_n 3, 1), (13, .invokevirtual 70, 3), (16, .aload_n 0, 1), (17, .iload_n 1, 1), (18, .iload_n 2, 1), (19, .invokevirtual 70, 3), (22, .lcmp, 1), (23, .ifCond .le 5, 3), (26, .iload_n 3, 1), (27, .istore_n 2, 1), (28, .iinc 3 1, 3), (31, .goto (-27), 3), (34, .iload_n 2, 1), (35, .ireturn, 1)]
def mX0_likeliestOf : mj_M := (yX0_likeliestOf, cX0_likeliestOf, 4, (some .int), { frames := 1, cells := 0, slots := 0, locals := 23 }, tX0_likeliestOf)
set_option maxRecDepth 100000 in
theorem tok_X0_likeliestOf : ∀ q ∈ mX0_likeliestOf.2.2.2.2.2, decode mX0_likeliestOf.2.1 q.1 = .ok q.2 := by decide +kernel
def tX5_load : List (Nat × Instr × Nat) := [(0, .iconst 0, 1), (1, .istore_n 3, 1), (2, .iload_n 3, 1), (3, .bipush 6, 2), (5, .if_icmp .ge 29, 3), (8, .aload_n 0, 1), (9, .getfield 9, 3), (12, .iload_n 3, 1), (13, .aload_n 1, 1), (14, .ifnonnull 7, 3), (17, .lconst 0, 1), (18, .goto 9, 3), (21, .aload_n 1, 1), (22, .iload_n 2, 1), (23, .iload_n 3, 1), (24, .invokevirtual 15, 3), (27, .lastore, 1), (28, .iinc 3 1, 3), (31, .goto (-29), 3), (34, .return_, 1)]
def mX5_load : mj_M := (yX5_load, cX5_load, 4, none, { frames := 1, cells := 0, slots := 0, locals := 23 }, tX5_load)
set_option maxRecDepth 100000 in
theorem tok_X5_load : ∀ q ∈ mX5_load.2.2.2.2.2, decode mX5_load.2.1 q.1 = .ok q.2 := by decide +kernel
def tX8_casesOf : List (Nat × Instr × Nat) := [(0, .iload_n 1, 1), (1, .ifCond .ne 20, 3), (4, .iload_n 2, 1), (5, .ifCond .eq 16, 3), (8, .iload_n 0, 1), (9, .iconst 3, 1), (10, .if_icmp .eq 8, 3), (13, .iload_n 0, 1), (14, .iconst 5, 1), (15, .if_icmp .ne 6, 3), (18, .bipush 11, 2), (20, .ireturn, 1), (21, .iload_n 0, 1), (22, .iconst 4, 1), (23, .imul, 1), (24, .iload_n 1, 1), (25, .iadd, 1), (26, .istore_n 3, 1), (27, .iload_n 3, 1), (28, .ifCond .lt 19, 3), (31, .iload_n 3, 1), (32, .getstatic 337, 3), (35, .arraylength, 1), (36, .if_icmp .ge 11, 3), (39, .getstatic 337, 3), (42, .iload_n 3, 1), (43, .iaload, 1), (44, .goto 4, 3), (47, .iconst 0, 1), (48, .ireturn, 1)]
def mX8_casesOf : mj_M := (yX8_casesOf, cX8_casesOf, 4, (some .int), { frames := 0, cells := 0, slots := 0, locals := 0 }, tX8_casesOf)
set_option maxRecDepth 100000 in
theorem tok_X8_casesOf : ∀ q ∈ mX8_casesOf.2.2.2.2.2, decode mX8_casesOf.2.1 q.1 = .ok q.2 := by decide +kernel
def tX5_sum : List (Nat × Instr × Nat) := [(0, .lconst 0, 1), (1, .lstore_n 1, 1), (2, .iconst 0, 1), (3, .istore_n 3, 1), (4, .iload_n 3, 1), (5, .bipush 6, 2), (7, .if_icmp .ge 18, 3), (10, .lload_n 1, 1), (11, .aload_n 0, 1), (12, .getfield 9, 3), (15, .iload_n 3, 1), (16, .laload, 1), (17, .ladd, 1), (18, .lstore_n 1, 1), (19, .iinc 3 1, 3), (22, .goto (-18), 3), (25, .lload_n 1, 1), (26, .lreturn, 1)]
def mX5_sum : mj_M := (yX5_sum, cX5_sum, 4, (some .long), { frames := 0, cells := 0, slots := 0, locals := 0 }, tX5_sum)
set_option maxRecDepth 100000 in
theorem tok_X5_sum : ∀ q ∈ mX5_sum.2.2.2.2.2, decode mX5_sum.2.1 q.1 = .ok q.2 := by decide +kernel
def tX5_chance : List (Nat × Instr × Nat) := [(0, .lconst 0, 1), (1, .lstore_n 3, 1), (2, .iconst 0, 1), (3, .istore 5, 2), (5, .iload 5, 2), (7, .bipush 6, 2), (9, .if_icmp .ge 28, 3), (12, .lload_n 3, 1), (13, .aload_n 0, 1), (14, .getfield 9, 3), (17, .iload 5, 2), (19, .laload, 1), (20, .iload 5, 2), (22, .iload_n 1, 1), (23, .iload_n 2, 1), (24, .invokestatic 29, 3), (27, .i2l, 1), (28, .lmul, 1), (29, .ladd, 1), (30, .lstore_n 3, 1), (31, .iinc 5 1, 3), (34, .goto (-29), 3), (37, .ldc2_w 52, 3), (40, .aload_n 0, 1), (41, .invokevirtual 25, 3), (44, .lmul, 1), (45, .lstore 5, 2), (47, .lload 5, 2), (49, .lconst 0, 1), (50, .lcmp, 1), (51, .ifCond .le 15, 3), (54, .ldc2_w 54, 3), (57, .lload_n 3, 1), (58, .lmul, 1), (59, .lload 5, 2), (61, .ldiv, 1), (62, .l2i, 1), (63, .goto 4, 3), (66, .iconst 0, 1), (67, .ireturn, 1)]
def mX5_chance : mj_M := (yX5_chance, cX5_chance, 7, (some .int), { frames := 1, cells := 0, slots := 0, locals := 23 }, tX5_chance)
set_option maxRecDepth 100000 in
theorem tok_X5_chance : ∀ q ∈ mX5_chance.2.2.2.2.2, decode mX5_chance.2.1 q.1 = .ok q.2 := by decide +kernel
def tX0_trustOf : List (Nat × Instr × Nat) := [(0, .aload_n 0, 1), (1, .getfield 25, 3), (4, .aload_n 0, 1), (5, .iload_n 1, 1), (6, .invokevirtual 74, 3), (9, .aload_n 0, 1), (10, .getfield 25, 3), (13, .iconst 3, 1), (14, .iconst 0, 1), (15, .invokevirtual 78, 3), (18, .ireturn, 1)]
def mX0_trustOf : mj_M := (yX0_trustOf, cX0_trustOf, 2, (some .int), { frames := 2, cells := 0, slots := 0, locals := 49 }, tX0_trustOf)
set_option maxRecDepth 100000 in
theorem tok_X0_trustOf : ∀ q ∈ mX0_trustOf.2.2.2.2.2, decode mX0_trustOf.2.1 q.1 = .ok q.2 := by decide +kernel
def tX0_showsOf : List (Nat × Instr × Nat) := [(0, .aload_n 0, 1), (1, .getfield 25, 3), (4, .aload_n 0, 1), (5, .iload_n 1, 1), (6, .invokevirtual 74, 3), (9, .aload_n 0, 1), (10, .getfield 25, 3), (13, .iload_n 2, 1), (14, .aload_n 0, 1), (15, .iload_n 1, 1), (16, .invokevirtual 55, 3), (19, .invokevirtual 78, 3), (22, .ireturn, 1)]
def mX0_showsOf : mj_M := (yX0_showsOf, cX0_showsOf, 3, (some .int), { frames := 2, cells := 0, slots := 0, locals := 49 }, tX0_showsOf)
set_option maxRecDepth 100000 in
theorem tok_X0_showsOf : ∀ q ∈ mX0_showsOf.2.2.2.2.2, decode mX0_showsOf.2.1 q.1 = .ok q.2 := by decide +kernel
def tX5_isEmpty : List (Nat × Instr × Nat) := [(0, .aload_n 0, 1), (1, .invokevirtual 25, 3), (4, .lconst 0, 1), (5, .lcmp, 1), (6, .ifCond .ne 7, 3), (9, .iconst 1, 1), (10, .goto 4, 3), (13, .iconst 0, 1), (14, .ireturn, 1)]
def mX5_isEmpty : mj_M := (yX5_isEmpty, cX5_isEmpty, 1, (some .boolean), { frames := 1, cells := 0, slots := 0, locals := 23 }, tX5_isEmpty)
set_option maxRecDepth 100000 in
theorem tok_X5_isEmpty : ∀ q ∈ mX5_isEmpty.2.2.2.2.2, decode mX5_isEmpty.2.1 q.1 = .ok q.2 := by decide +kernel
def tX8_greatestCommon : List (Nat × Instr × Nat) := [(0, .iconst 0, 1), (1, .istore 4, 2), (3, .iload 4, 2), (5, .bipush 100, 2), (7, .if_icmp .ge 25, 3), (10, .lload_n 2, 1), (11, .lconst 0, 1), (12, .lcmp, 1), (13, .ifCond .eq 19, 3), (16, .lload_n 0, 1), (17, .lload_n 2, 1), (18, .lrem, 1), (19, .lstore 5, 2), (21, .lload_n 2, 1), (22, .lstore_n 0, 1), (23, .lload 5, 2), (25, .lstore_n 2, 1), (26, .iinc 4 1, 3), (29, .goto (-26), 3), (32, .lload_n 0, 1), (33, .lreturn, 1)]
def mX8_greatestCommon : mj_M := (yX8_greatestCommon, cX8_greatestCommon, 7, (some .long), { frames := 0, cells := 0, slots := 0, locals := 0 }, tX8_greatestCommon)
set_option maxRecDepth 100000 in
theorem tok_X8_greatestCommon : ∀ q ∈ mX8_greatestCommon.2.2.2.2.2, decode mX8_greatestCommon.2.1 q.1 = .ok q.2 := by decide +kernel
def tX5_cutBy : List (Nat × Instr × Nat) := [(0, .iconst 0, 1), (1, .istore_n 3, 1), (2, .iload_n 3, 1), (3, .bipush 6, 2), (5, .if_icmp .ge 25, 3), (8, .lload_n 1, 1), (9, .lconst 0, 1), (10, .lcmp, 1), (11, .ifCond .le 13, 3), (14, .aload_n 0, 1), (15, .getfield 9, 3), (18, .iload_n 3, 1), (19, .dup2, 1), (20, .laload, 1), (21, .lload_n 1, 1), (22, .ldiv, 1), (23, .lastore, 1), (24, .iinc 3 1, 3), (27, .goto (-25), 3), (30, .return_, 1)]
def mX5_cutBy : mj_M := (yX5_cutBy, cX5_cutBy, 4, none, { frames := 0, cells := 0, slots := 0, locals := 0 }, tX5_cutBy)
set_option maxRecDepth 100000 in
theorem tok_X5_cutBy : ∀ q ∈ mX5_cutBy.2.2.2.2.2, decode mX5_cutBy.2.1 q.1 = .ok q.2 := by decide +kernel
def tX5_most : List (Nat × Instr × Nat) := [(0, .lconst 0, 1), (1, .lstore_n 1, 1), (2, .iconst 0, 1), (3, .istore_n 3, 1), (4, .iload_n 3, 1), (5, .bipush 6, 2), (7, .if_icmp .ge 20, 3), (10, .lload_n 1, 1), (11, .aload_n 0, 1), (12, .getfield 9, 3), (15, .iload_n 3, 1), (16, .laload, 1), (17, .invokestatic 56, 3), (20, .lstore_n 1, 1), (21, .iinc 3 1, 3), (24, .goto (-20), 3), (27, .lload_n 1, 1), (28, .lreturn, 1)]
def mX5_most : mj_M := (yX5_most, cX5_most, 4, (some .long), { frames := 1, cells := 0, slots := 0, locals := 60 }, tX5_most)
set_option maxRecDepth 100000 in
theorem tok_X5_most : ∀ q ∈ mX5_most.2.2.2.2.2, decode mX5_most.2.1 q.1 = .ok q.2 := by decide +kernel
def tX5_weigh : List (Nat × Instr × Nat) := [(0, .iconst 0, 1), (1, .istore 4, 2), (3, .iload 4, 2), (5, .bipush 6, 2), (7, .if_icmp .ge 44, 3), (10, .iload 4, 2), (12, .iload_n 1, 1), (13, .iload_n 3, 1), (14, .invokestatic 29, 3), (17, .istore 5, 2), (19, .aload_n 0, 1), (20, .getfield 9, 3), (23, .iload 4, 2), (25, .dup2, 1), (26, .laload, 1), (27, .iload_n 2, 1), (28, .ifCond .eq 9, 3), (31, .iload 5, 2), (33, .i2l, 1), (34, .goto 9, 3), (37, .bipush 12, 2), (39, .iload 5, 2), (41, .isub, 1), (42, .i2l, 1), (43, .lmul, 1), (44, .lastore, 1), (45, .iinc 4 1, 3), (48, .goto (-45), 3), (51, .aload_n 0, 1), (52, .invokevirtual 33, 3), (55, .ifCond .eq 27, 3), (58, .iconst 0, 1), (59, .istore 4, 2), (61, .iload 4, 2), (63, .bipush 6, 2), (65, .if_icmp .ge 17, 3), (68, .aload_n 0, 1), (69, .getfield 9, 3), (72, .iload 4, 2), (74, .lconst 1, 1), (75, .lastore, 1), (76, .iinc 4 1, 3), (79, .goto (-18), 3), (82, .lconst 0, 1), (83, .lstore 4, 2), (85, .iconst 0, 1), (86, .istore 6, 2), (88, .iload 6, 2), (90, .bipush 6, 2), (92, .if_icmp .ge 23, 3), (95, .lload 4, 2), (97, .aload_n 0, 1), (98, .getfield 9, 3), (101, .iload 6, 2), (103, .laload, 1), (104, .invokestatic 37, 3), (107, .lstore 4, 2), (109, .iinc 6 1, 3), (112, .goto (-24), 3), (115, .aload_n 0, 1), (116, .lload 4, 2), (118, .invokevirtual 41, 3), (121, .iconst 0, 1), (122, .istore 6, 2), (124, .iload 6, 2), (126, .bipush 64, 2), (128, .if_icmp .ge 27, 3), (131, .aload_n 0, 1), (132, .invokevirtual 45, 3), (135, .ldc2_w 48, 3), (138, .lcmp, 1), (139, .ifCond .le 16, 3), (142, .aload_n 0, 1), (143, .ldc2_w 50, 3), (146, .invokevirtual 41, 3), (149, .iinc 6 1, 3), (152, .goto (-28), 3), (155, .return_, 1)]
def mX5_weigh : mj_M := (yX5_weigh, cX5_weigh, 7, none, { frames := 2, cells := 0, slots := 0, locals := 83 }, tX5_weigh)
set_option maxRecDepth 100000 in
theorem tok_X5_weigh : ∀ q ∈ mX5_weigh.2.2.2.2.2, decode mX5_weigh.2.1 q.1 = .ok q.2 := by decide +kernel
def tX0_trustBehind : List (Nat × Instr × Nat) := [(0, .aload_n 0, 1), (1, .getfield 25, 3), (4, .aload_n 0, 1), (5, .iload_n 1, 1), (6, .invokevirtual 74, 3), (9, .iload_n 1, 1), (10, .iload_n 2, 1), (11, .if_icmp .eq 12, 3), (14, .aload_n 0, 1), (15, .iload_n 1, 1), (16, .iload_n 2, 1), (17, .invokevirtual 51, 3), (20, .ifCond .eq 18, 3), (23, .aload_n 0, 1), (24, .getfield 25, 3), (27, .iload_n 3, 1), (28, .iload 4, 2), (30, .aload_n 0, 1), (31, .iload_n 1, 1), (32, .invokevirtual 55, 3), (35, .invokevirtual 82, 3), (38, .aload_n 0, 1), (39, .getfield 25, 3), (42, .iconst 3, 1), (43, .iconst 0, 1), (44, .invokevirtual 78, 3), (47, .ireturn, 1)]
def mX0_trustBehind : mj_M := (yX0_trustBehind, cX0_trustBehind, 5, (some .int), { frames := 3, cells := 0, slots := 0, locals := 109 }, tX0_trustBehind)
set_option maxRecDepth 100000 in
theorem tok_X0_trustBehind : ∀ q ∈ mX0_trustBehind.2.2.2.2.2, decode mX0_trustBehind.2.1 q.1 = .ok q.2 := by decide +kernel
def tX5_store : List (Nat × Instr × Nat) := [(0, .iconst 0, 1), (1, .istore_n 3, 1), (2, .iload_n 3, 1), (3, .bipush 6, 2), (5, .if_icmp .ge 25, 3), (8, .aload_n 1, 1), (9, .ifnull 15, 3), (12, .aload_n 1, 1), (13, .iload_n 2, 1), (14, .iload_n 3, 1), (15, .aload_n 0, 1), (16, .getfield 9, 3), (19, .iload_n 3, 1), (20, .laload, 1), (21, .invokevirtual 21, 3), (24, .iinc 3 1, 3), (27, .goto (-25), 3), (30, .return_, 1)]
def mX5_store : mj_M := (yX5_store, cX5_store, 4, none, { frames := 1, cells := 0, slots := 0, locals := 25 }, tX5_store)
set_option maxRecDepth 100000 in
theorem tok_X5_store : ∀ q ∈ mX5_store.2.2.2.2.2, decode mX5_store.2.1 q.1 = .ok q.2 := by decide +kernel
def tX0_besides : List (Nat × Instr × Nat) := [(0, .aload_n 0, 1), (1, .iload_n 1, 1), (2, .iconst 1, 1), (3, .isub, 1), (4, .invokevirtual 47, 3), (7, .ifCond .eq 11, 3), (10, .iconst 1, 1), (11, .iload_n 1, 1), (12, .iconst 1, 1), (13, .isub, 1), (14, .ishl, 1), (15, .goto 4, 3), (18, .iconst 0, 1), (19, .istore_n 2, 1), (20, .aload_n 0, 1), (21, .iload_n 1, 1), (22, .iconst 1, 1), (23, .iadd, 1), (24, .invokevirtual 47, 3), (27, .ifCond .eq 11, 3), (30, .iconst 1, 1), (31, .iload_n 1, 1), (32, .iconst 1, 1), (33, .iadd, 1), (34, .ishl, 1), (35, .goto 4, 3), (38, .iconst 0, 1), (39, .istore_n 3, 1), (40, .iload_n 2, 1), (41, .iload_n 3, 1), (42, .ior, 1), (43, .ireturn, 1)]
def mX0_besides : mj_M := (yX0_besides, cX0_besides, 4, (some .int), { frames := 1, cells := 0, slots := 0, locals := 21 }, tX0_besides)
set_option maxRecDepth 100000 in
theorem tok_X0_besides : ∀ q ∈ mX0_besides.2.2.2.2.2, decode mX0_besides.2.1 q.1 = .ok q.2 := by decide +kernel
def tX8_costOf : List (Nat × Instr × Nat) := [(0, .iload_n 0, 1), (1, .ifCond .lt 19, 3), (4, .iload_n 0, 1), (5, .getstatic 334, 3), (8, .arraylength, 1), (9, .if_icmp .ge 11, 3), (12, .getstatic 334, 3), (15, .iload_n 0, 1), (16, .iaload, 1), (17, .goto 5, 3), (20, .bipush 100, 2), (22, .ireturn, 1)]
def mX8_costOf : mj_M := (yX8_costOf, cX8_costOf, 1, (some .int), { frames := 0, cells := 0, slots := 0, locals := 0 }, tX8_costOf)
set_option maxRecDepth 100000 in
theorem tok_X8_costOf : ∀ q ∈ mX8_costOf.2.2.2.2.2, decode mX8_costOf.2.1 q.1 = .ok q.2 := by decide +kernel
def tX0_pass : List (Nat × Instr × Nat) := [(0, .iconst 0, 1), (1, .istore 4, 2), (3, .iload 4, 2), (5, .aload_n 0, 1), (6, .getfield 33, 3), (9, .if_icmp .ge 60, 3), (12, .iload 4, 2), (14, .iload_n 1, 1), (15, .if_icmp .eq 13, 3), (18, .aload_n 0, 1), (19, .iload 4, 2), (21, .iload_n 1, 1), (22, .invokevirtual 51, 3), (25, .ifCond .eq 38, 3), (28, .aload_n 0, 1), (29, .getfield 25, 3), (32, .aload_n 0, 1), (33, .iload 4, 2), (35, .invokevirtual 74, 3), (38, .aload_n 0, 1), (39, .getfield 25, 3), (42, .iload_n 2, 1), (43, .iload_n 3, 1), (44, .aload_n 0, 1), (45, .iload 4, 2), (47, .invokevirtual 55, 3), (50, .invokevirtual 82, 3), (53, .aload_n 0, 1), (54, .getfield 25, 3), (57, .aload_n 0, 1), (58, .iload 4, 2), (60, .invokevirtual 86, 3), (63, .iinc 4 1, 3), (66, .goto (-63), 3), (69, .iload_n 2, 1), (70, .ifCond .ne 17, 3), (73, .aload_n 0, 1), (74, .dup, 1), (75, .getfield 36, 3), (78, .aload_n 0, 1), (79, .iload_n 1, 1), (80, .invokevirtual 89, 3), (83, .ior, 1), (84, .putfield 36, 3), (87, .aload_n 0, 1), (88, .dup, 1), (89, .getfield 29, 3), (92, .iload_n 2, 1), (93, .invokestatic 92, 3), (96, .isub, 1), (97, .putfield 29, 3), (100, .return_, 1)]
def mX0_pass : mj_M := (yX0_pass, cX0_pass, 5, none, { frames := 3, cells := 0, slots := 0, locals := 109 }, tX0_pass)
set_option maxRecDepth 100000 in
theorem tok_X0_pass : ∀ q ∈ mX0_pass.2.2.2.2.2, decode mX0_pass.2.1 q.1 = .ok q.2 := by decide +kernel
def tX0_wearers : List (Nat × Instr × Nat) := [(0, .iconst 0, 1), (1, .istore_n 3, 1), (2, .iconst 0, 1), (3, .istore 4, 2), (5, .iload 4, 2), (7, .aload_n 0, 1), (8, .getfield 33, 3), (11, .if_icmp .ge 44, 3), (14, .aload_n 0, 1), (15, .iload 4, 2), (17, .invokevirtual 95, 3), (20, .iload_n 1, 1), (21, .iand, 1), (22, .istore 5, 2), (24, .iload_n 2, 1), (25, .ifCond .eq 12, 3), (28, .iload 5, 2), (30, .iload_n 1, 1), (31, .if_icmp .ne 18, 3), (34, .goto 8, 3), (37, .iload 5, 2), (39, .ifCond .eq 10, 3), (42, .iload_n 3, 1), (43, .iconst 1, 1), (44, .iload 4, 2), (46, .ishl, 1), (47, .ior, 1), (48, .istore_n 3, 1), (49, .iinc 4 1, 3), (52, .goto (-47), 3), (55, .iload_n 3, 1), (56, .ireturn, 1)]
def mX0_wearers : mj_M := (yX0_wearers, cX0_wearers, 6, (some .int), { frames := 1, cells := 0, slots := 0, locals := 21 }, tX0_wearers)
set_option maxRecDepth 100000 in
theorem tok_X0_wearers : ∀ q ∈ mX0_wearers.2.2.2.2.2, decode mX0_wearers.2.1 q.1 = .ok q.2 := by decide +kernel
def tX0_become : List (Nat × Instr × Nat) := [(0, .aload_n 1, 1), (1, .ifnonnull 4, 3), (4, .return_, 1), (5, .aload_n 1, 1), (6, .getfield 9, 3), (9, .iconst 0, 1), (10, .aload_n 0, 1), (11, .getfield 9, 3), (14, .iconst 0, 1), (15, .bipush 36, 2), (17, .invokestatic 98, 3), (20, .aload_n 1, 1), (21, .getfield 15, 3), (24, .iconst 0, 1), (25, .aload_n 0, 1), (26, .getfield 15, 3), (29, .iconst 0, 1), (30, .bipush 6, 2), (32, .invokestatic 98, 3), (35, .aload_n 1, 1), (36, .getfield 19, 3), (39, .iconst 0, 1), (40, .aload_n 0, 1), (41, .getfield 19, 3), (44, .iconst 0, 1), (45, .bipush 6, 2), (47, .invokestatic 98, 3), (50, .aload_n 0, 1), (51, .aload_n 1, 1), (52, .getfield 33, 3), (55, .putfield 33, 3), (58, .aload_n 0, 1), (59, .aload_n 1, 1), (60, .getfield 36, 3), (63, .putfield 36, 3), (66, .aload_n 0, 1), (67, .aload_n 1, 1), (68, .getfield 29, 3), (71, .putfield 29, 3), (74, .return_, 1)]
def mX0_become : mj_M := (yX0_become, cX0_become, 2, none, { frames := 1, cells := 0, slots := 0, locals := 60 }, tX0_become)
set_option maxRecDepth 100000 in
theorem tok_X0_become : ∀ q ∈ mX0_become.2.2.2.2.2, decode mX0_become.2.1 q.1 = .ok q.2 := by decide +kernel
def tX3_init : List (Nat × Instr × Nat) := [(0, .aload_n 0, 1), (1, .invokespecial 3, 3), (4, .aload_n 0, 1), (5, .sipush 288, 3), (8, .newarray .long, 2), (10, .putfield 11, 3), (13, .aload_n 0, 1), (14, .bipush 8, 2), (16, .newarray .int, 2), (18, .putfield 15, 3), (21, .aload_n 0, 1), (22, .bipush 8, 2), (24, .newarray .int, 2), (26, .putfield 19, 3), (29, .return_, 1)]
def mX3_init : mj_M := (yX3_init, cX3_init, 1, none, { frames := 1, cells := 3, slots := 304, locals := 20 }, tX3_init)
set_option maxRecDepth 100000 in
theorem tok_X3_init : ∀ q ∈ mX3_init.2.2.2.2.2, decode mX3_init.2.1 q.1 = .ok q.2 := by decide +kernel
def tX1_init : List (Nat × Instr × Nat) := [(0, .aload_n 0, 1), (1, .invokespecial 1, 3), (4, .aload_n 0, 1), (5, .new 7, 3), (8, .dup, 1), (9, .invokespecial 9, 3), (12, .putfield 10, 3), (15, .aload_n 0, 1), (16, .new 16, 3), (19, .dup, 1), (20, .invokespecial 18, 3), (23, .putfield 19, 3), (26, .return_, 1)]
def mX1_init : mj_M := (yX1_init, cX1_init, 1, none, { frames := 3, cells := 10, slots := 371, locals := 60 }, tX1_init)
set_option maxRecDepth 100000 in
theorem tok_X1_init : ∀ q ∈ mX1_init.2.2.2.2.2, decode mX1_init.2.1 q.1 = .ok q.2 := by decide +kernel
def tX2_init : List (Nat × Instr × Nat) := [(0, .aload_n 0, 1), (1, .invokespecial 3, 3), (4, .aload_n 0, 1), (5, .bipush 6, 2), (7, .newarray .int, 2), (9, .putfield 9, 3), (12, .aload_n 0, 1), (13, .bipush 7, 2), (15, .newarray .long, 2), (17, .putfield 15, 3), (20, .return_, 1)]
def mX2_init : mj_M := (yX2_init, cX2_init, 1, none, { frames := 1, cells := 2, slots := 13, locals := 20 }, tX2_init)
set_option maxRecDepth 100000 in
theorem tok_X2_init : ∀ q ∈ mX2_init.2.2.2.2.2, decode mX2_init.2.1 q.1 = .ok q.2 := by decide +kernel
def tX2_seeNow : List (Nat × Instr × Nat) := [(0, .iconst 0, 1), (1, .istore_n 2, 1), (2, .iload_n 2, 1), (3, .bipush 6, 2), (5, .if_icmp .ge 36, 3), (8, .aload_n 0, 1), (9, .getfield 9, 3), (12, .iload_n 2, 1), (13, .aload_n 1, 1), (14, .ifnull 19, 3), (17, .iload_n 2, 1), (18, .aload_n 1, 1), (19, .getfield 19, 3), (22, .if_icmp .ge 11, 3), (25, .aload_n 1, 1), (26, .iload_n 2, 1), (27, .invokevirtual 25, 3), (30, .goto 4, 3), (33, .iconst 0, 1), (34, .iastore, 1), (35, .iinc 2 1, 3), (38, .goto (-36), 3), (41, .return_, 1)]
def mX2_seeNow : mj_M := (yX2_seeNow, cX2_seeNow, 3, none, { frames := 3, cells := 0, slots := 0, locals := 70 }, tX2_seeNow)
set_option maxRecDepth 100000 in
theorem tok_X2_seeNow : ∀ q ∈ mX2_seeNow.2.2.2.2.2, decode mX2_seeNow.2.1 q.1 = .ok q.2 := by decide +kernel
def tX2_seeBehind : List (Nat × Instr × Nat) := [(0, .iconst 0, 1), (1, .istore 5, 2), (3, .iload 5, 2), (5, .bipush 6, 2), (7, .if_icmp .ge 55, 3), (10, .aload_n 1, 1), (11, .ifnull 16, 3), (14, .iload 5, 2), (16, .aload_n 1, 1), (17, .getfield 19, 3), (20, .if_icmp .ge 7, 3), (23, .iconst 1, 1), (24, .goto 4, 3), (27, .iconst 0, 1), (28, .istore 6, 2), (30, .aload_n 0, 1), (31, .getfield 9, 3), (34, .iload 5, 2), (36, .iload 6, 2), (38, .ifCond .eq 16, 3), (41, .aload_n 1, 1), (42, .iload 5, 2), (44, .iload_n 2, 1), (45, .iload_n 3, 1), (46, .iload 4, 2), (48, .invokevirtual 29, 3), (51, .goto 4, 3), (54, .iconst 0, 1), (55, .iastore, 1), (56, .iinc 5 1, 3), (59, .goto (-56), 3), (62, .return_, 1)]
def mX2_seeBehind : mj_M := (yX2_seeBehind, cX2_seeBehind, 7, none, { frames := 4, cells := 0, slots := 0, locals := 133 }, tX2_seeBehind)
set_option maxRecDepth 100000 in
theorem tok_X2_seeBehind : ∀ q ∈ mX2_seeBehind.2.2.2.2.2, decode mX2_seeBehind.2.1 q.1 = .ok q.2 := by decide +kernel
def tX2_trustSeen : List (Nat × Instr × Nat) := [(0, .iload_n 1, 1), (1, .ifCond .lt 21, 3), (4, .iload_n 1, 1), (5, .aload_n 0, 1), (6, .getfield 9, 3), (9, .arraylength, 1), (10, .if_icmp .ge 12, 3), (13, .aload_n 0, 1), (14, .getfield 9, 3), (17, .iload_n 1, 1), (18, .iaload, 1), (19, .goto 4, 3), (22, .iconst 0, 1), (23, .ireturn, 1)]
def mX2_trustSeen : mj_M := (yX2_trustSeen, cX2_trustSeen, 2, (some .int), { frames := 0, cells := 0, slots := 0, locals := 0 }, tX2_trustSeen)
set_option maxRecDepth 100000 in
theorem tok_X2_trustSeen : ∀ q ∈ mX2_trustSeen.2.2.2.2.2, decode mX2_trustSeen.2.1 q.1 = .ok q.2 := by decide +kernel
def tX2_addMan : List (Nat × Instr × Nat) := [(0, .bipush 6, 2), (2, .istore_n 2, 1), (3, .iload_n 2, 1), (4, .ifCond .le 39, 3), (7, .aload_n 0, 1), (8, .getfield 15, 3), (11, .iload_n 2, 1), (12, .aload_n 0, 1), (13, .getfield 15, 3), (16, .iload_n 2, 1), (17, .laload, 1), (18, .bipush 60, 2), (20, .iload_n 1, 1), (21, .isub, 1), (22, .i2l, 1), (23, .lmul, 1), (24, .aload_n 0, 1), (25, .getfield 15, 3), (28, .iload_n 2, 1), (29, .iconst 1, 1), (30, .isub, 1), (31, .laload, 1), (32, .iload_n 1, 1), (33, .i2l, 1), (34, .lmul, 1), (35, .ladd, 1), (36, .lastore, 1), (37, .iinc 2 (-1), 3), (40, .goto (-37), 3), (43, .aload_n 0, 1), (44, .getfield 15, 3), (47, .iconst 0, 1), (48, .dup2, 1), (49, .laload, 1), (50, .bipush 60, 2), (52, .iload_n 1, 1), (53, .isub, 1), (54, .i2l, 1), (55, .lmul, 1), (56, .lastore, 1), (57, .return_, 1)]
def mX2_addMan : mj_M := (yX2_addMan, cX2_addMan, 3, none, { frames := 0, cells := 0, slots := 0, locals := 0 }, tX2_addMan)
set_option maxRecDepth 100000 in
theorem tok_X2_addMan : ∀ q ∈ mX2_addMan.2.2.2.2.2, decode mX2_addMan.2.1 q.1 = .ok q.2 := by decide +kernel
def tX2_waysToHold : List (Nat × Instr × Nat) := [(0, .iconst 1, 1), (1, .istore_n 3, 1), (2, .iload_n 3, 1), (3, .bipush 6, 2), (5, .if_icmp .gt 16, 3), (8, .aload_n 0, 1), (9, .getfield 15, 3), (12, .iload_n 3, 1), (13, .lconst 0, 1), (14, .lastore, 1), (15, .iinc 3 1, 3), (18, .goto (-16), 3), (21, .aload_n 0, 1), (22, .getfield 15, 3), (25, .iconst 0, 1), (26, .lconst 1, 1), (27, .lastore, 1), (28, .iconst 0, 1), (29, .istore_n 3, 1), (30, .iload_n 3, 1), (31, .bipush 6, 2), (33, .if_icmp .ge 27, 3), (36, .iload_n 1, 1), (37, .iload_n 3, 1), (38, .invokestatic 33, 3), (41, .ifCond .eq 13, 3), (44, .aload_n 0, 1), (45, .aload_n 0, 1), (46, .getfield 9, 3), (49, .iload_n 3, 1), (50, .iaload, 1), (51, .invokevirtual 37, 3), (54, .iinc 3 1, 3), (57, .goto (-27), 3), (60, .lconst 0, 1), (61, .lstore_n 3, 1), (62, .iconst 0, 1), (63, .istore 5, 2), (65, .iload 5, 2), (67, .bipush 6, 2), (69, .if_icmp .gt 29, 3), (72, .lload_n 3, 1), (73, .iload 5, 2), (75, .iload_n 2, 1), (76, .if_icmp .lt 13, 3), (79, .aload_n 0, 1), (80, .getfield 15, 3), (83, .iload 5, 2), (85, .laload, 1), (86, .goto 4, 3), (89, .lconst 0, 1), (90, .ladd, 1), (91, .lstore_n 3, 1), (92, .iinc 5 1, 3), (95, .goto (-30), 3), (98, .lload_n 3, 1), (99, .lreturn, 1)]
def mX2_waysToHold : mj_M := (yX2_waysToHold, cX2_waysToHold, 6, (some .long), { frames := 1, cells := 0, slots := 0, locals := 22 }, tX2_waysToHold)
set_option maxRecDepth 100000 in
theorem tok_X2_waysToHold : ∀ q ∈ mX2_waysToHold.2.2.2.2.2, decode mX2_waysToHold.2.1 q.1 = .ok q.2 := by decide +kernel
def tX2_chooseBest : List (Nat × Instr × Nat) := [(0, .ldc2_w 41, 3), (3, .lstore 4, 2), (5, .iconst 0, 1), (6, .istore 6, 2), (8, .iload 6, 2), (10, .iconst 1, 1), (11, .iload_n 1, 1), (12, .ishl, 1), (13, .if_icmp .ge 45, 3), (16, .iload 6, 2), (18, .invokestatic 43, 3), (21, .iload_n 2, 1), (22, .if_icmp .ne 30, 3), (25, .aload_n 0, 1), (26, .iload 6, 2), (28, .iload_n 3, 1), (29, .invokevirtual 48, 3), (32, .lstore 7, 2), (34, .lload 7, 2), (36, .lload 4, 2), (38, .lcmp, 1), (39, .ifCond .le 13, 3), (42, .lload 7, 2), (44, .lstore 4, 2), (46, .aload_n 0, 1), (47, .iload 6, 2), (49, .putfield 52, 3), (52, .iinc 6 1, 3), (55, .goto (-47), 3), (58, .lload 4, 2), (60, .lreturn, 1)]
def mX2_chooseBest : mj_M := (yX2_chooseBest, cX2_chooseBest, 9, (some .long), { frames := 2, cells := 0, slots := 0, locals := 47 }, tX2_chooseBest)
set_option maxRecDepth 100000 in
theorem tok_X2_chooseBest : ∀ q ∈ mX2_chooseBest.2.2.2.2.2, decode mX2_chooseBest.2.1 q.1 = .ok q.2 := by decide +kernel
def tX3_push : List (Nat × Instr × Nat) := [(0, .aload_n 0, 1), (1, .getfield 22, 3), (4, .bipush 8, 2), (6, .if_icmp .ne 26, 3), (9, .aload_n 0, 1), (10, .aload_n 0, 1), (11, .getfield 26, 3), (14, .iconst 1, 1), (15, .iadd, 1), (16, .bipush 8, 2), (18, .irem, 1), (19, .putfield 26, 3), (22, .aload_n 0, 1), (23, .dup, 1), (24, .getfield 22, 3), (27, .iconst 1, 1), (28, .isub, 1), (29, .putfield 22, 3), (32, .aload_n 0, 1), (33, .getfield 26, 3), (36, .aload_n 0, 1), (37, .getfield 22, 3), (40, .iadd, 1), (41, .bipush 8, 2), (43, .irem, 1), (44, .istore_n 2, 1), (45, .aload_n 1, 1), (46, .ifnull 7, 3), (49, .iload_n 2, 1), (50, .ifCond .ge 4, 3), (53, .return_, 1), (54, .aload_n 1, 1), (55, .getfield 29, 3), (58, .iconst 0, 1), (59, .aload_n 0, 1), (60, .getfield 11, 3), (63, .iload_n 2, 1), (64, .bipush 36, 2), (66, .imul, 1), (67, .bipush 36, 2), (69, .invokestatic 32, 3), (72, .aload_n 0, 1), (73, .getfield 15, 3), (76, .iload_n 2, 1), (77, .aload_n 1, 1), (78, .getfield 38, 3), (81, .iastore, 1), (82, .aload_n 0, 1), (83, .getfield 19, 3), (86, .iload_n 2, 1), (87, .aload_n 1, 1), (88, .getfield 40, 3), (91, .iastore, 1), (92, .aload_n 0, 1), (93, .dup, 1), (94, .getfield 22, 3), (97, .iconst 1, 1), (98, .iadd, 1), (99, .putfield 22, 3), (102, .return_, 1)]
def mX3_push : mj_M := (yX3_push, cX3_push, 3, none, { frames := 1, cells := 0, slots := 0, locals := 60 }, tX3_push)
set_option maxRecDepth 100000 in
theorem tok_X3_push : ∀ q ∈ mX3_push.2.2.2.2.2, decode mX3_push.2.1 q.1 = .ok q.2 := by decide +kernel
def tX3_pop : List (Nat × Instr × Nat) := [(0, .aload_n 1, 1), (1, .ifnull 10, 3), (4, .aload_n 0, 1), (5, .getfield 22, 3), (8, .ifCond .gt 5, 3), (11, .iconst 0, 1), (12, .ireturn, 1), (13, .aload_n 0, 1), (14, .dup, 1), (15, .getfield 22, 3), (18, .iconst 1, 1), (19, .isub, 1), (20, .putfield 22, 3), (23, .aload_n 0, 1), (24, .getfield 26, 3), (27, .aload_n 0, 1), (28, .getfield 22, 3), (31, .iadd, 1), (32, .bipush 8, 2), (34, .irem, 1), (35, .istore_n 2, 1), (36, .iload_n 2, 1), (37, .ifCond .ge 5, 3), (40, .iconst 0, 1), (41, .ireturn, 1), (42, .aload_n 0, 1), (43, .getfield 11, 3), (46, .iload_n 2, 1), (47, .bipush 36, 2), (49, .imul, 1), (50, .aload_n 1, 1), (51, .getfield 29, 3), (54, .iconst 0, 1), (55, .bipush 36, 2), (57, .invokestatic 32, 3), (60, .aload_n 1, 1), (61, .aload_n 0, 1), (62, .getfield 15, 3), (65, .iload_n 2, 1), (66, .iaload, 1), (67, .putfield 38, 3), (70, .aload_n 1, 1), (71, .aload_n 0, 1), (72, .getfield 19, 3), (75, .iload_n 2, 1), (76, .iaload, 1), (77, .putfield 40, 3), (80, .iconst 1, 1), (81, .ireturn, 1)]
def mX3_pop : mj_M := (yX3_pop, cX3_pop, 3, (some .boolean), { frames := 1, cells := 0, slots := 0, locals := 60 }, tX3_pop)
set_option maxRecDepth 100000 in
theorem tok_X3_pop : ∀ q ∈ mX3_pop.2.2.2.2.2, decode mX3_pop.2.1 q.1 = .ok q.2 := by decide +kernel
def tX3_forget : List (Nat × Instr × Nat) := [(0, .aload_n 0, 1), (1, .iconst 0, 1), (2, .putfield 22, 3), (5, .return_, 1)]
def mX3_forget : mj_M := (yX3_forget, cX3_forget, 1, none, { frames := 0, cells := 0, slots := 0, locals := 0 }, tX3_forget)
set_option maxRecDepth 100000 in
theorem tok_X3_forget : ∀ q ∈ mX3_forget.2.2.2.2.2, decode mX3_forget.2.1 q.1 = .ok q.2 := by decide +kernel
def tX3_become : List (Nat × Instr × Nat) := [(0, .aload_n 1, 1), (1, .ifnonnull 4, 3), (4, .return_, 1), (5, .aload_n 1, 1), (6, .getfield 11, 3), (9, .iconst 0, 1), (10, .aload_n 0, 1), (11, .getfield 11, 3), (14, .iconst 0, 1), (15, .sipush 288, 3), (18, .invokestatic 32, 3), (21, .aload_n 1, 1), (22, .getfield 15, 3), (25, .iconst 0, 1), (26, .aload_n 0, 1), (27, .getfield 15, 3), (30, .iconst 0, 1), (31, .bipush 8, 2), (33, .invokestatic 32, 3), (36, .aload_n 1, 1), (37, .getfield 19, 3), (40, .iconst 0, 1), (41, .aload_n 0, 1), (42, .getfield 19, 3), (45, .iconst 0, 1), (46, .bipush 8, 2), (48, .invokestatic 32, 3), (51, .aload_n 0, 1), (52, .aload_n 1, 1), (53, .getfield 26, 3), (56, .putfield 26, 3), (59, .aload_n 0, 1), (60, .aload_n 1, 1), (61, .getfield 22, 3), (64, .putfield 22, 3), (67, .return_, 1)]
def mX3_become : mj_M := (yX3_become, cX3_become, 2, none, { frames := 1, cells := 0, slots := 0, locals := 60 }, tX3_become)
set_option maxRecDepth 100000 in
theorem tok_X3_become : ∀ q ∈ mX3_become.2.2.2.2.2, decode mX3_become.2.1 q.1 = .ok q.2 := by decide +kernel
def tX7_init : List (Nat × Instr × Nat) := [(0, .aload_n 0, 1), (1, .invokespecial 3, 3), (4, .aload_n 0, 1), (5, .sipush 150, 3), (8, .newarray .int, 2), (10, .putfield 11, 3), (13, .return_, 1)]
def mX7_init : mj_M := (yX7_init, cX7_init, 1, none, { frames := 1, cells := 1, slots := 150, locals := 20 }, tX7_init)
set_option maxRecDepth 100000 in
theorem tok_X7_init : ∀ q ∈ mX7_init.2.2.2.2.2, decode mX7_init.2.1 q.1 = .ok q.2 := by decide +kernel
def tX4_init : List (Nat × Instr × Nat) := [(0, .aload_n 0, 1), (1, .invokespecial 3, 3), (4, .aload_n 0, 1), (5, .new 9, 3), (8, .dup, 1), (9, .invokespecial 11, 3), (12, .putfield 12, 3), (15, .aload_n 0, 1), (16, .new 18, 3), (19, .dup, 1), (20, .invokespecial 20, 3), (23, .putfield 21, 3), (26, .aload_n 0, 1), (27, .bipush 6, 2), (29, .newarray .int, 2), (31, .putfield 25, 3), (34, .return_, 1)]
def mX4_init : mj_M := (yX4_init, cX4_init, 1, none, { frames := 3, cells := 9, slots := 220, locals := 60 }, tX4_init)
set_option maxRecDepth 100000 in
theorem tok_X4_init : ∀ q ∈ mX4_init.2.2.2.2.2, decode mX4_init.2.1 q.1 = .ok q.2 := by decide +kernel
def tX7_byteAt : List (Nat × Instr × Nat) := [(0, .iload_n 1, 1), (1, .ifCond .lt 27, 3), (4, .iload_n 1, 1), (5, .aload_n 0, 1), (6, .getfield 15, 3), (9, .if_icmp .ge 19, 3), (12, .iload_n 1, 1), (13, .sipush 150, 3), (16, .if_icmp .ge 12, 3), (19, .aload_n 0, 1), (20, .getfield 11, 3), (23, .iload_n 1, 1), (24, .iaload, 1), (25, .goto 4, 3), (28, .iconst (-1), 1), (29, .ireturn, 1)]
def mX7_byteAt : mj_M := (yX7_byteAt, cX7_byteAt, 2, (some .int), { frames := 0, cells := 0, slots := 0, locals := 0 }, tX7_byteAt)
set_option maxRecDepth 100000 in
theorem tok_X7_byteAt : ∀ q ∈ mX7_byteAt.2.2.2.2.2, decode mX7_byteAt.2.1 q.1 = .ok q.2 := by decide +kernel
def tX4_skipBlanks : List (Nat × Instr × Nat) := [(0, .iconst 0, 1), (1, .istore_n 1, 1), (2, .iload_n 1, 1), (3, .sipush 150, 3), (6, .if_icmp .ge 35, 3), (9, .aload_n 0, 1), (10, .getfield 12, 3), (13, .aload_n 0, 1), (14, .getfield 29, 3), (17, .invokevirtual 39, 3), (20, .bipush 32, 2), (22, .if_icmp .ne 19, 3), (25, .aload_n 0, 1), (26, .dup, 1), (27, .getfield 29, 3), (30, .iconst 1, 1), (31, .iadd, 1), (32, .putfield 29, 3), (35, .iinc 1 1, 3), (38, .goto (-36), 3), (41, .return_, 1)]
def mX4_skipBlanks : mj_M := (yX4_skipBlanks, cX4_skipBlanks, 2, none, { frames := 1, cells := 0, slots := 0, locals := 21 }, tX4_skipBlanks)
set_option maxRecDepth 100000 in
theorem tok_X4_skipBlanks : ∀ q ∈ mX4_skipBlanks.2.2.2.2.2, decode mX4_skipBlanks.2.1 q.1 = .ok q.2 := by decide +kernel
def tX4_isLetter : List (Nat × Instr × Nat) := [(0, .iload_n 0, 1), (1, .bipush 97, 2), (3, .if_icmp .lt 13, 3), (6, .iload_n 0, 1), (7, .bipush 122, 2), (9, .if_icmp .gt 7, 3), (12, .iconst 1, 1), (13, .goto 4, 3), (16, .iconst 0, 1), (17, .ireturn, 1)]
def mX4_isLetter : mj_M := (yX4_isLetter, cX4_isLetter, 1, (some .boolean), { frames := 0, cells := 0, slots := 0, locals := 0 }, tX4_isLetter)
set_option maxRecDepth 100000 in
theorem tok_X4_isLetter : ∀ q ∈ mX4_isLetter.2.2.2.2.2, decode mX4_isLetter.2.1 q.1 = .ok q.2 := by decide +kernel
def tJ0_coder_7d493 : List (Nat × Instr × Nat) := [(0, .getstatic 38, 3), (3, .ifCond .eq 10, 3), (6, .aload_n 0, 1), (7, .getfield 15, 3), (10, .goto 4, 3), (13, .iconst 1, 1), (14, .ireturn, 1)]
def mJ0_coder_7d493 : mj_M := (yJ0_coder_7d493, cJ0_coder_7d493, 1, (some .byte), { frames := 0, cells := 0, slots := 0, locals := 0 }, tJ0_coder_7d493)
set_option maxRecDepth 100000 in
theorem tok_J0_coder_7d493 : ∀ q ∈ mJ0_coder_7d493.2.2.2.2.2, decode mJ0_coder_7d493.2.1 q.1 = .ok q.2 := by decide +kernel
def tJ0_length_8abf5 : List (Nat × Instr × Nat) := [(0, .aload_n 0, 1), (1, .getfield 9, 3), (4, .arraylength, 1), (5, .aload_n 0, 1), (6, .invokevirtual 335, 3), (9, .ishr, 1), (10, .ireturn, 1)]
def mJ0_length_8abf5 : mj_M := (yJ0_length_8abf5, cJ0_length_8abf5, 1, (some .int), { frames := 1, cells := 0, slots := 0, locals := 20 }, tJ0_length_8abf5)
set_option maxRecDepth 100000 in
theorem tok_J0_length_8abf5 : ∀ q ∈ mJ0_length_8abf5.2.2.2.2.2, decode mJ0_length_8abf5.2.1 q.1 = .ok q.2 := by decide +kernel
def tJ0_isLatin1_aae02 : List (Nat × Instr × Nat) := [(0, .getstatic 38, 3), (3, .ifCond .eq 14, 3), (6, .aload_n 0, 1), (7, .getfield 15, 3), (10, .ifCond .ne 7, 3), (13, .iconst 1, 1), (14, .goto 4, 3), (17, .iconst 0, 1), (18, .ireturn, 1)]
def mJ0_isLatin1_aae02 : mj_M := (yJ0_isLatin1_aae02, cJ0_isLatin1_aae02, 1, (some .boolean), { frames := 0, cells := 0, slots := 0, locals := 0 }, tJ0_isLatin1_aae02)
set_option maxRecDepth 100000 in
theorem tok_J0_isLatin1_aae02 : ∀ q ∈ mJ0_isLatin1_aae02.2.2.2.2.2, decode mJ0_isLatin1_aae02.2.1 q.1 = .ok q.2 := by decide +kernel
def tJ3_checkIndex_8e157 : List (Nat × Instr × Nat) := [(0, .iload_n 0, 1), (1, .ifCond .lt 8, 3), (4, .iload_n 0, 1), (5, .iload_n 1, 1), (6, .if_icmp .lt 10, 3), (9, .aload_n 2, 1), (10, .iload_n 0, 1), (11, .iload_n 1, 1), (12, .invokestatic 95, 3), (15, .athrow, 1), (16, .iload_n 0, 1), (17, .ireturn, 1)]
def mJ3_checkIndex_8e157 : mj_M := (yJ3_checkIndex_8e157, cJ3_checkIndex_8e157, 3, (some .int), { frames := 0, cells := 0, slots := 0, locals := 0 }, tJ3_checkIndex_8e157)
set_option maxRecDepth 100000 in
theorem tok_J3_checkIndex_8e157 : ∀ q ∈ mJ3_checkIndex_8e157.2.2.2.2.2, decode mJ3_checkIndex_8e157.2.1 q.1 = .ok q.2 := by decide +kernel
def tJ0_checkIndex_df160 : List (Nat × Instr × Nat) := [(0, .iload_n 0, 1), (1, .iload_n 1, 1), (2, .getstatic 1053, 3), (5, .invokestatic 1059, 3), (8, .pop, 1), (9, .return_, 1)]
def mJ0_checkIndex_df160 : mj_M := (yJ0_checkIndex_df160, cJ0_checkIndex_df160, 2, none, { frames := 1, cells := 0, slots := 0, locals := 22 }, tJ0_checkIndex_df160)
set_option maxRecDepth 100000 in
theorem tok_J0_checkIndex_df160 : ∀ q ∈ mJ0_checkIndex_df160.2.2.2.2.2, decode mJ0_checkIndex_df160.2.1 q.1 = .ok q.2 := by decide +kernel
def tJ1_charAt_3b067 : List (Nat × Instr × Nat) := [(0, .iload_n 1, 1), (1, .aload_n 0, 1), (2, .arraylength, 1), (3, .invokestatic 9, 3), (6, .aload_n 0, 1), (7, .iload_n 1, 1), (8, .baload, 1), (9, .sipush 255, 3), (12, .iand, 1), (13, .i2c, 1), (14, .ireturn, 1)]
def mJ1_charAt_3b067 : mj_M := (yJ1_charAt_3b067, cJ1_charAt_3b067, 2, (some .char), { frames := 2, cells := 0, slots := 0, locals := 43 }, tJ1_charAt_3b067)
set_option maxRecDepth 100000 in
theorem tok_J1_charAt_3b067 : ∀ q ∈ mJ1_charAt_3b067.2.2.2.2.2, decode mJ1_charAt_3b067.2.1 q.1 = .ok q.2 := by decide +kernel
def tJ2_length_9d52b : List (Nat × Instr × Nat) := [(0, .aload_n 0, 1), (1, .arraylength, 1), (2, .iconst 1, 1), (3, .ishr, 1), (4, .ireturn, 1)]
def mJ2_length_9d52b : mj_M := (yJ2_length_9d52b, cJ2_length_9d52b, 1, (some .int), { frames := 0, cells := 0, slots := 0, locals := 0 }, tJ2_length_9d52b)
set_option maxRecDepth 100000 in
theorem tok_J2_length_9d52b : ∀ q ∈ mJ2_length_9d52b.2.2.2.2.2, decode mJ2_length_9d52b.2.1 q.1 = .ok q.2 := by decide +kernel
def tJ2_checkIndex_2214a : List (Nat × Instr × Nat) := [(0, .iload_n 0, 1), (1, .aload_n 1, 1), (2, .invokestatic 48, 3), (5, .invokestatic 414, 3), (8, .return_, 1)]
def mJ2_checkIndex_2214a : mj_M := (yJ2_checkIndex_2214a, cJ2_checkIndex_2214a, 2, none, { frames := 2, cells := 0, slots := 0, locals := 43 }, tJ2_checkIndex_2214a)
set_option maxRecDepth 100000 in
theorem tok_J2_checkIndex_2214a : ∀ q ∈ mJ2_checkIndex_2214a.2.2.2.2.2, decode mJ2_checkIndex_2214a.2.1 q.1 = .ok q.2 := by decide +kernel
def tJ2_getChar_3b067 : List (Nat × Instr × Nat) := [(0, .getstatic 44, 3), (3, .ifCond .ne 25, 3), (6, .iload_n 1, 1), (7, .ifCond .lt 11, 3), (10, .iload_n 1, 1), (11, .aload_n 0, 1), (12, .invokestatic 48, 3), (15, .if_icmp .lt 13, 3), (18, .new 52, 3), (21, .dup, 1), (22, .ldc 54, 2), (24, .invokespecial 56, 3), (27, .athrow, 1), (28, .iload_n 1, 1), (29, .iconst 1, 1), (30, .ishl, 1), (31, .istore_n 1, 1), (32, .aload_n 0, 1), (33, .iload_n 1, 1), (34, .iinc 1 1, 3), (37, .baload, 1), (38, .sipush 255, 3), (41, .iand, 1), (42, .getstatic 59, 3), (45, .ishl, 1), (46, .aload_n 0, 1), (47, .iload_n 1, 1), (48, .baload, 1), (49, .sipush 255, 3), (52, .iand, 1), (53, .getstatic 63, 3), (56, .ishl, 1), (57, .ior, 1), (58, .i2c, 1), (59, .ireturn, 1)]
def mJ2_getChar_3b067 : mj_M := (yJ2_getChar_3b067, cJ2_getChar_3b067, 2, (some .char), { frames := 1, cells := 0, slots := 0, locals := 20 }, tJ2_getChar_3b067)
set_option maxRecDepth 100000 in
theorem tok_J2_getChar_3b067 : ∀ q ∈ mJ2_getChar_3b067.2.2.2.2.2, decode mJ2_getChar_3b067.2.1 q.1 = .ok q.2 := by decide +kernel
def tJ2_charAt_3b067 : List (Nat × Instr × Nat) := [(0, .iload_n 1, 1), (1, .aload_n 0, 1), (2, .invokestatic 67, 3), (5, .aload_n 0, 1), (6, .iload_n 1, 1), (7, .invokestatic 71, 3), (10, .ireturn, 1)]
def mJ2_charAt_3b067 : mj_M := (yJ2_charAt_3b067, cJ2_charAt_3b067, 2, (some .char), { frames := 3, cells := 0, slots := 0, locals := 64 }, tJ2_charAt_3b067)
set_option maxRecDepth 100000 in
theorem tok_J2_charAt_3b067 : ∀ q ∈ mJ2_charAt_3b067.2.2.2.2.2, decode mJ2_charAt_3b067.2.1 q.1 = .ok q.2 := by decide +kernel
def tJ0_charAt_5068e : List (Nat × Instr × Nat) := [(0, .aload_n 0, 1), (1, .invokevirtual 492, 3), (4, .ifCond .eq 12, 3), (7, .aload_n 0, 1), (8, .getfield 9, 3), (11, .iload_n 1, 1), (12, .invokestatic 495, 3), (15, .ireturn, 1), (16, .aload_n 0, 1), (17, .getfield 9, 3), (20, .iload_n 1, 1), (21, .invokestatic 498, 3), (24, .ireturn, 1)]
def mJ0_charAt_5068e : mj_M := (yJ0_charAt_5068e, cJ0_charAt_5068e, 2, (some .char), { frames := 4, cells := 0, slots := 0, locals := 85 }, tJ0_charAt_5068e)
set_option maxRecDepth 100000 in
theorem tok_J0_charAt_5068e : ∀ q ∈ mJ0_charAt_5068e.2.2.2.2.2, decode mJ0_charAt_5068e.2.1 q.1 = .ok q.2 := by decide +kernel
def tX7_spells : List (Nat × Instr × Nat) := [(0, .aload_n 1, 1), (1, .ifnull 13, 3), (4, .aload_n 1, 1), (5, .invokevirtual 19, 3), (8, .iload_n 3, 1), (9, .iload_n 2, 1), (10, .isub, 1), (11, .if_icmp .eq 5, 3), (14, .iconst 0, 1), (15, .ireturn, 1), (16, .iconst 0, 1), (17, .istore 4, 2), (19, .iload 4, 2), (21, .aload_n 1, 1), (22, .invokevirtual 19, 3), (25, .if_icmp .ge 28, 3), (28, .aload_n 0, 1), (29, .iload_n 2, 1), (30, .iload 4, 2), (32, .iadd, 1), (33, .invokevirtual 25, 3), (36, .aload_n 1, 1), (37, .iload 4, 2), (39, .invokevirtual 29, 3), (42, .if_icmp .eq 5, 3), (45, .iconst 0, 1), (46, .ireturn, 1), (47, .iinc 4 1, 3), (50, .goto (-31), 3), (53, .iconst 1, 1), (54, .ireturn, 1)]
def mX7_spells : mj_M := (yX7_spells, cX7_spells, 5, (some .boolean), { frames := 5, cells := 0, slots := 0, locals := 106 }, tX7_spells)
set_option maxRecDepth 100000 in
theorem tok_X7_spells : ∀ q ∈ mX7_spells.2.2.2.2.2, decode mX7_spells.2.1 q.1 = .ok q.2 := by decide +kernel
def tX4_readWord : List (Nat × Instr × Nat) := [(0, .iconst 0, 1), (1, .istore_n 1, 1), (2, .iload_n 1, 1), (3, .sipush 150, 3), (6, .if_icmp .ge 36, 3), (9, .aload_n 0, 1), (10, .getfield 12, 3), (13, .aload_n 0, 1), (14, .getfield 29, 3), (17, .invokevirtual 39, 3), (20, .invokestatic 86, 3), (23, .ifCond .eq 19, 3), (26, .aload_n 0, 1), (27, .dup, 1), (28, .getfield 29, 3), (31, .iconst 1, 1), (32, .iadd, 1), (33, .putfield 29, 3), (36, .iinc 1 1, 3), (39, .goto (-37), 3), (42, .aload_n 0, 1), (43, .iconst 1, 1), (44, .putfield 77, 3), (47, .aload_n 0, 1), (48, .getfield 12, 3), (51, .ldc 99, 2), (53, .aload_n 0, 1), (54, .getfield 47, 3), (57, .aload_n 0, 1), (58, .getfield 29, 3), (61, .invokevirtual 101, 3), (64, .ifCond .eq 11, 3), (67, .aload_n 0, 1), (68, .iconst 0, 1), (69, .putfield 80, 3), (72, .goto 120, 3), (75, .aload_n 0, 1), (76, .getfield 12, 3), (79, .ldc 105, 2), (81, .aload_n 0, 1), (82, .getfield 47, 3), (85, .aload_n 0, 1), (86, .getfield 29, 3), (89, .invokevirtual 101, 3), (92, .ifCond .eq 11, 3), (95, .aload_n 0, 1), (96, .iconst 1, 1), (97, .putfield 80, 3), (100, .goto 92, 3), (103, .aload_n 0, 1), (104, .getfield 12, 3), (107, .ldc 107, 2), (109, .aload_n 0, 1), (110, .getfield 47, 3), (113, .aload_n 0, 1), (114, .getfield 29, 3), (117, .invokevirtual 101, 3), (120, .ifCond .eq 11, 3), (123, .aload_n 0, 1), (124, .iconst 2, 1), (125, .putfield 80, 3), (128, .goto 64, 3), (131, .aload_n 0, 1), (132, .getfield 12, 3), (135, .ldc 109, 2), (137, .aload_n 0, 1), (138, .getfield 47, 3), (141, .aload_n 0, 1), (142, .getfield 29, 3), (145, .invokevirtual 101, 3), (148, .ifCond .eq 11, 3), (151, .aload_n 0, 1), (152, .iconst 3, 1), (153, .putfield 80, 3), (156, .goto 36, 3), (159, .aload_n 0, 1), (160, .getfield 12, 3), (163, .ldc 111, 2), (165, .aload_n 0, 1), (166, .getfield 47, 3), (169, .aload_n 0, 1), (170, .getfield 29, 3), (173, .invokevirtual 101, 3), (176, .ifCond .eq 11, 3), (179, .aload_n 0, 1), (180, .iconst 4, 1), (181, .putfield 80, 3), (184, .goto 8, 3), (187, .aload_n 0, 1), (188, .iconst 0, 1), (189, .putfield 77, 3), (192, .return_, 1)]
def mX4_readWord : mj_M := (yX4_readWord, cX4_readWord, 2, none, { frames := 6, cells := 0, slots := 0, locals := 130 }, tX4_readWord)
set_option maxRecDepth 100000 in
theorem tok_X4_readWord : ∀ q ∈ mX4_readWord.2.2.2.2.2, decode mX4_readWord.2.1 q.1 = .ok q.2 := by decide +kernel
def tX4_isFigure : List (Nat × Instr × Nat) := [(0, .iload_n 0, 1), (1, .bipush 48, 2), (3, .if_icmp .lt 13, 3), (6, .iload_n 0, 1), (7, .bipush 57, 2), (9, .if_icmp .gt 7, 3), (12, .iconst 1, 1), (13, .goto 4, 3), (16, .iconst 0, 1), (17, .ireturn, 1)]
def mX4_isFigure : mj_M := (yX4_isFigure, cX4_isFigure, 1, (some .boolean), { frames := 0, cells := 0, slots := 0, locals := 0 }, tX4_isFigure)
set_option maxRecDepth 100000 in
theorem tok_X4_isFigure : ∀ q ∈ mX4_isFigure.2.2.2.2.2, decode mX4_isFigure.2.1 q.1 = .ok q.2 := by decide +kernel
def tX4_readNumber : List (Nat × Instr × Nat) := [(0, .aload_n 0, 1), (1, .iconst 0, 1), (2, .putfield 80, 3), (5, .iconst 0, 1), (6, .istore_n 1, 1), (7, .iload_n 1, 1), (8, .sipush 150, 3), (11, .if_icmp .ge 67, 3), (14, .aload_n 0, 1), (15, .getfield 12, 3), (18, .aload_n 0, 1), (19, .getfield 29, 3), (22, .invokevirtual 39, 3), (25, .invokestatic 93, 3), (28, .ifCond .eq 50, 3), (31, .iload_n 1, 1), (32, .iconst 2, 1), (33, .if_icmp .ge 29, 3), (36, .aload_n 0, 1), (37, .bipush 10, 2), (39, .aload_n 0, 1), (40, .getfield 80, 3), (43, .imul, 1), (44, .aload_n 0, 1), (45, .getfield 12, 3), (48, .aload_n 0, 1), (49, .getfield 29, 3), (52, .invokevirtual 39, 3), (55, .iadd, 1), (56, .bipush 48, 2), (58, .isub, 1), (59, .putfield 80, 3), (62, .aload_n 0, 1), (63, .dup, 1), (64, .getfield 29, 3), (67, .iconst 1, 1), (68, .iadd, 1), (69, .putfield 29, 3), (72, .iinc 1 1, 3), (75, .goto (-68), 3), (78, .aload_n 0, 1), (79, .aload_n 0, 1), (80, .getfield 29, 3), (83, .aload_n 0, 1), (84, .getfield 47, 3), (87, .isub, 1), (88, .iconst 2, 1), (89, .if_icmp .gt 7, 3), (92, .iconst 2, 1), (93, .goto 4, 3), (96, .iconst 0, 1), (97, .putfield 77, 3), (100, .return_, 1)]
def mX4_readNumber : mj_M := (yX4_readNumber, cX4_readNumber, 2, none, { frames := 1, cells := 0, slots := 0, locals := 21 }, tX4_readNumber)
set_option maxRecDepth 100000 in
theorem tok_X4_readNumber : ∀ q ∈ mX4_readNumber.2.2.2.2.2, decode mX4_readNumber.2.1 q.1 = .ok q.2 := by decide +kernel
def tX4_readToken : List (Nat × Instr × Nat) := [(0, .aload_n 0, 1), (1, .invokevirtual 36, 3), (4, .aload_n 0, 1), (5, .aload_n 0, 1), (6, .getfield 29, 3), (9, .putfield 47, 3), (12, .aload_n 0, 1), (13, .iconst 0, 1), (14, .putfield 77, 3), (17, .aload_n 0, 1), (18, .getfield 12, 3), (21, .aload_n 0, 1), (22, .getfield 29, 3), (25, .invokevirtual 39, 3), (28, .istore_n 1, 1), (29, .iload_n 1, 1), (30, .invokestatic 86, 3), (33, .ifCond .eq 10, 3), (36, .aload_n 0, 1), (37, .invokevirtual 90, 3), (40, .goto 38, 3), (43, .iload_n 1, 1), (44, .invokestatic 93, 3), (47, .ifCond .eq 10, 3), (50, .aload_n 0, 1), (51, .invokevirtual 96, 3), (54, .goto 24, 3), (57, .iload_n 1, 1), (58, .bipush 59, 2), (60, .if_icmp .ne 18, 3), (63, .aload_n 0, 1), (64, .iconst 3, 1), (65, .putfield 77, 3), (68, .aload_n 0, 1), (69, .dup, 1), (70, .getfield 29, 3), (73, .iconst 1, 1), (74, .iadd, 1), (75, .putfield 29, 3), (78, .return_, 1)]
def mX4_readToken : mj_M := (yX4_readToken, cX4_readToken, 2, none, { frames := 7, cells := 0, slots := 0, locals := 151 }, tX4_readToken)
set_option maxRecDepth 100000 in
theorem tok_X4_readToken : ∀ q ∈ mX4_readToken.2.2.2.2.2, decode mX4_readToken.2.1 q.1 = .ok q.2 := by decide +kernel
def tX4_readItem : List (Nat × Instr × Nat) := [(0, .aload_n 0, 1), (1, .invokevirtual 74, 3), (4, .aload_n 0, 1), (5, .getfield 77, 3), (8, .iconst 1, 1), (9, .if_icmp .ne 19, 3), (12, .iload_n 1, 1), (13, .aload_n 0, 1), (14, .getfield 80, 3), (17, .ifCond .ne 7, 3), (20, .iconst 1, 1), (21, .goto 4, 3), (24, .iconst 0, 1), (25, .if_icmp .eq 5, 3), (28, .iconst 0, 1), (29, .ireturn, 1), (30, .aload_n 0, 1), (31, .aload_n 0, 1), (32, .getfield 80, 3), (35, .putfield 54, 3), (38, .aload_n 0, 1), (39, .getfield 54, 3), (42, .ifCond .lt 25, 3), (45, .aload_n 0, 1), (46, .getfield 54, 3), (49, .getstatic 83, 3), (52, .arraylength, 1), (53, .if_icmp .ge 14, 3), (56, .getstatic 83, 3), (59, .aload_n 0, 1), (60, .getfield 54, 3), (63, .iaload, 1), (64, .goto 4, 3), (67, .iconst 0, 1), (68, .istore_n 2, 1), (69, .iconst 0, 1), (70, .istore_n 3, 1), (71, .iload_n 3, 1), (72, .iload_n 2, 1), (73, .if_icmp .ge 42, 3), (76, .iload_n 3, 1), (77, .aload_n 0, 1), (78, .getfield 25, 3), (81, .arraylength, 1), (82, .if_icmp .ge 33, 3), (85, .aload_n 0, 1), (86, .invokevirtual 74, 3), (89, .aload_n 0, 1), (90, .getfield 77, 3), (93, .iconst 2, 1), (94, .if_icmp .eq 5, 3), (97, .iconst 0, 1), (98, .ireturn, 1), (99, .aload_n 0, 1), (100, .getfield 25, 3), (103, .iload_n 3, 1), (104, .aload_n 0, 1), (105, .getfield 80, 3), (108, .iastore, 1), (109, .iinc 3 1, 3), (112, .goto (-41), 3), (115, .aload_n 0, 1), (116, .invokevirtual 74, 3), (119, .aload_n 0, 1), (120, .getfield 77, 3), (123, .iconst 3, 1), (124, .if_icmp .ne 7, 3), (127, .iconst 1, 1), (128, .goto 4, 3), (131, .iconst 0, 1), (132, .ireturn, 1)]
def mX4_readItem : mj_M := (yX4_readItem, cX4_readItem, 4, (some .boolean), { frames := 8, cells := 0, slots := 0, locals := 172 }, tX4_readItem)
set_option maxRecDepth 100000 in
theorem tok_X4_readItem : ∀ q ∈ mX4_readItem.2.2.2.2.2, decode mX4_readItem.2.1 q.1 = .ok q.2 := by decide +kernel
def tX4_findFault : List (Nat × Instr × Nat) := [(0, .aload_n 0, 1), (1, .iconst 0, 1), (2, .putfield 29, 3), (5, .aload_n 0, 1), (6, .iconst 0, 1), (7, .putfield 33, 3), (10, .iconst 0, 1), (11, .istore_n 1, 1), (12, .iload_n 1, 1), (13, .sipush 150, 3), (16, .if_icmp .gt 65, 3), (19, .aload_n 0, 1), (20, .invokevirtual 36, 3), (23, .iload_n 1, 1), (24, .ifCond .le 20, 3), (27, .aload_n 0, 1), (28, .getfield 12, 3), (31, .aload_n 0, 1), (32, .getfield 29, 3), (35, .invokevirtual 39, 3), (38, .iconst (-1), 1), (39, .if_icmp .ne 5, 3), (42, .iconst (-1), 1), (43, .ireturn, 1), (44, .aload_n 0, 1), (45, .iload_n 1, 1), (46, .ifCond .ne 7, 3), (49, .iconst 1, 1), (50, .goto 4, 3), (53, .iconst 0, 1), (54, .invokevirtual 43, 3), (57, .ifCond .ne 8, 3), (60, .aload_n 0, 1), (61, .getfield 47, 3), (64, .ireturn, 1), (65, .aload_n 0, 1), (66, .dup, 1), (67, .getfield 33, 3), (70, .iconst 1, 1), (71, .iadd, 1), (72, .putfield 33, 3), (75, .iinc 1 1, 3), (78, .goto (-66), 3), (81, .iconst (-1), 1), (82, .ireturn, 1)]
def mX4_findFault : mj_M := (yX4_findFault, cX4_findFault, 2, (some .int), { frames := 9, cells := 0, slots := 0, locals := 195 }, tX4_findFault)
set_option maxRecDepth 100000 in
theorem tok_X4_findFault : ∀ q ∈ mX4_findFault.2.2.2.2.2, decode mX4_findFault.2.1 q.1 = .ok q.2 := by decide +kernel
def tX4_tellItem : List (Nat × Instr × Nat) := [(0, .aload_n 0, 1), (1, .getfield 54, 3), (4, .tableswitch 116 0 4 #[36, 50, 62, 82, 102], 36), (40, .aload_n 0, 1), (41, .getfield 21, 3), (44, .aload_n 0, 1), (45, .getfield 25, 3), (48, .iconst 0, 1), (49, .iaload, 1), (50, .invokevirtual 57, 3), (53, .ireturn, 1), (54, .aload_n 0, 1), (55, .getfield 21, 3), (58, .aload_n 0, 1), (59, .getfield 25, 3), (62, .invokevirtual 60, 3), (65, .ireturn, 1), (66, .aload_n 0, 1), (67, .getfield 21, 3), (70, .aload_n 0, 1), (71, .getfield 25, 3), (74, .iconst 0, 1), (75, .iaload, 1), (76, .aload_n 0, 1), (77, .getfield 25, 3), (80, .iconst 1, 1), (81, .iaload, 1), (82, .invokevirtual 64, 3), (85, .ireturn, 1), (86, .aload_n 0, 1), (87, .getfield 21, 3), (90, .aload_n 0, 1), (91, .getfield 25, 3), (94, .iconst 0, 1), (95, .iaload, 1), (96, .aload_n 0, 1), (97, .getfield 25, 3), (100, .iconst 1, 1), (101, .iaload, 1), (102, .invokevirtual 68, 3), (105, .ireturn, 1), (106, .aload_n 0, 1), (107, .getfield 21, 3), (110, .aload_n 0, 1), (111, .getfield 25, 3), (114, .iconst 0, 1), (115, .iaload, 1), (116, .invokevirtual 71, 3), (119, .ireturn, 1), (120, .bipush (-2), 2), (122, .ireturn, 1)]
def mX4_tellItem : mj_M := (yX4_tellItem, cX4_tellItem, 1, (some .int), { frames := 3, cells := 0, slots := 0, locals := 65 }, tX4_tellItem)
set_option maxRecDepth 100000 in
theorem tok_X4_tellItem : ∀ q ∈ mX4_tellItem.2.2.2.2.2, decode mX4_tellItem.2.1 q.1 = .ok q.2 := by decide +kernel
def tX4_tellDraft : List (Nat × Instr × Nat) := [(0, .aload_n 0, 1), (1, .iconst 0, 1), (2, .putfield 29, 3), (5, .iconst 0, 1), (6, .istore_n 1, 1), (7, .iload_n 1, 1), (8, .aload_n 0, 1), (9, .getfield 33, 3), (12, .if_icmp .ge 34, 3), (15, .aload_n 0, 1), (16, .iload_n 1, 1), (17, .ifCond .ne 7, 3), (20, .iconst 1, 1), (21, .goto 4, 3), (24, .iconst 0, 1), (25, .invokevirtual 43, 3), (28, .ifCond .eq 10, 3), (31, .aload_n 0, 1), (32, .invokevirtual 50, 3), (35, .ifCond .ge 5, 3), (38, .iload_n 1, 1), (39, .ireturn, 1), (40, .iinc 1 1, 3), (43, .goto (-36), 3), (46, .iconst (-1), 1), (47, .ireturn, 1)]
def mX4_tellDraft : mj_M := (yX4_tellDraft, cX4_tellDraft, 2, (some .int), { frames := 9, cells := 0, slots := 0, locals := 195 }, tX4_tellDraft)
set_option maxRecDepth 100000 in
theorem tok_X4_tellDraft : ∀ q ∈ mX4_tellDraft.2.2.2.2.2, decode mX4_tellDraft.2.1 q.1 = .ok q.2 := by decide +kernel
def tX5_dropSpy : List (Nat × Instr × Nat) := [(0, .aload_n 0, 1), (1, .getfield 9, 3), (4, .iconst 5, 1), (5, .lconst 0, 1), (6, .lastore, 1), (7, .return_, 1)]
def mX5_dropSpy : mj_M := (yX5_dropSpy, cX5_dropSpy, 1, none, { frames := 0, cells := 0, slots := 0, locals := 0 }, tX5_dropSpy)
set_option maxRecDepth 100000 in
theorem tok_X5_dropSpy : ∀ q ∈ mX5_dropSpy.2.2.2.2.2, decode mX5_dropSpy.2.1 q.1 = .ok q.2 := by decide +kernel
def tX6_init : List (Nat × Instr × Nat) := [(0, .aload_n 0, 1), (1, .invokespecial 3, 3), (4, .aload_n 0, 1), (5, .iconst 3, 1), (6, .newarray .int, 2), (8, .putfield 9, 3), (11, .aload_n 0, 1), (12, .new 15, 3), (15, .dup, 1), (16, .invokespecial 17, 3), (19, .putfield 18, 3), (22, .return_, 1)]
def mX6_init : mj_M := (yX6_init, cX6_init, 1, none, { frames := 2, cells := 3, slots := 10, locals := 40 }, tX6_init)
set_option maxRecDepth 100000 in
theorem tok_X6_init : ∀ q ∈ mX6_init.2.2.2.2.2, decode mX6_init.2.1 q.1 = .ok q.2 := by decide +kernel
def tX6_decode : List (Nat × Instr × Nat) := [(0, .aload_n 0, 1), (1, .iload_n 2, 1), (2, .putfield 30, 3), (5, .iload_n 1, 1), (6, .istore_n 3, 1), (7, .iconst 2, 1), (8, .istore 4, 2), (10, .iload 4, 2), (12, .ifCond .lt 29, 3), (15, .iload 4, 2), (17, .iload_n 2, 1), (18, .if_icmp .ge 17, 3), (21, .aload_n 0, 1), (22, .getfield 9, 3), (25, .iload 4, 2), (27, .iload_n 3, 1), (28, .iconst 3, 1), (29, .irem, 1), (30, .iastore, 1), (31, .iload_n 3, 1), (32, .iconst 3, 1), (33, .idiv, 1), (34, .istore_n 3, 1), (35, .iinc 4 (-1), 3), (38, .goto (-28), 3), (41, .return_, 1)]
def mX6_decode : mj_M := (yX6_decode, cX6_decode, 5, none, { frames := 0, cells := 0, slots := 0, locals := 0 }, tX6_decode)
set_option maxRecDepth 100000 in
theorem tok_X6_decode : ∀ q ∈ mX6_decode.2.2.2.2.2, decode mX6_decode.2.1 q.1 = .ok q.2 := by decide +kernel
def tX6_fits : List (Nat × Instr × Nat) := [(0, .aload_n 1, 1), (1, .ifnonnull 5, 3), (4, .iconst 0, 1), (5, .ireturn, 1), (6, .aload_n 0, 1), (7, .getfield 18, 3), (10, .aload_n 1, 1), (11, .iload_n 2, 1), (12, .invokevirtual 34, 3), (15, .iconst 0, 1), (16, .istore 4, 2), (18, .iconst 0, 1), (19, .istore 5, 2), (21, .iload 5, 2), (23, .aload_n 0, 1), (24, .getfield 30, 3), (27, .if_icmp .ge 54, 3), (30, .iload 5, 2), (32, .aload_n 0, 1), (33, .getfield 9, 3), (36, .arraylength, 1), (37, .if_icmp .ge 44, 3), (40, .iload 4, 2), (42, .aload_n 0, 1), (43, .getfield 9, 3), (46, .iload 5, 2), (48, .iaload, 1), (49, .invokestatic 38, 3), (52, .iadd, 1), (53, .istore 4, 2), (55, .aload_n 0, 1), (56, .getfield 18, 3), (59, .aload_n 0, 1), (60, .getfield 9, 3), (63, .iload 5, 2), (65, .iaload, 1), (66, .iconst 1, 1), (67, .aload_n 1, 1), (68, .iload_n 2, 1), (69, .invokevirtual 42, 3), (72, .invokevirtual 48, 3), (75, .iinc 5 1, 3), (78, .goto (-57), 3), (81, .iload 4, 2), (83, .aload_n 1, 1), (84, .getfield 52, 3), (87, .if_icmp .gt 20, 3), (90, .aload_n 0, 1), (91, .getfield 18, 3), (94, .iconst 3, 1), (95, .iconst 0, 1), (96, .invokevirtual 55, 3), (99, .iload_n 3, 1), (100, .if_icmp .lt 7, 3), (103, .iconst 1, 1), (104, .goto 4, 3), (107, .iconst 0, 1), (108, .ireturn, 1)]
def mX6_fits : mj_M := (yX6_fits, cX6_fits, 6, (some .boolean), { frames := 3, cells := 0, slots := 0, locals := 109 }, tX6_fits)
set_option maxRecDepth 100000 in
theorem tok_X6_fits : ∀ q ∈ mX6_fits.2.2.2.2.2, decode mX6_fits.2.1 q.1 = .ok q.2 := by decide +kernel
def tX6_find : List (Nat × Instr × Nat) := [(0, .iconst 1, 1), (1, .istore 4, 2), (3, .iconst 0, 1), (4, .istore 5, 2), (6, .iload 5, 2), (8, .iconst 3, 1), (9, .if_icmp .gt 51, 3), (12, .iconst 0, 1), (13, .istore 6, 2), (15, .iload 6, 2), (17, .iload 4, 2), (19, .if_icmp .ge 29, 3), (22, .aload_n 0, 1), (23, .iload 6, 2), (25, .iload 5, 2), (27, .invokevirtual 22, 3), (30, .aload_n 0, 1), (31, .aload_n 1, 1), (32, .iload_n 2, 1), (33, .iload_n 3, 1), (34, .invokevirtual 26, 3), (37, .ifCond .eq 5, 3), (40, .iconst 1, 1), (41, .ireturn, 1), (42, .iinc 6 1, 3), (45, .goto (-30), 3), (48, .iload 4, 2), (50, .iconst 3, 1), (51, .imul, 1), (52, .istore 4, 2), (54, .iinc 5 1, 3), (57, .goto (-51), 3), (60, .iconst 0, 1), (61, .ireturn, 1)]
def mX6_find : mj_M := (yX6_find, cX6_find, 7, (some .boolean), { frames := 4, cells := 0, slots := 0, locals := 134 }, tX6_find)
set_option maxRecDepth 100000 in
theorem tok_X6_find : ∀ q ∈ mX6_find.2.2.2.2.2, decode mX6_find.2.1 q.1 = .ok q.2 := by decide +kernel
def tX6_testAt : List (Nat × Instr × Nat) := [(0, .iload_n 1, 1), (1, .ifCond .lt 21, 3), (4, .iload_n 1, 1), (5, .aload_n 0, 1), (6, .getfield 9, 3), (9, .arraylength, 1), (10, .if_icmp .ge 12, 3), (13, .aload_n 0, 1), (14, .getfield 9, 3), (17, .iload_n 1, 1), (18, .iaload, 1), (19, .goto 4, 3), (22, .iconst (-1), 1), (23, .ireturn, 1)]
def mX6_testAt : mj_M := (yX6_testAt, cX6_testAt, 2, (some .int), { frames := 0, cells := 0, slots := 0, locals := 0 }, tX6_testAt)
set_option maxRecDepth 100000 in
theorem tok_X6_testAt : ∀ q ∈ mX6_testAt.2.2.2.2.2, decode mX6_testAt.2.1 q.1 = .ok q.2 := by decide +kernel
def tX7_append : List (Nat × Instr × Nat) := [(0, .iload_n 1, 1), (1, .ifCond .lt 9, 3), (4, .iload_n 1, 1), (5, .bipush 127, 2), (7, .if_icmp .le 6, 3), (10, .bipush (-2), 2), (12, .ireturn, 1), (13, .aload_n 0, 1), (14, .getfield 15, 3), (17, .ifCond .lt 13, 3), (20, .aload_n 0, 1), (21, .getfield 15, 3), (24, .sipush 150, 3), (27, .if_icmp .lt 6, 3), (30, .bipush (-4), 2), (32, .ireturn, 1), (33, .aload_n 0, 1), (34, .getfield 11, 3), (37, .aload_n 0, 1), (38, .getfield 15, 3), (41, .iload_n 1, 1), (42, .iastore, 1), (43, .aload_n 0, 1), (44, .dup, 1), (45, .getfield 15, 3), (48, .iconst 1, 1), (49, .iadd, 1), (50, .putfield 15, 3), (53, .aload_n 0, 1), (54, .getfield 15, 3), (57, .ireturn, 1)]
def mX7_append : mj_M := (yX7_append, cX7_append, 2, (some .int), { frames := 0, cells := 0, slots := 0, locals := 0 }, tX7_append)
set_option maxRecDepth 100000 in
theorem tok_X7_append : ∀ q ∈ mX7_append.2.2.2.2.2, decode mX7_append.2.1 q.1 = .ok q.2 := by decide +kernel
def tX7_empty : List (Nat × Instr × Nat) := [(0, .aload_n 0, 1), (1, .getfield 15, 3), (4, .istore_n 1, 1), (5, .aload_n 0, 1), (6, .iconst 0, 1), (7, .putfield 15, 3), (10, .iload_n 1, 1), (11, .ireturn, 1)]
def mX7_empty : mj_M := (yX7_empty, cX7_empty, 2, (some .int), { frames := 0, cells := 0, slots := 0, locals := 0 }, tX7_empty)
set_option maxRecDepth 100000 in
theorem tok_X7_empty : ∀ q ∈ mX7_empty.2.2.2.2.2, decode mX7_empty.2.1 q.1 = .ok q.2 := by decide +kernel
def tX8_init : List (Nat × Instr × Nat) := [(0, .aload_n 0, 1), (1, .invokespecial 1, 3), (4, .aload_n 0, 1), (5, .new 7, 3), (8, .dup, 1), (9, .invokespecial 9, 3), (12, .putfield 10, 3), (15, .aload_n 0, 1), (16, .new 16, 3), (19, .dup, 1), (20, .invokespecial 18, 3), (23, .putfield 19, 3), (26, .aload_n 0, 1), (27, .new 23, 3), (30, .dup, 1), (31, .invokespecial 25, 3), (34, .putfield 26, 3), (37, .aload_n 0, 1), (38, .new 23, 3), (41, .dup, 1), (42, .invokespecial 25, 3), (45, .putfield 30, 3), (48, .aload_n 0, 1), (49, .new 33, 3), (52, .dup, 1), (53, .invokespecial 35, 3), (56, .putfield 36, 3), (59, .aload_n 0, 1), (60, .new 40, 3), (63, .dup, 1), (64, .invokespecial 42, 3), (67, .putfield 43, 3), (70, .aload_n 0, 1), (71, .new 47, 3), (74, .dup, 1), (75, .invokespecial 49, 3), (78, .putfield 50, 3), (81, .aload_n 0, 1), (82, .new 54, 3), (85, .dup, 1), (86, .invokespecial 56, 3), (89, .putfield 57, 3), (92, .aload_n 0, 1), (93, .bipush 6, 2), (95, .newarray .int, 2), (97, .putfield 61, 3), (100, .aload_n 0, 1), (101, .lconst 0, 1), (102, .putfield 65, 3), (105, .aload_n 0, 1), (106, .lconst 1, 1), (107, .putfield 69, 3), (110, .return_, 1)]
def mX8_init : mj_M := (yX8_init, cX8_init, 1, none, { frames := 4, cells := 52, slots := 1390, locals := 80 }, tX8_init)
set_option maxRecDepth 100000 in
theorem tok_X8_init : ∀ q ∈ mX8_init.2.2.2.2.2, decode mX8_init.2.1 q.1 = .ok q.2 := by decide +kernel
def tX8_refusedAs : List (Nat × Instr × Nat) := [(0, .iload_n 1, 1), (1, .bipush (-2), 2), (3, .if_icmp .ne 16, 3), (6, .aload_n 0, 1), (7, .dup, 1), (8, .getfield 302, 3), (11, .iconst 1, 1), (12, .iadd, 1), (13, .putfield 302, 3), (16, .goto 38, 3), (19, .iload_n 1, 1), (20, .bipush (-3), 2), (22, .if_icmp .ne 16, 3), (25, .aload_n 0, 1), (26, .dup, 1), (27, .getfield 305, 3), (30, .iconst 1, 1), (31, .iadd, 1), (32, .putfield 305, 3), (35, .goto 19, 3), (38, .iload_n 1, 1), (39, .bipush (-4), 2), (41, .if_icmp .ne 13, 3), (44, .aload_n 0, 1), (45, .dup, 1), (46, .getfield 308, 3), (49, .iconst 1, 1), (50, .iadd, 1), (51, .putfield 308, 3), (54, .iload_n 2, 1), (55, .ireturn, 1)]
def mX8_refusedAs : mj_M := (yX8_refusedAs, cX8_refusedAs, 3, (some .int), { frames := 0, cells := 0, slots := 0, locals := 0 }, tX8_refusedAs)
set_option maxRecDepth 100000 in
theorem tok_X8_refusedAs : ∀ q ∈ mX8_refusedAs.2.2.2.2.2, decode mX8_refusedAs.2.1 q.1 = .ok q.2 := by decide +kernel
def tX8_refused : List (Nat × Instr × Nat) := [(0, .aload_n 0, 1), (1, .iload_n 1, 1), (2, .iload_n 1, 1), (3, .invokevirtual 202, 3), (6, .ireturn, 1)]
def mX8_refused : mj_M := (yX8_refused, cX8_refused, 2, (some .int), { frames := 1, cells := 0, slots := 0, locals := 22 }, tX8_refused)
set_option maxRecDepth 100000 in
theorem tok_X8_refused : ∀ q ∈ mX8_refused.2.2.2.2.2, decode mX8_refused.2.1 q.1 = .ok q.2 := by decide +kernel
def tX8_accepted : List (Nat × Instr × Nat) := [(0, .iload_n 1, 1), (1, .ifCond .ge 9, 3), (4, .aload_n 0, 1), (5, .iload_n 1, 1), (6, .invokevirtual 102, 3), (9, .ireturn, 1), (10, .aload_n 0, 1), (11, .getfield 19, 3), (14, .invokevirtual 122, 3), (17, .iload_n 1, 1), (18, .ireturn, 1)]
def mX8_accepted : mj_M := (yX8_accepted, cX8_accepted, 2, (some .int), { frames := 2, cells := 0, slots := 0, locals := 43 }, tX8_accepted)
set_option maxRecDepth 100000 in
theorem tok_X8_accepted : ∀ q ∈ mX8_accepted.2.2.2.2.2, decode mX8_accepted.2.1 q.1 = .ok q.2 := by decide +kernel
def tX8_muster : List (Nat × Instr × Nat) := [(0, .aload_n 0, 1), (1, .aload_n 0, 1), (2, .getfield 10, 3), (5, .iload_n 1, 1), (6, .invokevirtual 72, 3), (9, .invokevirtual 76, 3), (12, .ireturn, 1)]
def mX8_muster : mj_M := (yX8_muster, cX8_muster, 2, (some .int), { frames := 3, cells := 0, slots := 0, locals := 64 }, tX8_muster)
set_option maxRecDepth 100000 in
theorem tok_X8_muster : ∀ q ∈ mX8_muster.2.2.2.2.2, decode mX8_muster.2.1 q.1 = .ok q.2 := by decide +kernel
def tX8_man : List (Nat × Instr × Nat) := [(0, .aload_n 0, 1), (1, .getfield 61, 3), (4, .iconst 0, 1), (5, .iload_n 1, 1), (6, .iastore, 1), (7, .aload_n 0, 1), (8, .getfield 61, 3), (11, .iconst 1, 1), (12, .iload_n 2, 1), (13, .iastore, 1), (14, .aload_n 0, 1), (15, .getfield 61, 3), (18, .iconst 2, 1), (19, .iload_n 3, 1), (20, .iastore, 1), (21, .aload_n 0, 1), (22, .getfield 61, 3), (25, .iconst 3, 1), (26, .iload 4, 2), (28, .iastore, 1), (29, .aload_n 0, 1), (30, .getfield 61, 3), (33, .iconst 4, 1), (34, .iload 5, 2), (36, .iastore, 1), (37, .aload_n 0, 1), (38, .getfield 61, 3), (41, .iconst 5, 1), (42, .iload 6, 2), (44, .iastore, 1), (45, .aload_n 0, 1), (46, .aload_n 0, 1), (47, .getfield 10, 3), (50, .aload_n 0, 1), (51, .getfield 61, 3), (54, .invokevirtual 79, 3), (57, .invokevirtual 76, 3), (60, .ireturn, 1)]
def mX8_man : mj_M := (yX8_man, cX8_man, 7, (some .int), { frames := 3, cells := 0, slots := 0, locals := 64 }, tX8_man)
set_option maxRecDepth 100000 in
theorem tok_X8_man : ∀ q ∈ mX8_man.2.2.2.2.2, decode mX8_man.2.1 q.1 = .ok q.2 := by decide +kernel
def tX8_worn : List (Nat × Instr × Nat) := [(0, .aload_n 0, 1), (1, .aload_n 0, 1), (2, .getfield 10, 3), (5, .iload_n 1, 1), (6, .iload_n 2, 1), (7, .invokevirtual 83, 3), (10, .invokevirtual 76, 3), (13, .ireturn, 1)]
def mX8_worn : mj_M := (yX8_worn, cX8_worn, 3, (some .int), { frames := 3, cells := 0, slots := 0, locals := 64 }, tX8_worn)
set_option maxRecDepth 100000 in
theorem tok_X8_worn : ∀ q ∈ mX8_worn.2.2.2.2.2, decode mX8_worn.2.1 q.1 = .ok q.2 := by decide +kernel
def tX8_pair : List (Nat × Instr × Nat) := [(0, .aload_n 0, 1), (1, .aload_n 0, 1), (2, .getfield 10, 3), (5, .iload_n 1, 1), (6, .iload_n 2, 1), (7, .invokevirtual 87, 3), (10, .invokevirtual 76, 3), (13, .ireturn, 1)]
def mX8_pair : mj_M := (yX8_pair, cX8_pair, 3, (some .int), { frames := 3, cells := 0, slots := 0, locals := 65 }, tX8_pair)
set_option maxRecDepth 100000 in
theorem tok_X8_pair : ∀ q ∈ mX8_pair.2.2.2.2.2, decode mX8_pair.2.1 q.1 = .ok q.2 := by decide +kernel
def tX8_word : List (Nat × Instr × Nat) := [(0, .aload_n 0, 1), (1, .aload_n 0, 1), (2, .getfield 10, 3), (5, .iload_n 1, 1), (6, .invokevirtual 90, 3), (9, .invokevirtual 76, 3), (12, .ireturn, 1)]
def mX8_word : mj_M := (yX8_word, cX8_word, 2, (some .int), { frames := 3, cells := 0, slots := 0, locals := 64 }, tX8_word)
set_option maxRecDepth 100000 in
theorem tok_X8_word : ∀ q ∈ mX8_word.2.2.2.2.2, decode mX8_word.2.1 q.1 = .ok q.2 := by decide +kernel
def tX8_type : List (Nat × Instr × Nat) := [(0, .aload_n 0, 1), (1, .getfield 36, 3), (4, .getfield 93, 3), (7, .iload_n 1, 1), (8, .invokevirtual 97, 3), (11, .istore_n 2, 1), (12, .iload_n 2, 1), (13, .ifCond .ge 11, 3), (16, .aload_n 0, 1), (17, .iload_n 2, 1), (18, .invokevirtual 102, 3), (21, .goto 4, 3), (24, .iload_n 2, 1), (25, .ireturn, 1)]
def mX8_type : mj_M := (yX8_type, cX8_type, 3, (some .int), { frames := 2, cells := 0, slots := 0, locals := 43 }, tX8_type)
set_option maxRecDepth 100000 in
theorem tok_X8_type : ∀ q ∈ mX8_type.2.2.2.2.2, decode mX8_type.2.1 q.1 = .ok q.2 := by decide +kernel
def tX8_clear : List (Nat × Instr × Nat) := [(0, .aload_n 0, 1), (1, .getfield 36, 3), (4, .getfield 93, 3), (7, .invokevirtual 105, 3), (10, .ireturn, 1)]
def mX8_clear : mj_M := (yX8_clear, cX8_clear, 1, (some .int), { frames := 1, cells := 0, slots := 0, locals := 21 }, tX8_clear)
set_option maxRecDepth 100000 in
theorem tok_X8_clear : ∀ q ∈ mX8_clear.2.2.2.2.2, decode mX8_clear.2.1 q.1 = .ok q.2 := by decide +kernel
def tX8_read : List (Nat × Instr × Nat) := [(0, .aload_n 0, 1), (1, .getfield 36, 3), (4, .invokevirtual 109, 3), (7, .istore_n 1, 1), (8, .iload_n 1, 1), (9, .iconst (-1), 1), (10, .if_icmp .eq 8, 3), (13, .bipush (-10), 2), (15, .iload_n 1, 1), (16, .isub, 1), (17, .ireturn, 1), (18, .aload_n 0, 1), (19, .getfield 36, 3), (22, .invokevirtual 112, 3), (25, .istore_n 2, 1), (26, .iload_n 2, 1), (27, .iconst (-1), 1), (28, .if_icmp .eq 9, 3), (31, .sipush (-1000), 3), (34, .iload_n 2, 1), (35, .isub, 1), (36, .ireturn, 1), (37, .aload_n 0, 1), (38, .getfield 10, 3), (41, .aload_n 0, 1), (42, .getfield 36, 3), (45, .getfield 115, 3), (48, .invokevirtual 118, 3), (51, .aload_n 0, 1), (52, .getfield 19, 3), (55, .invokevirtual 122, 3), (58, .aload_n 0, 1), (59, .getfield 36, 3), (62, .getfield 125, 3), (65, .ireturn, 1)]
def mX8_read : mj_M := (yX8_read, cX8_read, 3, (some .int), { frames := 10, cells := 0, slots := 0, locals := 216 }, tX8_read)
set_option maxRecDepth 100000 in
theorem tok_X8_read : ∀ q ∈ mX8_read.2.2.2.2.2, decode mX8_read.2.1 q.1 = .ok q.2 := by decide +kernel
def tX8_isTest : List (Nat × Instr × Nat) := [(0, .iload_n 0, 1), (1, .ifCond .lt 12, 3), (4, .iload_n 0, 1), (5, .iconst 3, 1), (6, .if_icmp .ge 7, 3), (9, .iconst 1, 1), (10, .goto 4, 3), (13, .iconst 0, 1), (14, .ireturn, 1)]
def mX8_isTest : mj_M := (yX8_isTest, cX8_isTest, 1, (some .boolean), { frames := 0, cells := 0, slots := 0, locals := 0 }, tX8_isTest)
set_option maxRecDepth 100000 in
theorem tok_X8_isTest : ∀ q ∈ mX8_isTest.2.2.2.2.2, decode mX8_isTest.2.1 q.1 = .ok q.2 := by decide +kernel
def tX8_test : List (Nat × Instr × Nat) := [(0, .aload_n 0, 1), (1, .getfield 10, 3), (4, .iload_n 1, 1), (5, .invokevirtual 129, 3), (8, .ifCond .eq 10, 3), (11, .iload_n 2, 1), (12, .invokestatic 133, 3), (15, .ifCond .ne 10, 3), (18, .aload_n 0, 1), (19, .bipush (-2), 2), (21, .invokevirtual 102, 3), (24, .ireturn, 1), (25, .aload_n 0, 1), (26, .getfield 10, 3), (29, .getfield 136, 3), (32, .iload_n 2, 1), (33, .invokestatic 139, 3), (36, .if_icmp .ge 10, 3), (39, .aload_n 0, 1), (40, .bipush (-3), 2), (42, .invokevirtual 102, 3), (45, .ireturn, 1), (46, .aload_n 0, 1), (47, .getfield 19, 3), (50, .aload_n 0, 1), (51, .getfield 10, 3), (54, .invokevirtual 142, 3), (57, .aload_n 0, 1), (58, .getfield 10, 3), (61, .iload_n 1, 1), (62, .iload_n 2, 1), (63, .iload_n 3, 1), (64, .invokevirtual 145, 3), (67, .aload_n 0, 1), (68, .getfield 10, 3), (71, .iload_n 1, 1), (72, .invokevirtual 149, 3), (75, .ireturn, 1)]
def mX8_test : mj_M := (yX8_test, cX8_test, 4, (some .int), { frames := 4, cells := 0, slots := 0, locals := 133 }, tX8_test)
set_option maxRecDepth 100000 in
theorem tok_X8_test : ∀ q ∈ mX8_test.2.2.2.2.2, decode mX8_test.2.1 q.1 = .ok q.2 := by decide +kernel
def tX8_undo : List (Nat × Instr × Nat) := [(0, .aload_n 0, 1), (1, .getfield 19, 3), (4, .aload_n 0, 1), (5, .getfield 10, 3), (8, .invokevirtual 152, 3), (11, .ifCond .eq 7, 3), (14, .iconst 1, 1), (15, .goto 9, 3), (18, .aload_n 0, 1), (19, .bipush (-3), 2), (21, .invokevirtual 102, 3), (24, .ireturn, 1)]
def mX8_undo : mj_M := (yX8_undo, cX8_undo, 1, (some .int), { frames := 2, cells := 0, slots := 0, locals := 82 }, tX8_undo)
set_option maxRecDepth 100000 in
theorem tok_X8_undo : ∀ q ∈ mX8_undo.2.2.2.2.2, decode mX8_undo.2.1 q.1 = .ok q.2 := by decide +kernel
def tX8_weight : List (Nat × Instr × Nat) := [(0, .aload_n 0, 1), (1, .getfield 10, 3), (4, .iload_n 1, 1), (5, .invokevirtual 129, 3), (8, .ifCond .eq 13, 3), (11, .iload_n 2, 1), (12, .ifCond .lt 9, 3), (15, .iload_n 2, 1), (16, .bipush 6, 2), (18, .if_icmp .lt 11, 3), (21, .aload_n 0, 1), (22, .bipush (-2), 2), (24, .invokevirtual 102, 3), (27, .i2l, 1), (28, .lreturn, 1), (29, .aload_n 0, 1), (30, .getfield 10, 3), (33, .iload_n 1, 1), (34, .iload_n 2, 1), (35, .invokevirtual 156, 3), (38, .lreturn, 1)]
def mX8_weight : mj_M := (yX8_weight, cX8_weight, 3, (some .long), { frames := 2, cells := 0, slots := 0, locals := 43 }, tX8_weight)
set_option maxRecDepth 100000 in
theorem tok_X8_weight : ∀ q ∈ mX8_weight.2.2.2.2.2, decode mX8_weight.2.1 q.1 = .ok q.2 := by decide +kernel
def tX8_cases : List (Nat × Instr × Nat) := [(0, .iload_n 1, 1), (1, .ifCond .lt 18, 3), (4, .iload_n 1, 1), (5, .bipush 6, 2), (7, .if_icmp .ge 12, 3), (10, .iload_n 2, 1), (11, .ifCond .lt 8, 3), (14, .iload_n 2, 1), (15, .iconst 3, 1), (16, .if_icmp .le 10, 3), (19, .aload_n 0, 1), (20, .bipush (-2), 2), (22, .invokevirtual 102, 3), (25, .ireturn, 1), (26, .iload_n 1, 1), (27, .iload_n 2, 1), (28, .iload_n 3, 1), (29, .invokestatic 160, 3), (32, .ireturn, 1)]
def mX8_cases : mj_M := (yX8_cases, cX8_cases, 4, (some .int), { frames := 2, cells := 0, slots := 0, locals := 43 }, tX8_cases)
set_option maxRecDepth 100000 in
theorem tok_X8_cases : ∀ q ∈ mX8_cases.2.2.2.2.2, decode mX8_cases.2.1 q.1 = .ok q.2 := by decide +kernel
def tX8_trust : List (Nat × Instr × Nat) := [(0, .aload_n 0, 1), (1, .getfield 10, 3), (4, .iload_n 1, 1), (5, .invokevirtual 129, 3), (8, .ifCond .eq 14, 3), (11, .aload_n 0, 1), (12, .getfield 10, 3), (15, .iload_n 1, 1), (16, .invokevirtual 149, 3), (19, .goto 9, 3), (22, .aload_n 0, 1), (23, .bipush (-2), 2), (25, .invokevirtual 102, 3), (28, .ireturn, 1)]
def mX8_trust : mj_M := (yX8_trust, cX8_trust, 2, (some .int), { frames := 3, cells := 0, slots := 0, locals := 70 }, tX8_trust)
set_option maxRecDepth 100000 in
theorem tok_X8_trust : ∀ q ∈ mX8_trust.2.2.2.2.2, decode mX8_trust.2.1 q.1 = .ok q.2 := by decide +kernel
def tX8_shows : List (Nat × Instr × Nat) := [(0, .aload_n 0, 1), (1, .getfield 10, 3), (4, .iload_n 1, 1), (5, .invokevirtual 129, 3), (8, .ifCond .eq 22, 3), (11, .iload_n 2, 1), (12, .invokestatic 133, 3), (15, .ifCond .eq 15, 3), (18, .aload_n 0, 1), (19, .getfield 10, 3), (22, .iload_n 1, 1), (23, .iload_n 2, 1), (24, .invokevirtual 164, 3), (27, .goto 9, 3), (30, .aload_n 0, 1), (31, .bipush (-2), 2), (33, .invokevirtual 102, 3), (36, .ireturn, 1)]
def mX8_shows : mj_M := (yX8_shows, cX8_shows, 3, (some .int), { frames := 3, cells := 0, slots := 0, locals := 71 }, tX8_shows)
set_option maxRecDepth 100000 in
theorem tok_X8_shows : ∀ q ∈ mX8_shows.2.2.2.2.2, decode mX8_shows.2.1 q.1 = .ok q.2 := by decide +kernel
def tX8_of : List (Nat × Instr × Nat) := [(0, .aload_n 0, 1), (1, .getfield 10, 3), (4, .iload_n 1, 1), (5, .invokevirtual 129, 3), (8, .ifCond .ne 10, 3), (11, .aload_n 0, 1), (12, .bipush (-2), 2), (14, .invokevirtual 102, 3), (17, .ireturn, 1), (18, .iload_n 2, 1), (19, .tableswitch 73 0 3 #[29, 38, 47, 64], 29), (48, .aload_n 0, 1), (49, .getfield 10, 3), (52, .iload_n 1, 1), (53, .invokevirtual 167, 3), (56, .ireturn, 1), (57, .aload_n 0, 1), (58, .getfield 10, 3), (61, .iload_n 1, 1), (62, .invokevirtual 170, 3), (65, .ireturn, 1), (66, .aload_n 0, 1), (67, .getfield 10, 3), (70, .iload_n 1, 1), (71, .invokevirtual 173, 3), (74, .ifCond .eq 7, 3), (77, .iconst 1, 1), (78, .goto 4, 3), (81, .iconst 0, 1), (82, .ireturn, 1), (83, .aload_n 0, 1), (84, .getfield 10, 3), (87, .iload_n 1, 1), (88, .invokevirtual 176, 3), (91, .ireturn, 1), (92, .aload_n 0, 1), (93, .bipush (-2), 2), (95, .invokevirtual 102, 3), (98, .ireturn, 1)]
def mX8_of : mj_M := (yX8_of, cX8_of, 3, (some .int), { frames := 2, cells := 0, slots := 0, locals := 46 }, tX8_of)
set_option maxRecDepth 100000 in
theorem tok_X8_of : ∀ q ∈ mX8_of.2.2.2.2.2, decode mX8_of.2.1 q.1 = .ok q.2 := by decide +kernel
def tX8_isNeed : List (Nat × Instr × Nat) := [(0, .iload_n 0, 1), (1, .ifCond .lt 13, 3), (4, .iload_n 0, 1), (5, .bipush 6, 2), (7, .if_icmp .gt 7, 3), (10, .iconst 1, 1), (11, .goto 4, 3), (14, .iconst 0, 1), (15, .ireturn, 1)]
def mX8_isNeed : mj_M := (yX8_isNeed, cX8_isNeed, 1, (some .boolean), { frames := 0, cells := 0, slots := 0, locals := 0 }, tX8_isNeed)
set_option maxRecDepth 100000 in
theorem tok_X8_isNeed : ∀ q ∈ mX8_isNeed.2.2.2.2.2, decode mX8_isNeed.2.1 q.1 = .ok q.2 := by decide +kernel
def tX8_hold : List (Nat × Instr × Nat) := [(0, .aload_n 0, 1), (1, .getfield 10, 3), (4, .iload_n 1, 1), (5, .invokevirtual 179, 3), (8, .ifCond .eq 10, 3), (11, .iload_n 2, 1), (12, .invokestatic 182, 3), (15, .ifCond .ne 10, 3), (18, .aload_n 0, 1), (19, .bipush (-2), 2), (21, .invokevirtual 102, 3), (24, .ireturn, 1), (25, .aload_n 0, 1), (26, .getfield 43, 3), (29, .aload_n 0, 1), (30, .getfield 10, 3), (33, .invokevirtual 185, 3), (36, .aload_n 0, 1), (37, .getfield 43, 3), (40, .iload_n 1, 1), (41, .iload_n 2, 1), (42, .invokevirtual 188, 3), (45, .lstore_n 3, 1), (46, .lconst 1, 1), (47, .lstore 5, 2), (49, .iconst 0, 1), (50, .istore 7, 2), (52, .iload 7, 2), (54, .iload_n 1, 1), (55, .invokestatic 191, 3), (58, .if_icmp .ge 17, 3), (61, .lload 5, 2), (63, .ldc2_w 196, 3), (66, .lmul, 1), (67, .lstore 5, 2), (69, .iinc 7 1, 3), (72, .goto (-20), 3), (75, .lload_n 3, 1), (76, .lload 5, 2), (78, .invokestatic 198, 3), (81, .lstore 7, 2), (83, .lload 7, 2), (85, .lconst 0, 1), (86, .lcmp, 1), (87, .ifCond .le 20, 3), (90, .aload_n 0, 1), (91, .lload_n 3, 1), (92, .lload 7, 2), (94, .ldiv, 1), (95, .putfield 65, 3), (98, .aload_n 0, 1), (99, .lload 5, 2), (101, .lload 7, 2), (103, .ldiv, 1), (104, .putfield 69, 3), (107, .iconst 1, 1), (108, .ireturn, 1)]
def mX8_hold : mj_M := (yX8_hold, cX8_hold, 9, (some .int), { frames := 4, cells := 0, slots := 0, locals := 92 }, tX8_hold)
set_option maxRecDepth 100000 in
theorem tok_X8_hold : ∀ q ∈ mX8_hold.2.2.2.2.2, decode mX8_hold.2.1 q.1 = .ok q.2 := by decide +kernel
def tX8_keep : List (Nat × Instr × Nat) := [(0, .iload_n 1, 1), (1, .ifCond .lt 16, 3), (4, .iload_n 1, 1), (5, .bipush 6, 2), (7, .if_icmp .gt 10, 3), (10, .iload_n 2, 1), (11, .invokestatic 182, 3), (14, .ifCond .ne 12, 3), (17, .aload_n 0, 1), (18, .bipush (-2), 2), (20, .bipush (-10), 2), (22, .invokevirtual 202, 3), (25, .ireturn, 1), (26, .iload_n 1, 1), (27, .aload_n 0, 1), (28, .getfield 10, 3), (31, .getfield 205, 3), (34, .if_icmp .le 5, 3), (37, .iconst (-1), 1), (38, .ireturn, 1), (39, .aload_n 0, 1), (40, .getfield 43, 3), (43, .aload_n 0, 1), (44, .getfield 10, 3), (47, .invokevirtual 185, 3), (50, .aload_n 0, 1), (51, .getfield 43, 3), (54, .aload_n 0, 1), (55, .getfield 10, 3), (58, .getfield 205, 3), (61, .iload_n 1, 1), (62, .iload_n 2, 1), (63, .invokevirtual 208, 3), (66, .pop2, 1), (67, .aload_n 0, 1), (68, .getfield 43, 3), (71, .getfield 212, 3), (74, .ireturn, 1)]
def mX8_keep : mj_M := (yX8_keep, cX8_keep, 3, (some .int), { frames := 4, cells := 0, slots := 0, locals := 92 }, tX8_keep)
set_option maxRecDepth 100000 in
theorem tok_X8_keep : ∀ q ∈ mX8_keep.2.2.2.2.2, decode mX8_keep.2.1 q.1 = .ok q.2 := by decide +kernel
def tX8_isWeighed : List (Nat × Instr × Nat) := [(0, .iload_n 0, 1), (1, .ifCond .lt 12, 3), (4, .iload_n 0, 1), (5, .iconst 3, 1), (6, .if_icmp .gt 7, 3), (9, .iconst 1, 1), (10, .goto 4, 3), (13, .iconst 0, 1), (14, .ireturn, 1)]
def mX8_isWeighed : mj_M := (yX8_isWeighed, cX8_isWeighed, 1, (some .boolean), { frames := 0, cells := 0, slots := 0, locals := 0 }, tX8_isWeighed)
set_option maxRecDepth 100000 in
theorem tok_X8_isWeighed : ∀ q ∈ mX8_isWeighed.2.2.2.2.2, decode mX8_isWeighed.2.1 q.1 = .ok q.2 := by decide +kernel
def tX8_waysNow : List (Nat × Instr × Nat) := [(0, .aload_n 0, 1), (1, .getfield 43, 3), (4, .aload_n 0, 1), (5, .getfield 10, 3), (8, .invokevirtual 185, 3), (11, .aload_n 0, 1), (12, .getfield 43, 3), (15, .aload_n 0, 1), (16, .getfield 10, 3), (19, .getfield 205, 3), (22, .iload_n 1, 1), (23, .iload_n 2, 1), (24, .invokevirtual 208, 3), (27, .lreturn, 1)]
def mX8_waysNow : mj_M := (yX8_waysNow, cX8_waysNow, 3, (some .long), { frames := 4, cells := 0, slots := 0, locals := 92 }, tX8_waysNow)
set_option maxRecDepth 100000 in
theorem tok_X8_waysNow : ∀ q ∈ mX8_waysNow.2.2.2.2.2, decode mX8_waysNow.2.1 q.1 = .ok q.2 := by decide +kernel
def tX8_gainOf : List (Nat × Instr × Nat) := [(0, .aload_n 0, 1), (1, .getfield 10, 3), (4, .iload_n 1, 1), (5, .iload_n 2, 1), (6, .invokevirtual 164, 3), (9, .i2l, 1), (10, .lstore 7, 2), (12, .aload_n 0, 1), (13, .getfield 43, 3), (16, .aload_n 0, 1), (17, .getfield 10, 3), (20, .iload_n 1, 1), (21, .iload_n 2, 1), (22, .iconst 1, 1), (23, .invokevirtual 323, 3), (26, .lload 7, 2), (28, .aload_n 0, 1), (29, .getfield 43, 3), (32, .aload_n 0, 1), (33, .getfield 10, 3), (36, .getfield 205, 3), (39, .iload_n 3, 1), (40, .iload 4, 2), (42, .invokevirtual 208, 3), (45, .lmul, 1), (46, .lstore 9, 2), (48, .aload_n 0, 1), (49, .getfield 43, 3), (52, .aload_n 0, 1), (53, .getfield 10, 3), (56, .iload_n 1, 1), (57, .iload_n 2, 1), (58, .iconst 0, 1), (59, .invokevirtual 323, 3), (62, .lload 9, 2), (64, .ldc2_w 196, 3), (67, .lload 7, 2), (69, .lsub, 1), (70, .aload_n 0, 1), (71, .getfield 43, 3), (74, .aload_n 0, 1), (75, .getfield 10, 3), (78, .getfield 205, 3), (81, .iload_n 3, 1), (82, .iload 4, 2), (84, .invokevirtual 208, 3), (87, .lmul, 1), (88, .ladd, 1), (89, .lstore 9, 2), (91, .lload 9, 2), (93, .ldc2_w 196, 3), (96, .lload 5, 2), (98, .lmul, 1), (99, .lsub, 1), (100, .l2i, 1), (101, .ireturn, 1)]
def mX8_gainOf : mj_M := (yX8_gainOf, cX8_gainOf, 11, (some .int), { frames := 5, cells := 0, slots := 0, locals := 159 }, tX8_gainOf)
set_option maxRecDepth 100000 in
theorem tok_X8_gainOf : ∀ q ∈ mX8_gainOf.2.2.2.2.2, decode mX8_gainOf.2.1 q.1 = .ok q.2 := by decide +kernel
def tX8_worth : List (Nat × Instr × Nat) := [(0, .aload_n 0, 1), (1, .getfield 10, 3), (4, .iload_n 1, 1), (5, .invokevirtual 129, 3), (8, .ifCond .eq 25, 3), (11, .iload_n 2, 1), (12, .invokestatic 133, 3), (15, .ifCond .eq 18, 3), (18, .iload_n 3, 1), (19, .invokestatic 215, 3), (22, .ifCond .eq 11, 3), (25, .iload 4, 2), (27, .invokestatic 182, 3), (30, .ifCond .ne 12, 3), (33, .aload_n 0, 1), (34, .bipush (-2), 2), (36, .ldc 218, 2), (38, .invokevirtual 202, 3), (41, .ireturn, 1), (42, .aload_n 0, 1), (43, .getfield 10, 3), (46, .getfield 136, 3), (49, .iload_n 2, 1), (50, .invokestatic 139, 3), (53, .if_icmp .lt 14, 3), (56, .iload_n 3, 1), (57, .aload_n 0, 1), (58, .getfield 10, 3), (61, .getfield 205, 3), (64, .if_icmp .le 12, 3), (67, .aload_n 0, 1), (68, .bipush (-3), 2), (70, .ldc 219, 2), (72, .invokevirtual 202, 3), (75, .ireturn, 1), (76, .aload_n 0, 1), (77, .iload_n 1, 1), (78, .iload_n 2, 1), (79, .iload_n 3, 1), (80, .iload 4, 2), (82, .aload_n 0, 1), (83, .iload_n 3, 1), (84, .iload 4, 2), (86, .invokevirtual 220, 3), (89, .invokevirtual 223, 3), (92, .ireturn, 1)]
def mX8_worth : mj_M := (yX8_worth, cX8_worth, 5, (some .int), { frames := 6, cells := 0, slots := 0, locals := 189 }, tX8_worth)
set_option maxRecDepth 100000 in
theorem tok_X8_worth : ∀ q ∈ mX8_worth.2.2.2.2.2, decode mX8_worth.2.1 q.1 = .ok q.2 := by decide +kernel
def tX8_best : List (Nat × Instr × Nat) := [(0, .iload_n 1, 1), (1, .invokestatic 215, 3), (4, .ifCond .eq 10, 3), (7, .iload_n 2, 1), (8, .invokestatic 182, 3), (11, .ifCond .ne 12, 3), (14, .aload_n 0, 1), (15, .bipush (-2), 2), (17, .bipush (-10), 2), (19, .invokevirtual 202, 3), (22, .ireturn, 1), (23, .iload_n 1, 1), (24, .aload_n 0, 1), (25, .getfield 10, 3), (28, .getfield 205, 3), (31, .if_icmp .le 5, 3), (34, .iconst (-1), 1), (35, .ireturn, 1), (36, .aload_n 0, 1), (37, .iload_n 1, 1), (38, .iload_n 2, 1), (39, .invokevirtual 220, 3), (42, .lstore_n 3, 1), (43, .iconst (-1), 1), (44, .istore 5, 2), (46, .iconst 0, 1), (47, .istore 6, 2), (49, .iconst 0, 1), (50, .istore 7, 2), (52, .iload 7, 2), (54, .aload_n 0, 1), (55, .getfield 10, 3), (58, .getfield 205, 3), (61, .if_icmp .ge 82, 3), (64, .iconst 0, 1), (65, .istore 8, 2), (67, .iload 8, 2), (69, .iconst 3, 1), (70, .if_icmp .ge 67, 3), (73, .aload_n 0, 1), (74, .getfield 10, 3), (77, .getfield 136, 3), (80, .iload 8, 2), (82, .invokestatic 139, 3), (85, .if_icmp .ge 6, 3), (88, .goto 43, 3), (91, .aload_n 0, 1), (92, .iload 7, 2), (94, .iload 8, 2), (96, .iload_n 1, 1), (97, .iload_n 2, 1), (98, .lload_n 3, 1), (99, .invokevirtual 223, 3), (102, .istore 9, 2), (104, .iload 5, 2), (106, .iconst (-1), 1), (107, .if_icmp .eq 10, 3), (110, .iload 9, 2), (112, .iload 6, 2), (114, .if_icmp .le 17, 3), (117, .bipush 10, 2), (119, .iload 7, 2), (121, .imul, 1), (122, .iload 8, 2), (124, .iadd, 1), (125, .istore 5, 2), (127, .iload 9, 2), (129, .istore 6, 2), (131, .iinc 8 1, 3), (134, .goto (-67), 3), (137, .iinc 7 1, 3), (140, .goto (-88), 3), (143, .iload 5, 2), (145, .ireturn, 1)]
def mX8_best : mj_M := (yX8_best, cX8_best, 10, (some .int), { frames := 6, cells := 0, slots := 0, locals := 189 }, tX8_best)
set_option maxRecDepth 100000 in
theorem tok_X8_best : ∀ q ∈ mX8_best.2.2.2.2.2, decode mX8_best.2.1 q.1 = .ok q.2 := by decide +kernel
def tX8_sift : List (Nat × Instr × Nat) := [(0, .aload_n 0, 1), (1, .getfield 10, 3), (4, .iload_n 1, 1), (5, .invokevirtual 129, 3), (8, .ifCond .eq 18, 3), (11, .iload_n 2, 1), (12, .ifCond .lt 14, 3), (15, .iload_n 2, 1), (16, .bipush 60, 2), (18, .if_icmp .gt 8, 3), (21, .iload_n 3, 1), (22, .iconst (-1), 1), (23, .if_icmp .ge 12, 3), (26, .aload_n 0, 1), (27, .bipush (-2), 2), (29, .bipush (-10), 2), (31, .invokevirtual 202, 3), (34, .ireturn, 1), (35, .aload_n 0, 1), (36, .getfield 57, 3), (39, .aload_n 0, 1), (40, .getfield 10, 3), (43, .iload_n 1, 1), (44, .iload_n 2, 1), (45, .invokevirtual 227, 3), (48, .ifCond .ne 5, 3), (51, .iconst (-1), 1), (52, .ireturn, 1), (53, .iload_n 3, 1), (54, .iconst (-1), 1), (55, .if_icmp .ne 11, 3), (58, .aload_n 0, 1), (59, .getfield 57, 3), (62, .getfield 231, 3), (65, .ireturn, 1), (66, .iload_n 3, 1), (67, .aload_n 0, 1), (68, .getfield 57, 3), (71, .getfield 231, 3), (74, .if_icmp .ge 14, 3), (77, .aload_n 0, 1), (78, .getfield 57, 3), (81, .iload_n 3, 1), (82, .invokevirtual 232, 3), (85, .goto 5, 3), (88, .bipush (-5), 2), (90, .ireturn, 1)]
def mX8_sift : mj_M := (yX8_sift, cX8_sift, 4, (some .int), { frames := 5, cells := 0, slots := 0, locals := 160 }, tX8_sift)
set_option maxRecDepth 100000 in
theorem tok_X8_sift : ∀ q ∈ mX8_sift.2.2.2.2.2, decode mX8_sift.2.1 q.1 = .ok q.2 := by decide +kernel
def tX8_runs : List (Nat × Instr × Nat) := [(0, .aload_n 0, 1), (1, .getfield 10, 3), (4, .iload_n 1, 1), (5, .invokevirtual 129, 3), (8, .ifCond .ne 10, 3), (11, .aload_n 0, 1), (12, .bipush (-2), 2), (14, .invokevirtual 102, 3), (17, .ireturn, 1), (18, .aload_n 0, 1), (19, .getfield 10, 3), (22, .getfield 235, 3), (25, .istore_n 2, 1), (26, .iconst 0, 1), (27, .istore_n 3, 1), (28, .iload_n 1, 1), (29, .istore 4, 2), (31, .iload 4, 2), (33, .aload_n 0, 1), (34, .getfield 10, 3), (37, .getfield 205, 3), (40, .if_icmp .ge 30, 3), (43, .iload_n 3, 1), (44, .iload_n 2, 1), (45, .iconst 1, 1), (46, .iload 4, 2), (48, .ishl, 1), (49, .iand, 1), (50, .ior, 1), (51, .istore_n 3, 1), (52, .iload_n 2, 1), (53, .aload_n 0, 1), (54, .getfield 10, 3), (57, .iload 4, 2), (59, .invokevirtual 238, 3), (62, .ior, 1), (63, .istore_n 2, 1), (64, .iinc 4 1, 3), (67, .goto (-36), 3), (70, .iload_n 3, 1), (71, .ireturn, 1)]
def mX8_runs : mj_M := (yX8_runs, cX8_runs, 5, (some .int), { frames := 2, cells := 0, slots := 0, locals := 44 }, tX8_runs)
set_option maxRecDepth 100000 in
theorem tok_X8_runs : ∀ q ∈ mX8_runs.2.2.2.2.2, decode mX8_runs.2.1 q.1 = .ok q.2 := by decide +kernel
def tX8_mayStay : List (Nat × Instr × Nat) := [(0, .iconst 0, 1), (1, .istore_n 3, 1), (2, .iload_n 3, 1), (3, .aload_n 0, 1), (4, .getfield 10, 3), (7, .getfield 205, 3), (10, .if_icmp .ge 98, 3), (13, .iload_n 3, 1), (14, .iconst 1, 1), (15, .iadd, 1), (16, .istore 4, 2), (18, .iload 4, 2), (20, .aload_n 0, 1), (21, .getfield 10, 3), (24, .getfield 205, 3), (27, .if_icmp .ge 75, 3), (30, .iload_n 1, 1), (31, .iload_n 3, 1), (32, .invokestatic 275, 3), (35, .ifCond .eq 16, 3), (38, .iload_n 1, 1), (39, .iload 4, 2), (41, .invokestatic 275, 3), (44, .ifCond .eq 7, 3), (47, .iconst 1, 1), (48, .goto 4, 3), (51, .iconst 0, 1), (52, .istore 5, 2), (54, .iload 5, 2), (56, .ifCond .eq 40, 3), (59, .aload_n 0, 1), (60, .getfield 10, 3), (63, .iload_n 3, 1), (64, .iload 4, 2), (66, .invokevirtual 327, 3), (69, .ifCond .eq 27, 3), (72, .aload_n 0, 1), (73, .getfield 43, 3), (76, .iload_n 3, 1), (77, .invokevirtual 286, 3), (80, .aload_n 0, 1), (81, .getfield 43, 3), (84, .iload 4, 2), (86, .invokevirtual 286, 3), (89, .iadd, 1), (90, .iload_n 2, 1), (91, .if_icmp .ge 5, 3), (94, .iconst 0, 1), (95, .ireturn, 1), (96, .iinc 4 1, 3), (99, .goto (-81), 3), (102, .iinc 3 1, 3), (105, .goto (-103), 3), (108, .iconst 1, 1), (109, .ireturn, 1)]
def mX8_mayStay : mj_M := (yX8_mayStay, cX8_mayStay, 6, (some .boolean), { frames := 2, cells := 0, slots := 0, locals := 43 }, tX8_mayStay)
set_option maxRecDepth 100000 in
theorem tok_X8_mayStay : ∀ q ∈ mX8_mayStay.2.2.2.2.2, decode mX8_mayStay.2.1 q.1 = .ok q.2 := by decide +kernel
def tX8_home : List (Nat × Instr × Nat) := [(0, .iload_n 1, 1), (1, .ifCond .lt 9, 3), (4, .iload_n 1, 1), (5, .bipush 120, 2), (7, .if_icmp .le 10, 3), (10, .aload_n 0, 1), (11, .bipush (-2), 2), (13, .invokevirtual 102, 3), (16, .ireturn, 1), (17, .aload_n 0, 1), (18, .getfield 43, 3), (21, .aload_n 0, 1), (22, .getfield 10, 3), (25, .invokevirtual 185, 3), (28, .iconst 1, 1), (29, .aload_n 0, 1), (30, .getfield 10, 3), (33, .getfield 205, 3), (36, .ishl, 1), (37, .iconst 1, 1), (38, .isub, 1), (39, .istore_n 2, 1), (40, .iload_n 2, 1), (41, .istore_n 3, 1), (42, .iload_n 2, 1), (43, .istore 4, 2), (45, .iload 4, 2), (47, .ifCond .lt 38, 3), (50, .iload 4, 2), (52, .invokestatic 191, 3), (55, .iload_n 3, 1), (56, .invokestatic 191, 3), (59, .if_icmp .gt 20, 3), (62, .aload_n 0, 1), (63, .iload_n 2, 1), (64, .iload 4, 2), (66, .iconst (-1), 1), (67, .ixor, 1), (68, .iand, 1), (69, .iload_n 1, 1), (70, .invokevirtual 241, 3), (73, .ifCond .eq 6, 3), (76, .iload 4, 2), (78, .istore_n 3, 1), (79, .iinc 4 (-1), 3), (82, .goto (-37), 3), (85, .iload_n 3, 1), (86, .ireturn, 1)]
def mX8_home : mj_M := (yX8_home, cX8_home, 5, (some .int), { frames := 4, cells := 0, slots := 0, locals := 92 }, tX8_home)
set_option maxRecDepth 100000 in
theorem tok_X8_home : ∀ q ∈ mX8_home.2.2.2.2.2, decode mX8_home.2.1 q.1 = .ok q.2 := by decide +kernel
def tX8_spy : List (Nat × Instr × Nat) := [(0, .aload_n 0, 1), (1, .getfield 10, 3), (4, .iload_n 1, 1), (5, .invokevirtual 129, 3), (8, .ifCond .ne 10, 3), (11, .aload_n 0, 1), (12, .bipush (-2), 2), (14, .invokevirtual 102, 3), (17, .ireturn, 1), (18, .aload_n 0, 1), (19, .getfield 50, 3), (22, .aload_n 0, 1), (23, .getfield 10, 3), (26, .iload_n 1, 1), (27, .invokevirtual 245, 3), (30, .aload_n 0, 1), (31, .getfield 50, 3), (34, .invokevirtual 249, 3), (37, .aload_n 0, 1), (38, .getfield 50, 3), (41, .invokevirtual 252, 3), (44, .ifCond .eq 8, 3), (47, .bipush 60, 2), (49, .goto 12, 3), (52, .aload_n 0, 1), (53, .getfield 50, 3), (56, .iconst 3, 1), (57, .iconst 0, 1), (58, .invokevirtual 256, 3), (61, .istore_n 2, 1), (62, .iload_n 2, 1), (63, .aload_n 0, 1), (64, .getfield 10, 3), (67, .iload_n 1, 1), (68, .invokevirtual 149, 3), (71, .isub, 1), (72, .ireturn, 1)]
def mX8_spy : mj_M := (yX8_spy, cX8_spy, 3, (some .int), { frames := 3, cells := 0, slots := 0, locals := 70 }, tX8_spy)
set_option maxRecDepth 100000 in
theorem tok_X8_spy : ∀ q ∈ mX8_spy.2.2.2.2.2, decode mX8_spy.2.1 q.1 = .ok q.2 := by decide +kernel
def tX8_looks : List (Nat × Instr × Nat) := [(0, .aload_n 0, 1), (1, .getfield 10, 3), (4, .iload_n 1, 1), (5, .invokevirtual 179, 3), (8, .ifCond .eq 12, 3), (11, .iload_n 3, 1), (12, .ifCond .lt 8, 3), (15, .iload_n 3, 1), (16, .iconst 1, 1), (17, .if_icmp .le 12, 3), (20, .aload_n 0, 1), (21, .bipush (-2), 2), (23, .bipush (-10), 2), (25, .invokevirtual 202, 3), (28, .ireturn, 1), (29, .iconst 0, 1), (30, .istore 4, 2), (32, .bipush 31, 2), (34, .istore 5, 2), (36, .iconst 0, 1), (37, .istore 6, 2), (39, .iload 6, 2), (41, .bipush 31, 2), (43, .if_icmp .gt 33, 3), (46, .aload_n 0, 1), (47, .getfield 10, 3), (50, .iload 6, 2), (52, .iload_n 2, 1), (53, .invokevirtual 260, 3), (56, .iload_n 1, 1), (57, .if_icmp .ne 13, 3), (60, .iinc 4 1, 3), (63, .iload 5, 2), (65, .iload 6, 2), (67, .iand, 1), (68, .istore 5, 2), (70, .iinc 6 1, 3), (73, .goto (-34), 3), (76, .iload_n 3, 1), (77, .ifCond .ne 6, 3), (80, .iload 4, 2), (82, .ireturn, 1), (83, .iload 4, 2), (85, .ifCond .ne 7, 3), (88, .iconst (-1), 1), (89, .goto 5, 3), (92, .iload 5, 2), (94, .ireturn, 1)]
def mX8_looks : mj_M := (yX8_looks, cX8_looks, 7, (some .int), { frames := 2, cells := 0, slots := 0, locals := 46 }, tX8_looks)
set_option maxRecDepth 100000 in
theorem tok_X8_looks : ∀ q ∈ mX8_looks.2.2.2.2.2, decode mX8_looks.2.1 q.1 = .ok q.2 := by decide +kernel
def tX8_isOpen : List (Nat × Instr × Nat) := [(0, .iconst 1, 1), (1, .iload_n 1, 1), (2, .ishl, 1), (3, .iconst (-1), 1), (4, .ixor, 1), (5, .istore_n 3, 1), (6, .iconst 0, 1), (7, .istore 4, 2), (9, .iconst 0, 1), (10, .istore 5, 2), (12, .iconst 0, 1), (13, .istore 6, 2), (15, .iload 6, 2), (17, .bipush 31, 2), (19, .if_icmp .gt 61, 3), (22, .aload_n 0, 1), (23, .getfield 10, 3), (26, .iload 6, 2), (28, .iconst 1, 1), (29, .invokevirtual 260, 3), (32, .istore 7, 2), (34, .iload 7, 2), (36, .iload_n 3, 1), (37, .iand, 1), (38, .iload_n 2, 1), (39, .iload_n 3, 1), (40, .iand, 1), (41, .if_icmp .ne 33, 3), (44, .iload 7, 2), (46, .iload_n 1, 1), (47, .invokestatic 275, 3), (50, .istore 8, 2), (52, .iload 4, 2), (54, .iload 8, 2), (56, .ior, 1), (57, .istore 4, 2), (59, .iload 5, 2), (61, .iload 8, 2), (63, .ifCond .ne 7, 3), (66, .iconst 1, 1), (67, .goto 4, 3), (70, .iconst 0, 1), (71, .ior, 1), (72, .istore 5, 2), (74, .iinc 6 1, 3), (77, .goto (-62), 3), (80, .iload 4, 2), (82, .ifCond .eq 12, 3), (85, .iload 5, 2), (87, .ifCond .eq 7, 3), (90, .iconst 1, 1), (91, .goto 4, 3), (94, .iconst 0, 1), (95, .ireturn, 1)]
def mX8_isOpen : mj_M := (yX8_isOpen, cX8_isOpen, 9, (some .boolean), { frames := 2, cells := 0, slots := 0, locals := 46 }, tX8_isOpen)
set_option maxRecDepth 100000 in
theorem tok_X8_isOpen : ∀ q ∈ mX8_isOpen.2.2.2.2.2, decode mX8_isOpen.2.1 q.1 = .ok q.2 := by decide +kernel
def tX8_next : List (Nat × Instr × Nat) := [(0, .aload_n 0, 1), (1, .getfield 10, 3), (4, .iload_n 1, 1), (5, .invokevirtual 179, 3), (8, .ifCond .ne 12, 3), (11, .aload_n 0, 1), (12, .bipush (-2), 2), (14, .bipush (-10), 2), (16, .invokevirtual 202, 3), (19, .ireturn, 1), (20, .iconst 0, 1), (21, .istore_n 2, 1), (22, .iload_n 2, 1), (23, .aload_n 0, 1), (24, .getfield 10, 3), (27, .getfield 205, 3), (30, .if_icmp .ge 20, 3), (33, .aload_n 0, 1), (34, .iload_n 2, 1), (35, .iload_n 1, 1), (36, .invokevirtual 263, 3), (39, .ifCond .eq 5, 3), (42, .iload_n 2, 1), (43, .ireturn, 1), (44, .iinc 2 1, 3), (47, .goto (-25), 3), (50, .iconst (-1), 1), (51, .ireturn, 1)]
def mX8_next : mj_M := (yX8_next, cX8_next, 3, (some .int), { frames := 3, cells := 0, slots := 0, locals := 74 }, tX8_next)
set_option maxRecDepth 100000 in
theorem tok_X8_next : ∀ q ∈ mX8_next.2.2.2.2.2, decode mX8_next.2.1 q.1 = .ok q.2 := by decide +kernel
def tX8_gets : List (Nat × Instr × Nat) := [(0, .iload_n 1, 1), (1, .ifCond .ne 15, 3), (4, .iload_n 0, 1), (5, .bipush 20, 2), (7, .if_icmp .ge 7, 3), (10, .iconst 3, 1), (11, .goto 4, 3), (14, .iconst 1, 1), (15, .ireturn, 1), (16, .iload_n 2, 1), (17, .ifCond .ne 7, 3), (20, .iconst 4, 1), (21, .goto 9, 3), (24, .iconst 2, 1), (25, .iload_n 0, 1), (26, .bipush 30, 2), (28, .idiv, 1), (29, .isub, 1), (30, .ireturn, 1)]
def mX8_gets : mj_M := (yX8_gets, cX8_gets, 3, (some .int), { frames := 0, cells := 0, slots := 0, locals := 0 }, tX8_gets)
set_option maxRecDepth 100000 in
theorem tok_X8_gets : ∀ q ∈ mX8_gets.2.2.2.2.2, decode mX8_gets.2.1 q.1 = .ok q.2 := by decide +kernel
def tX8_rests : List (Nat × Instr × Nat) := [(0, .iload_n 0, 1), (1, .iload_n 1, 1), (2, .iload_n 2, 1), (3, .invokestatic 330, 3), (6, .iload_n 0, 1), (7, .iconst 1, 1), (8, .iload_n 1, 1), (9, .isub, 1), (10, .iload_n 2, 1), (11, .invokestatic 330, 3), (14, .if_icmp .lt 7, 3), (17, .iconst 1, 1), (18, .goto 4, 3), (21, .iconst 0, 1), (22, .ireturn, 1)]
def mX8_rests : mj_M := (yX8_rests, cX8_rests, 3, (some .boolean), { frames := 1, cells := 0, slots := 0, locals := 22 }, tX8_rests)
set_option maxRecDepth 100000 in
theorem tok_X8_rests : ∀ q ∈ mX8_rests.2.2.2.2.2, decode mX8_rests.2.1 q.1 = .ok q.2 := by decide +kernel
def tX8_boast : List (Nat × Instr × Nat) := [(0, .aload_n 0, 1), (1, .getfield 10, 3), (4, .iload_n 1, 1), (5, .invokevirtual 129, 3), (8, .ifCond .eq 28, 3), (11, .aload_n 0, 1), (12, .getfield 10, 3), (15, .iload_n 2, 1), (16, .invokevirtual 129, 3), (19, .ifCond .eq 17, 3), (22, .iload_n 1, 1), (23, .iload_n 2, 1), (24, .if_icmp .eq 12, 3), (27, .iload_n 3, 1), (28, .ifCond .lt 8, 3), (31, .iload_n 3, 1), (32, .iconst 1, 1), (33, .if_icmp .le 10, 3), (36, .aload_n 0, 1), (37, .bipush (-2), 2), (39, .invokevirtual 102, 3), (42, .ireturn, 1), (43, .aload_n 0, 1), (44, .getfield 10, 3), (47, .iload_n 1, 1), (48, .invokevirtual 173, 3), (51, .ifCond .eq 14, 3), (54, .aload_n 0, 1), (55, .getfield 10, 3), (58, .iload_n 2, 1), (59, .invokevirtual 173, 3), (62, .ifCond .ne 10, 3), (65, .aload_n 0, 1), (66, .bipush (-3), 2), (68, .invokevirtual 102, 3), (71, .ireturn, 1), (72, .iconst 0, 1), (73, .istore 4, 2), (75, .iconst (-1), 1), (76, .istore 5, 2), (78, .iconst 0, 1), (79, .istore 6, 2), (81, .iload 6, 2), (83, .iconst 1, 1), (84, .if_icmp .gt 83, 3), (87, .iconst 0, 1), (88, .istore 7, 2), (90, .iload 7, 2), (92, .iconst 1, 1), (93, .if_icmp .gt 68, 3), (96, .aload_n 0, 1), (97, .getfield 10, 3), (100, .iload_n 1, 1), (101, .invokevirtual 149, 3), (104, .iload 6, 2), (106, .iload 7, 2), (108, .invokestatic 266, 3), (111, .ifCond .eq 44, 3), (114, .aload_n 0, 1), (115, .getfield 10, 3), (118, .iload_n 2, 1), (119, .invokevirtual 149, 3), (122, .iload 7, 2), (124, .iload 6, 2), (126, .invokestatic 266, 3), (129, .ifCond .eq 26, 3), (132, .iload 4, 2), (134, .ifCond .ne 14, 3), (137, .bipush 10, 2), (139, .iload 6, 2), (141, .imul, 1), (142, .iload 7, 2), (144, .iadd, 1), (145, .goto 5, 3), (148, .iload 5, 2), (150, .istore 5, 2), (152, .iinc 4 1, 3), (155, .iinc 7 1, 3), (158, .goto (-68), 3), (161, .iinc 6 1, 3), (164, .goto (-83), 3), (167, .iload_n 3, 1), (168, .ifCond .ne 8, 3), (171, .iload 4, 2), (173, .goto 5, 3), (176, .iload 5, 2), (178, .ireturn, 1)]
def mX8_boast : mj_M := (yX8_boast, cX8_boast, 8, (some .int), { frames := 3, cells := 0, slots := 0, locals := 70 }, tX8_boast)
set_option maxRecDepth 100000 in
theorem tok_X8_boast : ∀ q ∈ mX8_boast.2.2.2.2.2, decode mX8_boast.2.1 q.1 = .ok q.2 := by decide +kernel
def tX8_again : List (Nat × Instr × Nat) := [(0, .aload_n 0, 1), (1, .getfield 10, 3), (4, .iload_n 1, 1), (5, .invokevirtual 129, 3), (8, .ifCond .ne 10, 3), (11, .aload_n 0, 1), (12, .bipush (-2), 2), (14, .invokevirtual 102, 3), (17, .ireturn, 1), (18, .aload_n 0, 1), (19, .getfield 50, 3), (22, .aload_n 0, 1), (23, .getfield 10, 3), (26, .iload_n 1, 1), (27, .invokevirtual 245, 3), (30, .aload_n 0, 1), (31, .getfield 50, 3), (34, .iconst 0, 1), (35, .iconst 1, 1), (36, .aload_n 0, 1), (37, .getfield 10, 3), (40, .iload_n 1, 1), (41, .invokevirtual 173, 3), (44, .invokevirtual 270, 3), (47, .aload_n 0, 1), (48, .getfield 50, 3), (51, .iconst 0, 1), (52, .iconst 1, 1), (53, .invokevirtual 256, 3), (56, .ireturn, 1)]
def mX8_again : mj_M := (yX8_again, cX8_again, 2, (some .int), { frames := 3, cells := 0, slots := 0, locals := 109 }, tX8_again)
set_option maxRecDepth 100000 in
theorem tok_X8_again : ∀ q ∈ mX8_again.2.2.2.2.2, decode mX8_again.2.1 q.1 = .ok q.2 := by decide +kernel
def tX8_drawn : List (Nat × Instr × Nat) := [(0, .aload_n 0, 1), (1, .getfield 10, 3), (4, .iload_n 1, 1), (5, .invokevirtual 179, 3), (8, .ifCond .eq 24, 3), (11, .iload_n 2, 1), (12, .ifCond .lt 20, 3), (15, .iload_n 2, 1), (16, .bipush 30, 2), (18, .if_icmp .gt 14, 3), (21, .iload_n 3, 1), (22, .ifCond .lt 10, 3), (25, .iload_n 3, 1), (26, .ldc_w 274, 3), (29, .if_icmp .le 10, 3), (32, .aload_n 0, 1), (33, .bipush (-2), 2), (35, .invokevirtual 102, 3), (38, .ireturn, 1), (39, .aload_n 0, 1), (40, .getfield 43, 3), (43, .aload_n 0, 1), (44, .getfield 10, 3), (47, .invokevirtual 185, 3), (50, .iload_n 3, 1), (51, .i2l, 1), (52, .lstore 4, 2), (54, .iconst 0, 1), (55, .istore 6, 2), (57, .iconst 0, 1), (58, .istore 7, 2), (60, .iload 7, 2), (62, .iload_n 2, 1), (63, .if_icmp .ge 89, 3), (66, .iconst 0, 1), (67, .istore 8, 2), (69, .iload 8, 2), (71, .aload_n 0, 1), (72, .getfield 10, 3), (75, .getfield 205, 3), (78, .if_icmp .ge 68, 3), (81, .iload_n 1, 1), (82, .iload 8, 2), (84, .invokestatic 275, 3), (87, .ifCond .eq 53, 3), (90, .lload 4, 2), (92, .ldc2_w 278, 3), (95, .lmul, 1), (96, .ldc2_w 280, 3), (99, .ladd, 1), (100, .ldc2_w 282, 3), (103, .lrem, 1), (104, .lstore 4, 2), (106, .iload 6, 2), (108, .lload 4, 2), (110, .ldc2_w 284, 3), (113, .ldiv, 1), (114, .ldc2_w 196, 3), (117, .lrem, 1), (118, .aload_n 0, 1), (119, .getfield 43, 3), (122, .iload 8, 2), (124, .invokevirtual 286, 3), (127, .i2l, 1), (128, .lcmp, 1), (129, .ifCond .ge 7, 3), (132, .iconst 1, 1), (133, .goto 4, 3), (136, .iconst 0, 1), (137, .iadd, 1), (138, .istore 6, 2), (140, .iinc 8 1, 3), (143, .goto (-74), 3), (146, .iinc 7 1, 3), (149, .goto (-89), 3), (152, .iload 6, 2), (154, .ireturn, 1)]
def mX8_drawn : mj_M := (yX8_drawn, cX8_drawn, 9, (some .int), { frames := 4, cells := 0, slots := 0, locals := 92 }, tX8_drawn)
set_option maxRecDepth 100000 in
theorem tok_X8_drawn : ∀ q ∈ mX8_drawn.2.2.2.2.2, decode mX8_drawn.2.1 q.1 = .ok q.2 := by decide +kernel
def tX8_part : List (Nat × Instr × Nat) := [(0, .iload_n 1, 1), (1, .ifCond .lt 8, 3), (4, .iload_n 1, 1), (5, .iconst 1, 1), (6, .if_icmp .le 11, 3), (9, .aload_n 0, 1), (10, .bipush (-2), 2), (12, .invokevirtual 102, 3), (15, .i2l, 1), (16, .lreturn, 1), (17, .iload_n 1, 1), (18, .ifCond .ne 10, 3), (21, .aload_n 0, 1), (22, .getfield 65, 3), (25, .goto 7, 3), (28, .aload_n 0, 1), (29, .getfield 69, 3), (32, .lreturn, 1)]
def mX8_part : mj_M := (yX8_part, cX8_part, 2, (some .long), { frames := 2, cells := 0, slots := 0, locals := 43 }, tX8_part)
set_option maxRecDepth 100000 in
theorem tok_X8_part : ∀ q ∈ mX8_part.2.2.2.2.2, decode mX8_part.2.1 q.1 = .ok q.2 := by decide +kernel
def tX8_imageAt : List (Nat × Instr × Nat) := [(0, .iload_n 1, 1), (1, .ifCond .ne 10, 3), (4, .aload_n 0, 1), (5, .getfield 26, 3), (8, .goto 7, 3), (11, .aload_n 0, 1), (12, .getfield 30, 3), (15, .areturn, 1)]
def mX8_imageAt : mj_M := (yX8_imageAt, cX8_imageAt, 2, (some (.object "RiverChoice$Image")), { frames := 0, cells := 0, slots := 0, locals := 0 }, tX8_imageAt)
set_option maxRecDepth 100000 in
theorem tok_X8_imageAt : ∀ q ∈ mX8_imageAt.2.2.2.2.2, decode mX8_imageAt.2.1 q.1 = .ok q.2 := by decide +kernel
def tX8_image : List (Nat × Instr × Nat) := [(0, .iload_n 1, 1), (1, .ifCond .lt 8, 3), (4, .iload_n 1, 1), (5, .iconst 1, 1), (6, .if_icmp .le 10, 3), (9, .aload_n 0, 1), (10, .bipush (-2), 2), (12, .invokevirtual 102, 3), (15, .ireturn, 1), (16, .aload_n 0, 1), (17, .iload_n 1, 1), (18, .invokevirtual 289, 3), (21, .astore_n 2, 1), (22, .aload_n 2, 1), (23, .getfield 293, 3), (26, .aload_n 0, 1), (27, .getfield 10, 3), (30, .invokevirtual 118, 3), (33, .aload_n 2, 1), (34, .getfield 294, 3), (37, .aload_n 0, 1), (38, .getfield 19, 3), (41, .invokevirtual 295, 3), (44, .aload_n 2, 1), (45, .iconst 1, 1), (46, .putfield 298, 3), (49, .iconst 1, 1), (50, .ireturn, 1)]
def mX8_image : mj_M := (yX8_image, cX8_image, 3, (some .int), { frames := 2, cells := 0, slots := 0, locals := 81 }, tX8_image)
set_option maxRecDepth 100000 in
theorem tok_X8_image : ∀ q ∈ mX8_image.2.2.2.2.2, decode mX8_image.2.1 q.1 = .ok q.2 := by decide +kernel
def tX8_from : List (Nat × Instr × Nat) := [(0, .iload_n 1, 1), (1, .ifCond .lt 8, 3), (4, .iload_n 1, 1), (5, .iconst 1, 1), (6, .if_icmp .le 10, 3), (9, .aload_n 0, 1), (10, .bipush (-2), 2), (12, .invokevirtual 102, 3), (15, .ireturn, 1), (16, .aload_n 0, 1), (17, .iload_n 1, 1), (18, .invokevirtual 289, 3), (21, .astore_n 2, 1), (22, .aload_n 2, 1), (23, .getfield 298, 3), (26, .ifCond .ne 10, 3), (29, .aload_n 0, 1), (30, .bipush (-3), 2), (32, .invokevirtual 102, 3), (35, .ireturn, 1), (36, .aload_n 0, 1), (37, .getfield 10, 3), (40, .aload_n 2, 1), (41, .getfield 293, 3), (44, .invokevirtual 118, 3), (47, .aload_n 0, 1), (48, .getfield 19, 3), (51, .aload_n 2, 1), (52, .getfield 294, 3), (55, .invokevirtual 295, 3), (58, .iconst 1, 1), (59, .ireturn, 1)]
def mX8_from : mj_M := (yX8_from, cX8_from, 3, (some .int), { frames := 2, cells := 0, slots := 0, locals := 81 }, tX8_from)
set_option maxRecDepth 100000 in
theorem tok_X8_from : ∀ q ∈ mX8_from.2.2.2.2.2, decode mX8_from.2.1 q.1 = .ok q.2 := by decide +kernel
def tX8_status : List (Nat × Instr × Nat) := [(0, .iload_n 1, 1), (1, .tableswitch 42 0 2 #[27, 32, 37], 27), (28, .aload_n 0, 1), (29, .getfield 302, 3), (32, .ireturn, 1), (33, .aload_n 0, 1), (34, .getfield 305, 3), (37, .ireturn, 1), (38, .aload_n 0, 1), (39, .getfield 308, 3), (42, .ireturn, 1), (43, .aload_n 0, 1), (44, .bipush (-2), 2), (46, .iconst (-1), 1), (47, .invokevirtual 202, 3), (50, .ireturn, 1)]
def mX8_status : mj_M := (yX8_status, cX8_status, 2, (some .int), { frames := 1, cells := 0, slots := 0, locals := 22 }, tX8_status)
set_option maxRecDepth 100000 in
theorem tok_X8_status : ∀ q ∈ mX8_status.2.2.2.2.2, decode mX8_status.2.1 q.1 = .ok q.2 := by decide +kernel
def tX8_howMany : List (Nat × Instr × Nat) := [(0, .iload_n 1, 1), (1, .tableswitch 78 0 4 #[35, 43, 51, 59, 70], 35), (36, .aload_n 0, 1), (37, .getfield 10, 3), (40, .getfield 205, 3), (43, .ireturn, 1), (44, .aload_n 0, 1), (45, .getfield 10, 3), (48, .getfield 136, 3), (51, .ireturn, 1), (52, .aload_n 0, 1), (53, .getfield 10, 3), (56, .invokevirtual 318, 3), (59, .ireturn, 1), (60, .aload_n 0, 1), (61, .getfield 10, 3), (64, .getfield 235, 3), (67, .invokestatic 191, 3), (70, .ireturn, 1), (71, .aload_n 0, 1), (72, .getfield 19, 3), (75, .getfield 321, 3), (78, .ireturn, 1), (79, .aload_n 0, 1), (80, .getfield 36, 3), (83, .getfield 93, 3), (86, .getfield 322, 3), (89, .ireturn, 1)]
def mX8_howMany : mj_M := (yX8_howMany, cX8_howMany, 2, (some .int), { frames := 2, cells := 0, slots := 0, locals := 43 }, tX8_howMany)
set_option maxRecDepth 100000 in
theorem tok_X8_howMany : ∀ q ∈ mX8_howMany.2.2.2.2.2, decode mX8_howMany.2.1 q.1 = .ok q.2 := by decide +kernel
def tX8_count : List (Nat × Instr × Nat) := [(0, .iload_n 1, 1), (1, .ifCond .lt 8, 3), (4, .iload_n 1, 1), (5, .iconst 5, 1), (6, .if_icmp .le 12, 3), (9, .aload_n 0, 1), (10, .bipush (-2), 2), (12, .invokevirtual 102, 3), (15, .goto 8, 3), (18, .aload_n 0, 1), (19, .iload_n 1, 1), (20, .invokevirtual 311, 3), (23, .ireturn, 1)]
def mX8_count : mj_M := (yX8_count, cX8_count, 2, (some .int), { frames := 3, cells := 0, slots := 0, locals := 64 }, tX8_count)
set_option maxRecDepth 100000 in
theorem tok_X8_count : ∀ q ∈ mX8_count.2.2.2.2.2, decode mX8_count.2.1 q.1 = .ok q.2 := by decide +kernel
def tX8_digest : List (Nat × Instr × Nat) := [(0, .ldc2_w 314, 3), (3, .lstore_n 1, 1), (4, .iconst 0, 1), (5, .istore_n 3, 1), (6, .iload_n 3, 1), (7, .iconst 5, 1), (8, .if_icmp .gt 22, 3), (11, .ldc2_w 316, 3), (14, .lload_n 1, 1), (15, .lmul, 1), (16, .aload_n 0, 1), (17, .iload_n 3, 1), (18, .invokevirtual 311, 3), (21, .i2l, 1), (22, .ladd, 1), (23, .lstore_n 1, 1), (24, .iinc 3 1, 3), (27, .goto (-21), 3), (30, .iconst 0, 1), (31, .istore_n 3, 1), (32, .iload_n 3, 1), (33, .aload_n 0, 1), (34, .getfield 10, 3), (37, .getfield 205, 3), (40, .if_icmp .ge 98, 3), (43, .iconst 0, 1), (44, .istore 4, 2), (46, .iload 4, 2), (48, .bipush 6, 2), (50, .if_icmp .ge 26, 3), (53, .ldc2_w 316, 3), (56, .lload_n 1, 1), (57, .lmul, 1), (58, .aload_n 0, 1), (59, .getfield 10, 3), (62, .iload_n 3, 1), (63, .iload 4, 2), (65, .invokevirtual 156, 3), (68, .ladd, 1), (69, .lstore_n 1, 1), (70, .iinc 4 1, 3), (73, .goto (-27), 3), (76, .ldc2_w 316, 3), (79, .lload_n 1, 1), (80, .lmul, 1), (81, .aload_n 0, 1), (82, .getfield 10, 3), (85, .iload_n 3, 1), (86, .invokevirtual 167, 3), (89, .i2l, 1), (90, .ladd, 1), (91, .lstore_n 1, 1), (92, .ldc2_w 316, 3), (95, .lload_n 1, 1), (96, .lmul, 1), (97, .aload_n 0, 1), (98, .getfield 10, 3), (101, .iload_n 3, 1), (102, .invokevirtual 170, 3), (105, .i2l, 1), (106, .ladd, 1), (107, .lstore_n 1, 1), (108, .ldc2_w 316, 3), (111, .lload_n 1, 1), (112, .lmul, 1), (113, .aload_n 0, 1), (114, .getfield 10, 3), (117, .iload_n 3, 1), (118, .invokevirtual 173, 3), (121, .ifCond .eq 7, 3), (124, .iconst 1, 1), (125, .goto 4, 3), (128, .iconst 0, 1), (129, .i2l, 1), (130, .ladd, 1), (131, .lstore_n 1, 1), (132, .iinc 3 1, 3), (135, .goto (-103), 3), (138, .ldc2_w 316, 3), (141, .lload_n 1, 1), (142, .lmul, 1), (143, .aload_n 0, 1), (144, .getfield 65, 3), (147, .ladd, 1), (148, .lstore_n 1, 1), (149, .ldc2_w 316, 3), (152, .lload_n 1, 1), (153, .lmul, 1), (154, .aload_n 0, 1), (155, .getfield 69, 3), (158, .ladd, 1), (159, .lreturn, 1)]
def mX8_digest : mj_M := (yX8_digest, cX8_digest, 5, (some .long), { frames := 3, cells := 0, slots := 0, locals := 64 }, tX8_digest)
set_option maxRecDepth 100000 in
theorem tok_X8_digest : ∀ q ∈ mX8_digest.2.2.2.2.2, decode mX8_digest.2.1 q.1 = .ok q.2 := by decide +kernel
def tX9_clean : List (Nat × Instr × Nat) := [(0, .iconst 0, 1), (1, .istore_n 2, 1), (2, .iload_n 2, 1), (3, .sipush 356, 3), (6, .if_icmp .ge 16, 3), (9, .aload_n 0, 1), (10, .getfield 7, 3), (13, .iload_n 2, 1), (14, .iconst 0, 1), (15, .iastore, 1), (16, .iinc 2 1, 3), (19, .goto (-17), 3), (22, .aload_n 0, 1), (23, .getfield 7, 3), (26, .iconst 1, 1), (27, .iload_n 1, 1), (28, .iastore, 1), (29, .return_, 1)]
def mX9_clean : mj_M := (yX9_clean, cX9_clean, 3, none, { frames := 0, cells := 0, slots := 0, locals := 0 }, tX9_clean)
set_option maxRecDepth 100000 in
theorem tok_X9_clean : ∀ q ∈ mX9_clean.2.2.2.2.2, decode mX9_clean.2.1 q.1 = .ok q.2 := by decide +kernel
def tX9_init : List (Nat × Instr × Nat) := [(0, .aload_n 0, 1), (1, .invokespecial 1, 3), (4, .aload_n 0, 1), (5, .sipush 356, 3), (8, .newarray .int, 2), (10, .putfield 7, 3), (13, .aload_n 0, 1), (14, .sipush 712, 3), (17, .newarray .int, 2), (19, .putfield 13, 3), (22, .aload_n 0, 1), (23, .iconst 2, 1), (24, .newarray .boolean, 2), (26, .putfield 16, 3), (29, .aload_n 0, 1), (30, .sipush 150, 3), (33, .newarray .int, 2), (35, .putfield 20, 3), (38, .aload_n 0, 1), (39, .lconst 1, 1), (40, .putfield 23, 3), (43, .aload_n 0, 1), (44, .iconst 3, 1), (45, .newarray .int, 2), (47, .putfield 27, 3), (50, .aload_n 0, 1), (51, .bipush 6, 2), (53, .newarray .int, 2), (55, .putfield 30, 3), (58, .aload_n 0, 1), (59, .sipush 210, 3), (62, .newarray .int, 2), (64, .putfield 33, 3), (67, .aload_n 0, 1), (68, .sipush 356, 3), (71, .newarray .int, 2), (73, .putfield 36, 3), (76, .aload_n 0, 1), (77, .bipush 7, 2), (79, .newarray .long, 2), (81, .putfield 39, 3), (84, .aload_n 0, 1), (85, .bipush 52, 2), (87, .newarray .int, 2), (89, .putfield 43, 3), (92, .aload_n 0, 1), (93, .iconst 3, 1), (94, .newarray .int, 2), (96, .putfield 46, 3), (99, .aload_n 0, 1), (100, .bipush 40, 2), (102, .invokevirtual 49, 3), (105, .return_, 1)]
def mX9_init : mj_M := (yX9_init, cX9_init, 1, none, { frames := 1, cells := 11, slots := 1857, locals := 22 }, tX9_init)
set_option maxRecDepth 100000 in
theorem tok_X9_init : ∀ q ∈ mX9_init.2.2.2.2.2, decode mX9_init.2.1 q.1 = .ok q.2 := by decide +kernel
def tX9_in : List (Nat × Instr × Nat) := [(0, .lload_n 0, 1), (1, .lload_n 2, 1), (2, .lcmp, 1), (3, .ifCond .lt 14, 3), (6, .lload_n 0, 1), (7, .lload 4, 2), (9, .lcmp, 1), (10, .ifCond .gt 7, 3), (13, .iconst 1, 1), (14, .goto 4, 3), (17, .iconst 0, 1), (18, .ireturn, 1)]
def mX9_in : mj_M := (yX9_in, cX9_in, 6, (some .boolean), { frames := 0, cells := 0, slots := 0, locals := 0 }, tX9_in)
set_option maxRecDepth 100000 in
theorem tok_X9_in : ∀ q ∈ mX9_in.2.2.2.2.2, decode mX9_in.2.1 q.1 = .ok q.2 := by decide +kernel
def tX9_isTwo : List (Nat × Instr × Nat) := [(0, .iload_n 0, 1), (1, .i2l, 1), (2, .lconst 0, 1), (3, .lconst 1, 1), (4, .invokestatic 53, 3), (7, .ireturn, 1)]
def mX9_isTwo : mj_M := (yX9_isTwo, cX9_isTwo, 1, (some .boolean), { frames := 1, cells := 0, slots := 0, locals := 25 }, tX9_isTwo)
set_option maxRecDepth 100000 in
theorem tok_X9_isTwo : ∀ q ∈ mX9_isTwo.2.2.2.2.2, decode mX9_isTwo.2.1 q.1 = .ok q.2 := by decide +kernel
def tX9_tell : List (Nat × Instr × Nat) := [(0, .iload_n 1, 1), (1, .bipush (-2), 2), (3, .if_icmp .eq 9, 3), (6, .iload_n 1, 1), (7, .bipush (-10), 2), (9, .if_icmp .ne 16, 3), (12, .aload_n 0, 1), (13, .getfield 27, 3), (16, .iconst 0, 1), (17, .dup2, 1), (18, .iaload, 1), (19, .iconst 1, 1), (20, .iadd, 1), (21, .iastore, 1), (22, .goto 35, 3), (25, .iload_n 1, 1), (26, .bipush (-3), 2), (28, .if_icmp .eq 9, 3), (31, .iload_n 1, 1), (32, .bipush (-4), 2), (34, .if_icmp .ne 23, 3), (37, .aload_n 0, 1), (38, .getfield 27, 3), (41, .iload_n 1, 1), (42, .bipush (-3), 2), (44, .if_icmp .ne 7, 3), (47, .iconst 1, 1), (48, .goto 4, 3), (51, .iconst 2, 1), (52, .dup2, 1), (53, .iaload, 1), (54, .iconst 1, 1), (55, .iadd, 1), (56, .iastore, 1), (57, .iload_n 1, 1), (58, .ireturn, 1)]
def mX9_tell : mj_M := (yX9_tell, cX9_tell, 2, (some .int), { frames := 0, cells := 0, slots := 0, locals := 0 }, tX9_tell)
set_option maxRecDepth 100000 in
theorem tok_X9_tell : ∀ q ∈ mX9_tell.2.2.2.2.2, decode mX9_tell.2.1 q.1 = .ok q.2 := by decide +kernel
def tX9_bad : List (Nat × Instr × Nat) := [(0, .aload_n 0, 1), (1, .getfield 27, 3), (4, .iconst 0, 1), (5, .dup2, 1), (6, .iaload, 1), (7, .iconst 1, 1), (8, .iadd, 1), (9, .iastore, 1), (10, .iload_n 1, 1), (11, .ireturn, 1)]
def mX9_bad : mj_M := (yX9_bad, cX9_bad, 2, (some .int), { frames := 0, cells := 0, slots := 0, locals := 0 }, tX9_bad)
set_option maxRecDepth 100000 in
theorem tok_X9_bad : ∀ q ∈ mX9_bad.2.2.2.2.2, decode mX9_bad.2.1 q.1 = .ok q.2 := by decide +kernel
def tX9_no : List (Nat × Instr × Nat) := [(0, .aload_n 0, 1), (1, .getfield 27, 3), (4, .iconst 1, 1), (5, .dup2, 1), (6, .iaload, 1), (7, .iconst 1, 1), (8, .iadd, 1), (9, .iastore, 1), (10, .iload_n 1, 1), (11, .ireturn, 1)]
def mX9_no : mj_M := (yX9_no, cX9_no, 2, (some .int), { frames := 0, cells := 0, slots := 0, locals := 0 }, tX9_no)
set_option maxRecDepth 100000 in
theorem tok_X9_no : ∀ q ∈ mX9_no.2.2.2.2.2, decode mX9_no.2.1 q.1 = .ok q.2 := by decide +kernel
def tX9_has : List (Nat × Instr × Nat) := [(0, .iload_n 0, 1), (1, .iload_n 1, 1), (2, .ishr, 1), (3, .iconst 1, 1), (4, .iand, 1), (5, .iconst 1, 1), (6, .if_icmp .ne 7, 3), (9, .iconst 1, 1), (10, .goto 4, 3), (13, .iconst 0, 1), (14, .ireturn, 1)]
def mX9_has : mj_M := (yX9_has, cX9_has, 2, (some .boolean), { frames := 0, cells := 0, slots := 0, locals := 0 }, tX9_has)
set_option maxRecDepth 100000 in
theorem tok_X9_has : ∀ q ∈ mX9_has.2.2.2.2.2, decode mX9_has.2.1 q.1 = .ok q.2 := by decide +kernel
def tX9_bits : List (Nat × Instr × Nat) := [(0, .iconst 0, 1), (1, .istore_n 1, 1), (2, .iload_n 0, 1), (3, .istore_n 2, 1), (4, .iload_n 2, 1), (5, .ifCond .eq 15, 3), (8, .iinc 1 1, 3), (11, .iload_n 2, 1), (12, .iload_n 2, 1), (13, .iconst 1, 1), (14, .isub, 1), (15, .iand, 1), (16, .istore_n 2, 1), (17, .goto (-13), 3), (20, .iload_n 1, 1), (21, .ireturn, 1)]
def mX9_bits : mj_M := (yX9_bits, cX9_bits, 3, (some .int), { frames := 0, cells := 0, slots := 0, locals := 0 }, tX9_bits)
set_option maxRecDepth 100000 in
theorem tok_X9_bits : ∀ q ∈ mX9_bits.2.2.2.2.2, decode mX9_bits.2.1 q.1 = .ok q.2 := by decide +kernel
def tX9_copies : List (Nat × Instr × Nat) := [(0, .iconst 0, 1), (1, .istore 5, 2), (3, .iload 5, 2), (5, .iload 4, 2), (7, .if_icmp .ge 21, 3), (10, .aload_n 2, 1), (11, .iload_n 3, 1), (12, .iload 5, 2), (14, .iadd, 1), (15, .aload_n 0, 1), (16, .iload_n 1, 1), (17, .iload 5, 2), (19, .iadd, 1), (20, .iaload, 1), (21, .iastore, 1), (22, .iinc 5 1, 3), (25, .goto (-22), 3), (28, .return_, 1)]
def mX9_copies : mj_M := (yX9_copies, cX9_copies, 6, none, { frames := 0, cells := 0, slots := 0, locals := 0 }, tX9_copies)
set_option maxRecDepth 100000 in
theorem tok_X9_copies : ∀ q ∈ mX9_copies.2.2.2.2.2, decode mX9_copies.2.1 q.1 = .ok q.2 := by decide +kernel
def tX9_isMan : List (Nat × Instr × Nat) := [(0, .iload_n 1, 1), (1, .i2l, 1), (2, .lconst 0, 1), (3, .aload_n 0, 1), (4, .getfield 7, 3), (7, .iconst 0, 1), (8, .iaload, 1), (9, .iconst 1, 1), (10, .isub, 1), (11, .i2l, 1), (12, .invokestatic 53, 3), (15, .ireturn, 1)]
def mX9_isMan : mj_M := (yX9_isMan, cX9_isMan, 2, (some .boolean), { frames := 1, cells := 0, slots := 0, locals := 25 }, tX9_isMan)
set_option maxRecDepth 100000 in
theorem tok_X9_isMan : ∀ q ∈ mX9_isMan.2.2.2.2.2, decode mX9_isMan.2.1 q.1 = .ok q.2 := by decide +kernel
def tX9_areMen : List (Nat × Instr × Nat) := [(0, .iload_n 1, 1), (1, .i2l, 1), (2, .lconst 0, 1), (3, .iconst 1, 1), (4, .aload_n 0, 1), (5, .getfield 7, 3), (8, .iconst 0, 1), (9, .iaload, 1), (10, .ishl, 1), (11, .iconst 1, 1), (12, .isub, 1), (13, .i2l, 1), (14, .invokestatic 53, 3), (17, .ireturn, 1)]
def mX9_areMen : mj_M := (yX9_areMen, cX9_areMen, 2, (some .boolean), { frames := 1, cells := 0, slots := 0, locals := 25 }, tX9_areMen)
set_option maxRecDepth 100000 in
theorem tok_X9_areMen : ∀ q ∈ mX9_areMen.2.2.2.2.2, decode mX9_areMen.2.1 q.1 = .ok q.2 := by decide +kernel
def tX9_doMan : List (Nat × Instr × Nat) := [(0, .iconst 0, 1), (1, .istore_n 1, 1), (2, .iconst 0, 1), (3, .istore_n 2, 1), (4, .iload_n 2, 1), (5, .bipush 6, 2), (7, .if_icmp .ge 38, 3), (10, .aload_n 0, 1), (11, .getfield 30, 3), (14, .iload_n 2, 1), (15, .iaload, 1), (16, .i2l, 1), (17, .lconst 0, 1), (18, .ldc2_w 57, 3), (21, .invokestatic 53, 3), (24, .ifCond .ne 6, 3), (27, .bipush (-2), 2), (29, .ireturn, 1), (30, .iload_n 1, 1), (31, .aload_n 0, 1), (32, .getfield 30, 3), (35, .iload_n 2, 1), (36, .iaload, 1), (37, .iadd, 1), (38, .istore_n 1, 1), (39, .iinc 2 1, 3), (42, .goto (-38), 3), (45, .iload_n 1, 1), (46, .ifCond .ne 6, 3), (49, .bipush (-2), 2), (51, .ireturn, 1), (52, .aload_n 0, 1), (53, .getfield 7, 3), (56, .iconst 0, 1), (57, .iaload, 1), (58, .istore_n 2, 1), (59, .iload_n 2, 1), (60, .bipush 6, 2), (62, .if_icmp .ne 6, 3), (65, .bipush (-4), 2), (67, .ireturn, 1), (68, .aload_n 0, 1), (69, .getfield 30, 3), (72, .iconst 0, 1), (73, .aload_n 0, 1), (74, .getfield 7, 3), (77, .bipush 16, 2), (79, .bipush 6, 2), (81, .iload_n 2, 1), (82, .imul, 1), (83, .iadd, 1), (84, .bipush 6, 2), (86, .invokestatic 59, 3), (89, .aload_n 0, 1), (90, .getfield 7, 3), (93, .iconst 0, 1), (94, .dup2, 1), (95, .iaload, 1), (96, .iconst 1, 1), (97, .iadd, 1), (98, .iastore, 1), (99, .aload_n 0, 1), (100, .getfield 7, 3), (103, .iconst 3, 1), (104, .iconst 0, 1), (105, .iastore, 1), (106, .iload_n 2, 1), (107, .ireturn, 1)]
def mX9_doMan : mj_M := (yX9_doMan, cX9_doMan, 3, (some .int), { frames := 1, cells := 0, slots := 0, locals := 25 }, tX9_doMan)
set_option maxRecDepth 100000 in
theorem tok_X9_doMan : ∀ q ∈ mX9_doMan.2.2.2.2.2, decode mX9_doMan.2.1 q.1 = .ok q.2 := by decide +kernel
def tX9_doWorn : List (Nat × Instr × Nat) := [(0, .aload_n 0, 1), (1, .iload_n 1, 1), (2, .invokevirtual 63, 3), (5, .ifCond .eq 15, 3), (8, .iload_n 2, 1), (9, .i2l, 1), (10, .lconst 0, 1), (11, .ldc2_w 67, 3), (14, .invokestatic 53, 3), (17, .ifCond .ne 6, 3), (20, .bipush (-2), 2), (22, .ireturn, 1), (23, .aload_n 0, 1), (24, .getfield 7, 3), (27, .iconst 4, 1), (28, .iload_n 1, 1), (29, .iadd, 1), (30, .iaload, 1), (31, .istore_n 3, 1), (32, .aload_n 0, 1), (33, .getfield 7, 3), (36, .iconst 4, 1), (37, .iload_n 1, 1), (38, .iadd, 1), (39, .iload_n 2, 1), (40, .iastore, 1), (41, .aload_n 0, 1), (42, .getfield 7, 3), (45, .iconst 3, 1), (46, .iconst 0, 1), (47, .iastore, 1), (48, .iload_n 3, 1), (49, .ireturn, 1)]
def mX9_doWorn : mj_M := (yX9_doWorn, cX9_doWorn, 4, (some .int), { frames := 2, cells := 0, slots := 0, locals := 46 }, tX9_doWorn)
set_option maxRecDepth 100000 in
theorem tok_X9_doWorn : ∀ q ∈ mX9_doWorn.2.2.2.2.2, decode mX9_doWorn.2.1 q.1 = .ok q.2 := by decide +kernel
def tX9_doPair : List (Nat × Instr × Nat) := [(0, .aload_n 0, 1), (1, .iload_n 1, 1), (2, .invokevirtual 63, 3), (5, .ifCond .eq 16, 3), (8, .aload_n 0, 1), (9, .iload_n 2, 1), (10, .invokevirtual 63, 3), (13, .ifCond .eq 8, 3), (16, .iload_n 1, 1), (17, .iload_n 2, 1), (18, .if_icmp .ne 6, 3), (21, .bipush (-2), 2), (23, .ireturn, 1), (24, .aload_n 0, 1), (25, .getfield 7, 3), (28, .bipush 10, 2), (30, .iload_n 1, 1), (31, .iadd, 1), (32, .iaload, 1), (33, .iload_n 2, 1), (34, .invokestatic 69, 3), (37, .ifCond .eq 6, 3), (40, .bipush (-3), 2), (42, .ireturn, 1), (43, .aload_n 0, 1), (44, .getfield 7, 3), (47, .bipush 10, 2), (49, .iload_n 1, 1), (50, .iadd, 1), (51, .dup2, 1), (52, .iaload, 1), (53, .iconst 1, 1), (54, .iload_n 2, 1), (55, .ishl, 1), (56, .ior, 1), (57, .iastore, 1), (58, .aload_n 0, 1), (59, .getfield 7, 3), (62, .bipush 10, 2), (64, .iload_n 2, 1), (65, .iadd, 1), (66, .dup2, 1), (67, .iaload, 1), (68, .iconst 1, 1), (69, .iload_n 1, 1), (70, .ishl, 1), (71, .ior, 1), (72, .iastore, 1), (73, .aload_n 0, 1), (74, .getfield 7, 3), (77, .iconst 3, 1), (78, .iconst 0, 1), (79, .iastore, 1), (80, .iconst 1, 1), (81, .ireturn, 1)]
def mX9_doPair : mj_M := (yX9_doPair, cX9_doPair, 3, (some .int), { frames := 2, cells := 0, slots := 0, locals := 46 }, tX9_doPair)
set_option maxRecDepth 100000 in
theorem tok_X9_doPair : ∀ q ∈ mX9_doPair.2.2.2.2.2, decode mX9_doPair.2.1 q.1 = .ok q.2 := by decide +kernel
def tX9_doWord : List (Nat × Instr × Nat) := [(0, .aload_n 0, 1), (1, .iload_n 1, 1), (2, .invokevirtual 63, 3), (5, .ifCond .ne 6, 3), (8, .bipush (-2), 2), (10, .ireturn, 1), (11, .aload_n 0, 1), (12, .getfield 7, 3), (15, .iconst 2, 1), (16, .iaload, 1), (17, .iload_n 1, 1), (18, .invokestatic 69, 3), (21, .ifCond .eq 6, 3), (24, .bipush (-3), 2), (26, .ireturn, 1), (27, .aload_n 0, 1), (28, .getfield 7, 3), (31, .iconst 2, 1), (32, .dup2, 1), (33, .iaload, 1), (34, .iconst 1, 1), (35, .iload_n 1, 1), (36, .ishl, 1), (37, .ior, 1), (38, .iastore, 1), (39, .aload_n 0, 1), (40, .getfield 7, 3), (43, .iconst 3, 1), (44, .iconst 0, 1), (45, .iastore, 1), (46, .iconst 1, 1), (47, .ireturn, 1)]
def mX9_doWord : mj_M := (yX9_doWord, cX9_doWord, 2, (some .int), { frames := 2, cells := 0, slots := 0, locals := 46 }, tX9_doWord)
set_option maxRecDepth 100000 in
theorem tok_X9_doWord : ∀ q ∈ mX9_doWord.2.2.2.2.2, decode mX9_doWord.2.1 q.1 = .ok q.2 := by decide +kernel
def tX9_muster : List (Nat × Instr × Nat) := [(0, .iload_n 1, 1), (1, .i2l, 1), (2, .lconst 0, 1), (3, .ldc2_w 73, 3), (6, .invokestatic 53, 3), (9, .ifCond .ne 10, 3), (12, .aload_n 0, 1), (13, .bipush (-2), 2), (15, .invokevirtual 75, 3), (18, .ireturn, 1), (19, .aload_n 0, 1), (20, .getfield 7, 3), (23, .iconst 0, 1), (24, .iaload, 1), (25, .istore_n 2, 1), (26, .aload_n 0, 1), (27, .iload_n 1, 1), (28, .invokevirtual 49, 3), (31, .iload_n 2, 1), (32, .ireturn, 1)]
def mX9_muster : mj_M := (yX9_muster, cX9_muster, 3, (some .int), { frames := 1, cells := 0, slots := 0, locals := 25 }, tX9_muster)
set_option maxRecDepth 100000 in
theorem tok_X9_muster : ∀ q ∈ mX9_muster.2.2.2.2.2, decode mX9_muster.2.1 q.1 = .ok q.2 := by decide +kernel
def tX9_man : List (Nat × Instr × Nat) := [(0, .aload_n 0, 1), (1, .getfield 30, 3), (4, .iconst 0, 1), (5, .iload_n 1, 1), (6, .iastore, 1), (7, .aload_n 0, 1), (8, .getfield 30, 3), (11, .iconst 1, 1), (12, .iload_n 2, 1), (13, .iastore, 1), (14, .aload_n 0, 1), (15, .getfield 30, 3), (18, .iconst 2, 1), (19, .iload_n 3, 1), (20, .iastore, 1), (21, .aload_n 0, 1), (22, .getfield 30, 3), (25, .iconst 3, 1), (26, .iload 4, 2), (28, .iastore, 1), (29, .aload_n 0, 1), (30, .getfield 30, 3), (33, .iconst 4, 1), (34, .iload 5, 2), (36, .iastore, 1), (37, .aload_n 0, 1), (38, .getfield 30, 3), (41, .iconst 5, 1), (42, .iload 6, 2), (44, .iastore, 1), (45, .aload_n 0, 1), (46, .aload_n 0, 1), (47, .invokevirtual 79, 3), (50, .invokevirtual 83, 3), (53, .ireturn, 1)]
def mX9_man : mj_M := (yX9_man, cX9_man, 7, (some .int), { frames := 2, cells := 0, slots := 0, locals := 47 }, tX9_man)
set_option maxRecDepth 100000 in
theorem tok_X9_man : ∀ q ∈ mX9_man.2.2.2.2.2, decode mX9_man.2.1 q.1 = .ok q.2 := by decide +kernel
def tX9_worn : List (Nat × Instr × Nat) := [(0, .aload_n 0, 1), (1, .aload_n 0, 1), (2, .iload_n 1, 1), (3, .iload_n 2, 1), (4, .invokevirtual 86, 3), (7, .invokevirtual 83, 3), (10, .ireturn, 1)]
def mX9_worn : mj_M := (yX9_worn, cX9_worn, 3, (some .int), { frames := 3, cells := 0, slots := 0, locals := 69 }, tX9_worn)
set_option maxRecDepth 100000 in
theorem tok_X9_worn : ∀ q ∈ mX9_worn.2.2.2.2.2, decode mX9_worn.2.1 q.1 = .ok q.2 := by decide +kernel
def tX9_pair : List (Nat × Instr × Nat) := [(0, .aload_n 0, 1), (1, .aload_n 0, 1), (2, .iload_n 1, 1), (3, .iload_n 2, 1), (4, .invokevirtual 90, 3), (7, .invokevirtual 83, 3), (10, .ireturn, 1)]
def mX9_pair : mj_M := (yX9_pair, cX9_pair, 3, (some .int), { frames := 3, cells := 0, slots := 0, locals := 68 }, tX9_pair)
set_option maxRecDepth 100000 in
theorem tok_X9_pair : ∀ q ∈ mX9_pair.2.2.2.2.2, decode mX9_pair.2.1 q.1 = .ok q.2 := by decide +kernel
def tX9_word : List (Nat × Instr × Nat) := [(0, .aload_n 0, 1), (1, .aload_n 0, 1), (2, .iload_n 1, 1), (3, .invokevirtual 93, 3), (6, .invokevirtual 83, 3), (9, .ireturn, 1)]
def mX9_word : mj_M := (yX9_word, cX9_word, 2, (some .int), { frames := 3, cells := 0, slots := 0, locals := 67 }, tX9_word)
set_option maxRecDepth 100000 in
theorem tok_X9_word : ∀ q ∈ mX9_word.2.2.2.2.2, decode mX9_word.2.1 q.1 = .ok q.2 := by decide +kernel
def tX9_type : List (Nat × Instr × Nat) := [(0, .iload_n 1, 1), (1, .i2l, 1), (2, .lconst 0, 1), (3, .ldc2_w 96, 3), (6, .invokestatic 53, 3), (9, .ifCond .ne 10, 3), (12, .aload_n 0, 1), (13, .bipush (-2), 2), (15, .invokevirtual 75, 3), (18, .ireturn, 1), (19, .aload_n 0, 1), (20, .getfield 98, 3), (23, .sipush 150, 3), (26, .if_icmp .ne 10, 3), (29, .aload_n 0, 1), (30, .bipush (-4), 2), (32, .invokevirtual 83, 3), (35, .ireturn, 1), (36, .aload_n 0, 1), (37, .getfield 20, 3), (40, .aload_n 0, 1), (41, .getfield 98, 3), (44, .iload_n 1, 1), (45, .iastore, 1), (46, .aload_n 0, 1), (47, .dup, 1), (48, .getfield 98, 3), (51, .iconst 1, 1), (52, .iadd, 1), (53, .putfield 98, 3), (56, .aload_n 0, 1), (57, .getfield 98, 3), (60, .ireturn, 1)]
def mX9_type : mj_M := (yX9_type, cX9_type, 2, (some .int), { frames := 1, cells := 0, slots := 0, locals := 25 }, tX9_type)
set_option maxRecDepth 100000 in
theorem tok_X9_type : ∀ q ∈ mX9_type.2.2.2.2.2, decode mX9_type.2.1 q.1 = .ok q.2 := by decide +kernel
def tX9_clear : List (Nat × Instr × Nat) := [(0, .aload_n 0, 1), (1, .getfield 98, 3), (4, .istore_n 1, 1), (5, .aload_n 0, 1), (6, .iconst 0, 1), (7, .putfield 98, 3), (10, .iload_n 1, 1), (11, .ireturn, 1)]
def mX9_clear : mj_M := (yX9_clear, cX9_clear, 2, (some .int), { frames := 0, cells := 0, slots := 0, locals := 0 }, tX9_clear)
set_option maxRecDepth 100000 in
theorem tok_X9_clear : ∀ q ∈ mX9_clear.2.2.2.2.2, decode mX9_clear.2.1 q.1 = .ok q.2 := by decide +kernel
def tX9_takes : List (Nat × Instr × Nat) := [(0, .aload_n 0, 1), (1, .getfield 102, 3), (4, .aload_n 0, 1), (5, .getfield 98, 3), (8, .if_icmp .ge 30, 3), (11, .aload_n 0, 1), (12, .getfield 20, 3), (15, .aload_n 0, 1), (16, .getfield 102, 3), (19, .iaload, 1), (20, .bipush 32, 2), (22, .if_icmp .ne 16, 3), (25, .aload_n 0, 1), (26, .dup, 1), (27, .getfield 102, 3), (30, .iconst 1, 1), (31, .iadd, 1), (32, .putfield 102, 3), (35, .goto (-35), 3), (38, .aload_n 0, 1), (39, .aload_n 0, 1), (40, .getfield 102, 3), (43, .putfield 105, 3), (46, .aload_n 0, 1), (47, .getfield 102, 3), (50, .aload_n 0, 1), (51, .getfield 98, 3), (54, .if_icmp .ge 15, 3), (57, .aload_n 0, 1), (58, .getfield 20, 3), (61, .aload_n 0, 1), (62, .getfield 102, 3), (65, .iaload, 1), (66, .goto 4, 3), (69, .iconst (-1), 1), (70, .istore_n 1, 1), (71, .aload_n 0, 1), (72, .iload_n 1, 1), (73, .ifCond .ge 7, 3), (76, .iconst 0, 1), (77, .goto 50, 3), (80, .iload_n 1, 1), (81, .i2l, 1), (82, .ldc2_w 108, 3), (85, .ldc2_w 110, 3), (88, .invokestatic 53, 3), (91, .ifCond .eq 7, 3), (94, .iconst 1, 1), (95, .goto 32, 3), (98, .iload_n 1, 1), (99, .i2l, 1), (100, .ldc2_w 112, 3), (103, .ldc2_w 114, 3), (106, .invokestatic 53, 3), (109, .ifCond .eq 7, 3), (112, .iconst 2, 1), (113, .goto 14, 3), (116, .iload_n 1, 1), (117, .bipush 59, 2), (119, .if_icmp .ne 7, 3), (122, .iconst 3, 1), (123, .goto 4, 3), (126, .iconst 4, 1), (127, .putfield 116, 3), (130, .aload_n 0, 1), (131, .iconst 0, 1), (132, .putfield 119, 3), (135, .aload_n 0, 1), (136, .lconst 0, 1), (137, .putfield 122, 3), (140, .aload_n 0, 1), (141, .dup, 1), (142, .getfield 102, 3), (145, .aload_n 0, 1), (146, .getfield 116, 3), (149, .iconst 2, 1), (150, .if_icmp .le 7, 3), (153, .iconst 1, 1), (154, .goto 4, 3), (157, .iconst 0, 1), (158, .iadd, 1), (159, .putfield 102, 3), (162, .aload_n 0, 1), (163, .getfield 116, 3), (166, .iconst 1, 1), (167, .if_icmp .ne 92, 3), (170, .aload_n 0, 1), (171, .getfield 102, 3), (174, .aload_n 0, 1), (175, .getfield 98, 3), (178, .if_icmp .ge 81, 3), (181, .aload_n 0, 1), (182, .getfield 20, 3), (185, .aload_n 0, 1), (186, .getfield 102, 3), (189, .iaload, 1), (190, .i2l, 1), (191, .ldc2_w 108, 3), (194, .ldc2_w 110, 3), (197, .invokestatic 53, 3), (200, .ifCond .eq 59, 3), (203, .aload_n 0, 1), (204, .aload_n 0, 1), (205, .getfield 102, 3), (208, .aload_n 0, 1), (209, .getfield 105, 3), (212, .isub, 1), (213, .bipush 7, 2), (215, .if_icmp .ge 25, 3), (218, .aload_n 0, 1), (219, .getfield 122, 3), (222, .ldc2_w 125, 3), (225, .lmul, 1), (226, .aload_n 0, 1), (227, .getfield 20, 3), (230, .aload_n 0, 1), (231, .getfield 102, 3), (234, .iaload, 1), (235, .i2l, 1), (236, .ladd, 1), (237, .goto 6, 3), (240, .ldc2_w 127, 3), (243, .putfield 122, 3), (246, .aload_n 0, 1), (247, .dup, 1), (248, .getfield 102, 3), (251, .iconst 1, 1), (252, .iadd, 1), (253, .putfield 102, 3), (256, .goto (-94), 3), (259, .aload_n 0, 1), (260, .getfield 116, 3), (263, .iconst 2, 1), (264, .if_icmp .ne 93, 3), (267, .aload_n 0, 1), (268, .getfield 102, 3), (271, .aload_n 0, 1), (272, .getfield 98, 3), (275, .if_icmp .ge 82, 3), (278, .aload_n 0, 1), (279, .getfield 20, 3), (282, .aload_n 0, 1), (283, .getfield 102, 3), (286, .iaload, 1), (287, .i2l, 1), (288, .ldc2_w 112, 3), (291, .ldc2_w 114, 3), (294, .invokestatic 53, 3), (297, .ifCond .eq 60, 3), (300, .aload_n 0, 1), (301, .aload_n 0, 1), (302, .getfield 102, 3), (305, .aload_n 0, 1), (306, .getfield 105, 3), (309, .isub, 1), (310, .iconst 2, 1), (311, .if_icmp .ge 26, 3), (314, .bipush 10, 2), (316, .aload_n 0, 1), (317, .getfield 119, 3), (320, .imul, 1), (321, .aload_n 0, 1), (322, .getfield 20, 3), (325, .aload_n 0, 1), (326, .getfield 102, 3), (329, .iaload, 1), (330, .iadd, 1), (331, .bipush 48, 2), (333, .isub, 1), (334, .goto 7, 3), (337, .aload_n 0, 1), (338, .getfield 119, 3), (341, .putfield 119, 3), (344, .aload_n 0, 1), (345, .dup, 1), (346, .getfield 102, 3), (349, .iconst 1, 1), (350, .iadd, 1), (351, .putfield 102, 3), (354, .goto (-95), 3), (357, .aload_n 0, 1), (358, .aload_n 0, 1), (359, .getfield 116, 3), (362, .iconst 2, 1), (363, .if_icmp .ne 20, 3), (366, .aload_n 0, 1), (367, .getfield 102, 3), (370, .aload_n 0, 1), (371, .getfield 105, 3), (374, .isub, 1), (375, .iconst 2, 1), (376, .if_icmp .le 7, 3), (379, .iconst 4, 1), (380, .goto 7, 3), (383, .aload_n 0, 1), (384, .getfield 116, 3), (387, .putfield 116, 3), (390, .return_, 1)]
def mX9_takes : mj_M := (yX9_takes, cX9_takes, 2, none, { frames := 1, cells := 0, slots := 0, locals := 25 }, tX9_takes)
set_option maxRecDepth 100000 in
theorem tok_X9_takes : ∀ q ∈ mX9_takes.2.2.2.2.2, decode mX9_takes.2.1 q.1 = .ok q.2 := by decide +kernel
def tX9_itemOf : List (Nat × Instr × Nat) := [(0, .lload_n 0, 1), (1, .ldc2_w 129, 3), (4, .lcmp, 1), (5, .ifCond .ne 5, 3), (8, .iconst 1, 1), (9, .ireturn, 1), (10, .lload_n 0, 1), (11, .ldc2_w 131, 3), (14, .lcmp, 1), (15, .ifCond .ne 6, 3), (18, .bipush 16, 2), (20, .ireturn, 1), (21, .lload_n 0, 1), (22, .ldc2_w 133, 3), (25, .lcmp, 1), (26, .ifCond .ne 6, 3), (29, .bipush 22, 2), (31, .ireturn, 1), (32, .lload_n 0, 1), (33, .ldc2_w 135, 3), (36, .lcmp, 1), (37, .ifCond .ne 6, 3), (40, .bipush 32, 2), (42, .ireturn, 1), (43, .lload_n 0, 1), (44, .ldc2_w 137, 3), (47, .lcmp, 1), (48, .ifCond .ne 8, 3), (51, .bipush 41, 2), (53, .goto 4, 3), (56, .iconst (-1), 1), (57, .ireturn, 1)]
def mX9_itemOf : mj_M := (yX9_itemOf, cX9_itemOf, 2, (some .int), { frames := 0, cells := 0, slots := 0, locals := 0 }, tX9_itemOf)
set_option maxRecDepth 100000 in
theorem tok_X9_itemOf : ∀ q ∈ mX9_itemOf.2.2.2.2.2, decode mX9_itemOf.2.1 q.1 = .ok q.2 := by decide +kernel
def tX9_reads : List (Nat × Instr × Nat) := [(0, .aload_n 0, 1), (1, .iconst 0, 1), (2, .putfield 102, 3), (5, .aload_n 0, 1), (6, .iconst 0, 1), (7, .putfield 139, 3), (10, .aload_n 0, 1), (11, .invokevirtual 142, 3), (14, .aload_n 0, 1), (15, .getfield 116, 3), (18, .ifCond .ne 10, 3), (21, .aload_n 0, 1), (22, .getfield 139, 3), (25, .ifCond .ne 160, 3), (28, .aload_n 0, 1), (29, .getfield 116, 3), (32, .iconst 1, 1), (33, .if_icmp .ne 13, 3), (36, .aload_n 0, 1), (37, .getfield 122, 3), (40, .invokestatic 145, 3), (43, .goto 4, 3), (46, .iconst (-1), 1), (47, .istore_n 1, 1), (48, .iload_n 1, 1), (49, .ifCond .lt 28, 3), (52, .iload_n 1, 1), (53, .iconst 1, 1), (54, .if_icmp .ne 7, 3), (57, .iconst 1, 1), (58, .goto 4, 3), (61, .iconst 0, 1), (62, .aload_n 0, 1), (63, .getfield 139, 3), (66, .ifCond .ne 7, 3), (69, .iconst 1, 1), (70, .goto 4, 3), (73, .iconst 0, 1), (74, .if_icmp .eq 8, 3), (77, .aload_n 0, 1), (78, .getfield 105, 3), (81, .ireturn, 1), (82, .aload_n 0, 1), (83, .getfield 33, 3), (86, .bipush 7, 2), (88, .aload_n 0, 1), (89, .getfield 139, 3), (92, .imul, 1), (93, .iload_n 1, 1), (94, .bipush 10, 2), (96, .idiv, 1), (97, .iastore, 1), (98, .iconst 0, 1), (99, .istore_n 2, 1), (100, .iload_n 2, 1), (101, .iload_n 1, 1), (102, .bipush 10, 2), (104, .irem, 1), (105, .if_icmp .ge 46, 3), (108, .aload_n 0, 1), (109, .invokevirtual 142, 3), (112, .aload_n 0, 1), (113, .getfield 116, 3), (116, .iconst 2, 1), (117, .if_icmp .eq 8, 3), (120, .aload_n 0, 1), (121, .getfield 105, 3), (124, .ireturn, 1), (125, .aload_n 0, 1), (126, .getfield 33, 3), (129, .bipush 7, 2), (131, .aload_n 0, 1), (132, .getfield 139, 3), (135, .imul, 1), (136, .iconst 1, 1), (137, .iadd, 1), (138, .iload_n 2, 1), (139, .iadd, 1), (140, .aload_n 0, 1), (141, .getfield 119, 3), (144, .iastore, 1), (145, .iinc 2 1, 3), (148, .goto (-48), 3), (151, .aload_n 0, 1), (152, .invokevirtual 142, 3), (155, .aload_n 0, 1), (156, .getfield 116, 3), (159, .iconst 3, 1), (160, .if_icmp .eq 8, 3), (163, .aload_n 0, 1), (164, .getfield 105, 3), (167, .ireturn, 1), (168, .aload_n 0, 1), (169, .dup, 1), (170, .getfield 139, 3), (173, .iconst 1, 1), (174, .iadd, 1), (175, .putfield 139, 3), (178, .aload_n 0, 1), (179, .invokevirtual 142, 3), (182, .goto (-168), 3), (185, .iconst (-1), 1), (186, .ireturn, 1)]
def mX9_reads : mj_M := (yX9_reads, cX9_reads, 3, (some .int), { frames := 2, cells := 0, slots := 0, locals := 46 }, tX9_reads)
set_option maxRecDepth 100000 in
theorem tok_X9_reads : ∀ q ∈ mX9_reads.2.2.2.2.2, decode mX9_reads.2.1 q.1 = .ok q.2 := by decide +kernel
def tX9_doItem : List (Nat × Instr × Nat) := [(0, .aload_n 0, 1), (1, .getfield 33, 3), (4, .bipush 7, 2), (6, .iload_n 1, 1), (7, .imul, 1), (8, .iconst 1, 1), (9, .iadd, 1), (10, .iaload, 1), (11, .istore_n 2, 1), (12, .aload_n 0, 1), (13, .getfield 33, 3), (16, .bipush 7, 2), (18, .iload_n 1, 1), (19, .imul, 1), (20, .iconst 2, 1), (21, .iadd, 1), (22, .iaload, 1), (23, .istore_n 3, 1), (24, .aload_n 0, 1), (25, .getfield 33, 3), (28, .bipush 7, 2), (30, .iload_n 1, 1), (31, .imul, 1), (32, .iaload, 1), (33, .tableswitch 77 0 3 #[31, 38, 63, 70], 31), (64, .aload_n 0, 1), (65, .iload_n 2, 1), (66, .invokevirtual 49, 3), (69, .iconst 0, 1), (70, .ireturn, 1), (71, .aload_n 0, 1), (72, .getfield 33, 3), (75, .bipush 7, 2), (77, .iload_n 1, 1), (78, .imul, 1), (79, .iconst 1, 1), (80, .iadd, 1), (81, .aload_n 0, 1), (82, .getfield 30, 3), (85, .iconst 0, 1), (86, .bipush 6, 2), (88, .invokestatic 59, 3), (91, .aload_n 0, 1), (92, .invokevirtual 79, 3), (95, .ireturn, 1), (96, .aload_n 0, 1), (97, .iload_n 2, 1), (98, .iload_n 3, 1), (99, .invokevirtual 86, 3), (102, .ireturn, 1), (103, .aload_n 0, 1), (104, .iload_n 2, 1), (105, .iload_n 3, 1), (106, .invokevirtual 90, 3), (109, .ireturn, 1), (110, .aload_n 0, 1), (111, .iload_n 2, 1), (112, .invokevirtual 93, 3), (115, .ireturn, 1)]
def mX9_doItem : mj_M := (yX9_doItem, cX9_doItem, 4, (some .int), { frames := 3, cells := 0, slots := 0, locals := 69 }, tX9_doItem)
set_option maxRecDepth 100000 in
theorem tok_X9_doItem : ∀ q ∈ mX9_doItem.2.2.2.2.2, decode mX9_doItem.2.1 q.1 = .ok q.2 := by decide +kernel
def tX9_read : List (Nat × Instr × Nat) := [(0, .aload_n 0, 1), (1, .invokevirtual 149, 3), (4, .istore_n 1, 1), (5, .iload_n 1, 1), (6, .iconst (-1), 1), (7, .if_icmp .eq 8, 3), (10, .bipush (-10), 2), (12, .iload_n 1, 1), (13, .isub, 1), (14, .ireturn, 1), (15, .aload_n 0, 1), (16, .getfield 7, 3), (19, .iconst 0, 1), (20, .aload_n 0, 1), (21, .getfield 36, 3), (24, .iconst 0, 1), (25, .sipush 356, 3), (28, .invokestatic 59, 3), (31, .iconst 0, 1), (32, .istore_n 2, 1), (33, .iload_n 2, 1), (34, .aload_n 0, 1), (35, .getfield 139, 3), (38, .if_icmp .ge 39, 3), (41, .aload_n 0, 1), (42, .iload_n 2, 1), (43, .invokevirtual 152, 3), (46, .ifCond .ge 25, 3), (49, .aload_n 0, 1), (50, .getfield 36, 3), (53, .iconst 0, 1), (54, .aload_n 0, 1), (55, .getfield 7, 3), (58, .iconst 0, 1), (59, .sipush 356, 3), (62, .invokestatic 59, 3), (65, .sipush (-1000), 3), (68, .iload_n 2, 1), (69, .isub, 1), (70, .ireturn, 1), (71, .iinc 2 1, 3), (74, .goto (-41), 3), (77, .aload_n 0, 1), (78, .getfield 139, 3), (81, .ireturn, 1)]
def mX9_read : mj_M := (yX9_read, cX9_read, 3, (some .int), { frames := 4, cells := 0, slots := 0, locals := 92 }, tX9_read)
set_option maxRecDepth 100000 in
theorem tok_X9_read : ∀ q ∈ mX9_read.2.2.2.2.2, decode mX9_read.2.1 q.1 = .ok q.2 := by decide +kernel
def tX9_costOf : List (Nat × Instr × Nat) := [(0, .iload_n 0, 1), (1, .ifCond .ne 7, 3), (4, .iconst 2, 1), (5, .goto 13, 3), (8, .iload_n 0, 1), (9, .iconst 1, 1), (10, .if_icmp .ne 7, 3), (13, .iconst 5, 1), (14, .goto 4, 3), (17, .iconst 3, 1), (18, .ireturn, 1)]
def mX9_costOf : mj_M := (yX9_costOf, cX9_costOf, 1, (some .int), { frames := 0, cells := 0, slots := 0, locals := 0 }, tX9_costOf)
set_option maxRecDepth 100000 in
theorem tok_X9_costOf : ∀ q ∈ mX9_costOf.2.2.2.2.2, decode mX9_costOf.2.1 q.1 = .ok q.2 := by decide +kernel
def tX9_isTest : List (Nat × Instr × Nat) := [(0, .iload_n 0, 1), (1, .i2l, 1), (2, .lconst 0, 1), (3, .ldc2_w 155, 3), (6, .invokestatic 53, 3), (9, .ireturn, 1)]
def mX9_isTest : mj_M := (yX9_isTest, cX9_isTest, 1, (some .boolean), { frames := 1, cells := 0, slots := 0, locals := 25 }, tX9_isTest)
set_option maxRecDepth 100000 in
theorem tok_X9_isTest : ∀ q ∈ mX9_isTest.2.2.2.2.2, decode mX9_isTest.2.1 q.1 = .ok q.2 := by decide +kernel
def tX9_casesOf : List (Nat × Instr × Nat) := [(0, .iload_n 1, 1), (1, .iconst 3, 1), (2, .if_icmp .ne 8, 3), (5, .bipush 6, 2), (7, .goto 7, 3), (10, .bipush 6, 2), (12, .iload_n 1, 1), (13, .isub, 1), (14, .istore_n 3, 1), (15, .iload_n 0, 1), (16, .tableswitch 91 0 4 #[36, 38, 51, 91, 64], 36), (52, .iload_n 3, 1), (53, .ireturn, 1), (54, .iload_n 3, 1), (55, .iload_n 1, 1), (56, .iconst 3, 1), (57, .if_icmp .ne 7, 3), (60, .iconst 4, 1), (61, .goto 4, 3), (64, .iconst 3, 1), (65, .iadd, 1), (66, .ireturn, 1), (67, .iload_n 3, 1), (68, .iload_n 1, 1), (69, .iconst 3, 1), (70, .if_icmp .ne 7, 3), (73, .iconst 4, 1), (74, .goto 4, 3), (77, .iconst 3, 1), (78, .isub, 1), (79, .ireturn, 1), (80, .iload_n 1, 1), (81, .iconst 3, 1), (82, .if_icmp .ne 9, 3), (85, .iload_n 3, 1), (86, .iconst 5, 1), (87, .iadd, 1), (88, .goto 18, 3), (91, .iload_n 1, 1), (92, .ifCond .ne 11, 3), (95, .iload_n 3, 1), (96, .iconst 3, 1), (97, .iadd, 1), (98, .iconst 2, 1), (99, .idiv, 1), (100, .goto 6, 3), (103, .iload_n 3, 1), (104, .iconst 5, 1), (105, .iadd, 1), (106, .ireturn, 1), (107, .iload_n 1, 1), (108, .iconst 3, 1), (109, .if_icmp .ne 16, 3), (112, .iload_n 0, 1), (113, .iconst 5, 1), (114, .if_icmp .ne 7, 3), (117, .iconst 0, 1), (118, .goto 6, 3), (121, .iload_n 3, 1), (122, .iconst 5, 1), (123, .isub, 1), (124, .ireturn, 1), (125, .iload_n 1, 1), (126, .ifCond .ne 12, 3), (129, .iload_n 2, 1), (130, .ifCond .eq 8, 3), (133, .bipush 11, 2), (135, .goto 20, 3), (138, .iload_n 0, 1), (139, .iconst 5, 1), (140, .if_icmp .ne 12, 3), (143, .iload_n 1, 1), (144, .iconst 2, 1), (145, .if_icmp .ne 7, 3), (148, .iconst 1, 1), (149, .goto 6, 3), (152, .iload_n 3, 1), (153, .iconst 3, 1), (154, .isub, 1), (155, .ireturn, 1)]
def mX9_casesOf : mj_M := (yX9_casesOf, cX9_casesOf, 4, (some .int), { frames := 0, cells := 0, slots := 0, locals := 0 }, tX9_casesOf)
set_option maxRecDepth 100000 in
theorem tok_X9_casesOf : ∀ q ∈ mX9_casesOf.2.2.2.2.2, decode mX9_casesOf.2.1 q.1 = .ok q.2 := by decide +kernel
def tX9_sumOf : List (Nat × Instr × Nat) := [(0, .lconst 0, 1), (1, .lstore 4, 2), (3, .iconst 0, 1), (4, .istore 6, 2), (6, .iload 6, 2), (8, .bipush 6, 2), (10, .if_icmp .ge 36, 3), (13, .lload 4, 2), (15, .aload_n 0, 1), (16, .bipush 16, 2), (18, .bipush 6, 2), (20, .iload_n 1, 1), (21, .imul, 1), (22, .iadd, 1), (23, .iload 6, 2), (25, .iadd, 1), (26, .iaload, 1), (27, .i2l, 1), (28, .iload 6, 2), (30, .iload_n 2, 1), (31, .iload_n 3, 1), (32, .invokestatic 157, 3), (35, .i2l, 1), (36, .lmul, 1), (37, .ladd, 1), (38, .lstore 4, 2), (40, .iinc 6 1, 3), (43, .goto (-37), 3), (46, .lload 4, 2), (48, .lreturn, 1)]
def mX9_sumOf : mj_M := (yX9_sumOf, cX9_sumOf, 7, (some .long), { frames := 1, cells := 0, slots := 0, locals := 23 }, tX9_sumOf)
set_option maxRecDepth 100000 in
theorem tok_X9_sumOf : ∀ q ∈ mX9_sumOf.2.2.2.2.2, decode mX9_sumOf.2.1 q.1 = .ok q.2 := by decide +kernel
def tX9_allOf : List (Nat × Instr × Nat) := [(0, .lconst 0, 1), (1, .lstore_n 2, 1), (2, .iconst 0, 1), (3, .istore 4, 2), (5, .iload 4, 2), (7, .bipush 6, 2), (9, .if_icmp .ge 25, 3), (12, .lload_n 2, 1), (13, .aload_n 0, 1), (14, .bipush 16, 2), (16, .bipush 6, 2), (18, .iload_n 1, 1), (19, .imul, 1), (20, .iadd, 1), (21, .iload 4, 2), (23, .iadd, 1), (24, .iaload, 1), (25, .i2l, 1), (26, .ladd, 1), (27, .lstore_n 2, 1), (28, .iinc 4 1, 3), (31, .goto (-26), 3), (34, .lload_n 2, 1), (35, .lreturn, 1)]
def mX9_allOf : mj_M := (yX9_allOf, cX9_allOf, 5, (some .long), { frames := 0, cells := 0, slots := 0, locals := 0 }, tX9_allOf)
set_option maxRecDepth 100000 in
theorem tok_X9_allOf : ∀ q ∈ mX9_allOf.2.2.2.2.2, decode mX9_allOf.2.1 q.1 = .ok q.2 := by decide +kernel
def tX9_shareOf : List (Nat × Instr × Nat) := [(0, .ldc2_w 161, 3), (3, .aload_n 0, 1), (4, .iload_n 1, 1), (5, .iload_n 2, 1), (6, .iload_n 3, 1), (7, .invokestatic 163, 3), (10, .lmul, 1), (11, .ldc2_w 167, 3), (14, .aload_n 0, 1), (15, .iload_n 1, 1), (16, .invokestatic 169, 3), (19, .lmul, 1), (20, .ldiv, 1), (21, .l2i, 1), (22, .ireturn, 1)]
def mX9_shareOf : mj_M := (yX9_shareOf, cX9_shareOf, 4, (some .int), { frames := 2, cells := 0, slots := 0, locals := 49 }, tX9_shareOf)
set_option maxRecDepth 100000 in
theorem tok_X9_shareOf : ∀ q ∈ mX9_shareOf.2.2.2.2.2, decode mX9_shareOf.2.1 q.1 = .ok q.2 := by decide +kernel
def tX9_trustOn : List (Nat × Instr × Nat) := [(0, .aload_n 0, 1), (1, .iload_n 1, 1), (2, .iconst 3, 1), (3, .iconst 0, 1), (4, .invokestatic 173, 3), (7, .ireturn, 1)]
def mX9_trustOn : mj_M := (yX9_trustOn, cX9_trustOn, 2, (some .int), { frames := 3, cells := 0, slots := 0, locals := 72 }, tX9_trustOn)
set_option maxRecDepth 100000 in
theorem tok_X9_trustOn : ∀ q ∈ mX9_trustOn.2.2.2.2.2, decode mX9_trustOn.2.1 q.1 = .ok q.2 := by decide +kernel
def tX9_common : List (Nat × Instr × Nat) := [(0, .iload_n 0, 1), (1, .istore_n 2, 1), (2, .iload_n 1, 1), (3, .istore_n 3, 1), (4, .iload_n 3, 1), (5, .ifCond .eq 16, 3), (8, .iload_n 2, 1), (9, .iload_n 3, 1), (10, .irem, 1), (11, .istore 4, 2), (13, .iload_n 3, 1), (14, .istore_n 2, 1), (15, .iload 4, 2), (17, .istore_n 3, 1), (18, .goto (-14), 3), (21, .iload_n 2, 1), (22, .ireturn, 1)]
def mX9_common : mj_M := (yX9_common, cX9_common, 5, (some .int), { frames := 0, cells := 0, slots := 0, locals := 0 }, tX9_common)
set_option maxRecDepth 100000 in
theorem tok_X9_common : ∀ q ∈ mX9_common.2.2.2.2.2, decode mX9_common.2.1 q.1 = .ok q.2 := by decide +kernel
def tX9_weighs : List (Nat × Instr × Nat) := [(0, .aload_n 0, 1), (1, .iconst 2, 1), (2, .iaload, 1), (3, .iload_n 1, 1), (4, .invokestatic 69, 3), (7, .istore 4, 2), (9, .bipush 16, 2), (11, .bipush 6, 2), (13, .iload_n 1, 1), (14, .imul, 1), (15, .iadd, 1), (16, .istore 5, 2), (18, .iconst 0, 1), (19, .istore 6, 2), (21, .iconst 0, 1), (22, .istore 7, 2), (24, .iconst 0, 1), (25, .istore 8, 2), (27, .iload 8, 2), (29, .bipush 6, 2), (31, .if_icmp .ge 57, 3), (34, .iload 8, 2), (36, .iload_n 2, 1), (37, .iload 4, 2), (39, .invokestatic 157, 3), (42, .istore 9, 2), (44, .aload_n 0, 1), (45, .iload 5, 2), (47, .iload 8, 2), (49, .iadd, 1), (50, .dup2, 1), (51, .iaload, 1), (52, .iload_n 3, 1), (53, .ifCond .eq 8, 3), (56, .iload 9, 2), (58, .goto 8, 3), (61, .bipush 12, 2), (63, .iload 9, 2), (65, .isub, 1), (66, .imul, 1), (67, .iastore, 1), (68, .iload 6, 2), (70, .aload_n 0, 1), (71, .iload 5, 2), (73, .iload 8, 2), (75, .iadd, 1), (76, .iaload, 1), (77, .invokestatic 177, 3), (80, .istore 6, 2), (82, .iinc 8 1, 3), (85, .goto (-58), 3), (88, .iconst 0, 1), (89, .istore 8, 2), (91, .iload 8, 2), (93, .bipush 6, 2), (95, .if_icmp .ge 61, 3), (98, .aload_n 0, 1), (99, .iload 5, 2), (101, .iload 8, 2), (103, .iadd, 1), (104, .iload 6, 2), (106, .ifCond .ne 7, 3), (109, .iconst 1, 1), (110, .goto 13, 3), (113, .aload_n 0, 1), (114, .iload 5, 2), (116, .iload 8, 2), (118, .iadd, 1), (119, .iaload, 1), (120, .iload 6, 2), (122, .idiv, 1), (123, .iastore, 1), (124, .aload_n 0, 1), (125, .iload 5, 2), (127, .iload 8, 2), (129, .iadd, 1), (130, .iaload, 1), (131, .iload 7, 2), (133, .if_icmp .le 13, 3), (136, .aload_n 0, 1), (137, .iload 5, 2), (139, .iload 8, 2), (141, .iadd, 1), (142, .iaload, 1), (143, .goto 5, 3), (146, .iload 7, 2), (148, .istore 7, 2), (150, .iinc 8 1, 3), (153, .goto (-62), 3), (156, .iload 7, 2), (158, .ldc 180, 2), (160, .if_icmp .le 39, 3), (163, .iload 7, 2), (165, .iconst 2, 1), (166, .idiv, 1), (167, .istore 7, 2), (169, .iconst 0, 1), (170, .istore 8, 2), (172, .iload 8, 2), (174, .bipush 6, 2), (176, .if_icmp .ge 20, 3), (179, .aload_n 0, 1), (180, .iload 5, 2), (182, .iload 8, 2), (184, .iadd, 1), (185, .dup2, 1), (186, .iaload, 1), (187, .iconst 2, 1), (188, .idiv, 1), (189, .iastore, 1), (190, .iinc 8 1, 3), (193, .goto (-21), 3), (196, .goto (-40), 3), (199, .return_, 1)]
def mX9_weighs : mj_M := (yX9_weighs, cX9_weighs, 10, none, { frames := 1, cells := 0, slots := 0, locals := 24 }, tX9_weighs)
set_option maxRecDepth 100000 in
theorem tok_X9_weighs : ∀ q ∈ mX9_weighs.2.2.2.2.2, decode mX9_weighs.2.1 q.1 = .ok q.2 := by decide +kernel
def tX9_tests : List (Nat × Instr × Nat) := [(0, .aload_n 0, 1), (1, .iload_n 1, 1), (2, .iload_n 2, 1), (3, .iload_n 3, 1), (4, .invokestatic 181, 3), (7, .iconst 0, 1), (8, .istore 4, 2), (10, .iload 4, 2), (12, .aload_n 0, 1), (13, .iconst 0, 1), (14, .iaload, 1), (15, .if_icmp .ge 31, 3), (18, .aload_n 0, 1), (19, .bipush 10, 2), (21, .iload_n 1, 1), (22, .iadd, 1), (23, .iaload, 1), (24, .iload 4, 2), (26, .invokestatic 69, 3), (29, .ifCond .eq 11, 3), (32, .aload_n 0, 1), (33, .iload 4, 2), (35, .iload_n 2, 1), (36, .iload_n 3, 1), (37, .invokestatic 181, 3), (40, .iinc 4 1, 3), (43, .goto (-33), 3), (46, .iload_n 1, 1), (47, .ifCond .le 11, 3), (50, .iconst 1, 1), (51, .iload_n 1, 1), (52, .iconst 1, 1), (53, .isub, 1), (54, .ishl, 1), (55, .goto 4, 3), (58, .iconst 0, 1), (59, .iload_n 1, 1), (60, .iconst 1, 1), (61, .iadd, 1), (62, .aload_n 0, 1), (63, .iconst 0, 1), (64, .iaload, 1), (65, .if_icmp .ge 11, 3), (68, .iconst 1, 1), (69, .iload_n 1, 1), (70, .iconst 1, 1), (71, .iadd, 1), (72, .ishl, 1), (73, .goto 4, 3), (76, .iconst 0, 1), (77, .ior, 1), (78, .istore 4, 2), (80, .aload_n 0, 1), (81, .iconst 2, 1), (82, .dup2, 1), (83, .iaload, 1), (84, .iload_n 2, 1), (85, .ifCond .ne 8, 3), (88, .iload 4, 2), (90, .goto 4, 3), (93, .iconst 0, 1), (94, .ior, 1), (95, .iastore, 1), (96, .aload_n 0, 1), (97, .iconst 1, 1), (98, .dup2, 1), (99, .iaload, 1), (100, .iload_n 2, 1), (101, .invokestatic 185, 3), (104, .isub, 1), (105, .iastore, 1), (106, .return_, 1)]
def mX9_tests : mj_M := (yX9_tests, cX9_tests, 5, none, { frames := 2, cells := 0, slots := 0, locals := 53 }, tX9_tests)
set_option maxRecDepth 100000 in
theorem tok_X9_tests : ∀ q ∈ mX9_tests.2.2.2.2.2, decode mX9_tests.2.1 q.1 = .ok q.2 := by decide +kernel
def tX9_remember : List (Nat × Instr × Nat) := [(0, .aload_n 0, 1), (1, .getfield 7, 3), (4, .iconst 3, 1), (5, .iaload, 1), (6, .bipush 8, 2), (8, .if_icmp .ne 49, 3), (11, .iconst 0, 1), (12, .istore_n 1, 1), (13, .iload_n 1, 1), (14, .sipush 266, 3), (17, .if_icmp .ge 30, 3), (20, .aload_n 0, 1), (21, .getfield 7, 3), (24, .bipush 52, 2), (26, .iload_n 1, 1), (27, .iadd, 1), (28, .aload_n 0, 1), (29, .getfield 7, 3), (32, .bipush 52, 2), (34, .iload_n 1, 1), (35, .iadd, 1), (36, .bipush 38, 2), (38, .iadd, 1), (39, .iaload, 1), (40, .iastore, 1), (41, .iinc 1 1, 3), (44, .goto (-31), 3), (47, .aload_n 0, 1), (48, .getfield 7, 3), (51, .iconst 3, 1), (52, .dup2, 1), (53, .iaload, 1), (54, .iconst 1, 1), (55, .isub, 1), (56, .iastore, 1), (57, .bipush 52, 2), (59, .bipush 38, 2), (61, .aload_n 0, 1), (62, .getfield 7, 3), (65, .iconst 3, 1), (66, .iaload, 1), (67, .imul, 1), (68, .iadd, 1), (69, .istore_n 1, 1), (70, .aload_n 0, 1), (71, .getfield 7, 3), (74, .iload_n 1, 1), (75, .aload_n 0, 1), (76, .getfield 7, 3), (79, .iconst 1, 1), (80, .iaload, 1), (81, .iastore, 1), (82, .aload_n 0, 1), (83, .getfield 7, 3), (86, .iload_n 1, 1), (87, .iconst 1, 1), (88, .iadd, 1), (89, .aload_n 0, 1), (90, .getfield 7, 3), (93, .iconst 2, 1), (94, .iaload, 1), (95, .iastore, 1), (96, .aload_n 0, 1), (97, .getfield 7, 3), (100, .bipush 16, 2), (102, .aload_n 0, 1), (103, .getfield 7, 3), (106, .iload_n 1, 1), (107, .iconst 2, 1), (108, .iadd, 1), (109, .bipush 36, 2), (111, .invokestatic 59, 3), (114, .aload_n 0, 1), (115, .getfield 7, 3), (118, .iconst 3, 1), (119, .dup2, 1), (120, .iaload, 1), (121, .iconst 1, 1), (122, .iadd, 1), (123, .iastore, 1), (124, .return_, 1)]
def mX9_remember : mj_M := (yX9_remember, cX9_remember, 2, none, { frames := 1, cells := 0, slots := 0, locals := 25 }, tX9_remember)
set_option maxRecDepth 100000 in
theorem tok_X9_remember : ∀ q ∈ mX9_remember.2.2.2.2.2, decode mX9_remember.2.1 q.1 = .ok q.2 := by decide +kernel
def tX9_test : List (Nat × Instr × Nat) := [(0, .aload_n 0, 1), (1, .iload_n 1, 1), (2, .invokevirtual 63, 3), (5, .ifCond .eq 10, 3), (8, .iload_n 2, 1), (9, .invokestatic 188, 3), (12, .ifCond .ne 10, 3), (15, .aload_n 0, 1), (16, .bipush (-2), 2), (18, .invokevirtual 75, 3), (21, .ireturn, 1), (22, .aload_n 0, 1), (23, .getfield 7, 3), (26, .iconst 1, 1), (27, .iaload, 1), (28, .iload_n 2, 1), (29, .invokestatic 185, 3), (32, .if_icmp .ge 10, 3), (35, .aload_n 0, 1), (36, .bipush (-3), 2), (38, .invokevirtual 191, 3), (41, .ireturn, 1), (42, .aload_n 0, 1), (43, .invokevirtual 194, 3), (46, .aload_n 0, 1), (47, .getfield 7, 3), (50, .iload_n 1, 1), (51, .iload_n 2, 1), (52, .iload_n 3, 1), (53, .invokestatic 197, 3), (56, .aload_n 0, 1), (57, .getfield 7, 3), (60, .iload_n 1, 1), (61, .invokestatic 200, 3), (64, .ireturn, 1)]
def mX9_test : mj_M := (yX9_test, cX9_test, 4, (some .int), { frames := 4, cells := 0, slots := 0, locals := 93 }, tX9_test)
set_option maxRecDepth 100000 in
theorem tok_X9_test : ∀ q ∈ mX9_test.2.2.2.2.2, decode mX9_test.2.1 q.1 = .ok q.2 := by decide +kernel
def tX9_undo : List (Nat × Instr × Nat) := [(0, .aload_n 0, 1), (1, .getfield 7, 3), (4, .iconst 3, 1), (5, .iaload, 1), (6, .ifCond .ne 10, 3), (9, .aload_n 0, 1), (10, .bipush (-3), 2), (12, .invokevirtual 191, 3), (15, .ireturn, 1), (16, .aload_n 0, 1), (17, .getfield 7, 3), (20, .iconst 3, 1), (21, .dup2, 1), (22, .iaload, 1), (23, .iconst 1, 1), (24, .isub, 1), (25, .iastore, 1), (26, .bipush 52, 2), (28, .bipush 38, 2), (30, .aload_n 0, 1), (31, .getfield 7, 3), (34, .iconst 3, 1), (35, .iaload, 1), (36, .imul, 1), (37, .iadd, 1), (38, .istore_n 1, 1), (39, .aload_n 0, 1), (40, .getfield 7, 3), (43, .iconst 1, 1), (44, .aload_n 0, 1), (45, .getfield 7, 3), (48, .iload_n 1, 1), (49, .iaload, 1), (50, .iastore, 1), (51, .aload_n 0, 1), (52, .getfield 7, 3), (55, .iconst 2, 1), (56, .aload_n 0, 1), (57, .getfield 7, 3), (60, .iload_n 1, 1), (61, .iconst 1, 1), (62, .iadd, 1), (63, .iaload, 1), (64, .iastore, 1), (65, .aload_n 0, 1), (66, .getfield 7, 3), (69, .iload_n 1, 1), (70, .iconst 2, 1), (71, .iadd, 1), (72, .aload_n 0, 1), (73, .getfield 7, 3), (76, .bipush 16, 2), (78, .bipush 36, 2), (80, .invokestatic 59, 3), (83, .iconst 1, 1), (84, .ireturn, 1)]
def mX9_undo : mj_M := (yX9_undo, cX9_undo, 2, (some .int), { frames := 1, cells := 0, slots := 0, locals := 25 }, tX9_undo)
set_option maxRecDepth 100000 in
theorem tok_X9_undo : ∀ q ∈ mX9_undo.2.2.2.2.2, decode mX9_undo.2.1 q.1 = .ok q.2 := by decide +kernel
def tX9_weight : List (Nat × Instr × Nat) := [(0, .aload_n 0, 1), (1, .iload_n 1, 1), (2, .invokevirtual 63, 3), (5, .ifCond .eq 33, 3), (8, .iload_n 2, 1), (9, .i2l, 1), (10, .lconst 0, 1), (11, .ldc2_w 204, 3), (14, .invokestatic 53, 3), (17, .ifCond .eq 21, 3), (20, .aload_n 0, 1), (21, .getfield 7, 3), (24, .bipush 16, 2), (26, .bipush 6, 2), (28, .iload_n 1, 1), (29, .imul, 1), (30, .iadd, 1), (31, .iload_n 2, 1), (32, .iadd, 1), (33, .iaload, 1), (34, .i2l, 1), (35, .goto 10, 3), (38, .aload_n 0, 1), (39, .bipush (-2), 2), (41, .invokevirtual 75, 3), (44, .i2l, 1), (45, .lreturn, 1)]
def mX9_weight : mj_M := (yX9_weight, cX9_weight, 3, (some .long), { frames := 2, cells := 0, slots := 0, locals := 46 }, tX9_weight)
set_option maxRecDepth 100000 in
theorem tok_X9_weight : ∀ q ∈ mX9_weight.2.2.2.2.2, decode mX9_weight.2.1 q.1 = .ok q.2 := by decide +kernel
def tX9_cases : List (Nat × Instr × Nat) := [(0, .iload_n 1, 1), (1, .i2l, 1), (2, .lconst 0, 1), (3, .ldc2_w 204, 3), (6, .invokestatic 53, 3), (9, .ifCond .eq 24, 3), (12, .iload_n 2, 1), (13, .i2l, 1), (14, .lconst 0, 1), (15, .ldc2_w 206, 3), (18, .invokestatic 53, 3), (21, .ifCond .eq 12, 3), (24, .iload_n 1, 1), (25, .iload_n 2, 1), (26, .iload_n 3, 1), (27, .invokestatic 157, 3), (30, .goto 9, 3), (33, .aload_n 0, 1), (34, .bipush (-2), 2), (36, .invokevirtual 75, 3), (39, .ireturn, 1)]
def mX9_cases : mj_M := (yX9_cases, cX9_cases, 4, (some .int), { frames := 1, cells := 0, slots := 0, locals := 25 }, tX9_cases)
set_option maxRecDepth 100000 in
theorem tok_X9_cases : ∀ q ∈ mX9_cases.2.2.2.2.2, decode mX9_cases.2.1 q.1 = .ok q.2 := by decide +kernel
def tX9_trust : List (Nat × Instr × Nat) := [(0, .aload_n 0, 1), (1, .iload_n 1, 1), (2, .invokevirtual 63, 3), (5, .ifCond .eq 14, 3), (8, .aload_n 0, 1), (9, .getfield 7, 3), (12, .iload_n 1, 1), (13, .invokestatic 200, 3), (16, .goto 9, 3), (19, .aload_n 0, 1), (20, .bipush (-2), 2), (22, .invokevirtual 75, 3), (25, .ireturn, 1)]
def mX9_trust : mj_M := (yX9_trust, cX9_trust, 2, (some .int), { frames := 4, cells := 0, slots := 0, locals := 93 }, tX9_trust)
set_option maxRecDepth 100000 in
theorem tok_X9_trust : ∀ q ∈ mX9_trust.2.2.2.2.2, decode mX9_trust.2.1 q.1 = .ok q.2 := by decide +kernel
def tX9_showsOn : List (Nat × Instr × Nat) := [(0, .aload_n 0, 1), (1, .getfield 7, 3), (4, .iload_n 1, 1), (5, .iload_n 2, 1), (6, .aload_n 0, 1), (7, .getfield 7, 3), (10, .iconst 2, 1), (11, .iaload, 1), (12, .iload_n 1, 1), (13, .invokestatic 69, 3), (16, .invokestatic 173, 3), (19, .ireturn, 1)]
def mX9_showsOn : mj_M := (yX9_showsOn, cX9_showsOn, 3, (some .int), { frames := 3, cells := 0, slots := 0, locals := 72 }, tX9_showsOn)
set_option maxRecDepth 100000 in
theorem tok_X9_showsOn : ∀ q ∈ mX9_showsOn.2.2.2.2.2, decode mX9_showsOn.2.1 q.1 = .ok q.2 := by decide +kernel
def tX9_shows : List (Nat × Instr × Nat) := [(0, .aload_n 0, 1), (1, .iload_n 1, 1), (2, .invokevirtual 63, 3), (5, .ifCond .eq 19, 3), (8, .iload_n 2, 1), (9, .invokestatic 188, 3), (12, .ifCond .eq 12, 3), (15, .aload_n 0, 1), (16, .iload_n 1, 1), (17, .iload_n 2, 1), (18, .invokevirtual 208, 3), (21, .goto 9, 3), (24, .aload_n 0, 1), (25, .bipush (-2), 2), (27, .invokevirtual 75, 3), (30, .ireturn, 1)]
def mX9_shows : mj_M := (yX9_shows, cX9_shows, 3, (some .int), { frames := 4, cells := 0, slots := 0, locals := 94 }, tX9_shows)
set_option maxRecDepth 100000 in
theorem tok_X9_shows : ∀ q ∈ mX9_shows.2.2.2.2.2, decode mX9_shows.2.1 q.1 = .ok q.2 := by decide +kernel
def tX9_of : List (Nat × Instr × Nat) := [(0, .aload_n 0, 1), (1, .iload_n 1, 1), (2, .invokevirtual 63, 3), (5, .ifCond .eq 15, 3), (8, .iload_n 2, 1), (9, .i2l, 1), (10, .lconst 0, 1), (11, .ldc2_w 206, 3), (14, .invokestatic 53, 3), (17, .ifCond .ne 10, 3), (20, .aload_n 0, 1), (21, .bipush (-2), 2), (23, .invokevirtual 75, 3), (26, .ireturn, 1), (27, .iload_n 2, 1), (28, .tableswitch 58 0 2 #[28, 37, 47], 28), (56, .aload_n 0, 1), (57, .getfield 7, 3), (60, .iconst 4, 1), (61, .iload_n 1, 1), (62, .iadd, 1), (63, .iaload, 1), (64, .ireturn, 1), (65, .aload_n 0, 1), (66, .getfield 7, 3), (69, .bipush 10, 2), (71, .iload_n 1, 1), (72, .iadd, 1), (73, .iaload, 1), (74, .ireturn, 1), (75, .aload_n 0, 1), (76, .getfield 7, 3), (79, .iconst 2, 1), (80, .iaload, 1), (81, .iload_n 1, 1), (82, .ishr, 1), (83, .iconst 1, 1), (84, .iand, 1), (85, .ireturn, 1), (86, .iconst 0, 1), (87, .istore_n 3, 1), (88, .iconst 1, 1), (89, .istore 4, 2), (91, .iload 4, 2), (93, .bipush 6, 2), (95, .if_icmp .ge 48, 3), (98, .aload_n 0, 1), (99, .getfield 7, 3), (102, .bipush 16, 2), (104, .bipush 6, 2), (106, .iload_n 1, 1), (107, .imul, 1), (108, .iadd, 1), (109, .iload 4, 2), (111, .iadd, 1), (112, .iaload, 1), (113, .aload_n 0, 1), (114, .getfield 7, 3), (117, .bipush 16, 2), (119, .bipush 6, 2), (121, .iload_n 1, 1), (122, .imul, 1), (123, .iadd, 1), (124, .iload_n 3, 1), (125, .iadd, 1), (126, .iaload, 1), (127, .if_icmp .le 8, 3), (130, .iload 4, 2), (132, .goto 4, 3), (135, .iload_n 3, 1), (136, .istore_n 3, 1), (137, .iinc 4 1, 3), (140, .goto (-49), 3), (143, .iload_n 3, 1), (144, .ireturn, 1)]
def mX9_of : mj_M := (yX9_of, cX9_of, 5, (some .int), { frames := 2, cells := 0, slots := 0, locals := 46 }, tX9_of)
set_option maxRecDepth 100000 in
theorem tok_X9_of : ∀ q ∈ mX9_of.2.2.2.2.2, decode mX9_of.2.1 q.1 = .ok q.2 := by decide +kernel
def tX9_holdOn : List (Nat × Instr × Nat) := [(0, .iconst 0, 1), (1, .istore 4, 2), (3, .iload 4, 2), (5, .bipush 7, 2), (7, .if_icmp .ge 26, 3), (10, .aload_n 0, 1), (11, .getfield 39, 3), (14, .iload 4, 2), (16, .iload 4, 2), (18, .ifCond .ne 7, 3), (21, .lconst 1, 1), (22, .goto 4, 3), (25, .lconst 0, 1), (26, .lastore, 1), (27, .iinc 4 1, 3), (30, .goto (-27), 3), (33, .iconst 0, 1), (34, .istore 4, 2), (36, .iload 4, 2), (38, .aload_n 1, 1), (39, .iconst 0, 1), (40, .iaload, 1), (41, .if_icmp .ge 85, 3), (44, .iload_n 2, 1), (45, .iload 4, 2), (47, .invokestatic 69, 3), (50, .ifCond .eq 70, 3), (53, .aload_n 1, 1), (54, .iload 4, 2), (56, .invokestatic 200, 3), (59, .istore 5, 2), (61, .bipush 6, 2), (63, .istore 6, 2), (65, .iload 6, 2), (67, .ifCond .lt 53, 3), (70, .aload_n 0, 1), (71, .getfield 39, 3), (74, .iload 6, 2), (76, .aload_n 0, 1), (77, .getfield 39, 3), (80, .iload 6, 2), (82, .laload, 1), (83, .bipush 60, 2), (85, .iload 5, 2), (87, .isub, 1), (88, .i2l, 1), (89, .lmul, 1), (90, .iload 6, 2), (92, .ifCond .le 19, 3), (95, .aload_n 0, 1), (96, .getfield 39, 3), (99, .iload 6, 2), (101, .iconst 1, 1), (102, .isub, 1), (103, .laload, 1), (104, .iload 5, 2), (106, .i2l, 1), (107, .lmul, 1), (108, .goto 4, 3), (111, .lconst 0, 1), (112, .ladd, 1), (113, .lastore, 1), (114, .iinc 6 (-1), 3), (117, .goto (-52), 3), (120, .iinc 4 1, 3), (123, .goto (-87), 3), (126, .lconst 0, 1), (127, .lstore 4, 2), (129, .iload_n 3, 1), (130, .istore 6, 2), (132, .iload 6, 2), (134, .bipush 7, 2), (136, .if_icmp .ge 21, 3), (139, .lload 4, 2), (141, .aload_n 0, 1), (142, .getfield 39, 3), (145, .iload 6, 2), (147, .laload, 1), (148, .ladd, 1), (149, .lstore 4, 2), (151, .iinc 6 1, 3), (154, .goto (-22), 3), (157, .lload 4, 2), (159, .lreturn, 1)]
def mX9_holdOn : mj_M := (yX9_holdOn, cX9_holdOn, 7, (some .long), { frames := 4, cells := 0, slots := 0, locals := 93 }, tX9_holdOn)
set_option maxRecDepth 100000 in
theorem tok_X9_holdOn : ∀ q ∈ mX9_holdOn.2.2.2.2.2, decode mX9_holdOn.2.1 q.1 = .ok q.2 := by decide +kernel
def tX9_fraction : List (Nat × Instr × Nat) := [(0, .lload_n 1, 1), (1, .lstore 5, 2), (3, .lload_n 3, 1), (4, .lstore 7, 2), (6, .lload 7, 2), (8, .lconst 0, 1), (9, .lcmp, 1), (10, .ifCond .eq 21, 3), (13, .lload 5, 2), (15, .lload 7, 2), (17, .lrem, 1), (18, .lstore 9, 2), (20, .lload 7, 2), (22, .lstore 5, 2), (24, .lload 9, 2), (26, .lstore 7, 2), (28, .goto (-22), 3), (31, .aload_n 0, 1), (32, .lload_n 1, 1), (33, .lload 5, 2), (35, .ldiv, 1), (36, .putfield 211, 3), (39, .aload_n 0, 1), (40, .lload_n 3, 1), (41, .lload 5, 2), (43, .ldiv, 1), (44, .putfield 23, 3), (47, .return_, 1)]
def mX9_fraction : mj_M := (yX9_fraction, cX9_fraction, 11, none, { frames := 0, cells := 0, slots := 0, locals := 0 }, tX9_fraction)
set_option maxRecDepth 100000 in
theorem tok_X9_fraction : ∀ q ∈ mX9_fraction.2.2.2.2.2, decode mX9_fraction.2.1 q.1 = .ok q.2 := by decide +kernel
def tX9_hold : List (Nat × Instr × Nat) := [(0, .aload_n 0, 1), (1, .iload_n 1, 1), (2, .invokevirtual 214, 3), (5, .ifCond .eq 15, 3), (8, .iload_n 2, 1), (9, .i2l, 1), (10, .lconst 0, 1), (11, .ldc2_w 217, 3), (14, .invokestatic 53, 3), (17, .ifCond .ne 10, 3), (20, .aload_n 0, 1), (21, .bipush (-2), 2), (23, .invokevirtual 75, 3), (26, .ireturn, 1), (27, .lconst 1, 1), (28, .lstore_n 3, 1), (29, .iconst 0, 1), (30, .istore 5, 2), (32, .iload 5, 2), (34, .iload_n 1, 1), (35, .invokestatic 219, 3), (38, .if_icmp .ge 15, 3), (41, .lload_n 3, 1), (42, .ldc2_w 161, 3), (45, .lmul, 1), (46, .lstore_n 3, 1), (47, .iinc 5 1, 3), (50, .goto (-18), 3), (53, .aload_n 0, 1), (54, .aload_n 0, 1), (55, .aload_n 0, 1), (56, .getfield 7, 3), (59, .iload_n 1, 1), (60, .iload_n 2, 1), (61, .invokevirtual 222, 3), (64, .lload_n 3, 1), (65, .invokevirtual 226, 3), (68, .iconst 1, 1), (69, .ireturn, 1)]
def mX9_hold : mj_M := (yX9_hold, cX9_hold, 6, (some .int), { frames := 5, cells := 0, slots := 0, locals := 119 }, tX9_hold)
set_option maxRecDepth 100000 in
theorem tok_X9_hold : ∀ q ∈ mX9_hold.2.2.2.2.2, decode mX9_hold.2.1 q.1 = .ok q.2 := by decide +kernel
def tX9_keepOn : List (Nat × Instr × Nat) := [(0, .iconst (-1), 1), (1, .istore 4, 2), (3, .ldc2_w 127, 3), (6, .lstore 5, 2), (8, .iconst 0, 1), (9, .istore 7, 2), (11, .iload 7, 2), (13, .iconst 1, 1), (14, .aload_n 1, 1), (15, .iconst 0, 1), (16, .iaload, 1), (17, .ishl, 1), (18, .if_icmp .ge 68, 3), (21, .iload 7, 2), (23, .invokestatic 219, 3), (26, .iload_n 2, 1), (27, .if_icmp .ne 14, 3), (30, .aload_n 0, 1), (31, .aload_n 1, 1), (32, .iload 7, 2), (34, .iload_n 3, 1), (35, .invokevirtual 222, 3), (38, .goto 6, 3), (41, .ldc2_w 127, 3), (44, .lstore 8, 2), (46, .lload 8, 2), (48, .lload 5, 2), (50, .lcmp, 1), (51, .ifCond .le 8, 3), (54, .iload 7, 2), (56, .goto 5, 3), (59, .iload 4, 2), (61, .istore 4, 2), (63, .lload 8, 2), (65, .lload 5, 2), (67, .lcmp, 1), (68, .ifCond .le 8, 3), (71, .lload 8, 2), (73, .goto 5, 3), (76, .lload 5, 2), (78, .lstore 5, 2), (80, .iinc 7 1, 3), (83, .goto (-72), 3), (86, .iload 4, 2), (88, .ireturn, 1)]
def mX9_keepOn : mj_M := (yX9_keepOn, cX9_keepOn, 10, (some .int), { frames := 5, cells := 0, slots := 0, locals := 119 }, tX9_keepOn)
set_option maxRecDepth 100000 in
theorem tok_X9_keepOn : ∀ q ∈ mX9_keepOn.2.2.2.2.2, decode mX9_keepOn.2.1 q.1 = .ok q.2 := by decide +kernel
def tX9_keep : List (Nat × Instr × Nat) := [(0, .iload_n 1, 1), (1, .i2l, 1), (2, .lconst 0, 1), (3, .ldc2_w 217, 3), (6, .invokestatic 53, 3), (9, .ifCond .eq 28, 3), (12, .iload_n 2, 1), (13, .i2l, 1), (14, .lconst 0, 1), (15, .ldc2_w 217, 3), (18, .invokestatic 53, 3), (21, .ifCond .eq 16, 3), (24, .aload_n 0, 1), (25, .aload_n 0, 1), (26, .getfield 7, 3), (29, .iload_n 1, 1), (30, .iload_n 2, 1), (31, .invokevirtual 230, 3), (34, .goto 9, 3), (37, .aload_n 0, 1), (38, .bipush (-10), 2), (40, .invokevirtual 75, 3), (43, .ireturn, 1)]
def mX9_keep : mj_M := (yX9_keep, cX9_keep, 3, (some .int), { frames := 6, cells := 0, slots := 0, locals := 148 }, tX9_keep)
set_option maxRecDepth 100000 in
theorem tok_X9_keep : ∀ q ∈ mX9_keep.2.2.2.2.2, decode mX9_keep.2.1 q.1 = .ok q.2 := by decide +kernel
def tX9_layDay : List (Nat × Instr × Nat) := [(0, .aload_n 0, 1), (1, .getfield 7, 3), (4, .iconst 0, 1), (5, .aload_n 0, 1), (6, .getfield 43, 3), (9, .iconst 0, 1), (10, .bipush 52, 2), (12, .invokestatic 59, 3), (15, .return_, 1)]
def mX9_layDay : mj_M := (yX9_layDay, cX9_layDay, 1, none, { frames := 1, cells := 0, slots := 0, locals := 25 }, tX9_layDay)
set_option maxRecDepth 100000 in
theorem tok_X9_layDay : ∀ q ∈ mX9_layDay.2.2.2.2.2, decode mX9_layDay.2.1 q.1 = .ok q.2 := by decide +kernel
def tX9_behind : List (Nat × Instr × Nat) := [(0, .aload_n 0, 1), (1, .invokevirtual 234, 3), (4, .aload_n 0, 1), (5, .getfield 43, 3), (8, .iload_n 1, 1), (9, .iload_n 2, 1), (10, .iload_n 3, 1), (11, .invokestatic 197, 3), (14, .aload_n 0, 1), (15, .aload_n 0, 1), (16, .getfield 43, 3), (19, .aload_n 0, 1), (20, .aload_n 0, 1), (21, .getfield 43, 3), (24, .iload 4, 2), (26, .iload 5, 2), (28, .invokevirtual 230, 3), (31, .iload 5, 2), (33, .invokevirtual 222, 3), (36, .lreturn, 1)]
def mX9_behind : mj_M := (yX9_behind, cX9_behind, 6, (some .long), { frames := 6, cells := 0, slots := 0, locals := 148 }, tX9_behind)
set_option maxRecDepth 100000 in
theorem tok_X9_behind : ∀ q ∈ mX9_behind.2.2.2.2.2, decode mX9_behind.2.1 q.1 = .ok q.2 := by decide +kernel
def tX9_worthOf : List (Nat × Instr × Nat) := [(0, .aload_n 0, 1), (1, .iload_n 1, 1), (2, .iload_n 2, 1), (3, .invokevirtual 208, 3), (6, .istore 5, 2), (8, .aload_n 0, 1), (9, .iload_n 1, 1), (10, .iload_n 2, 1), (11, .iconst 1, 1), (12, .iload_n 3, 1), (13, .iload 4, 2), (15, .invokevirtual 237, 3), (18, .lstore 6, 2), (20, .aload_n 0, 1), (21, .iload_n 1, 1), (22, .iload_n 2, 1), (23, .iconst 0, 1), (24, .iload_n 3, 1), (25, .iload 4, 2), (27, .invokevirtual 237, 3), (30, .lstore 8, 2), (32, .iload 5, 2), (34, .i2l, 1), (35, .lload 6, 2), (37, .lmul, 1), (38, .bipush 60, 2), (40, .iload 5, 2), (42, .isub, 1), (43, .i2l, 1), (44, .lload 8, 2), (46, .lmul, 1), (47, .ladd, 1), (48, .ldc2_w 161, 3), (51, .aload_n 0, 1), (52, .aload_n 0, 1), (53, .getfield 7, 3), (56, .aload_n 0, 1), (57, .aload_n 0, 1), (58, .getfield 7, 3), (61, .iload_n 3, 1), (62, .iload 4, 2), (64, .invokevirtual 230, 3), (67, .iload 4, 2), (69, .invokevirtual 222, 3), (72, .lmul, 1), (73, .lsub, 1), (74, .l2i, 1), (75, .ireturn, 1)]
def mX9_worthOf : mj_M := (yX9_worthOf, cX9_worthOf, 10, (some .int), { frames := 7, cells := 0, slots := 0, locals := 173 }, tX9_worthOf)
set_option maxRecDepth 100000 in
theorem tok_X9_worthOf : ∀ q ∈ mX9_worthOf.2.2.2.2.2, decode mX9_worthOf.2.1 q.1 = .ok q.2 := by decide +kernel
def tX9_worth : List (Nat × Instr × Nat) := [(0, .aload_n 0, 1), (1, .iload_n 1, 1), (2, .invokevirtual 63, 3), (5, .ifCond .eq 35, 3), (8, .iload_n 2, 1), (9, .invokestatic 188, 3), (12, .ifCond .eq 28, 3), (15, .iload_n 3, 1), (16, .i2l, 1), (17, .lconst 0, 1), (18, .ldc2_w 206, 3), (21, .invokestatic 53, 3), (24, .ifCond .eq 16, 3), (27, .iload 4, 2), (29, .i2l, 1), (30, .lconst 0, 1), (31, .ldc2_w 217, 3), (34, .invokestatic 53, 3), (37, .ifCond .ne 10, 3), (40, .aload_n 0, 1), (41, .ldc 241, 2), (43, .invokevirtual 75, 3), (46, .ireturn, 1), (47, .aload_n 0, 1), (48, .getfield 7, 3), (51, .iconst 1, 1), (52, .iaload, 1), (53, .iload_n 2, 1), (54, .invokestatic 185, 3), (57, .if_icmp .lt 13, 3), (60, .iload_n 3, 1), (61, .aload_n 0, 1), (62, .getfield 7, 3), (65, .iconst 0, 1), (66, .iaload, 1), (67, .if_icmp .le 10, 3), (70, .aload_n 0, 1), (71, .ldc 242, 2), (73, .invokevirtual 191, 3), (76, .ireturn, 1), (77, .aload_n 0, 1), (78, .iload_n 1, 1), (79, .iload_n 2, 1), (80, .iload_n 3, 1), (81, .iload 4, 2), (83, .invokevirtual 243, 3), (86, .ireturn, 1)]
def mX9_worth : mj_M := (yX9_worth, cX9_worth, 5, (some .int), { frames := 8, cells := 0, slots := 0, locals := 202 }, tX9_worth)
set_option maxRecDepth 100000 in
theorem tok_X9_worth : ∀ q ∈ mX9_worth.2.2.2.2.2, decode mX9_worth.2.1 q.1 = .ok q.2 := by decide +kernel
def tX9_best : List (Nat × Instr × Nat) := [(0, .iload_n 1, 1), (1, .i2l, 1), (2, .lconst 0, 1), (3, .ldc2_w 206, 3), (6, .invokestatic 53, 3), (9, .ifCond .eq 15, 3), (12, .iload_n 2, 1), (13, .i2l, 1), (14, .lconst 0, 1), (15, .ldc2_w 217, 3), (18, .invokestatic 53, 3), (21, .ifCond .ne 10, 3), (24, .aload_n 0, 1), (25, .bipush (-10), 2), (27, .invokevirtual 75, 3), (30, .ireturn, 1), (31, .iconst (-1), 1), (32, .istore_n 3, 1), (33, .iconst 0, 1), (34, .istore 4, 2), (36, .iconst 0, 1), (37, .istore 5, 2), (39, .iload 5, 2), (41, .aload_n 0, 1), (42, .getfield 7, 3), (45, .iconst 0, 1), (46, .iaload, 1), (47, .if_icmp .ge 111, 3), (50, .iload_n 1, 1), (51, .aload_n 0, 1), (52, .getfield 7, 3), (55, .iconst 0, 1), (56, .iaload, 1), (57, .if_icmp .gt 101, 3), (60, .iconst 0, 1), (61, .istore 6, 2), (63, .iload 6, 2), (65, .iconst 3, 1), (66, .if_icmp .ge 86, 3), (69, .aload_n 0, 1), (70, .getfield 7, 3), (73, .iconst 1, 1), (74, .iaload, 1), (75, .iload 6, 2), (77, .invokestatic 185, 3), (80, .if_icmp .lt 66, 3), (83, .aload_n 0, 1), (84, .iload 5, 2), (86, .iload 6, 2), (88, .iload_n 1, 1), (89, .iload_n 2, 1), (90, .invokevirtual 243, 3), (93, .istore 7, 2), (95, .iload_n 3, 1), (96, .iconst (-1), 1), (97, .if_icmp .eq 10, 3), (100, .iload 7, 2), (102, .iload 4, 2), (104, .if_icmp .le 7, 3), (107, .iconst 1, 1), (108, .goto 4, 3), (111, .iconst 0, 1), (112, .istore 8, 2), (114, .iload 8, 2), (116, .ifCond .eq 14, 3), (119, .bipush 10, 2), (121, .iload 5, 2), (123, .imul, 1), (124, .iload 6, 2), (126, .iadd, 1), (127, .goto 4, 3), (130, .iload_n 3, 1), (131, .istore_n 3, 1), (132, .iload 8, 2), (134, .ifCond .eq 8, 3), (137, .iload 7, 2), (139, .goto 5, 3), (142, .iload 4, 2), (144, .istore 4, 2), (146, .iinc 6 1, 3), (149, .goto (-86), 3), (152, .iinc 5 1, 3), (155, .goto (-116), 3), (158, .iload_n 3, 1), (159, .ireturn, 1)]
def mX9_best : mj_M := (yX9_best, cX9_best, 9, (some .int), { frames := 8, cells := 0, slots := 0, locals := 202 }, tX9_best)
set_option maxRecDepth 100000 in
theorem tok_X9_best : ∀ q ∈ mX9_best.2.2.2.2.2, decode mX9_best.2.1 q.1 = .ok q.2 := by decide +kernel
def tX9_sifts : List (Nat × Instr × Nat) := [(0, .iload 4, 2), (2, .istore 5, 2), (4, .iconst 0, 1), (5, .istore 6, 2), (7, .iload_n 3, 1), (8, .iconst 1, 1), (9, .isub, 1), (10, .istore 7, 2), (12, .iload 7, 2), (14, .ifCond .lt 41, 3), (17, .aload_n 0, 1), (18, .getfield 46, 3), (21, .iload 7, 2), (23, .iload 5, 2), (25, .iconst 3, 1), (26, .irem, 1), (27, .iastore, 1), (28, .iload 5, 2), (30, .iconst 3, 1), (31, .idiv, 1), (32, .istore 5, 2), (34, .iload 6, 2), (36, .aload_n 0, 1), (37, .getfield 46, 3), (40, .iload 7, 2), (42, .iaload, 1), (43, .invokestatic 185, 3), (46, .iadd, 1), (47, .istore 6, 2), (49, .iinc 7 (-1), 3), (52, .goto (-40), 3), (55, .aload_n 0, 1), (56, .invokevirtual 234, 3), (59, .iconst 0, 1), (60, .istore 7, 2), (62, .iload 7, 2), (64, .iload_n 3, 1), (65, .if_icmp .ge 25, 3), (68, .aload_n 0, 1), (69, .getfield 43, 3), (72, .iload_n 1, 1), (73, .aload_n 0, 1), (74, .getfield 46, 3), (77, .iload 7, 2), (79, .iaload, 1), (80, .iconst 1, 1), (81, .invokestatic 197, 3), (84, .iinc 7 1, 3), (87, .goto (-25), 3), (90, .iload 6, 2), (92, .aload_n 0, 1), (93, .getfield 7, 3), (96, .iconst 1, 1), (97, .iaload, 1), (98, .if_icmp .gt 19, 3), (101, .aload_n 0, 1), (102, .getfield 43, 3), (105, .iload_n 1, 1), (106, .invokestatic 200, 3), (109, .iload_n 2, 1), (110, .if_icmp .lt 7, 3), (113, .iconst 1, 1), (114, .goto 4, 3), (117, .iconst 0, 1), (118, .ireturn, 1)]
def mX9_sifts : mj_M := (yX9_sifts, cX9_sifts, 8, (some .boolean), { frames := 4, cells := 0, slots := 0, locals := 93 }, tX9_sifts)
set_option maxRecDepth 100000 in
theorem tok_X9_sifts : ∀ q ∈ mX9_sifts.2.2.2.2.2, decode mX9_sifts.2.1 q.1 = .ok q.2 := by decide +kernel
def tX9_sift : List (Nat × Instr × Nat) := [(0, .aload_n 0, 1), (1, .iload_n 1, 1), (2, .invokevirtual 63, 3), (5, .ifCond .eq 20, 3), (8, .iload_n 2, 1), (9, .i2l, 1), (10, .lconst 0, 1), (11, .ldc2_w 161, 3), (14, .invokestatic 53, 3), (17, .ifCond .eq 8, 3), (20, .iload_n 3, 1), (21, .iconst (-1), 1), (22, .if_icmp .ge 10, 3), (25, .aload_n 0, 1), (26, .bipush (-10), 2), (28, .invokevirtual 75, 3), (31, .ireturn, 1), (32, .iconst 1, 1), (33, .istore 4, 2), (35, .iconst 0, 1), (36, .istore 5, 2), (38, .iload 5, 2), (40, .iconst 4, 1), (41, .if_icmp .ge 72, 3), (44, .iconst 0, 1), (45, .istore 6, 2), (47, .iload 6, 2), (49, .iload 4, 2), (51, .if_icmp .ge 50, 3), (54, .aload_n 0, 1), (55, .iload_n 1, 1), (56, .iload_n 2, 1), (57, .iload 5, 2), (59, .iload 6, 2), (61, .invokevirtual 247, 3), (64, .ifCond .eq 31, 3), (67, .iload_n 3, 1), (68, .iconst (-1), 1), (69, .if_icmp .ne 8, 3), (72, .iload 5, 2), (74, .goto 20, 3), (77, .iload_n 3, 1), (78, .iload 5, 2), (80, .if_icmp .ge 12, 3), (83, .aload_n 0, 1), (84, .getfield 46, 3), (87, .iload_n 3, 1), (88, .iaload, 1), (89, .goto 5, 3), (92, .bipush (-5), 2), (94, .ireturn, 1), (95, .iinc 6 1, 3), (98, .goto (-51), 3), (101, .iload 4, 2), (103, .iconst 3, 1), (104, .imul, 1), (105, .istore 4, 2), (107, .iinc 5 1, 3), (110, .goto (-72), 3), (113, .iconst (-1), 1), (114, .ireturn, 1)]
def mX9_sift : mj_M := (yX9_sift, cX9_sift, 7, (some .int), { frames := 5, cells := 0, slots := 0, locals := 120 }, tX9_sift)
set_option maxRecDepth 100000 in
theorem tok_X9_sift : ∀ q ∈ mX9_sift.2.2.2.2.2, decode mX9_sift.2.1 q.1 = .ok q.2 := by decide +kernel
def tX9_runs : List (Nat × Instr × Nat) := [(0, .aload_n 0, 1), (1, .iload_n 1, 1), (2, .invokevirtual 63, 3), (5, .ifCond .ne 10, 3), (8, .aload_n 0, 1), (9, .bipush (-2), 2), (11, .invokevirtual 75, 3), (14, .ireturn, 1), (15, .aload_n 0, 1), (16, .invokevirtual 234, 3), (19, .iconst 0, 1), (20, .istore_n 2, 1), (21, .iload_n 1, 1), (22, .istore_n 3, 1), (23, .iload_n 3, 1), (24, .aload_n 0, 1), (25, .getfield 43, 3), (28, .iconst 0, 1), (29, .iaload, 1), (30, .if_icmp .ge 42, 3), (33, .iload_n 2, 1), (34, .aload_n 0, 1), (35, .getfield 43, 3), (38, .iconst 2, 1), (39, .iaload, 1), (40, .iload_n 3, 1), (41, .invokestatic 69, 3), (44, .ifCond .eq 9, 3), (47, .iconst 1, 1), (48, .iload_n 3, 1), (49, .ishl, 1), (50, .goto 4, 3), (53, .iconst 0, 1), (54, .ior, 1), (55, .istore_n 2, 1), (56, .aload_n 0, 1), (57, .getfield 43, 3), (60, .iload_n 3, 1), (61, .iconst 0, 1), (62, .iconst 1, 1), (63, .invokestatic 197, 3), (66, .iinc 3 1, 3), (69, .goto (-46), 3), (72, .iload_n 2, 1), (73, .ireturn, 1)]
def mX9_runs : mj_M := (yX9_runs, cX9_runs, 4, (some .int), { frames := 3, cells := 0, slots := 0, locals := 77 }, tX9_runs)
set_option maxRecDepth 100000 in
theorem tok_X9_runs : ∀ q ∈ mX9_runs.2.2.2.2.2, decode mX9_runs.2.1 q.1 = .ok q.2 := by decide +kernel
def tX9_areWell : List (Nat × Instr × Nat) := [(0, .iconst 1, 1), (1, .istore_n 3, 1), (2, .iconst 0, 1), (3, .istore 4, 2), (5, .iload 4, 2), (7, .aload_n 0, 1), (8, .getfield 7, 3), (11, .iconst 0, 1), (12, .iaload, 1), (13, .if_icmp .ge 106, 3), (16, .iconst 0, 1), (17, .istore 5, 2), (19, .iload 5, 2), (21, .iload 4, 2), (23, .if_icmp .ge 90, 3), (26, .iload_n 1, 1), (27, .iload 4, 2), (29, .invokestatic 69, 3), (32, .ifCond .eq 34, 3), (35, .iload_n 1, 1), (36, .iload 5, 2), (38, .invokestatic 69, 3), (41, .ifCond .eq 25, 3), (44, .aload_n 0, 1), (45, .getfield 7, 3), (48, .bipush 10, 2), (50, .iload 4, 2), (52, .iadd, 1), (53, .iaload, 1), (54, .iload 5, 2), (56, .invokestatic 69, 3), (59, .ifCond .eq 7, 3), (62, .iconst 1, 1), (63, .goto 4, 3), (66, .iconst 0, 1), (67, .istore 6, 2), (69, .iload_n 3, 1), (70, .ifCond .eq 35, 3), (73, .iload 6, 2), (75, .ifCond .eq 26, 3), (78, .aload_n 0, 1), (79, .getfield 7, 3), (82, .iload 4, 2), (84, .invokestatic 200, 3), (87, .aload_n 0, 1), (88, .getfield 7, 3), (91, .iload 5, 2), (93, .invokestatic 200, 3), (96, .iadd, 1), (97, .iload_n 2, 1), (98, .if_icmp .lt 7, 3), (101, .iconst 1, 1), (102, .goto 4, 3), (105, .iconst 0, 1), (106, .istore_n 3, 1), (107, .iinc 5 1, 3), (110, .goto (-91), 3), (113, .iinc 4 1, 3), (116, .goto (-111), 3), (119, .iload_n 3, 1), (120, .ireturn, 1)]
def mX9_areWell : mj_M := (yX9_areWell, cX9_areWell, 7, (some .boolean), { frames := 4, cells := 0, slots := 0, locals := 93 }, tX9_areWell)
set_option maxRecDepth 100000 in
theorem tok_X9_areWell : ∀ q ∈ mX9_areWell.2.2.2.2.2, decode mX9_areWell.2.1 q.1 = .ok q.2 := by decide +kernel
def tX9_home : List (Nat × Instr × Nat) := [(0, .iload_n 1, 1), (1, .i2l, 1), (2, .lconst 0, 1), (3, .ldc2_w 251, 3), (6, .invokestatic 53, 3), (9, .ifCond .ne 10, 3), (12, .aload_n 0, 1), (13, .bipush (-2), 2), (15, .invokevirtual 75, 3), (18, .ireturn, 1), (19, .iconst 1, 1), (20, .aload_n 0, 1), (21, .getfield 7, 3), (24, .iconst 0, 1), (25, .iaload, 1), (26, .ishl, 1), (27, .iconst 1, 1), (28, .isub, 1), (29, .istore_n 2, 1), (30, .iload_n 2, 1), (31, .istore_n 3, 1), (32, .iconst 0, 1), (33, .istore 4, 2), (35, .iload 4, 2), (37, .iload_n 2, 1), (38, .if_icmp .gt 42, 3), (41, .iload 4, 2), (43, .invokestatic 219, 3), (46, .iload_n 3, 1), (47, .invokestatic 219, 3), (50, .if_icmp .ge 22, 3), (53, .aload_n 0, 1), (54, .iload_n 2, 1), (55, .iload 4, 2), (57, .iconst (-1), 1), (58, .ixor, 1), (59, .iand, 1), (60, .iload_n 1, 1), (61, .invokevirtual 253, 3), (64, .ifCond .eq 8, 3), (67, .iload 4, 2), (69, .goto 4, 3), (72, .iload_n 3, 1), (73, .istore_n 3, 1), (74, .iinc 4 1, 3), (77, .goto (-42), 3), (80, .iload_n 3, 1), (81, .ireturn, 1)]
def mX9_home : mj_M := (yX9_home, cX9_home, 5, (some .int), { frames := 5, cells := 0, slots := 0, locals := 119 }, tX9_home)
set_option maxRecDepth 100000 in
theorem tok_X9_home : ∀ q ∈ mX9_home.2.2.2.2.2, decode mX9_home.2.1 q.1 = .ok q.2 := by decide +kernel
def tX9_spy : List (Nat × Instr × Nat) := [(0, .aload_n 0, 1), (1, .iload_n 1, 1), (2, .invokevirtual 63, 3), (5, .ifCond .ne 10, 3), (8, .aload_n 0, 1), (9, .bipush (-2), 2), (11, .invokevirtual 75, 3), (14, .ireturn, 1), (15, .aload_n 0, 1), (16, .invokevirtual 234, 3), (19, .aload_n 0, 1), (20, .getfield 43, 3), (23, .bipush 16, 2), (25, .bipush 6, 2), (27, .iload_n 1, 1), (28, .imul, 1), (29, .iadd, 1), (30, .iconst 5, 1), (31, .iadd, 1), (32, .iconst 0, 1), (33, .iastore, 1), (34, .aload_n 0, 1), (35, .getfield 43, 3), (38, .iload_n 1, 1), (39, .invokestatic 169, 3), (42, .lconst 0, 1), (43, .lcmp, 1), (44, .ifCond .ne 8, 3), (47, .bipush 60, 2), (49, .goto 11, 3), (52, .aload_n 0, 1), (53, .getfield 43, 3), (56, .iload_n 1, 1), (57, .invokestatic 200, 3), (60, .istore_n 2, 1), (61, .iload_n 2, 1), (62, .aload_n 0, 1), (63, .getfield 7, 3), (66, .iload_n 1, 1), (67, .invokestatic 200, 3), (70, .isub, 1), (71, .ireturn, 1)]
def mX9_spy : mj_M := (yX9_spy, cX9_spy, 3, (some .int), { frames := 4, cells := 0, slots := 0, locals := 93 }, tX9_spy)
set_option maxRecDepth 100000 in
theorem tok_X9_spy : ∀ q ∈ mX9_spy.2.2.2.2.2, decode mX9_spy.2.1 q.1 = .ok q.2 := by decide +kernel
def tX9_wearing : List (Nat × Instr × Nat) := [(0, .iconst 0, 1), (1, .istore_n 3, 1), (2, .iconst 0, 1), (3, .istore 4, 2), (5, .iload 4, 2), (7, .aload_n 0, 1), (8, .getfield 7, 3), (11, .iconst 0, 1), (12, .iaload, 1), (13, .if_icmp .ge 51, 3), (16, .aload_n 0, 1), (17, .getfield 7, 3), (20, .iconst 4, 1), (21, .iload 4, 2), (23, .iadd, 1), (24, .iaload, 1), (25, .iload_n 1, 1), (26, .iand, 1), (27, .istore 5, 2), (29, .iload_n 3, 1), (30, .iload_n 2, 1), (31, .ifCond .eq 12, 3), (34, .iload 5, 2), (36, .iload_n 1, 1), (37, .if_icmp .ne 18, 3), (40, .goto 8, 3), (43, .iload 5, 2), (45, .ifCond .eq 10, 3), (48, .iconst 1, 1), (49, .iload 4, 2), (51, .ishl, 1), (52, .goto 4, 3), (55, .iconst 0, 1), (56, .ior, 1), (57, .istore_n 3, 1), (58, .iinc 4 1, 3), (61, .goto (-56), 3), (64, .iload_n 3, 1), (65, .ireturn, 1)]
def mX9_wearing : mj_M := (yX9_wearing, cX9_wearing, 6, (some .int), { frames := 0, cells := 0, slots := 0, locals := 0 }, tX9_wearing)
set_option maxRecDepth 100000 in
theorem tok_X9_wearing : ∀ q ∈ mX9_wearing.2.2.2.2.2, decode mX9_wearing.2.1 q.1 = .ok q.2 := by decide +kernel
def tX9_looks : List (Nat × Instr × Nat) := [(0, .aload_n 0, 1), (1, .iload_n 1, 1), (2, .invokevirtual 214, 3), (5, .ifCond .eq 10, 3), (8, .iload_n 3, 1), (9, .invokestatic 256, 3), (12, .ifCond .ne 10, 3), (15, .aload_n 0, 1), (16, .bipush (-10), 2), (18, .invokevirtual 75, 3), (21, .ireturn, 1), (22, .iconst 0, 1), (23, .istore 4, 2), (25, .bipush 31, 2), (27, .istore 5, 2), (29, .iconst 0, 1), (30, .istore 6, 2), (32, .iload 6, 2), (34, .bipush 32, 2), (36, .if_icmp .ge 59, 3), (39, .aload_n 0, 1), (40, .iload 6, 2), (42, .iload_n 2, 1), (43, .invokevirtual 259, 3), (46, .iload_n 1, 1), (47, .if_icmp .ne 7, 3), (50, .iconst 1, 1), (51, .goto 4, 3), (54, .iconst 0, 1), (55, .istore 7, 2), (57, .iload 4, 2), (59, .iload 7, 2), (61, .ifCond .eq 7, 3), (64, .iconst 1, 1), (65, .goto 4, 3), (68, .iconst 0, 1), (69, .iadd, 1), (70, .istore 4, 2), (72, .iload 5, 2), (74, .iload 7, 2), (76, .ifCond .eq 8, 3), (79, .iload 6, 2), (81, .goto 5, 3), (84, .bipush 31, 2), (86, .iand, 1), (87, .istore 5, 2), (89, .iinc 6 1, 3), (92, .goto (-60), 3), (95, .iload_n 3, 1), (96, .ifCond .ne 8, 3), (99, .iload 4, 2), (101, .goto 14, 3), (104, .iload 4, 2), (106, .ifCond .ne 7, 3), (109, .iconst (-1), 1), (110, .goto 5, 3), (113, .iload 5, 2), (115, .ireturn, 1)]
def mX9_looks : mj_M := (yX9_looks, cX9_looks, 8, (some .int), { frames := 2, cells := 0, slots := 0, locals := 46 }, tX9_looks)
set_option maxRecDepth 100000 in
theorem tok_X9_looks : ∀ q ∈ mX9_looks.2.2.2.2.2, decode mX9_looks.2.1 q.1 = .ok q.2 := by decide +kernel
def tX9_next : List (Nat × Instr × Nat) := [(0, .aload_n 0, 1), (1, .iload_n 1, 1), (2, .invokevirtual 214, 3), (5, .ifCond .ne 10, 3), (8, .aload_n 0, 1), (9, .bipush (-10), 2), (11, .invokevirtual 75, 3), (14, .ireturn, 1), (15, .iconst 0, 1), (16, .istore_n 2, 1), (17, .iload_n 2, 1), (18, .aload_n 0, 1), (19, .getfield 7, 3), (22, .iconst 0, 1), (23, .iaload, 1), (24, .if_icmp .ge 121, 3), (27, .iconst 0, 1), (28, .istore_n 3, 1), (29, .iconst 0, 1), (30, .istore 4, 2), (32, .iconst 0, 1), (33, .istore 5, 2), (35, .iload 5, 2), (37, .bipush 32, 2), (39, .if_icmp .ge 89, 3), (42, .aload_n 0, 1), (43, .iload 5, 2), (45, .iconst 1, 1), (46, .invokevirtual 259, 3), (49, .istore 6, 2), (51, .iload 6, 2), (53, .iconst 1, 1), (54, .iload_n 2, 1), (55, .ishl, 1), (56, .ior, 1), (57, .iload_n 1, 1), (58, .iconst 1, 1), (59, .iload_n 2, 1), (60, .ishl, 1), (61, .ior, 1), (62, .if_icmp .ne 7, 3), (65, .iconst 1, 1), (66, .goto 4, 3), (69, .iconst 0, 1), (70, .istore 7, 2), (72, .iload_n 3, 1), (73, .ifCond .ne 17, 3), (76, .iload 7, 2), (78, .ifCond .eq 16, 3), (81, .iload 6, 2), (83, .iload_n 2, 1), (84, .invokestatic 69, 3), (87, .ifCond .eq 7, 3), (90, .iconst 1, 1), (91, .goto 4, 3), (94, .iconst 0, 1), (95, .istore_n 3, 1), (96, .iload 4, 2), (98, .ifCond .ne 17, 3), (101, .iload 7, 2), (103, .ifCond .eq 16, 3), (106, .iload 6, 2), (108, .iload_n 2, 1), (109, .invokestatic 69, 3), (112, .ifCond .ne 7, 3), (115, .iconst 1, 1), (116, .goto 4, 3), (119, .iconst 0, 1), (120, .istore 4, 2), (122, .iinc 5 1, 3), (125, .goto (-90), 3), (128, .iload_n 3, 1), (129, .ifCond .eq 10, 3), (132, .iload 4, 2), (134, .ifCond .eq 5, 3), (137, .iload_n 2, 1), (138, .ireturn, 1), (139, .iinc 2 1, 3), (142, .goto (-125), 3), (145, .iconst (-1), 1), (146, .ireturn, 1)]
def mX9_next : mj_M := (yX9_next, cX9_next, 8, (some .int), { frames := 2, cells := 0, slots := 0, locals := 46 }, tX9_next)
set_option maxRecDepth 100000 in
theorem tok_X9_next : ∀ q ∈ mX9_next.2.2.2.2.2, decode mX9_next.2.1 q.1 = .ok q.2 := by decide +kernel
def tX9_gets : List (Nat × Instr × Nat) := [(0, .aload_n 0, 1), (1, .getfield 7, 3), (4, .iload_n 1, 1), (5, .invokestatic 200, 3), (8, .istore 4, 2), (10, .iload_n 2, 1), (11, .iconst 1, 1), (12, .if_icmp .ne 22, 3), (15, .iload_n 3, 1), (16, .iconst 1, 1), (17, .if_icmp .ne 13, 3), (20, .iconst 2, 1), (21, .iload 4, 2), (23, .bipush 30, 2), (25, .idiv, 1), (26, .isub, 1), (27, .goto 19, 3), (30, .iconst 4, 1), (31, .goto 15, 3), (34, .iload 4, 2), (36, .bipush 20, 2), (38, .if_icmp .ge 7, 3), (41, .iconst 3, 1), (42, .goto 4, 3), (45, .iconst 1, 1), (46, .ireturn, 1)]
def mX9_gets : mj_M := (yX9_gets, cX9_gets, 5, (some .int), { frames := 4, cells := 0, slots := 0, locals := 93 }, tX9_gets)
set_option maxRecDepth 100000 in
theorem tok_X9_gets : ∀ q ∈ mX9_gets.2.2.2.2.2, decode mX9_gets.2.1 q.1 = .ok q.2 := by decide +kernel
def tX9_boast : List (Nat × Instr × Nat) := [(0, .aload_n 0, 1), (1, .iload_n 1, 1), (2, .invokevirtual 63, 3), (5, .ifCond .eq 23, 3), (8, .aload_n 0, 1), (9, .iload_n 2, 1), (10, .invokevirtual 63, 3), (13, .ifCond .eq 15, 3), (16, .iload_n 1, 1), (17, .iload_n 2, 1), (18, .if_icmp .eq 10, 3), (21, .iload_n 3, 1), (22, .invokestatic 256, 3), (25, .ifCond .ne 10, 3), (28, .aload_n 0, 1), (29, .bipush (-2), 2), (31, .invokevirtual 75, 3), (34, .ireturn, 1), (35, .aload_n 0, 1), (36, .getfield 7, 3), (39, .iconst 2, 1), (40, .iaload, 1), (41, .iload_n 1, 1), (42, .invokestatic 69, 3), (45, .ifCond .eq 16, 3), (48, .aload_n 0, 1), (49, .getfield 7, 3), (52, .iconst 2, 1), (53, .iaload, 1), (54, .iload_n 2, 1), (55, .invokestatic 69, 3), (58, .ifCond .ne 10, 3), (61, .aload_n 0, 1), (62, .bipush (-3), 2), (64, .invokevirtual 191, 3), (67, .ireturn, 1), (68, .iconst 0, 1), (69, .istore 4, 2), (71, .iconst (-1), 1), (72, .istore 5, 2), (74, .iconst 3, 1), (75, .istore 6, 2), (77, .iload 6, 2), (79, .ifCond .lt 109, 3), (82, .iload 6, 2), (84, .iconst 2, 1), (85, .idiv, 1), (86, .istore 7, 2), (88, .iload 6, 2), (90, .iconst 2, 1), (91, .irem, 1), (92, .istore 8, 2), (94, .aload_n 0, 1), (95, .iload_n 1, 1), (96, .iload 7, 2), (98, .iload 8, 2), (100, .invokevirtual 263, 3), (103, .aload_n 0, 1), (104, .iload_n 1, 1), (105, .iconst 1, 1), (106, .iload 7, 2), (108, .isub, 1), (109, .iload 8, 2), (111, .invokevirtual 263, 3), (114, .if_icmp .lt 30, 3), (117, .aload_n 0, 1), (118, .iload_n 2, 1), (119, .iload 8, 2), (121, .iload 7, 2), (123, .invokevirtual 263, 3), (126, .aload_n 0, 1), (127, .iload_n 2, 1), (128, .iconst 1, 1), (129, .iload 8, 2), (131, .isub, 1), (132, .iload 7, 2), (134, .invokevirtual 263, 3), (137, .if_icmp .lt 7, 3), (140, .iconst 1, 1), (141, .goto 4, 3), (144, .iconst 0, 1), (145, .istore 9, 2), (147, .iload 4, 2), (149, .iload 9, 2), (151, .ifCond .eq 7, 3), (154, .iconst 1, 1), (155, .goto 4, 3), (158, .iconst 0, 1), (159, .iadd, 1), (160, .istore 4, 2), (162, .iload 9, 2), (164, .ifCond .eq 14, 3), (167, .bipush 10, 2), (169, .iload 7, 2), (171, .imul, 1), (172, .iload 8, 2), (174, .iadd, 1), (175, .goto 5, 3), (178, .iload 5, 2), (180, .istore 5, 2), (182, .iinc 6 (-1), 3), (185, .goto (-108), 3), (188, .iload_n 3, 1), (189, .ifCond .ne 8, 3), (192, .iload 4, 2), (194, .goto 5, 3), (197, .iload 5, 2), (199, .ireturn, 1)]
def mX9_boast : mj_M := (yX9_boast, cX9_boast, 10, (some .int), { frames := 5, cells := 0, slots := 0, locals := 117 }, tX9_boast)
set_option maxRecDepth 100000 in
theorem tok_X9_boast : ∀ q ∈ mX9_boast.2.2.2.2.2, decode mX9_boast.2.1 q.1 = .ok q.2 := by decide +kernel
def tX9_again : List (Nat × Instr × Nat) := [(0, .aload_n 0, 1), (1, .iload_n 1, 1), (2, .invokevirtual 63, 3), (5, .ifCond .ne 10, 3), (8, .aload_n 0, 1), (9, .bipush (-2), 2), (11, .invokevirtual 75, 3), (14, .ireturn, 1), (15, .aload_n 0, 1), (16, .invokevirtual 234, 3), (19, .aload_n 0, 1), (20, .getfield 43, 3), (23, .iload_n 1, 1), (24, .iconst 0, 1), (25, .iconst 1, 1), (26, .invokestatic 181, 3), (29, .aload_n 0, 1), (30, .getfield 43, 3), (33, .iload_n 1, 1), (34, .iconst 0, 1), (35, .iconst 1, 1), (36, .invokestatic 173, 3), (39, .ireturn, 1)]
def mX9_again : mj_M := (yX9_again, cX9_again, 2, (some .int), { frames := 3, cells := 0, slots := 0, locals := 72 }, tX9_again)
set_option maxRecDepth 100000 in
theorem tok_X9_again : ∀ q ∈ mX9_again.2.2.2.2.2, decode mX9_again.2.1 q.1 = .ok q.2 := by decide +kernel
def tX9_drawn : List (Nat × Instr × Nat) := [(0, .aload_n 0, 1), (1, .iload_n 1, 1), (2, .invokevirtual 214, 3), (5, .ifCond .eq 27, 3), (8, .iload_n 2, 1), (9, .i2l, 1), (10, .lconst 0, 1), (11, .ldc2_w 267, 3), (14, .invokestatic 53, 3), (17, .ifCond .eq 15, 3), (20, .iload_n 3, 1), (21, .i2l, 1), (22, .lconst 0, 1), (23, .ldc2_w 269, 3), (26, .invokestatic 53, 3), (29, .ifCond .ne 10, 3), (32, .aload_n 0, 1), (33, .bipush (-2), 2), (35, .invokevirtual 75, 3), (38, .ireturn, 1), (39, .iload_n 3, 1), (40, .i2l, 1), (41, .lstore 4, 2), (43, .iconst 0, 1), (44, .istore 6, 2), (46, .iconst 0, 1), (47, .istore 7, 2), (49, .iload 7, 2), (51, .iload_n 2, 1), (52, .if_icmp .ge 88, 3), (55, .iconst 0, 1), (56, .istore 8, 2), (58, .iload 8, 2), (60, .aload_n 0, 1), (61, .getfield 7, 3), (64, .iconst 0, 1), (65, .iaload, 1), (66, .if_icmp .ge 68, 3), (69, .iload_n 1, 1), (70, .iload 8, 2), (72, .invokestatic 69, 3), (75, .ifCond .eq 53, 3), (78, .lload 4, 2), (80, .ldc2_w 271, 3), (83, .lmul, 1), (84, .ldc2_w 273, 3), (87, .ladd, 1), (88, .ldc2_w 275, 3), (91, .lrem, 1), (92, .lstore 4, 2), (94, .iload 6, 2), (96, .lload 4, 2), (98, .ldc2_w 277, 3), (101, .ldiv, 1), (102, .ldc2_w 161, 3), (105, .lrem, 1), (106, .aload_n 0, 1), (107, .getfield 7, 3), (110, .iload 8, 2), (112, .invokestatic 200, 3), (115, .i2l, 1), (116, .lcmp, 1), (117, .ifCond .ge 7, 3), (120, .iconst 1, 1), (121, .goto 4, 3), (124, .iconst 0, 1), (125, .iadd, 1), (126, .istore 6, 2), (128, .iinc 8 1, 3), (131, .goto (-73), 3), (134, .iinc 7 1, 3), (137, .goto (-88), 3), (140, .iload 6, 2), (142, .ireturn, 1)]
def mX9_drawn : mj_M := (yX9_drawn, cX9_drawn, 9, (some .int), { frames := 4, cells := 0, slots := 0, locals := 93 }, tX9_drawn)
set_option maxRecDepth 100000 in
theorem tok_X9_drawn : ∀ q ∈ mX9_drawn.2.2.2.2.2, decode mX9_drawn.2.1 q.1 = .ok q.2 := by decide +kernel
def tX9_part : List (Nat × Instr × Nat) := [(0, .iload_n 1, 1), (1, .ifCond .ne 10, 3), (4, .aload_n 0, 1), (5, .getfield 211, 3), (8, .goto 22, 3), (11, .iload_n 1, 1), (12, .iconst 1, 1), (13, .if_icmp .ne 10, 3), (16, .aload_n 0, 1), (17, .getfield 23, 3), (20, .goto 10, 3), (23, .aload_n 0, 1), (24, .bipush (-2), 2), (26, .invokevirtual 75, 3), (29, .i2l, 1), (30, .lreturn, 1)]
def mX9_part : mj_M := (yX9_part, cX9_part, 2, (some .long), { frames := 1, cells := 0, slots := 0, locals := 21 }, tX9_part)
set_option maxRecDepth 100000 in
theorem tok_X9_part : ∀ q ∈ mX9_part.2.2.2.2.2, decode mX9_part.2.1 q.1 = .ok q.2 := by decide +kernel
def tX9_image : List (Nat × Instr × Nat) := [(0, .iload_n 1, 1), (1, .invokestatic 256, 3), (4, .ifCond .ne 10, 3), (7, .aload_n 0, 1), (8, .bipush (-2), 2), (10, .invokevirtual 75, 3), (13, .ireturn, 1), (14, .aload_n 0, 1), (15, .getfield 7, 3), (18, .iconst 0, 1), (19, .aload_n 0, 1), (20, .getfield 13, 3), (23, .sipush 356, 3), (26, .iload_n 1, 1), (27, .imul, 1), (28, .sipush 356, 3), (31, .invokestatic 59, 3), (34, .aload_n 0, 1), (35, .getfield 16, 3), (38, .iload_n 1, 1), (39, .iconst 1, 1), (40, .bastore, 1), (41, .iconst 1, 1), (42, .ireturn, 1)]
def mX9_image : mj_M := (yX9_image, cX9_image, 2, (some .int), { frames := 2, cells := 0, slots := 0, locals := 45 }, tX9_image)
set_option maxRecDepth 100000 in
theorem tok_X9_image : ∀ q ∈ mX9_image.2.2.2.2.2, decode mX9_image.2.1 q.1 = .ok q.2 := by decide +kernel
def tX9_from : List (Nat × Instr × Nat) := [(0, .iload_n 1, 1), (1, .invokestatic 256, 3), (4, .ifCond .ne 10, 3), (7, .aload_n 0, 1), (8, .bipush (-2), 2), (10, .invokevirtual 75, 3), (13, .ireturn, 1), (14, .aload_n 0, 1), (15, .getfield 16, 3), (18, .iload_n 1, 1), (19, .baload, 1), (20, .ifCond .ne 10, 3), (23, .aload_n 0, 1), (24, .bipush (-3), 2), (26, .invokevirtual 191, 3), (29, .ireturn, 1), (30, .aload_n 0, 1), (31, .getfield 13, 3), (34, .sipush 356, 3), (37, .iload_n 1, 1), (38, .imul, 1), (39, .aload_n 0, 1), (40, .getfield 7, 3), (43, .iconst 0, 1), (44, .sipush 356, 3), (47, .invokestatic 59, 3), (50, .iconst 1, 1), (51, .ireturn, 1)]
def mX9_from : mj_M := (yX9_from, cX9_from, 2, (some .int), { frames := 2, cells := 0, slots := 0, locals := 45 }, tX9_from)
set_option maxRecDepth 100000 in
theorem tok_X9_from : ∀ q ∈ mX9_from.2.2.2.2.2, decode mX9_from.2.1 q.1 = .ok q.2 := by decide +kernel
def tX9_status : List (Nat × Instr × Nat) := [(0, .iload_n 1, 1), (1, .i2l, 1), (2, .lconst 0, 1), (3, .ldc2_w 155, 3), (6, .invokestatic 53, 3), (9, .ifCond .eq 12, 3), (12, .aload_n 0, 1), (13, .getfield 27, 3), (16, .iload_n 1, 1), (17, .iaload, 1), (18, .goto 8, 3), (21, .aload_n 0, 1), (22, .iconst (-1), 1), (23, .invokevirtual 75, 3), (26, .ireturn, 1)]
def mX9_status : mj_M := (yX9_status, cX9_status, 2, (some .int), { frames := 1, cells := 0, slots := 0, locals := 25 }, tX9_status)
set_option maxRecDepth 100000 in
theorem tok_X9_status : ∀ q ∈ mX9_status.2.2.2.2.2, decode mX9_status.2.1 q.1 = .ok q.2 := by decide +kernel
def tX9_counted : List (Nat × Instr × Nat) := [(0, .iconst 0, 1), (1, .istore_n 2, 1), (2, .iconst 0, 1), (3, .istore_n 3, 1), (4, .iload_n 3, 1), (5, .aload_n 0, 1), (6, .getfield 7, 3), (9, .iconst 0, 1), (10, .iaload, 1), (11, .if_icmp .ge 29, 3), (14, .iload_n 1, 1), (15, .iconst 2, 1), (16, .if_icmp .ne 24, 3), (19, .iload_n 2, 1), (20, .aload_n 0, 1), (21, .getfield 7, 3), (24, .bipush 10, 2), (26, .iload_n 3, 1), (27, .iadd, 1), (28, .iaload, 1), (29, .invokestatic 219, 3), (32, .iadd, 1), (33, .istore_n 2, 1), (34, .iinc 3 1, 3), (37, .goto (-33), 3), (40, .iload_n 1, 1), (41, .tableswitch 70 0 4 #[35, 42, 49, 53, 63], 35), (76, .aload_n 0, 1), (77, .getfield 7, 3), (80, .iconst 0, 1), (81, .iaload, 1), (82, .ireturn, 1), (83, .aload_n 0, 1), (84, .getfield 7, 3), (87, .iconst 1, 1), (88, .iaload, 1), (89, .ireturn, 1), (90, .iload_n 2, 1), (91, .iconst 2, 1), (92, .idiv, 1), (93, .ireturn, 1), (94, .aload_n 0, 1), (95, .getfield 7, 3), (98, .iconst 2, 1), (99, .iaload, 1), (100, .invokestatic 219, 3), (103, .ireturn, 1), (104, .aload_n 0, 1), (105, .getfield 7, 3), (108, .iconst 3, 1), (109, .iaload, 1), (110, .ireturn, 1), (111, .aload_n 0, 1), (112, .getfield 98, 3), (115, .ireturn, 1)]
def mX9_counted : mj_M := (yX9_counted, cX9_counted, 4, (some .int), { frames := 1, cells := 0, slots := 0, locals := 22 }, tX9_counted)
set_option maxRecDepth 100000 in
theorem tok_X9_counted : ∀ q ∈ mX9_counted.2.2.2.2.2, decode mX9_counted.2.1 q.1 = .ok q.2 := by decide +kernel
def tX9_count : List (Nat × Instr × Nat) := [(0, .iload_n 1, 1), (1, .i2l, 1), (2, .lconst 0, 1), (3, .ldc2_w 204, 3), (6, .invokestatic 53, 3), (9, .ifCond .eq 11, 3), (12, .aload_n 0, 1), (13, .iload_n 1, 1), (14, .invokevirtual 279, 3), (17, .goto 9, 3), (20, .aload_n 0, 1), (21, .bipush (-2), 2), (23, .invokevirtual 75, 3), (26, .ireturn, 1)]
def mX9_count : mj_M := (yX9_count, cX9_count, 2, (some .int), { frames := 2, cells := 0, slots := 0, locals := 45 }, tX9_count)
set_option maxRecDepth 100000 in
theorem tok_X9_count : ∀ q ∈ mX9_count.2.2.2.2.2, decode mX9_count.2.1 q.1 = .ok q.2 := by decide +kernel
def tX9_digest : List (Nat × Instr × Nat) := [(0, .ldc2_w 282, 3), (3, .lstore_n 1, 1), (4, .iconst 0, 1), (5, .istore_n 3, 1), (6, .iload_n 3, 1), (7, .bipush 6, 2), (9, .if_icmp .ge 22, 3), (12, .ldc2_w 67, 3), (15, .lload_n 1, 1), (16, .lmul, 1), (17, .aload_n 0, 1), (18, .iload_n 3, 1), (19, .invokevirtual 279, 3), (22, .i2l, 1), (23, .ladd, 1), (24, .lstore_n 1, 1), (25, .iinc 3 1, 3), (28, .goto (-22), 3), (31, .iconst 0, 1), (32, .istore_n 3, 1), (33, .iload_n 3, 1), (34, .aload_n 0, 1), (35, .getfield 7, 3), (38, .iconst 0, 1), (39, .iaload, 1), (40, .if_icmp .ge 95, 3), (43, .iconst 0, 1), (44, .istore 4, 2), (46, .iload 4, 2), (48, .bipush 6, 2), (50, .if_icmp .ge 32, 3), (53, .ldc2_w 67, 3), (56, .lload_n 1, 1), (57, .lmul, 1), (58, .aload_n 0, 1), (59, .getfield 7, 3), (62, .bipush 16, 2), (64, .bipush 6, 2), (66, .iload_n 3, 1), (67, .imul, 1), (68, .iadd, 1), (69, .iload 4, 2), (71, .iadd, 1), (72, .iaload, 1), (73, .i2l, 1), (74, .ladd, 1), (75, .lstore_n 1, 1), (76, .iinc 4 1, 3), (79, .goto (-33), 3), (82, .ldc2_w 67, 3), (85, .ldc2_w 67, 3), (88, .ldc2_w 67, 3), (91, .lload_n 1, 1), (92, .lmul, 1), (93, .aload_n 0, 1), (94, .getfield 7, 3), (97, .iconst 4, 1), (98, .iload_n 3, 1), (99, .iadd, 1), (100, .iaload, 1), (101, .i2l, 1), (102, .ladd, 1), (103, .lmul, 1), (104, .aload_n 0, 1), (105, .getfield 7, 3), (108, .bipush 10, 2), (110, .iload_n 3, 1), (111, .iadd, 1), (112, .iaload, 1), (113, .i2l, 1), (114, .ladd, 1), (115, .lmul, 1), (116, .aload_n 0, 1), (117, .getfield 7, 3), (120, .iconst 2, 1), (121, .iaload, 1), (122, .iload_n 3, 1), (123, .ishr, 1), (124, .iconst 1, 1), (125, .iand, 1), (126, .i2l, 1), (127, .ladd, 1), (128, .lstore_n 1, 1), (129, .iinc 3 1, 3), (132, .goto (-99), 3), (135, .ldc2_w 67, 3), (138, .ldc2_w 67, 3), (141, .lload_n 1, 1), (142, .lmul, 1), (143, .aload_n 0, 1), (144, .getfield 211, 3), (147, .ladd, 1), (148, .lmul, 1), (149, .aload_n 0, 1), (150, .getfield 23, 3), (153, .ladd, 1), (154, .lreturn, 1)]
def mX9_digest : mj_M := (yX9_digest, cX9_digest, 5, (some .long), { frames := 2, cells := 0, slots := 0, locals := 45 }, tX9_digest)
set_option maxRecDepth 100000 in
theorem tok_X9_digest : ∀ q ∈ mX9_digest.2.2.2.2.2, decode mX9_digest.2.1 q.1 = .ok q.2 := by decide +kernel
end
section
/-! printed by wip/whole/gen.py: what the tables say of each link -/
theorem uw_X0 : ∀ w ∈ u_ws RX0 TX0 7, w ∈ mj_G := by decide +kernel
theorem uw_X1 : ∀ w ∈ u_ws RX1 TX1 3, w ∈ mj_G := by decide +kernel
theorem uw_X2 : ∀ w ∈ u_ws RX2 TX2 3, w ∈ mj_G := by decide +kernel
theorem uw_X3 : ∀ w ∈ u_ws RX3 TX3 5, w ∈ mj_G := by decide +kernel
theorem uw_X4 : ∀ w ∈ u_ws RX4 TX4 9, w ∈ mj_G := by decide +kernel
theorem uw_X5 : ∀ w ∈ u_ws RX5 TX5 1, w ∈ mj_G := by decide +kernel
theorem uw_X6 : ∀ w ∈ u_ws RX6 TX6 3, w ∈ mj_G := by decide +kernel
theorem uw_X7 : ∀ w ∈ u_ws RX7 TX7 2, w ∈ mj_G := by decide +kernel
theorem uw_X8 : ∀ w ∈ u_ws RX8 TX8 14, w ∈ mj_G := by decide +kernel
theorem uw_X9 : ∀ w ∈ u_ws RX9 TX9 20, w ∈ mj_G := by decide +kernel
theorem ob_X5_3 : Jvm.Cond.methodLink RX5 3 Lib.objectInit ∈ mj_G ∧ Jvm.Cond.instanceMethod Lib.objectInit ∈ mj_G ∧ Jvm.Cond.code Lib.objectInit ⟨#[0xb1]⟩ 1 none ∈ mj_G := ⟨mj_inG 84 (by decide +kernel) (by decide +kernel), mj_inG 71 (by decide +kernel) (by decide +kernel), mj_inG 72 (by decide +kernel) (by decide +kernel)⟩
theorem aw_long : Jvm.Cond.arrayClass .long ∈ mj_G := mj_inG 89 (by decide +kernel) (by decide +kernel)
theorem fp_X5_9 : mj_FP RX5 "<init>" 9 5 0 (tyX5 0) := ⟨RX5, TX5, 1, tyX5, rfl, by decide, uw_X5, tyX5_ok, nmX5, rfl, Or.inr ⟨rfl, rfl, rfl, mj_inG 85 (by decide +kernel) (by decide +kernel)⟩⟩
theorem pl_X5 : plainName RX5 = true := by decide +kernel
theorem ob_X0_3 : Jvm.Cond.methodLink RX0 3 Lib.objectInit ∈ mj_G ∧ Jvm.Cond.instanceMethod Lib.objectInit ∈ mj_G ∧ Jvm.Cond.code Lib.objectInit ⟨#[0xb1]⟩ 1 none ∈ mj_G := ⟨mj_inG 78 (by decide +kernel) (by decide +kernel), mj_inG 71 (by decide +kernel) (by decide +kernel), mj_inG 72 (by decide +kernel) (by decide +kernel)⟩
theorem fp_X0_9 : mj_FP RX0 "<init>" 9 0 0 (tyX0 0) := ⟨RX0, TX0, 7, tyX0, rfl, by decide, uw_X0, tyX0_ok, nmX0, rfl, Or.inr ⟨rfl, rfl, rfl, mj_inG 91 (by decide +kernel) (by decide +kernel)⟩⟩
theorem aw_int : Jvm.Cond.arrayClass .int ∈ mj_G := mj_inG 90 (by decide +kernel) (by decide +kernel)
theorem fp_X0_15 : mj_FP RX0 "<init>" 15 0 1 (tyX0 1) := ⟨RX0, TX0, 7, tyX0, rfl, by decide, uw_X0, tyX0_ok, nmX0, rfl, Or.inr ⟨rfl, rfl, rfl, mj_inG 93 (by decide +kernel) (by decide +kernel)⟩⟩
theorem fp_X0_19 : mj_FP RX0 "<init>" 19 0 2 (tyX0 2) := ⟨RX0, TX0, 7, tyX0, rfl, by decide, uw_X0, tyX0_ok, nmX0, rfl, Or.inr ⟨rfl, rfl, rfl, mj_inG 94 (by decide +kernel) (by decide +kernel)⟩⟩
theorem nw_X0_22 : mj_NW RX0 22 5 1 [.null] := ⟨RX5, TX5, tyX5, rfl, uw_X5, tyX5_ok, mj_inG 79 (by decide +kernel) (by decide +kernel), mj_inG 80 (by decide +kernel) (by decide +kernel), mj_inG 50 (by decide +kernel) (by decide +kernel), fun j hj => by match j, hj with | 0, _ => rfl⟩
theorem ll_X0_24 : mj_LL RX0 24 mX5_init := Or.inr ⟨"RiverChoice", mj_inN 81 (by decide +kernel) (by decide +kernel)⟩
theorem lb_X5_init : mj_LB mX5_init 0 := ⟨mj_inG 83 (by decide +kernel) (by decide +kernel), mj_inG 50 (by decide +kernel) (by decide +kernel), by decide +kernel, by decide +kernel, by decide +kernel⟩
theorem li_X5_init : mX5_init.1.name = "<init>" ∧ mX5_init.2.2.2.1 = none ∧ Jvm.Cond.instanceMethod mX5_init.1 ∈ mj_G := ⟨rfl, rfl, mj_inG 82 (by decide +kernel) (by decide +kernel)⟩
theorem fp_X0_25 : mj_FP RX0 "<init>" 25 0 3 (tyX0 3) := ⟨RX0, TX0, 7, tyX0, rfl, by decide, uw_X0, tyX0_ok, nmX0, rfl, Or.inr ⟨rfl, rfl, rfl, mj_inG 95 (by decide +kernel) (by decide +kernel)⟩⟩
theorem fp_X0_29 {nm : String} : mj_FP RX0 nm 29 0 6 .int := ⟨RX0, TX0, 7, tyX0, rfl, by decide, uw_X0, tyX0_ok, nmX0, rfl, Or.inl ⟨rfl, Or.inl (mj_inG 102 (by decide +kernel) (by decide +kernel))⟩⟩
theorem pl_X0 : plainName RX0 = true := by decide +kernel
theorem fl_X0_33 : mj_FL RX0 33 0 4 := ⟨RX0, TX0, 7, rfl, by decide, uw_X0, Or.inl (mj_inG 96 (by decide +kernel) (by decide +kernel))⟩
theorem fp_X0_33 {nm : String} : mj_FP RX0 nm 33 0 4 .int := ⟨RX0, TX0, 7, tyX0, rfl, by decide, uw_X0, tyX0_ok, nmX0, rfl, Or.inl ⟨rfl, Or.inl (mj_inG 96 (by decide +kernel) (by decide +kernel))⟩⟩
theorem fp_X0_36 {nm : String} : mj_FP RX0 nm 36 0 5 .int := ⟨RX0, TX0, 7, tyX0, rfl, by decide, uw_X0, tyX0_ok, nmX0, rfl, Or.inl ⟨rfl, Or.inl (mj_inG 100 (by decide +kernel) (by decide +kernel))⟩⟩
theorem fl_X0_9 : mj_FL RX0 9 0 0 := ⟨RX0, TX0, 7, rfl, by decide, uw_X0, Or.inl (mj_inG 91 (by decide +kernel) (by decide +kernel))⟩
theorem fl_X0_15 : mj_FL RX0 15 0 1 := ⟨RX0, TX0, 7, rfl, by decide, uw_X0, Or.inl (mj_inG 93 (by decide +kernel) (by decide +kernel))⟩
theorem fl_X0_19 : mj_FL RX0 19 0 2 := ⟨RX0, TX0, 7, rfl, by decide, uw_X0, Or.inl (mj_inG 94 (by decide +kernel) (by decide +kernel))⟩
theorem ll_X0_43 : mj_LL RX0 43 mX0_setWeight := Or.inl (mj_inG 335 (by decide +kernel) (by decide +kernel))
theorem lb_X0_setWeight : mj_LB mX0_setWeight 3 := ⟨mj_inG 338 (by decide +kernel) (by decide +kernel), mj_inG 49 (by decide +kernel) (by decide +kernel), by decide +kernel, by decide +kernel, by decide +kernel⟩
theorem li_X0_setWeight : Jvm.Cond.instanceMethod mX0_setWeight.1 ∈ mj_G ∧ Jvm.Cond.selects mX0_setWeight.1.cls mX0_setWeight.1 mX0_setWeight.1 ∈ mj_G := ⟨mj_inG 336 (by decide +kernel) (by decide +kernel), mj_inG 337 (by decide +kernel) (by decide +kernel)⟩
theorem ll_X0_39 : mj_LL RX0 39 mX0_areWeights := Or.inl (mj_inG 332 (by decide +kernel) (by decide +kernel))
theorem lb_X0_areWeights : mj_LB mX0_areWeights 1 := ⟨mj_inG 334 (by decide +kernel) (by decide +kernel), mj_inG 49 (by decide +kernel) (by decide +kernel), by decide +kernel, by decide +kernel, by decide +kernel⟩
theorem li_X0_areWeights : Jvm.Cond.static mX0_areWeights.1 ∈ mj_G := mj_inG 333 (by decide +kernel) (by decide +kernel)
theorem ll_X0_47 : mj_LL RX0 47 mX0_has := Or.inl (mj_inG 347 (by decide +kernel) (by decide +kernel))
theorem lb_X0_has : mj_LB mX0_has 1 := ⟨mj_inG 350 (by decide +kernel) (by decide +kernel), mj_inG 49 (by decide +kernel) (by decide +kernel), by decide +kernel, by decide +kernel, by decide +kernel⟩
theorem li_X0_has : Jvm.Cond.instanceMethod mX0_has.1 ∈ mj_G ∧ Jvm.Cond.selects mX0_has.1.cls mX0_has.1 mX0_has.1 ∈ mj_G := ⟨mj_inG 348 (by decide +kernel) (by decide +kernel), mj_inG 349 (by decide +kernel) (by decide +kernel)⟩
theorem pl_X8 : plainName RX8 = true := by decide +kernel
theorem ll_X0_61 : mj_LL RX0 61 mX0_brothersOf := Or.inl (mj_inG 363 (by decide +kernel) (by decide +kernel))
theorem lb_X0_brothersOf : mj_LB mX0_brothersOf 1 := ⟨mj_inG 366 (by decide +kernel) (by decide +kernel), mj_inG 49 (by decide +kernel) (by decide +kernel), by decide +kernel, by decide +kernel, by decide +kernel⟩
theorem li_X0_brothersOf : Jvm.Cond.instanceMethod mX0_brothersOf.1 ∈ mj_G ∧ Jvm.Cond.selects mX0_brothersOf.1.cls mX0_brothersOf.1 mX0_brothersOf.1 ∈ mj_G := ⟨mj_inG 364 (by decide +kernel) (by decide +kernel), mj_inG 365 (by decide +kernel) (by decide +kernel)⟩
theorem ll_X0_58 : mj_LL RX0 58 mX8_isIn := Or.inr ⟨"RiverChoice", mj_inN 367 (by decide +kernel) (by decide +kernel)⟩
theorem lb_X8_isIn : mj_LB mX8_isIn 2 := ⟨mj_inG 369 (by decide +kernel) (by decide +kernel), mj_inG 48 (by decide +kernel) (by decide +kernel), by decide +kernel, by decide +kernel, by decide +kernel⟩
theorem li_X8_isIn : Jvm.Cond.static mX8_isIn.1 ∈ mj_G := mj_inG 368 (by decide +kernel) (by decide +kernel)
theorem ll_X0_51 : mj_LL RX0 51 mX0_areBrothers := Or.inl (mj_inG 359 (by decide +kernel) (by decide +kernel))
theorem lb_X0_areBrothers : mj_LB mX0_areBrothers 2 := ⟨mj_inG 362 (by decide +kernel) (by decide +kernel), mj_inG 49 (by decide +kernel) (by decide +kernel), by decide +kernel, by decide +kernel, by decide +kernel⟩
theorem li_X0_areBrothers : Jvm.Cond.instanceMethod mX0_areBrothers.1 ∈ mj_G ∧ Jvm.Cond.selects mX0_areBrothers.1.cls mX0_areBrothers.1 mX0_areBrothers.1 ∈ mj_G := ⟨mj_inG 360 (by decide +kernel) (by decide +kernel), mj_inG 361 (by decide +kernel) (by decide +kernel)⟩
theorem fl_X0_36 : mj_FL RX0 36 0 5 := ⟨RX0, TX0, 7, rfl, by decide, uw_X0, Or.inl (mj_inG 100 (by decide +kernel) (by decide +kernel))⟩
theorem ll_X0_55 : mj_LL RX0 55 mX0_knows := Or.inl (mj_inG 378 (by decide +kernel) (by decide +kernel))
theorem lb_X0_knows : mj_LB mX0_knows 1 := ⟨mj_inG 381 (by decide +kernel) (by decide +kernel), mj_inG 49 (by decide +kernel) (by decide +kernel), by decide +kernel, by decide +kernel, by decide +kernel⟩
theorem li_X0_knows : Jvm.Cond.instanceMethod mX0_knows.1 ∈ mj_G ∧ Jvm.Cond.selects mX0_knows.1.cls mX0_knows.1 mX0_knows.1 ∈ mj_G := ⟨mj_inG 379 (by decide +kernel) (by decide +kernel), mj_inG 380 (by decide +kernel) (by decide +kernel)⟩
theorem pl_J6 : plainName RJ6 = true := by decide +kernel
theorem ll_X0_65 : mj_LL RX0 65 mJ6_bitCount_0f7a4 := Or.inl (mj_inG 850 (by decide +kernel) (by decide +kernel))
theorem lb_J6_bitCount_0f7a4 : mj_LB mJ6_bitCount_0f7a4 1 := ⟨mj_inG 672 (by decide +kernel) (by decide +kernel), mj_inG 64 (by decide +kernel) (by decide +kernel), by decide +kernel, by decide +kernel, by decide +kernel⟩
theorem li_J6_bitCount_0f7a4 : Jvm.Cond.static mJ6_bitCount_0f7a4.1 ∈ mj_G := mj_inG 671 (by decide +kernel) (by decide +kernel)
theorem ll_X0_70 : mj_LL RX0 70 mX0_weightOf := Or.inl (mj_inG 644 (by decide +kernel) (by decide +kernel))
theorem lb_X0_weightOf : mj_LB mX0_weightOf 2 := ⟨mj_inG 546 (by decide +kernel) (by decide +kernel), mj_inG 49 (by decide +kernel) (by decide +kernel), by decide +kernel, by decide +kernel, by decide +kernel⟩
theorem li_X0_weightOf : Jvm.Cond.instanceMethod mX0_weightOf.1 ∈ mj_G ∧ Jvm.Cond.selects mX0_weightOf.1.cls mX0_weightOf.1 mX0_weightOf.1 ∈ mj_G := ⟨mj_inG 544 (by decide +kernel) (by decide +kernel), mj_inG 545 (by decide +kernel) (by decide +kernel)⟩
theorem fl_X5_9 : mj_FL RX5 9 5 0 := ⟨RX5, TX5, 1, rfl, by decide, uw_X5, Or.inl (mj_inG 85 (by decide +kernel) (by decide +kernel))⟩
theorem ll_X5_15 : mj_LL RX5 15 mX0_weightOf := Or.inl (mj_inG 543 (by decide +kernel) (by decide +kernel))
theorem gs_X8_337 : Jvm.Cond.fieldLink RX8 337 "RiverChoice" "CASES" "[I" ∈ mj_G := mj_inG 554 (by decide +kernel) (by decide +kernel)
theorem ll_X5_25 : mj_LL RX5 25 mX5_sum := Or.inl (mj_inG 560 (by decide +kernel) (by decide +kernel))
theorem lb_X5_sum : mj_LB mX5_sum 0 := ⟨mj_inG 563 (by decide +kernel) (by decide +kernel), mj_inG 50 (by decide +kernel) (by decide +kernel), by decide +kernel, by decide +kernel, by decide +kernel⟩
theorem li_X5_sum : Jvm.Cond.instanceMethod mX5_sum.1 ∈ mj_G ∧ Jvm.Cond.selects mX5_sum.1.cls mX5_sum.1 mX5_sum.1 ∈ mj_G := ⟨mj_inG 562 (by decide +kernel) (by decide +kernel), mj_inG 9 (by decide +kernel) (by decide +kernel)⟩
theorem ll_X5_29 : mj_LL RX5 29 mX8_casesOf := Or.inr ⟨"RiverChoice", mj_inN 551 (by decide +kernel) (by decide +kernel)⟩
theorem lb_X8_casesOf : mj_LB mX8_casesOf 3 := ⟨mj_inG 553 (by decide +kernel) (by decide +kernel), mj_inG 48 (by decide +kernel) (by decide +kernel), by decide +kernel, by decide +kernel, by decide +kernel⟩
theorem li_X8_casesOf : Jvm.Cond.static mX8_casesOf.1 ∈ mj_G := mj_inG 552 (by decide +kernel) (by decide +kernel)
theorem fl_X0_25 : mj_FL RX0 25 0 3 := ⟨RX0, TX0, 7, rfl, by decide, uw_X0, Or.inl (mj_inG 95 (by decide +kernel) (by decide +kernel))⟩
theorem ll_X0_74 : mj_LL RX0 74 mX5_load := Or.inl (mj_inG 539 (by decide +kernel) (by decide +kernel))
theorem lb_X5_load : mj_LB mX5_load 2 := ⟨mj_inG 542 (by decide +kernel) (by decide +kernel), mj_inG 50 (by decide +kernel) (by decide +kernel), by decide +kernel, by decide +kernel, by decide +kernel⟩
theorem li_X5_load : Jvm.Cond.instanceMethod mX5_load.1 ∈ mj_G ∧ Jvm.Cond.selects mX5_load.1.cls mX5_load.1 mX5_load.1 ∈ mj_G := ⟨mj_inG 540 (by decide +kernel) (by decide +kernel), mj_inG 541 (by decide +kernel) (by decide +kernel)⟩
theorem ll_X0_78 : mj_LL RX0 78 mX5_chance := Or.inl (mj_inG 594 (by decide +kernel) (by decide +kernel))
theorem lb_X5_chance : mj_LB mX5_chance 2 := ⟨mj_inG 597 (by decide +kernel) (by decide +kernel), mj_inG 50 (by decide +kernel) (by decide +kernel), by decide +kernel, by decide +kernel, by decide +kernel⟩
theorem li_X5_chance : Jvm.Cond.instanceMethod mX5_chance.1 ∈ mj_G ∧ Jvm.Cond.selects mX5_chance.1.cls mX5_chance.1 mX5_chance.1 ∈ mj_G := ⟨mj_inG 595 (by decide +kernel) (by decide +kernel), mj_inG 596 (by decide +kernel) (by decide +kernel)⟩
theorem mx_X5_56 : mj_maxW RX5 56 := ⟨mj_inG 575 (by decide +kernel) (by decide +kernel), mj_inG 576 (by decide +kernel) (by decide +kernel), mj_inG 63 (by decide +kernel) (by decide +kernel), mj_inG 577 (by decide +kernel) (by decide +kernel)⟩
theorem ll_X5_45 : mj_LL RX5 45 mX5_most := Or.inl (mj_inG 571 (by decide +kernel) (by decide +kernel))
theorem lb_X5_most : mj_LB mX5_most 0 := ⟨mj_inG 574 (by decide +kernel) (by decide +kernel), mj_inG 50 (by decide +kernel) (by decide +kernel), by decide +kernel, by decide +kernel, by decide +kernel⟩
theorem li_X5_most : Jvm.Cond.instanceMethod mX5_most.1 ∈ mj_G ∧ Jvm.Cond.selects mX5_most.1.cls mX5_most.1 mX5_most.1 ∈ mj_G := ⟨mj_inG 573 (by decide +kernel) (by decide +kernel), mj_inG 11 (by decide +kernel) (by decide +kernel)⟩
theorem ll_X5_41 : mj_LL RX5 41 mX5_cutBy := Or.inl (mj_inG 567 (by decide +kernel) (by decide +kernel))
theorem lb_X5_cutBy : mj_LB mX5_cutBy 1 := ⟨mj_inG 570 (by decide +kernel) (by decide +kernel), mj_inG 50 (by decide +kernel) (by decide +kernel), by decide +kernel, by decide +kernel, by decide +kernel⟩
theorem li_X5_cutBy : Jvm.Cond.instanceMethod mX5_cutBy.1 ∈ mj_G ∧ Jvm.Cond.selects mX5_cutBy.1.cls mX5_cutBy.1 mX5_cutBy.1 ∈ mj_G := ⟨mj_inG 569 (by decide +kernel) (by decide +kernel), mj_inG 10 (by decide +kernel) (by decide +kernel)⟩
theorem ll_X5_37 : mj_LL RX5 37 mX8_greatestCommon := Or.inr ⟨"RiverChoice", mj_inN 564 (by decide +kernel) (by decide +kernel)⟩
theorem lb_X8_greatestCommon : mj_LB mX8_greatestCommon 2 := ⟨mj_inG 566 (by decide +kernel) (by decide +kernel), mj_inG 48 (by decide +kernel) (by decide +kernel), by decide +kernel, by decide +kernel, by decide +kernel⟩
theorem li_X8_greatestCommon : Jvm.Cond.static mX8_greatestCommon.1 ∈ mj_G := mj_inG 565 (by decide +kernel) (by decide +kernel)
theorem ll_X5_33 : mj_LL RX5 33 mX5_isEmpty := Or.inl (mj_inG 556 (by decide +kernel) (by decide +kernel))
theorem lb_X5_isEmpty : mj_LB mX5_isEmpty 0 := ⟨mj_inG 559 (by decide +kernel) (by decide +kernel), mj_inG 50 (by decide +kernel) (by decide +kernel), by decide +kernel, by decide +kernel, by decide +kernel⟩
theorem li_X5_isEmpty : Jvm.Cond.instanceMethod mX5_isEmpty.1 ∈ mj_G ∧ Jvm.Cond.selects mX5_isEmpty.1.cls mX5_isEmpty.1 mX5_isEmpty.1 ∈ mj_G := ⟨mj_inG 557 (by decide +kernel) (by decide +kernel), mj_inG 558 (by decide +kernel) (by decide +kernel)⟩
theorem ll_X0_82 : mj_LL RX0 82 mX5_weigh := Or.inl (mj_inG 547 (by decide +kernel) (by decide +kernel))
theorem lb_X5_weigh : mj_LB mX5_weigh 3 := ⟨mj_inG 550 (by decide +kernel) (by decide +kernel), mj_inG 50 (by decide +kernel) (by decide +kernel), by decide +kernel, by decide +kernel, by decide +kernel⟩
theorem li_X5_weigh : Jvm.Cond.instanceMethod mX5_weigh.1 ∈ mj_G ∧ Jvm.Cond.selects mX5_weigh.1.cls mX5_weigh.1 mX5_weigh.1 ∈ mj_G := ⟨mj_inG 548 (by decide +kernel) (by decide +kernel), mj_inG 549 (by decide +kernel) (by decide +kernel)⟩
theorem ll_X5_21 : mj_LL RX5 21 mX0_setWeight := Or.inl (mj_inG 584 (by decide +kernel) (by decide +kernel))
theorem gs_X8_334 : Jvm.Cond.fieldLink RX8 334 "RiverChoice" "COSTS" "[I" ∈ mj_G := mj_inG 528 (by decide +kernel) (by decide +kernel)
theorem fl_X0_29 : mj_FL RX0 29 0 6 := ⟨RX0, TX0, 7, rfl, by decide, uw_X0, Or.inl (mj_inG 102 (by decide +kernel) (by decide +kernel))⟩
theorem ll_X0_92 : mj_LL RX0 92 mX8_costOf := Or.inr ⟨"RiverChoice", mj_inN 589 (by decide +kernel) (by decide +kernel)⟩
theorem lb_X8_costOf : mj_LB mX8_costOf 1 := ⟨mj_inG 527 (by decide +kernel) (by decide +kernel), mj_inG 48 (by decide +kernel) (by decide +kernel), by decide +kernel, by decide +kernel, by decide +kernel⟩
theorem li_X8_costOf : Jvm.Cond.static mX8_costOf.1 ∈ mj_G := mj_inG 526 (by decide +kernel) (by decide +kernel)
theorem ll_X0_86 : mj_LL RX0 86 mX5_store := Or.inl (mj_inG 580 (by decide +kernel) (by decide +kernel))
theorem lb_X5_store : mj_LB mX5_store 2 := ⟨mj_inG 583 (by decide +kernel) (by decide +kernel), mj_inG 50 (by decide +kernel) (by decide +kernel), by decide +kernel, by decide +kernel, by decide +kernel⟩
theorem li_X5_store : Jvm.Cond.instanceMethod mX5_store.1 ∈ mj_G ∧ Jvm.Cond.selects mX5_store.1.cls mX5_store.1 mX5_store.1 ∈ mj_G := ⟨mj_inG 581 (by decide +kernel) (by decide +kernel), mj_inG 582 (by decide +kernel) (by decide +kernel)⟩
theorem ll_X0_89 : mj_LL RX0 89 mX0_besides := Or.inl (mj_inG 585 (by decide +kernel) (by decide +kernel))
theorem lb_X0_besides : mj_LB mX0_besides 1 := ⟨mj_inG 588 (by decide +kernel) (by decide +kernel), mj_inG 49 (by decide +kernel) (by decide +kernel), by decide +kernel, by decide +kernel, by decide +kernel⟩
theorem li_X0_besides : Jvm.Cond.instanceMethod mX0_besides.1 ∈ mj_G ∧ Jvm.Cond.selects mX0_besides.1.cls mX0_besides.1 mX0_besides.1 ∈ mj_G := ⟨mj_inG 586 (by decide +kernel) (by decide +kernel), mj_inG 587 (by decide +kernel) (by decide +kernel)⟩
theorem ll_X0_95 : mj_LL RX0 95 mX0_signsOf := Or.inl (mj_inG 781 (by decide +kernel) (by decide +kernel))
theorem lb_X0_signsOf : mj_LB mX0_signsOf 1 := ⟨mj_inG 637 (by decide +kernel) (by decide +kernel), mj_inG 49 (by decide +kernel) (by decide +kernel), by decide +kernel, by decide +kernel, by decide +kernel⟩
theorem li_X0_signsOf : Jvm.Cond.instanceMethod mX0_signsOf.1 ∈ mj_G ∧ Jvm.Cond.selects mX0_signsOf.1.cls mX0_signsOf.1 mX0_signsOf.1 ∈ mj_G := ⟨mj_inG 635 (by decide +kernel) (by decide +kernel), mj_inG 636 (by decide +kernel) (by decide +kernel)⟩
theorem cp_X0_98 : mj_cpW RX0 98 := ⟨mj_inG 513 (by decide +kernel) (by decide +kernel), mj_inG 515 (by decide +kernel) (by decide +kernel), mj_inG 514 (by decide +kernel) (by decide +kernel), mj_inG 62 (by decide +kernel) (by decide +kernel)⟩
theorem ob_X3_3 : Jvm.Cond.methodLink RX3 3 Lib.objectInit ∈ mj_G ∧ Jvm.Cond.instanceMethod Lib.objectInit ∈ mj_G ∧ Jvm.Cond.code Lib.objectInit ⟨#[0xb1]⟩ 1 none ∈ mj_G := ⟨mj_inG 126 (by decide +kernel) (by decide +kernel), mj_inG 71 (by decide +kernel) (by decide +kernel), mj_inG 72 (by decide +kernel) (by decide +kernel)⟩
theorem fp_X3_11 : mj_FP RX3 "<init>" 11 3 0 (tyX3 0) := ⟨RX3, TX3, 5, tyX3, rfl, by decide, uw_X3, tyX3_ok, nmX3, rfl, Or.inr ⟨rfl, rfl, rfl, mj_inG 127 (by decide +kernel) (by decide +kernel)⟩⟩
theorem fp_X3_15 : mj_FP RX3 "<init>" 15 3 1 (tyX3 1) := ⟨RX3, TX3, 5, tyX3, rfl, by decide, uw_X3, tyX3_ok, nmX3, rfl, Or.inr ⟨rfl, rfl, rfl, mj_inG 128 (by decide +kernel) (by decide +kernel)⟩⟩
theorem fp_X3_19 : mj_FP RX3 "<init>" 19 3 2 (tyX3 2) := ⟨RX3, TX3, 5, tyX3, rfl, by decide, uw_X3, tyX3_ok, nmX3, rfl, Or.inr ⟨rfl, rfl, rfl, mj_inG 129 (by decide +kernel) (by decide +kernel)⟩⟩
theorem pl_X3 : plainName RX3 = true := by decide +kernel
theorem ob_X1_1 : Jvm.Cond.methodLink RX1 1 Lib.objectInit ∈ mj_G ∧ Jvm.Cond.instanceMethod Lib.objectInit ∈ mj_G ∧ Jvm.Cond.code Lib.objectInit ⟨#[0xb1]⟩ 1 none ∈ mj_G := ⟨mj_inG 149 (by decide +kernel) (by decide +kernel), mj_inG 71 (by decide +kernel) (by decide +kernel), mj_inG 72 (by decide +kernel) (by decide +kernel)⟩
theorem nw_X1_7 : mj_NW RX1 7 0 7 [.null, .null, .null, .null, .int 0, .int 0, .int 0] := ⟨RX0, TX0, tyX0, rfl, uw_X0, tyX0_ok, mj_inG 150 (by decide +kernel) (by decide +kernel), mj_inG 74 (by decide +kernel) (by decide +kernel), mj_inG 49 (by decide +kernel) (by decide +kernel), fun j hj => by match j, hj with | 0, _ => rfl | 1, _ => rfl | 2, _ => rfl | 3, _ => rfl | 4, _ => rfl | 5, _ => rfl | 6, _ => rfl⟩
theorem ll_X1_9 : mj_LL RX1 9 mX0_init := Or.inr ⟨"RiverChoice", mj_inN 151 (by decide +kernel) (by decide +kernel)⟩
theorem lb_X0_init : mj_LB mX0_init 0 := ⟨mj_inG 77 (by decide +kernel) (by decide +kernel), mj_inG 49 (by decide +kernel) (by decide +kernel), by decide +kernel, by decide +kernel, by decide +kernel⟩
theorem li_X0_init : mX0_init.1.name = "<init>" ∧ mX0_init.2.2.2.1 = none ∧ Jvm.Cond.instanceMethod mX0_init.1 ∈ mj_G := ⟨rfl, rfl, mj_inG 76 (by decide +kernel) (by decide +kernel)⟩
theorem fp_X1_10 : mj_FP RX1 "<init>" 10 1 0 (tyX1 0) := ⟨RX1, TX1, 3, tyX1, rfl, by decide, uw_X1, tyX1_ok, nmX1, rfl, Or.inr ⟨rfl, rfl, rfl, mj_inG 154 (by decide +kernel) (by decide +kernel)⟩⟩
theorem nw_X1_16 : mj_NW RX1 16 3 5 [.null, .null, .null, .int 0, .int 0] := ⟨RX3, TX3, tyX3, rfl, uw_X3, tyX3_ok, mj_inG 152 (by decide +kernel) (by decide +kernel), mj_inG 122 (by decide +kernel) (by decide +kernel), mj_inG 51 (by decide +kernel) (by decide +kernel), fun j hj => by match j, hj with | 0, _ => rfl | 1, _ => rfl | 2, _ => rfl | 3, _ => rfl | 4, _ => rfl⟩
theorem ll_X1_18 : mj_LL RX1 18 mX3_init := Or.inr ⟨"RiverChoice", mj_inN 153 (by decide +kernel) (by decide +kernel)⟩
theorem lb_X3_init : mj_LB mX3_init 0 := ⟨mj_inG 125 (by decide +kernel) (by decide +kernel), mj_inG 51 (by decide +kernel) (by decide +kernel), by decide +kernel, by decide +kernel, by decide +kernel⟩
theorem li_X3_init : mX3_init.1.name = "<init>" ∧ mX3_init.2.2.2.1 = none ∧ Jvm.Cond.instanceMethod mX3_init.1 ∈ mj_G := ⟨rfl, rfl, mj_inG 124 (by decide +kernel) (by decide +kernel)⟩
theorem fp_X1_19 : mj_FP RX1 "<init>" 19 1 1 (tyX1 1) := ⟨RX1, TX1, 3, tyX1, rfl, by decide, uw_X1, tyX1_ok, nmX1, rfl, Or.inr ⟨rfl, rfl, rfl, mj_inG 156 (by decide +kernel) (by decide +kernel)⟩⟩
theorem pl_X1 : plainName RX1 = true := by decide +kernel
theorem ob_X2_3 : Jvm.Cond.methodLink RX2 3 Lib.objectInit ∈ mj_G ∧ Jvm.Cond.instanceMethod Lib.objectInit ∈ mj_G ∧ Jvm.Cond.code Lib.objectInit ⟨#[0xb1]⟩ 1 none ∈ mj_G := ⟨mj_inG 224 (by decide +kernel) (by decide +kernel), mj_inG 71 (by decide +kernel) (by decide +kernel), mj_inG 72 (by decide +kernel) (by decide +kernel)⟩
theorem fp_X2_9 : mj_FP RX2 "<init>" 9 2 0 (tyX2 0) := ⟨RX2, TX2, 3, tyX2, rfl, by decide, uw_X2, tyX2_ok, nmX2, rfl, Or.inr ⟨rfl, rfl, rfl, mj_inG 225 (by decide +kernel) (by decide +kernel)⟩⟩
theorem fp_X2_15 : mj_FP RX2 "<init>" 15 2 1 (tyX2 1) := ⟨RX2, TX2, 3, tyX2, rfl, by decide, uw_X2, tyX2_ok, nmX2, rfl, Or.inr ⟨rfl, rfl, rfl, mj_inG 226 (by decide +kernel) (by decide +kernel)⟩⟩
theorem pl_X2 : plainName RX2 = true := by decide +kernel
theorem fl_X2_9 : mj_FL RX2 9 2 0 := ⟨RX2, TX2, 3, rfl, by decide, uw_X2, Or.inl (mj_inG 225 (by decide +kernel) (by decide +kernel))⟩
theorem fl_X2_19 : mj_FL RX2 19 0 4 := ⟨RX0, TX0, 7, rfl, by decide, uw_X0, Or.inr ⟨"RiverChoice", mj_inN 97 (by decide +kernel) (by decide +kernel)⟩⟩
theorem ll_X2_25 : mj_LL RX2 25 mX0_trustOf := Or.inl (mj_inG 660 (by decide +kernel) (by decide +kernel))
theorem lb_X0_trustOf : mj_LB mX0_trustOf 1 := ⟨mj_inG 593 (by decide +kernel) (by decide +kernel), mj_inG 49 (by decide +kernel) (by decide +kernel), by decide +kernel, by decide +kernel, by decide +kernel⟩
theorem li_X0_trustOf : Jvm.Cond.instanceMethod mX0_trustOf.1 ∈ mj_G ∧ Jvm.Cond.selects mX0_trustOf.1.cls mX0_trustOf.1 mX0_trustOf.1 ∈ mj_G := ⟨mj_inG 591 (by decide +kernel) (by decide +kernel), mj_inG 592 (by decide +kernel) (by decide +kernel)⟩
theorem ll_X2_29 : mj_LL RX2 29 mX0_trustBehind := Or.inl (mj_inG 710 (by decide +kernel) (by decide +kernel))
theorem lb_X0_trustBehind : mj_LB mX0_trustBehind 4 := ⟨mj_inG 713 (by decide +kernel) (by decide +kernel), mj_inG 49 (by decide +kernel) (by decide +kernel), by decide +kernel, by decide +kernel, by decide +kernel⟩
theorem li_X0_trustBehind : Jvm.Cond.instanceMethod mX0_trustBehind.1 ∈ mj_G ∧ Jvm.Cond.selects mX0_trustBehind.1.cls mX0_trustBehind.1 mX0_trustBehind.1 ∈ mj_G := ⟨mj_inG 711 (by decide +kernel) (by decide +kernel), mj_inG 712 (by decide +kernel) (by decide +kernel)⟩
theorem fl_X2_15 : mj_FL RX2 15 2 1 := ⟨RX2, TX2, 3, rfl, by decide, uw_X2, Or.inl (mj_inG 226 (by decide +kernel) (by decide +kernel))⟩
theorem ll_X2_33 : mj_LL RX2 33 mX8_isIn := Or.inr ⟨"RiverChoice", mj_inN 665 (by decide +kernel) (by decide +kernel)⟩
theorem ll_X2_37 : mj_LL RX2 37 mX2_addMan := Or.inl (mj_inG 666 (by decide +kernel) (by decide +kernel))
theorem lb_X2_addMan : mj_LB mX2_addMan 1 := ⟨mj_inG 669 (by decide +kernel) (by decide +kernel), mj_inG 55 (by decide +kernel) (by decide +kernel), by decide +kernel, by decide +kernel, by decide +kernel⟩
theorem li_X2_addMan : Jvm.Cond.instanceMethod mX2_addMan.1 ∈ mj_G ∧ Jvm.Cond.selects mX2_addMan.1.cls mX2_addMan.1 mX2_addMan.1 ∈ mj_G := ⟨mj_inG 668 (by decide +kernel) (by decide +kernel), mj_inG 12 (by decide +kernel) (by decide +kernel)⟩
theorem ll_X2_43 : mj_LL RX2 43 mJ6_bitCount_0f7a4 := Or.inl (mj_inG 687 (by decide +kernel) (by decide +kernel))
theorem ll_X2_48 : mj_LL RX2 48 mX2_waysToHold := Or.inl (mj_inG 688 (by decide +kernel) (by decide +kernel))
theorem lb_X2_waysToHold : mj_LB mX2_waysToHold 2 := ⟨mj_inG 664 (by decide +kernel) (by decide +kernel), mj_inG 55 (by decide +kernel) (by decide +kernel), by decide +kernel, by decide +kernel, by decide +kernel⟩
theorem li_X2_waysToHold : Jvm.Cond.instanceMethod mX2_waysToHold.1 ∈ mj_G ∧ Jvm.Cond.selects mX2_waysToHold.1.cls mX2_waysToHold.1 mX2_waysToHold.1 ∈ mj_G := ⟨mj_inG 662 (by decide +kernel) (by decide +kernel), mj_inG 663 (by decide +kernel) (by decide +kernel)⟩
theorem fp_X2_52 {nm : String} : mj_FP RX2 nm 52 2 2 .int := ⟨RX2, TX2, 3, tyX2, rfl, by decide, uw_X2, tyX2_ok, nmX2, rfl, Or.inl ⟨rfl, Or.inl (mj_inG 227 (by decide +kernel) (by decide +kernel))⟩⟩
theorem fl_X3_26 : mj_FL RX3 26 3 3 := ⟨RX3, TX3, 5, rfl, by decide, uw_X3, Or.inl (mj_inG 130 (by decide +kernel) (by decide +kernel))⟩
theorem fl_X3_22 : mj_FL RX3 22 3 4 := ⟨RX3, TX3, 5, rfl, by decide, uw_X3, Or.inl (mj_inG 131 (by decide +kernel) (by decide +kernel))⟩
theorem fl_X3_29 : mj_FL RX3 29 0 0 := ⟨RX0, TX0, 7, rfl, by decide, uw_X0, Or.inr ⟨"RiverChoice", mj_inN 92 (by decide +kernel) (by decide +kernel)⟩⟩
theorem fl_X3_11 : mj_FL RX3 11 3 0 := ⟨RX3, TX3, 5, rfl, by decide, uw_X3, Or.inl (mj_inG 127 (by decide +kernel) (by decide +kernel))⟩
theorem cp_X3_32 : mj_cpW RX3 32 := ⟨mj_inG 534 (by decide +kernel) (by decide +kernel), mj_inG 515 (by decide +kernel) (by decide +kernel), mj_inG 514 (by decide +kernel) (by decide +kernel), mj_inG 62 (by decide +kernel) (by decide +kernel)⟩
theorem fl_X3_15 : mj_FL RX3 15 3 1 := ⟨RX3, TX3, 5, rfl, by decide, uw_X3, Or.inl (mj_inG 128 (by decide +kernel) (by decide +kernel))⟩
theorem fl_X3_38 : mj_FL RX3 38 0 5 := ⟨RX0, TX0, 7, rfl, by decide, uw_X0, Or.inr ⟨"RiverChoice", mj_inN 99 (by decide +kernel) (by decide +kernel)⟩⟩
theorem fl_X3_19 : mj_FL RX3 19 3 2 := ⟨RX3, TX3, 5, rfl, by decide, uw_X3, Or.inl (mj_inG 129 (by decide +kernel) (by decide +kernel))⟩
theorem fl_X3_40 : mj_FL RX3 40 0 6 := ⟨RX0, TX0, 7, rfl, by decide, uw_X0, Or.inr ⟨"RiverChoice", mj_inN 103 (by decide +kernel) (by decide +kernel)⟩⟩
theorem fp_X3_22 {nm : String} : mj_FP RX3 nm 22 3 4 .int := ⟨RX3, TX3, 5, tyX3, rfl, by decide, uw_X3, tyX3_ok, nmX3, rfl, Or.inl ⟨rfl, Or.inl (mj_inG 131 (by decide +kernel) (by decide +kernel))⟩⟩
theorem fp_X3_26 {nm : String} : mj_FP RX3 nm 26 3 3 .int := ⟨RX3, TX3, 5, tyX3, rfl, by decide, uw_X3, tyX3_ok, nmX3, rfl, Or.inl ⟨rfl, Or.inl (mj_inG 130 (by decide +kernel) (by decide +kernel))⟩⟩
theorem fp_X3_38 {nm : String} : mj_FP RX3 nm 38 0 5 .int := ⟨RX0, TX0, 7, tyX0, rfl, by decide, uw_X0, tyX0_ok, nmX0, rfl, Or.inl ⟨rfl, Or.inr ⟨"RiverChoice", mj_inN 99 (by decide +kernel) (by decide +kernel)⟩⟩⟩
theorem fp_X3_40 {nm : String} : mj_FP RX3 nm 40 0 6 .int := ⟨RX0, TX0, 7, tyX0, rfl, by decide, uw_X0, tyX0_ok, nmX0, rfl, Or.inl ⟨rfl, Or.inr ⟨"RiverChoice", mj_inN 103 (by decide +kernel) (by decide +kernel)⟩⟩⟩
theorem ob_X7_3 : Jvm.Cond.methodLink RX7 3 Lib.objectInit ∈ mj_G ∧ Jvm.Cond.instanceMethod Lib.objectInit ∈ mj_G ∧ Jvm.Cond.code Lib.objectInit ⟨#[0xb1]⟩ 1 none ∈ mj_G := ⟨mj_inG 177 (by decide +kernel) (by decide +kernel), mj_inG 71 (by decide +kernel) (by decide +kernel), mj_inG 72 (by decide +kernel) (by decide +kernel)⟩
theorem fp_X7_11 : mj_FP RX7 "<init>" 11 7 0 (tyX7 0) := ⟨RX7, TX7, 2, tyX7, rfl, by decide, uw_X7, tyX7_ok, nmX7, rfl, Or.inr ⟨rfl, rfl, rfl, mj_inG 178 (by decide +kernel) (by decide +kernel)⟩⟩
theorem pl_X7 : plainName RX7 = true := by decide +kernel
theorem ob_X4_3 : Jvm.Cond.methodLink RX4 3 Lib.objectInit ∈ mj_G ∧ Jvm.Cond.instanceMethod Lib.objectInit ∈ mj_G ∧ Jvm.Cond.code Lib.objectInit ⟨#[0xb1]⟩ 1 none ∈ mj_G := ⟨mj_inG 171 (by decide +kernel) (by decide +kernel), mj_inG 71 (by decide +kernel) (by decide +kernel), mj_inG 72 (by decide +kernel) (by decide +kernel)⟩
theorem nw_X4_9 : mj_NW RX4 9 7 2 [.null, .int 0] := ⟨RX7, TX7, tyX7, rfl, uw_X7, tyX7_ok, mj_inG 172 (by decide +kernel) (by decide +kernel), mj_inG 173 (by decide +kernel) (by decide +kernel), mj_inG 54 (by decide +kernel) (by decide +kernel), fun j hj => by match j, hj with | 0, _ => rfl | 1, _ => rfl⟩
theorem ll_X4_11 : mj_LL RX4 11 mX7_init := Or.inr ⟨"RiverChoice", mj_inN 174 (by decide +kernel) (by decide +kernel)⟩
theorem lb_X7_init : mj_LB mX7_init 0 := ⟨mj_inG 176 (by decide +kernel) (by decide +kernel), mj_inG 54 (by decide +kernel) (by decide +kernel), by decide +kernel, by decide +kernel, by decide +kernel⟩
theorem li_X7_init : mX7_init.1.name = "<init>" ∧ mX7_init.2.2.2.1 = none ∧ Jvm.Cond.instanceMethod mX7_init.1 ∈ mj_G := ⟨rfl, rfl, mj_inG 175 (by decide +kernel) (by decide +kernel)⟩
theorem fp_X4_12 : mj_FP RX4 "<init>" 12 4 0 (tyX4 0) := ⟨RX4, TX4, 9, tyX4, rfl, by decide, uw_X4, tyX4_ok, nmX4, rfl, Or.inr ⟨rfl, rfl, rfl, mj_inG 188 (by decide +kernel) (by decide +kernel)⟩⟩
theorem nw_X4_18 : mj_NW RX4 18 0 7 [.null, .null, .null, .null, .int 0, .int 0, .int 0] := ⟨RX0, TX0, tyX0, rfl, uw_X0, tyX0_ok, mj_inG 186 (by decide +kernel) (by decide +kernel), mj_inG 74 (by decide +kernel) (by decide +kernel), mj_inG 49 (by decide +kernel) (by decide +kernel), fun j hj => by match j, hj with | 0, _ => rfl | 1, _ => rfl | 2, _ => rfl | 3, _ => rfl | 4, _ => rfl | 5, _ => rfl | 6, _ => rfl⟩
theorem ll_X4_20 : mj_LL RX4 20 mX0_init := Or.inr ⟨"RiverChoice", mj_inN 187 (by decide +kernel) (by decide +kernel)⟩
theorem fp_X4_21 : mj_FP RX4 "<init>" 21 4 1 (tyX4 1) := ⟨RX4, TX4, 9, tyX4, rfl, by decide, uw_X4, tyX4_ok, nmX4, rfl, Or.inr ⟨rfl, rfl, rfl, mj_inG 190 (by decide +kernel) (by decide +kernel)⟩⟩
theorem fp_X4_25 : mj_FP RX4 "<init>" 25 4 2 (tyX4 2) := ⟨RX4, TX4, 9, tyX4, rfl, by decide, uw_X4, tyX4_ok, nmX4, rfl, Or.inr ⟨rfl, rfl, rfl, mj_inG 192 (by decide +kernel) (by decide +kernel)⟩⟩
theorem pl_X4 : plainName RX4 = true := by decide +kernel
theorem fl_X7_15 : mj_FL RX7 15 7 1 := ⟨RX7, TX7, 2, rfl, by decide, uw_X7, Or.inl (mj_inG 179 (by decide +kernel) (by decide +kernel))⟩
theorem fl_X7_11 : mj_FL RX7 11 7 0 := ⟨RX7, TX7, 2, rfl, by decide, uw_X7, Or.inl (mj_inG 178 (by decide +kernel) (by decide +kernel))⟩
theorem fl_X4_12 : mj_FL RX4 12 4 0 := ⟨RX4, TX4, 9, rfl, by decide, uw_X4, Or.inl (mj_inG 188 (by decide +kernel) (by decide +kernel))⟩
theorem fl_X4_29 : mj_FL RX4 29 4 3 := ⟨RX4, TX4, 9, rfl, by decide, uw_X4, Or.inl (mj_inG 193 (by decide +kernel) (by decide +kernel))⟩
theorem ll_X4_39 : mj_LL RX4 39 mX7_byteAt := Or.inl (mj_inG 410 (by decide +kernel) (by decide +kernel))
theorem lb_X7_byteAt : mj_LB mX7_byteAt 1 := ⟨mj_inG 413 (by decide +kernel) (by decide +kernel), mj_inG 54 (by decide +kernel) (by decide +kernel), by decide +kernel, by decide +kernel, by decide +kernel⟩
theorem li_X7_byteAt : Jvm.Cond.instanceMethod mX7_byteAt.1 ∈ mj_G ∧ Jvm.Cond.selects mX7_byteAt.1.cls mX7_byteAt.1 mX7_byteAt.1 ∈ mj_G := ⟨mj_inG 411 (by decide +kernel) (by decide +kernel), mj_inG 412 (by decide +kernel) (by decide +kernel)⟩
theorem fp_X4_29 {nm : String} : mj_FP RX4 nm 29 4 3 .int := ⟨RX4, TX4, 9, tyX4, rfl, by decide, uw_X4, tyX4_ok, nmX4, rfl, Or.inl ⟨rfl, Or.inl (mj_inG 193 (by decide +kernel) (by decide +kernel))⟩⟩
theorem ll_X7_19 : mj_LL RX7 19 mJ0_length_8abf5 := Or.inl (mj_inG 434 (by decide +kernel) (by decide +kernel))
theorem lb_J0_length_8abf5 : mj_LB mJ0_length_8abf5 0 := ⟨mj_inG 437 (by decide +kernel) (by decide +kernel), mj_inG 58 (by decide +kernel) (by decide +kernel), by decide +kernel, by decide +kernel, by decide +kernel⟩
theorem li_J0_length_8abf5 : Jvm.Cond.instanceMethod mJ0_length_8abf5.1 ∈ mj_G ∧ Jvm.Cond.selects mJ0_length_8abf5.1.cls mJ0_length_8abf5.1 mJ0_length_8abf5.1 ∈ mj_G := ⟨mj_inG 435 (by decide +kernel) (by decide +kernel), mj_inG 436 (by decide +kernel) (by decide +kernel)⟩
theorem ll_X7_25 : mj_LL RX7 25 mX7_byteAt := Or.inl (mj_inG 444 (by decide +kernel) (by decide +kernel))
theorem ll_X7_29 : mj_LL RX7 29 mJ0_charAt_5068e := Or.inl (mj_inG 445 (by decide +kernel) (by decide +kernel))
theorem lb_J0_charAt_5068e : mj_LB mJ0_charAt_5068e 1 := ⟨mj_inG 448 (by decide +kernel) (by decide +kernel), mj_inG 58 (by decide +kernel) (by decide +kernel), by decide +kernel, by decide +kernel, by decide +kernel⟩
theorem li_J0_charAt_5068e : Jvm.Cond.instanceMethod mJ0_charAt_5068e.1 ∈ mj_G ∧ Jvm.Cond.selects mJ0_charAt_5068e.1.cls mJ0_charAt_5068e.1 mJ0_charAt_5068e.1 ∈ mj_G := ⟨mj_inG 446 (by decide +kernel) (by decide +kernel), mj_inG 447 (by decide +kernel) (by decide +kernel)⟩
theorem fp_X4_77 {nm : String} : mj_FP RX4 nm 77 4 5 .int := ⟨RX4, TX4, 9, tyX4, rfl, by decide, uw_X4, tyX4_ok, nmX4, rfl, Or.inl ⟨rfl, Or.inl (mj_inG 195 (by decide +kernel) (by decide +kernel))⟩⟩
theorem fl_X4_47 : mj_FL RX4 47 4 4 := ⟨RX4, TX4, 9, rfl, by decide, uw_X4, Or.inl (mj_inG 194 (by decide +kernel) (by decide +kernel))⟩
theorem ll_X4_101 : mj_LL RX4 101 mX7_spells := Or.inl (mj_inG 430 (by decide +kernel) (by decide +kernel))
theorem lb_X7_spells : mj_LB mX7_spells 3 := ⟨mj_inG 433 (by decide +kernel) (by decide +kernel), mj_inG 54 (by decide +kernel) (by decide +kernel), by decide +kernel, by decide +kernel, by decide +kernel⟩
theorem li_X7_spells : Jvm.Cond.instanceMethod mX7_spells.1 ∈ mj_G ∧ Jvm.Cond.selects mX7_spells.1.cls mX7_spells.1 mX7_spells.1 ∈ mj_G := ⟨mj_inG 431 (by decide +kernel) (by decide +kernel), mj_inG 432 (by decide +kernel) (by decide +kernel)⟩
theorem fp_X4_80 {nm : String} : mj_FP RX4 nm 80 4 6 .int := ⟨RX4, TX4, 9, tyX4, rfl, by decide, uw_X4, tyX4_ok, nmX4, rfl, Or.inl ⟨rfl, Or.inl (mj_inG 196 (by decide +kernel) (by decide +kernel))⟩⟩
theorem ll_X4_86 : mj_LL RX4 86 mX4_isLetter := Or.inl (mj_inG 422 (by decide +kernel) (by decide +kernel))
theorem lb_X4_isLetter : mj_LB mX4_isLetter 1 := ⟨mj_inG 424 (by decide +kernel) (by decide +kernel), mj_inG 53 (by decide +kernel) (by decide +kernel), by decide +kernel, by decide +kernel, by decide +kernel⟩
theorem li_X4_isLetter : Jvm.Cond.static mX4_isLetter.1 ∈ mj_G := mj_inG 423 (by decide +kernel) (by decide +kernel)
theorem ll_X4_93 : mj_LL RX4 93 mX4_isFigure := Or.inl (mj_inG 487 (by decide +kernel) (by decide +kernel))
theorem lb_X4_isFigure : mj_LB mX4_isFigure 1 := ⟨mj_inG 489 (by decide +kernel) (by decide +kernel), mj_inG 53 (by decide +kernel) (by decide +kernel), by decide +kernel, by decide +kernel, by decide +kernel⟩
theorem li_X4_isFigure : Jvm.Cond.static mX4_isFigure.1 ∈ mj_G := mj_inG 488 (by decide +kernel) (by decide +kernel)
theorem fl_X4_80 : mj_FL RX4 80 4 6 := ⟨RX4, TX4, 9, rfl, by decide, uw_X4, Or.inl (mj_inG 196 (by decide +kernel) (by decide +kernel))⟩
theorem ll_X4_36 : mj_LL RX4 36 mX4_skipBlanks := Or.inl (mj_inG 406 (by decide +kernel) (by decide +kernel))
theorem lb_X4_skipBlanks : mj_LB mX4_skipBlanks 0 := ⟨mj_inG 409 (by decide +kernel) (by decide +kernel), mj_inG 53 (by decide +kernel) (by decide +kernel), by decide +kernel, by decide +kernel, by decide +kernel⟩
theorem li_X4_skipBlanks : Jvm.Cond.instanceMethod mX4_skipBlanks.1 ∈ mj_G ∧ Jvm.Cond.selects mX4_skipBlanks.1.cls mX4_skipBlanks.1 mX4_skipBlanks.1 ∈ mj_G := ⟨mj_inG 408 (by decide +kernel) (by decide +kernel), mj_inG 3 (by decide +kernel) (by decide +kernel)⟩
theorem fp_X4_47 {nm : String} : mj_FP RX4 nm 47 4 4 .int := ⟨RX4, TX4, 9, tyX4, rfl, by decide, uw_X4, tyX4_ok, nmX4, rfl, Or.inl ⟨rfl, Or.inl (mj_inG 194 (by decide +kernel) (by decide +kernel))⟩⟩
theorem ll_X4_96 : mj_LL RX4 96 mX4_readNumber := Or.inl (mj_inG 490 (by decide +kernel) (by decide +kernel))
theorem lb_X4_readNumber : mj_LB mX4_readNumber 0 := ⟨mj_inG 493 (by decide +kernel) (by decide +kernel), mj_inG 53 (by decide +kernel) (by decide +kernel), by decide +kernel, by decide +kernel, by decide +kernel⟩
theorem li_X4_readNumber : Jvm.Cond.instanceMethod mX4_readNumber.1 ∈ mj_G ∧ Jvm.Cond.selects mX4_readNumber.1.cls mX4_readNumber.1 mX4_readNumber.1 ∈ mj_G := ⟨mj_inG 492 (by decide +kernel) (by decide +kernel), mj_inG 7 (by decide +kernel) (by decide +kernel)⟩
theorem ll_X4_90 : mj_LL RX4 90 mX4_readWord := Or.inl (mj_inG 425 (by decide +kernel) (by decide +kernel))
theorem lb_X4_readWord : mj_LB mX4_readWord 0 := ⟨mj_inG 428 (by decide +kernel) (by decide +kernel), mj_inG 53 (by decide +kernel) (by decide +kernel), by decide +kernel, by decide +kernel, by decide +kernel⟩
theorem li_X4_readWord : Jvm.Cond.instanceMethod mX4_readWord.1 ∈ mj_G ∧ Jvm.Cond.selects mX4_readWord.1.cls mX4_readWord.1 mX4_readWord.1 ∈ mj_G := ⟨mj_inG 427 (by decide +kernel) (by decide +kernel), mj_inG 6 (by decide +kernel) (by decide +kernel)⟩
theorem ll_X4_74 : mj_LL RX4 74 mX4_readToken := Or.inl (mj_inG 418 (by decide +kernel) (by decide +kernel))
theorem lb_X4_readToken : mj_LB mX4_readToken 0 := ⟨mj_inG 421 (by decide +kernel) (by decide +kernel), mj_inG 53 (by decide +kernel) (by decide +kernel), by decide +kernel, by decide +kernel, by decide +kernel⟩
theorem li_X4_readToken : Jvm.Cond.instanceMethod mX4_readToken.1 ∈ mj_G ∧ Jvm.Cond.selects mX4_readToken.1.cls mX4_readToken.1 mX4_readToken.1 ∈ mj_G := ⟨mj_inG 420 (by decide +kernel) (by decide +kernel), mj_inG 5 (by decide +kernel) (by decide +kernel)⟩
theorem fl_X4_77 : mj_FL RX4 77 4 5 := ⟨RX4, TX4, 9, rfl, by decide, uw_X4, Or.inl (mj_inG 195 (by decide +kernel) (by decide +kernel))⟩
theorem fl_X4_25 : mj_FL RX4 25 4 2 := ⟨RX4, TX4, 9, rfl, by decide, uw_X4, Or.inl (mj_inG 192 (by decide +kernel) (by decide +kernel))⟩
theorem fp_X4_54 {nm : String} : mj_FP RX4 nm 54 4 7 .int := ⟨RX4, TX4, 9, tyX4, rfl, by decide, uw_X4, tyX4_ok, nmX4, rfl, Or.inl ⟨rfl, Or.inl (mj_inG 197 (by decide +kernel) (by decide +kernel))⟩⟩
theorem fl_X4_54 : mj_FL RX4 54 4 7 := ⟨RX4, TX4, 9, rfl, by decide, uw_X4, Or.inl (mj_inG 197 (by decide +kernel) (by decide +kernel))⟩
theorem gs_X4_83 : Jvm.Cond.fieldLink RX4 83 "RiverChoice$Reader" "NEEDS" "[I" ∈ mj_G := mj_inG 494 (by decide +kernel) (by decide +kernel)
theorem ll_X4_43 : mj_LL RX4 43 mX4_readItem := Or.inl (mj_inG 414 (by decide +kernel) (by decide +kernel))
theorem lb_X4_readItem : mj_LB mX4_readItem 1 := ⟨mj_inG 417 (by decide +kernel) (by decide +kernel), mj_inG 53 (by decide +kernel) (by decide +kernel), by decide +kernel, by decide +kernel, by decide +kernel⟩
theorem li_X4_readItem : Jvm.Cond.instanceMethod mX4_readItem.1 ∈ mj_G ∧ Jvm.Cond.selects mX4_readItem.1.cls mX4_readItem.1 mX4_readItem.1 ∈ mj_G := ⟨mj_inG 416 (by decide +kernel) (by decide +kernel), mj_inG 4 (by decide +kernel) (by decide +kernel)⟩
theorem fl_X4_33 : mj_FL RX4 33 4 8 := ⟨RX4, TX4, 9, rfl, by decide, uw_X4, Or.inl (mj_inG 198 (by decide +kernel) (by decide +kernel))⟩
theorem fp_X4_33 {nm : String} : mj_FP RX4 nm 33 4 8 .int := ⟨RX4, TX4, 9, tyX4, rfl, by decide, uw_X4, tyX4_ok, nmX4, rfl, Or.inl ⟨rfl, Or.inl (mj_inG 198 (by decide +kernel) (by decide +kernel))⟩⟩
theorem fl_X4_21 : mj_FL RX4 21 4 1 := ⟨RX4, TX4, 9, rfl, by decide, uw_X4, Or.inl (mj_inG 190 (by decide +kernel) (by decide +kernel))⟩
theorem ll_X4_57 : mj_LL RX4 57 mX0_begin := Or.inl (mj_inG 504 (by decide +kernel) (by decide +kernel))
theorem lb_X0_begin : mj_LB mX0_begin 1 := ⟨mj_inG 307 (by decide +kernel) (by decide +kernel), mj_inG 49 (by decide +kernel) (by decide +kernel), by decide +kernel, by decide +kernel, by decide +kernel⟩
theorem li_X0_begin : Jvm.Cond.instanceMethod mX0_begin.1 ∈ mj_G ∧ Jvm.Cond.selects mX0_begin.1.cls mX0_begin.1 mX0_begin.1 ∈ mj_G := ⟨mj_inG 305 (by decide +kernel) (by decide +kernel), mj_inG 306 (by decide +kernel) (by decide +kernel)⟩
theorem ll_X4_60 : mj_LL RX4 60 mX0_enrol := Or.inl (mj_inG 505 (by decide +kernel) (by decide +kernel))
theorem lb_X0_enrol : mj_LB mX0_enrol 1 := ⟨mj_inG 331 (by decide +kernel) (by decide +kernel), mj_inG 49 (by decide +kernel) (by decide +kernel), by decide +kernel, by decide +kernel, by decide +kernel⟩
theorem li_X0_enrol : Jvm.Cond.instanceMethod mX0_enrol.1 ∈ mj_G ∧ Jvm.Cond.selects mX0_enrol.1.cls mX0_enrol.1 mX0_enrol.1 ∈ mj_G := ⟨mj_inG 329 (by decide +kernel) (by decide +kernel), mj_inG 330 (by decide +kernel) (by decide +kernel)⟩
theorem ll_X4_64 : mj_LL RX4 64 mX0_dress := Or.inl (mj_inG 506 (by decide +kernel) (by decide +kernel))
theorem lb_X0_dress : mj_LB mX0_dress 2 := ⟨mj_inG 346 (by decide +kernel) (by decide +kernel), mj_inG 49 (by decide +kernel) (by decide +kernel), by decide +kernel, by decide +kernel, by decide +kernel⟩
theorem li_X0_dress : Jvm.Cond.instanceMethod mX0_dress.1 ∈ mj_G ∧ Jvm.Cond.selects mX0_dress.1.cls mX0_dress.1 mX0_dress.1 ∈ mj_G := ⟨mj_inG 344 (by decide +kernel) (by decide +kernel), mj_inG 345 (by decide +kernel) (by decide +kernel)⟩
theorem ll_X4_68 : mj_LL RX4 68 mX0_bind := Or.inl (mj_inG 507 (by decide +kernel) (by decide +kernel))
theorem lb_X0_bind : mj_LB mX0_bind 2 := ⟨mj_inG 358 (by decide +kernel) (by decide +kernel), mj_inG 49 (by decide +kernel) (by decide +kernel), by decide +kernel, by decide +kernel, by decide +kernel⟩
theorem li_X0_bind : Jvm.Cond.instanceMethod mX0_bind.1 ∈ mj_G ∧ Jvm.Cond.selects mX0_bind.1.cls mX0_bind.1 mX0_bind.1 ∈ mj_G := ⟨mj_inG 356 (by decide +kernel) (by decide +kernel), mj_inG 357 (by decide +kernel) (by decide +kernel)⟩
theorem ll_X4_71 : mj_LL RX4 71 mX0_inform := Or.inl (mj_inG 508 (by decide +kernel) (by decide +kernel))
theorem lb_X0_inform : mj_LB mX0_inform 1 := ⟨mj_inG 377 (by decide +kernel) (by decide +kernel), mj_inG 49 (by decide +kernel) (by decide +kernel), by decide +kernel, by decide +kernel, by decide +kernel⟩
theorem li_X0_inform : Jvm.Cond.instanceMethod mX0_inform.1 ∈ mj_G ∧ Jvm.Cond.selects mX0_inform.1.cls mX0_inform.1 mX0_inform.1 ∈ mj_G := ⟨mj_inG 375 (by decide +kernel) (by decide +kernel), mj_inG 376 (by decide +kernel) (by decide +kernel)⟩
theorem ll_X4_50 : mj_LL RX4 50 mX4_tellItem := Or.inl (mj_inG 500 (by decide +kernel) (by decide +kernel))
theorem lb_X4_tellItem : mj_LB mX4_tellItem 0 := ⟨mj_inG 503 (by decide +kernel) (by decide +kernel), mj_inG 53 (by decide +kernel) (by decide +kernel), by decide +kernel, by decide +kernel, by decide +kernel⟩
theorem li_X4_tellItem : Jvm.Cond.instanceMethod mX4_tellItem.1 ∈ mj_G ∧ Jvm.Cond.selects mX4_tellItem.1.cls mX4_tellItem.1 mX4_tellItem.1 ∈ mj_G := ⟨mj_inG 502 (by decide +kernel) (by decide +kernel), mj_inG 8 (by decide +kernel) (by decide +kernel)⟩
theorem ob_X6_3 : Jvm.Cond.methodLink RX6 3 Lib.objectInit ∈ mj_G ∧ Jvm.Cond.instanceMethod Lib.objectInit ∈ mj_G ∧ Jvm.Cond.code Lib.objectInit ⟨#[0xb1]⟩ 1 none ∈ mj_G := ⟨mj_inG 243 (by decide +kernel) (by decide +kernel), mj_inG 71 (by decide +kernel) (by decide +kernel), mj_inG 72 (by decide +kernel) (by decide +kernel)⟩
theorem fp_X6_9 : mj_FP RX6 "<init>" 9 6 0 (tyX6 0) := ⟨RX6, TX6, 3, tyX6, rfl, by decide, uw_X6, tyX6_ok, nmX6, rfl, Or.inr ⟨rfl, rfl, rfl, mj_inG 246 (by decide +kernel) (by decide +kernel)⟩⟩
theorem nw_X6_15 : mj_NW RX6 15 5 1 [.null] := ⟨RX5, TX5, tyX5, rfl, uw_X5, tyX5_ok, mj_inG 244 (by decide +kernel) (by decide +kernel), mj_inG 80 (by decide +kernel) (by decide +kernel), mj_inG 50 (by decide +kernel) (by decide +kernel), fun j hj => by match j, hj with | 0, _ => rfl⟩
theorem ll_X6_17 : mj_LL RX6 17 mX5_init := Or.inr ⟨"RiverChoice", mj_inN 245 (by decide +kernel) (by decide +kernel)⟩
theorem fp_X6_18 : mj_FP RX6 "<init>" 18 6 1 (tyX6 1) := ⟨RX6, TX6, 3, tyX6, rfl, by decide, uw_X6, tyX6_ok, nmX6, rfl, Or.inr ⟨rfl, rfl, rfl, mj_inG 247 (by decide +kernel) (by decide +kernel)⟩⟩
theorem pl_X6 : plainName RX6 = true := by decide +kernel
theorem fl_X6_9 : mj_FL RX6 9 6 0 := ⟨RX6, TX6, 3, rfl, by decide, uw_X6, Or.inl (mj_inG 246 (by decide +kernel) (by decide +kernel))⟩
theorem fp_X6_30 {nm : String} : mj_FP RX6 nm 30 6 2 .int := ⟨RX6, TX6, 3, tyX6, rfl, by decide, uw_X6, tyX6_ok, nmX6, rfl, Or.inl ⟨rfl, Or.inl (mj_inG 248 (by decide +kernel) (by decide +kernel))⟩⟩
theorem fl_X6_52 : mj_FL RX6 52 0 6 := ⟨RX0, TX0, 7, rfl, by decide, uw_X0, Or.inr ⟨"RiverChoice", mj_inN 104 (by decide +kernel) (by decide +kernel)⟩⟩
theorem fl_X6_18 : mj_FL RX6 18 6 1 := ⟨RX6, TX6, 3, rfl, by decide, uw_X6, Or.inl (mj_inG 247 (by decide +kernel) (by decide +kernel))⟩
theorem ll_X6_55 : mj_LL RX6 55 mX5_chance := Or.inl (mj_inG 738 (by decide +kernel) (by decide +kernel))
theorem fl_X6_30 : mj_FL RX6 30 6 2 := ⟨RX6, TX6, 3, rfl, by decide, uw_X6, Or.inl (mj_inG 248 (by decide +kernel) (by decide +kernel))⟩
theorem ll_X6_38 : mj_LL RX6 38 mX8_costOf := Or.inr ⟨"RiverChoice", mj_inN 735 (by decide +kernel) (by decide +kernel)⟩
theorem ll_X6_42 : mj_LL RX6 42 mX0_knows := Or.inl (mj_inG 736 (by decide +kernel) (by decide +kernel))
theorem ll_X6_48 : mj_LL RX6 48 mX5_weigh := Or.inl (mj_inG 737 (by decide +kernel) (by decide +kernel))
theorem ll_X6_34 : mj_LL RX6 34 mX5_load := Or.inl (mj_inG 734 (by decide +kernel) (by decide +kernel))
theorem ll_X6_22 : mj_LL RX6 22 mX6_decode := Or.inl (mj_inG 726 (by decide +kernel) (by decide +kernel))
theorem lb_X6_decode : mj_LB mX6_decode 2 := ⟨mj_inG 729 (by decide +kernel) (by decide +kernel), mj_inG 56 (by decide +kernel) (by decide +kernel), by decide +kernel, by decide +kernel, by decide +kernel⟩
theorem li_X6_decode : Jvm.Cond.instanceMethod mX6_decode.1 ∈ mj_G ∧ Jvm.Cond.selects mX6_decode.1.cls mX6_decode.1 mX6_decode.1 ∈ mj_G := ⟨mj_inG 728 (by decide +kernel) (by decide +kernel), mj_inG 15 (by decide +kernel) (by decide +kernel)⟩
theorem ll_X6_26 : mj_LL RX6 26 mX6_fits := Or.inl (mj_inG 730 (by decide +kernel) (by decide +kernel))
theorem lb_X6_fits : mj_LB mX6_fits 3 := ⟨mj_inG 733 (by decide +kernel) (by decide +kernel), mj_inG 56 (by decide +kernel) (by decide +kernel), by decide +kernel, by decide +kernel, by decide +kernel⟩
theorem li_X6_fits : Jvm.Cond.instanceMethod mX6_fits.1 ∈ mj_G ∧ Jvm.Cond.selects mX6_fits.1.cls mX6_fits.1 mX6_fits.1 ∈ mj_G := ⟨mj_inG 732 (by decide +kernel) (by decide +kernel), mj_inG 16 (by decide +kernel) (by decide +kernel)⟩
theorem fp_X7_15 {nm : String} : mj_FP RX7 nm 15 7 1 .int := ⟨RX7, TX7, 2, tyX7, rfl, by decide, uw_X7, tyX7_ok, nmX7, rfl, Or.inl ⟨rfl, Or.inl (mj_inG 179 (by decide +kernel) (by decide +kernel))⟩⟩
theorem ob_X8_1 : Jvm.Cond.methodLink RX8 1 Lib.objectInit ∈ mj_G ∧ Jvm.Cond.instanceMethod Lib.objectInit ∈ mj_G ∧ Jvm.Cond.code Lib.objectInit ⟨#[0xb1]⟩ 1 none ∈ mj_G := ⟨mj_inG 70 (by decide +kernel) (by decide +kernel), mj_inG 71 (by decide +kernel) (by decide +kernel), mj_inG 72 (by decide +kernel) (by decide +kernel)⟩
theorem nw_X8_7 : mj_NW RX8 7 0 7 [.null, .null, .null, .null, .int 0, .int 0, .int 0] := ⟨RX0, TX0, tyX0, rfl, uw_X0, tyX0_ok, mj_inG 73 (by decide +kernel) (by decide +kernel), mj_inG 74 (by decide +kernel) (by decide +kernel), mj_inG 49 (by decide +kernel) (by decide +kernel), fun j hj => by match j, hj with | 0, _ => rfl | 1, _ => rfl | 2, _ => rfl | 3, _ => rfl | 4, _ => rfl | 5, _ => rfl | 6, _ => rfl⟩
theorem ll_X8_9 : mj_LL RX8 9 mX0_init := Or.inr ⟨"RiverChoice", mj_inN 75 (by decide +kernel) (by decide +kernel)⟩
theorem fp_X8_10 : mj_FP RX8 "<init>" 10 8 0 (tyX8 0) := ⟨RX8, TX8, 14, tyX8, rfl, by decide, uw_X8, tyX8_ok, nmX8, rfl, Or.inr ⟨rfl, rfl, rfl, mj_inG 257 (by decide +kernel) (by decide +kernel)⟩⟩
theorem nw_X8_16 : mj_NW RX8 16 3 5 [.null, .null, .null, .int 0, .int 0] := ⟨RX3, TX3, tyX3, rfl, uw_X3, tyX3_ok, mj_inG 121 (by decide +kernel) (by decide +kernel), mj_inG 122 (by decide +kernel) (by decide +kernel), mj_inG 51 (by decide +kernel) (by decide +kernel), fun j hj => by match j, hj with | 0, _ => rfl | 1, _ => rfl | 2, _ => rfl | 3, _ => rfl | 4, _ => rfl⟩
theorem ll_X8_18 : mj_LL RX8 18 mX3_init := Or.inr ⟨"RiverChoice", mj_inN 123 (by decide +kernel) (by decide +kernel)⟩
theorem fp_X8_19 : mj_FP RX8 "<init>" 19 8 1 (tyX8 1) := ⟨RX8, TX8, 14, tyX8, rfl, by decide, uw_X8, tyX8_ok, nmX8, rfl, Or.inr ⟨rfl, rfl, rfl, mj_inG 258 (by decide +kernel) (by decide +kernel)⟩⟩
theorem nw_X8_23 : mj_NW RX8 23 1 3 [.null, .null, .int 0] := ⟨RX1, TX1, tyX1, rfl, uw_X1, tyX1_ok, mj_inG 144 (by decide +kernel) (by decide +kernel), mj_inG 145 (by decide +kernel) (by decide +kernel), mj_inG 52 (by decide +kernel) (by decide +kernel), fun j hj => by match j, hj with | 0, _ => rfl | 1, _ => rfl | 2, _ => rfl⟩
theorem ll_X8_25 : mj_LL RX8 25 mX1_init := Or.inr ⟨"RiverChoice", mj_inN 146 (by decide +kernel) (by decide +kernel)⟩
theorem lb_X1_init : mj_LB mX1_init 0 := ⟨mj_inG 148 (by decide +kernel) (by decide +kernel), mj_inG 52 (by decide +kernel) (by decide +kernel), by decide +kernel, by decide +kernel, by decide +kernel⟩
theorem li_X1_init : mX1_init.1.name = "<init>" ∧ mX1_init.2.2.2.1 = none ∧ Jvm.Cond.instanceMethod mX1_init.1 ∈ mj_G := ⟨rfl, rfl, mj_inG 147 (by decide +kernel) (by decide +kernel)⟩
theorem fp_X8_26 : mj_FP RX8 "<init>" 26 8 2 (tyX8 2) := ⟨RX8, TX8, 14, tyX8, rfl, by decide, uw_X8, tyX8_ok, nmX8, rfl, Or.inr ⟨rfl, rfl, rfl, mj_inG 259 (by decide +kernel) (by decide +kernel)⟩⟩
theorem fp_X8_30 : mj_FP RX8 "<init>" 30 8 3 (tyX8 3) := ⟨RX8, TX8, 14, tyX8, rfl, by decide, uw_X8, tyX8_ok, nmX8, rfl, Or.inr ⟨rfl, rfl, rfl, mj_inG 260 (by decide +kernel) (by decide +kernel)⟩⟩
theorem nw_X8_33 : mj_NW RX8 33 4 9 [.null, .null, .null, .int 0, .int 0, .int 0, .int 0, .int 0, .int 0] := ⟨RX4, TX4, tyX4, rfl, uw_X4, tyX4_ok, mj_inG 166 (by decide +kernel) (by decide +kernel), mj_inG 167 (by decide +kernel) (by decide +kernel), mj_inG 53 (by decide +kernel) (by decide +kernel), fun j hj => by match j, hj with | 0, _ => rfl | 1, _ => rfl | 2, _ => rfl | 3, _ => rfl | 4, _ => rfl | 5, _ => rfl | 6, _ => rfl | 7, _ => rfl | 8, _ => rfl⟩
theorem ll_X8_35 : mj_LL RX8 35 mX4_init := Or.inr ⟨"RiverChoice", mj_inN 168 (by decide +kernel) (by decide +kernel)⟩
theorem lb_X4_init : mj_LB mX4_init 0 := ⟨mj_inG 170 (by decide +kernel) (by decide +kernel), mj_inG 53 (by decide +kernel) (by decide +kernel), by decide +kernel, by decide +kernel, by decide +kernel⟩
theorem li_X4_init : mX4_init.1.name = "<init>" ∧ mX4_init.2.2.2.1 = none ∧ Jvm.Cond.instanceMethod mX4_init.1 ∈ mj_G := ⟨rfl, rfl, mj_inG 169 (by decide +kernel) (by decide +kernel)⟩
theorem fp_X8_36 : mj_FP RX8 "<init>" 36 8 4 (tyX8 4) := ⟨RX8, TX8, 14, tyX8, rfl, by decide, uw_X8, tyX8_ok, nmX8, rfl, Or.inr ⟨rfl, rfl, rfl, mj_inG 261 (by decide +kernel) (by decide +kernel)⟩⟩
theorem nw_X8_40 : mj_NW RX8 40 2 3 [.null, .null, .int 0] := ⟨RX2, TX2, tyX2, rfl, uw_X2, tyX2_ok, mj_inG 219 (by decide +kernel) (by decide +kernel), mj_inG 220 (by decide +kernel) (by decide +kernel), mj_inG 55 (by decide +kernel) (by decide +kernel), fun j hj => by match j, hj with | 0, _ => rfl | 1, _ => rfl | 2, _ => rfl⟩
theorem ll_X8_42 : mj_LL RX8 42 mX2_init := Or.inr ⟨"RiverChoice", mj_inN 221 (by decide +kernel) (by decide +kernel)⟩
theorem lb_X2_init : mj_LB mX2_init 0 := ⟨mj_inG 223 (by decide +kernel) (by decide +kernel), mj_inG 55 (by decide +kernel) (by decide +kernel), by decide +kernel, by decide +kernel, by decide +kernel⟩
theorem li_X2_init : mX2_init.1.name = "<init>" ∧ mX2_init.2.2.2.1 = none ∧ Jvm.Cond.instanceMethod mX2_init.1 ∈ mj_G := ⟨rfl, rfl, mj_inG 222 (by decide +kernel) (by decide +kernel)⟩
theorem fp_X8_43 : mj_FP RX8 "<init>" 43 8 5 (tyX8 5) := ⟨RX8, TX8, 14, tyX8, rfl, by decide, uw_X8, tyX8_ok, nmX8, rfl, Or.inr ⟨rfl, rfl, rfl, mj_inG 262 (by decide +kernel) (by decide +kernel)⟩⟩
theorem nw_X8_47 : mj_NW RX8 47 5 1 [.null] := ⟨RX5, TX5, tyX5, rfl, uw_X5, tyX5_ok, mj_inG 236 (by decide +kernel) (by decide +kernel), mj_inG 80 (by decide +kernel) (by decide +kernel), mj_inG 50 (by decide +kernel) (by decide +kernel), fun j hj => by match j, hj with | 0, _ => rfl⟩
theorem ll_X8_49 : mj_LL RX8 49 mX5_init := Or.inr ⟨"RiverChoice", mj_inN 237 (by decide +kernel) (by decide +kernel)⟩
theorem fp_X8_50 : mj_FP RX8 "<init>" 50 8 6 (tyX8 6) := ⟨RX8, TX8, 14, tyX8, rfl, by decide, uw_X8, tyX8_ok, nmX8, rfl, Or.inr ⟨rfl, rfl, rfl, mj_inG 263 (by decide +kernel) (by decide +kernel)⟩⟩
theorem nw_X8_54 : mj_NW RX8 54 6 3 [.null, .null, .int 0] := ⟨RX6, TX6, tyX6, rfl, uw_X6, tyX6_ok, mj_inG 238 (by decide +kernel) (by decide +kernel), mj_inG 239 (by decide +kernel) (by decide +kernel), mj_inG 56 (by decide +kernel) (by decide +kernel), fun j hj => by match j, hj with | 0, _ => rfl | 1, _ => rfl | 2, _ => rfl⟩
theorem ll_X8_56 : mj_LL RX8 56 mX6_init := Or.inr ⟨"RiverChoice", mj_inN 240 (by decide +kernel) (by decide +kernel)⟩
theorem lb_X6_init : mj_LB mX6_init 0 := ⟨mj_inG 242 (by decide +kernel) (by decide +kernel), mj_inG 56 (by decide +kernel) (by decide +kernel), by decide +kernel, by decide +kernel, by decide +kernel⟩
theorem li_X6_init : mX6_init.1.name = "<init>" ∧ mX6_init.2.2.2.1 = none ∧ Jvm.Cond.instanceMethod mX6_init.1 ∈ mj_G := ⟨rfl, rfl, mj_inG 241 (by decide +kernel) (by decide +kernel)⟩
theorem fp_X8_57 : mj_FP RX8 "<init>" 57 8 7 (tyX8 7) := ⟨RX8, TX8, 14, tyX8, rfl, by decide, uw_X8, tyX8_ok, nmX8, rfl, Or.inr ⟨rfl, rfl, rfl, mj_inG 264 (by decide +kernel) (by decide +kernel)⟩⟩
theorem fp_X8_61 : mj_FP RX8 "<init>" 61 8 8 (tyX8 8) := ⟨RX8, TX8, 14, tyX8, rfl, by decide, uw_X8, tyX8_ok, nmX8, rfl, Or.inr ⟨rfl, rfl, rfl, mj_inG 265 (by decide +kernel) (by decide +kernel)⟩⟩
theorem fp_X8_65 {nm : String} : mj_FP RX8 nm 65 8 9 .long := ⟨RX8, TX8, 14, tyX8, rfl, by decide, uw_X8, tyX8_ok, nmX8, rfl, Or.inl ⟨rfl, Or.inl (mj_inG 266 (by decide +kernel) (by decide +kernel))⟩⟩
theorem fp_X8_69 {nm : String} : mj_FP RX8 nm 69 8 10 .long := ⟨RX8, TX8, 14, tyX8, rfl, by decide, uw_X8, tyX8_ok, nmX8, rfl, Or.inl ⟨rfl, Or.inl (mj_inG 267 (by decide +kernel) (by decide +kernel))⟩⟩
theorem fl_X8_308 : mj_FL RX8 308 8 13 := ⟨RX8, TX8, 14, rfl, by decide, uw_X8, Or.inl (mj_inG 270 (by decide +kernel) (by decide +kernel))⟩
theorem fp_X8_308 {nm : String} : mj_FP RX8 nm 308 8 13 .int := ⟨RX8, TX8, 14, tyX8, rfl, by decide, uw_X8, tyX8_ok, nmX8, rfl, Or.inl ⟨rfl, Or.inl (mj_inG 270 (by decide +kernel) (by decide +kernel))⟩⟩
theorem fl_X8_305 : mj_FL RX8 305 8 12 := ⟨RX8, TX8, 14, rfl, by decide, uw_X8, Or.inl (mj_inG 269 (by decide +kernel) (by decide +kernel))⟩
theorem fp_X8_305 {nm : String} : mj_FP RX8 nm 305 8 12 .int := ⟨RX8, TX8, 14, tyX8, rfl, by decide, uw_X8, tyX8_ok, nmX8, rfl, Or.inl ⟨rfl, Or.inl (mj_inG 269 (by decide +kernel) (by decide +kernel))⟩⟩
theorem fl_X8_302 : mj_FL RX8 302 8 11 := ⟨RX8, TX8, 14, rfl, by decide, uw_X8, Or.inl (mj_inG 268 (by decide +kernel) (by decide +kernel))⟩
theorem fp_X8_302 {nm : String} : mj_FP RX8 nm 302 8 11 .int := ⟨RX8, TX8, 14, tyX8, rfl, by decide, uw_X8, tyX8_ok, nmX8, rfl, Or.inl ⟨rfl, Or.inl (mj_inG 268 (by decide +kernel) (by decide +kernel))⟩⟩
theorem ll_X8_202 : mj_LL RX8 202 mX8_refusedAs := Or.inl (mj_inG 316 (by decide +kernel) (by decide +kernel))
theorem lb_X8_refusedAs : mj_LB mX8_refusedAs 2 := ⟨mj_inG 319 (by decide +kernel) (by decide +kernel), mj_inG 48 (by decide +kernel) (by decide +kernel), by decide +kernel, by decide +kernel, by decide +kernel⟩
theorem li_X8_refusedAs : Jvm.Cond.instanceMethod mX8_refusedAs.1 ∈ mj_G ∧ Jvm.Cond.selects mX8_refusedAs.1.cls mX8_refusedAs.1 mX8_refusedAs.1 ∈ mj_G := ⟨mj_inG 318 (by decide +kernel) (by decide +kernel), mj_inG 2 (by decide +kernel) (by decide +kernel)⟩
theorem fl_X8_19 : mj_FL RX8 19 8 1 := ⟨RX8, TX8, 14, rfl, by decide, uw_X8, Or.inl (mj_inG 258 (by decide +kernel) (by decide +kernel))⟩
theorem ll_X8_122 : mj_LL RX8 122 mX3_forget := Or.inl (mj_inG 320 (by decide +kernel) (by decide +kernel))
theorem lb_X3_forget : mj_LB mX3_forget 0 := ⟨mj_inG 323 (by decide +kernel) (by decide +kernel), mj_inG 51 (by decide +kernel) (by decide +kernel), by decide +kernel, by decide +kernel, by decide +kernel⟩
theorem li_X3_forget : Jvm.Cond.instanceMethod mX3_forget.1 ∈ mj_G ∧ Jvm.Cond.selects mX3_forget.1.cls mX3_forget.1 mX3_forget.1 ∈ mj_G := ⟨mj_inG 321 (by decide +kernel) (by decide +kernel), mj_inG 322 (by decide +kernel) (by decide +kernel)⟩
theorem ll_X8_102 : mj_LL RX8 102 mX8_refused := Or.inl (mj_inG 312 (by decide +kernel) (by decide +kernel))
theorem lb_X8_refused : mj_LB mX8_refused 1 := ⟨mj_inG 315 (by decide +kernel) (by decide +kernel), mj_inG 48 (by decide +kernel) (by decide +kernel), by decide +kernel, by decide +kernel, by decide +kernel⟩
theorem li_X8_refused : Jvm.Cond.instanceMethod mX8_refused.1 ∈ mj_G ∧ Jvm.Cond.selects mX8_refused.1.cls mX8_refused.1 mX8_refused.1 ∈ mj_G := ⟨mj_inG 314 (by decide +kernel) (by decide +kernel), mj_inG 1 (by decide +kernel) (by decide +kernel)⟩
theorem fl_X8_10 : mj_FL RX8 10 8 0 := ⟨RX8, TX8, 14, rfl, by decide, uw_X8, Or.inl (mj_inG 257 (by decide +kernel) (by decide +kernel))⟩
theorem ll_X8_72 : mj_LL RX8 72 mX0_begin := Or.inl (mj_inG 304 (by decide +kernel) (by decide +kernel))
theorem ll_X8_76 : mj_LL RX8 76 mX8_accepted := Or.inl (mj_inG 308 (by decide +kernel) (by decide +kernel))
theorem lb_X8_accepted : mj_LB mX8_accepted 1 := ⟨mj_inG 311 (by decide +kernel) (by decide +kernel), mj_inG 48 (by decide +kernel) (by decide +kernel), by decide +kernel, by decide +kernel, by decide +kernel⟩
theorem li_X8_accepted : Jvm.Cond.instanceMethod mX8_accepted.1 ∈ mj_G ∧ Jvm.Cond.selects mX8_accepted.1.cls mX8_accepted.1 mX8_accepted.1 ∈ mj_G := ⟨mj_inG 310 (by decide +kernel) (by decide +kernel), mj_inG 0 (by decide +kernel) (by decide +kernel)⟩
theorem fl_X8_61 : mj_FL RX8 61 8 8 := ⟨RX8, TX8, 14, rfl, by decide, uw_X8, Or.inl (mj_inG 265 (by decide +kernel) (by decide +kernel))⟩
theorem ll_X8_79 : mj_LL RX8 79 mX0_enrol := Or.inl (mj_inG 328 (by decide +kernel) (by decide +kernel))
theorem ll_X8_83 : mj_LL RX8 83 mX0_dress := Or.inl (mj_inG 343 (by decide +kernel) (by decide +kernel))
theorem ll_X8_87 : mj_LL RX8 87 mX0_bind := Or.inl (mj_inG 355 (by decide +kernel) (by decide +kernel))
theorem ll_X8_90 : mj_LL RX8 90 mX0_inform := Or.inl (mj_inG 374 (by decide +kernel) (by decide +kernel))
theorem fl_X8_36 : mj_FL RX8 36 8 4 := ⟨RX8, TX8, 14, rfl, by decide, uw_X8, Or.inl (mj_inG 261 (by decide +kernel) (by decide +kernel))⟩
theorem fl_X8_93 : mj_FL RX8 93 4 0 := ⟨RX4, TX4, 9, rfl, by decide, uw_X4, Or.inr ⟨"RiverChoice", mj_inN 189 (by decide +kernel) (by decide +kernel)⟩⟩
theorem ll_X8_97 : mj_LL RX8 97 mX7_append := Or.inl (mj_inG 386 (by decide +kernel) (by decide +kernel))
theorem lb_X7_append : mj_LB mX7_append 1 := ⟨mj_inG 389 (by decide +kernel) (by decide +kernel), mj_inG 54 (by decide +kernel) (by decide +kernel), by decide +kernel, by decide +kernel, by decide +kernel⟩
theorem li_X7_append : Jvm.Cond.instanceMethod mX7_append.1 ∈ mj_G ∧ Jvm.Cond.selects mX7_append.1.cls mX7_append.1 mX7_append.1 ∈ mj_G := ⟨mj_inG 387 (by decide +kernel) (by decide +kernel), mj_inG 388 (by decide +kernel) (by decide +kernel)⟩
theorem ll_X8_105 : mj_LL RX8 105 mX7_empty := Or.inl (mj_inG 394 (by decide +kernel) (by decide +kernel))
theorem lb_X7_empty : mj_LB mX7_empty 0 := ⟨mj_inG 397 (by decide +kernel) (by decide +kernel), mj_inG 54 (by decide +kernel) (by decide +kernel), by decide +kernel, by decide +kernel, by decide +kernel⟩
theorem li_X7_empty : Jvm.Cond.instanceMethod mX7_empty.1 ∈ mj_G ∧ Jvm.Cond.selects mX7_empty.1.cls mX7_empty.1 mX7_empty.1 ∈ mj_G := ⟨mj_inG 395 (by decide +kernel) (by decide +kernel), mj_inG 396 (by decide +kernel) (by decide +kernel)⟩
theorem ll_X8_109 : mj_LL RX8 109 mX4_findFault := Or.inl (mj_inG 402 (by decide +kernel) (by decide +kernel))
theorem lb_X4_findFault : mj_LB mX4_findFault 0 := ⟨mj_inG 405 (by decide +kernel) (by decide +kernel), mj_inG 53 (by decide +kernel) (by decide +kernel), by decide +kernel, by decide +kernel, by decide +kernel⟩
theorem li_X4_findFault : Jvm.Cond.instanceMethod mX4_findFault.1 ∈ mj_G ∧ Jvm.Cond.selects mX4_findFault.1.cls mX4_findFault.1 mX4_findFault.1 ∈ mj_G := ⟨mj_inG 403 (by decide +kernel) (by decide +kernel), mj_inG 404 (by decide +kernel) (by decide +kernel)⟩
theorem ll_X8_112 : mj_LL RX8 112 mX4_tellDraft := Or.inl (mj_inG 496 (by decide +kernel) (by decide +kernel))
theorem lb_X4_tellDraft : mj_LB mX4_tellDraft 0 := ⟨mj_inG 499 (by decide +kernel) (by decide +kernel), mj_inG 53 (by decide +kernel) (by decide +kernel), by decide +kernel, by decide +kernel, by decide +kernel⟩
theorem li_X4_tellDraft : Jvm.Cond.instanceMethod mX4_tellDraft.1 ∈ mj_G ∧ Jvm.Cond.selects mX4_tellDraft.1.cls mX4_tellDraft.1 mX4_tellDraft.1 ∈ mj_G := ⟨mj_inG 497 (by decide +kernel) (by decide +kernel), mj_inG 498 (by decide +kernel) (by decide +kernel)⟩
theorem fl_X8_115 : mj_FL RX8 115 4 1 := ⟨RX4, TX4, 9, rfl, by decide, uw_X4, Or.inr ⟨"RiverChoice", mj_inN 191 (by decide +kernel) (by decide +kernel)⟩⟩
theorem ll_X8_118 : mj_LL RX8 118 mX0_become := Or.inl (mj_inG 509 (by decide +kernel) (by decide +kernel))
theorem lb_X0_become : mj_LB mX0_become 1 := ⟨mj_inG 512 (by decide +kernel) (by decide +kernel), mj_inG 49 (by decide +kernel) (by decide +kernel), by decide +kernel, by decide +kernel, by decide +kernel⟩
theorem li_X0_become : Jvm.Cond.instanceMethod mX0_become.1 ∈ mj_G ∧ Jvm.Cond.selects mX0_become.1.cls mX0_become.1 mX0_become.1 ∈ mj_G := ⟨mj_inG 510 (by decide +kernel) (by decide +kernel), mj_inG 511 (by decide +kernel) (by decide +kernel)⟩
theorem fl_X8_125 : mj_FL RX8 125 4 8 := ⟨RX4, TX4, 9, rfl, by decide, uw_X4, Or.inr ⟨"RiverChoice", mj_inN 199 (by decide +kernel) (by decide +kernel)⟩⟩
theorem ll_X8_129 : mj_LL RX8 129 mX0_has := Or.inl (mj_inG 521 (by decide +kernel) (by decide +kernel))
theorem ll_X8_133 : mj_LL RX8 133 mX8_isTest := Or.inl (mj_inG 522 (by decide +kernel) (by decide +kernel))
theorem lb_X8_isTest : mj_LB mX8_isTest 1 := ⟨mj_inG 524 (by decide +kernel) (by decide +kernel), mj_inG 48 (by decide +kernel) (by decide +kernel), by decide +kernel, by decide +kernel, by decide +kernel⟩
theorem li_X8_isTest : Jvm.Cond.static mX8_isTest.1 ∈ mj_G := mj_inG 523 (by decide +kernel) (by decide +kernel)
theorem fl_X8_136 : mj_FL RX8 136 0 6 := ⟨RX0, TX0, 7, rfl, by decide, uw_X0, Or.inr ⟨"RiverChoice", mj_inN 105 (by decide +kernel) (by decide +kernel)⟩⟩
theorem ll_X8_139 : mj_LL RX8 139 mX8_costOf := Or.inl (mj_inG 525 (by decide +kernel) (by decide +kernel))
theorem ll_X8_142 : mj_LL RX8 142 mX3_push := Or.inl (mj_inG 530 (by decide +kernel) (by decide +kernel))
theorem lb_X3_push : mj_LB mX3_push 1 := ⟨mj_inG 533 (by decide +kernel) (by decide +kernel), mj_inG 51 (by decide +kernel) (by decide +kernel), by decide +kernel, by decide +kernel, by decide +kernel⟩
theorem li_X3_push : Jvm.Cond.instanceMethod mX3_push.1 ∈ mj_G ∧ Jvm.Cond.selects mX3_push.1.cls mX3_push.1 mX3_push.1 ∈ mj_G := ⟨mj_inG 531 (by decide +kernel) (by decide +kernel), mj_inG 532 (by decide +kernel) (by decide +kernel)⟩
theorem ll_X8_145 : mj_LL RX8 145 mX0_pass := Or.inl (mj_inG 535 (by decide +kernel) (by decide +kernel))
theorem lb_X0_pass : mj_LB mX0_pass 3 := ⟨mj_inG 538 (by decide +kernel) (by decide +kernel), mj_inG 49 (by decide +kernel) (by decide +kernel), by decide +kernel, by decide +kernel, by decide +kernel⟩
theorem li_X0_pass : Jvm.Cond.instanceMethod mX0_pass.1 ∈ mj_G ∧ Jvm.Cond.selects mX0_pass.1.cls mX0_pass.1 mX0_pass.1 ∈ mj_G := ⟨mj_inG 536 (by decide +kernel) (by decide +kernel), mj_inG 537 (by decide +kernel) (by decide +kernel)⟩
theorem ll_X8_149 : mj_LL RX8 149 mX0_trustOf := Or.inl (mj_inG 590 (by decide +kernel) (by decide +kernel))
theorem ll_X8_152 : mj_LL RX8 152 mX3_pop := Or.inl (mj_inG 604 (by decide +kernel) (by decide +kernel))
theorem lb_X3_pop : mj_LB mX3_pop 1 := ⟨mj_inG 607 (by decide +kernel) (by decide +kernel), mj_inG 51 (by decide +kernel) (by decide +kernel), by decide +kernel, by decide +kernel, by decide +kernel⟩
theorem li_X3_pop : Jvm.Cond.instanceMethod mX3_pop.1 ∈ mj_G ∧ Jvm.Cond.selects mX3_pop.1.cls mX3_pop.1 mX3_pop.1 ∈ mj_G := ⟨mj_inG 605 (by decide +kernel) (by decide +kernel), mj_inG 606 (by decide +kernel) (by decide +kernel)⟩
theorem ll_X8_156 : mj_LL RX8 156 mX0_weightOf := Or.inl (mj_inG 612 (by decide +kernel) (by decide +kernel))
theorem ll_X8_160 : mj_LL RX8 160 mX8_casesOf := Or.inl (mj_inG 617 (by decide +kernel) (by decide +kernel))
theorem ll_X8_164 : mj_LL RX8 164 mX0_showsOf := Or.inl (mj_inG 626 (by decide +kernel) (by decide +kernel))
theorem lb_X0_showsOf : mj_LB mX0_showsOf 2 := ⟨mj_inG 629 (by decide +kernel) (by decide +kernel), mj_inG 49 (by decide +kernel) (by decide +kernel), by decide +kernel, by decide +kernel, by decide +kernel⟩
theorem li_X0_showsOf : Jvm.Cond.instanceMethod mX0_showsOf.1 ∈ mj_G ∧ Jvm.Cond.selects mX0_showsOf.1.cls mX0_showsOf.1 mX0_showsOf.1 ∈ mj_G := ⟨mj_inG 627 (by decide +kernel) (by decide +kernel), mj_inG 628 (by decide +kernel) (by decide +kernel)⟩
theorem ll_X8_167 : mj_LL RX8 167 mX0_signsOf := Or.inl (mj_inG 634 (by decide +kernel) (by decide +kernel))
theorem ll_X8_170 : mj_LL RX8 170 mX0_brothersOf := Or.inl (mj_inG 638 (by decide +kernel) (by decide +kernel))
theorem ll_X8_173 : mj_LL RX8 173 mX0_knows := Or.inl (mj_inG 639 (by decide +kernel) (by decide +kernel))
theorem ll_X8_176 : mj_LL RX8 176 mX0_likeliestOf := Or.inl (mj_inG 640 (by decide +kernel) (by decide +kernel))
theorem lb_X0_likeliestOf : mj_LB mX0_likeliestOf 1 := ⟨mj_inG 643 (by decide +kernel) (by decide +kernel), mj_inG 49 (by decide +kernel) (by decide +kernel), by decide +kernel, by decide +kernel, by decide +kernel⟩
theorem li_X0_likeliestOf : Jvm.Cond.instanceMethod mX0_likeliestOf.1 ∈ mj_G ∧ Jvm.Cond.selects mX0_likeliestOf.1.cls mX0_likeliestOf.1 mX0_likeliestOf.1 ∈ mj_G := ⟨mj_inG 641 (by decide +kernel) (by decide +kernel), mj_inG 642 (by decide +kernel) (by decide +kernel)⟩
theorem ll_X8_191 : mj_LL RX8 191 mJ6_bitCount_0f7a4 := Or.inl (mj_inG 670 (by decide +kernel) (by decide +kernel))
theorem ll_X8_198 : mj_LL RX8 198 mX8_greatestCommon := Or.inl (mj_inG 677 (by decide +kernel) (by decide +kernel))
theorem ll_X8_179 : mj_LL RX8 179 mX0_hasAll := Or.inl (mj_inG 649 (by decide +kernel) (by decide +kernel))
theorem lb_X0_hasAll : mj_LB mX0_hasAll 1 := ⟨mj_inG 652 (by decide +kernel) (by decide +kernel), mj_inG 49 (by decide +kernel) (by decide +kernel), by decide +kernel, by decide +kernel, by decide +kernel⟩
theorem li_X0_hasAll : Jvm.Cond.instanceMethod mX0_hasAll.1 ∈ mj_G ∧ Jvm.Cond.selects mX0_hasAll.1.cls mX0_hasAll.1 mX0_hasAll.1 ∈ mj_G := ⟨mj_inG 650 (by decide +kernel) (by decide +kernel), mj_inG 651 (by decide +kernel) (by decide +kernel)⟩
theorem ll_X8_182 : mj_LL RX8 182 mX8_isNeed := Or.inl (mj_inG 653 (by decide +kernel) (by decide +kernel))
theorem lb_X8_isNeed : mj_LB mX8_isNeed 1 := ⟨mj_inG 655 (by decide +kernel) (by decide +kernel), mj_inG 48 (by decide +kernel) (by decide +kernel), by decide +kernel, by decide +kernel, by decide +kernel⟩
theorem li_X8_isNeed : Jvm.Cond.static mX8_isNeed.1 ∈ mj_G := mj_inG 654 (by decide +kernel) (by decide +kernel)
theorem fl_X8_43 : mj_FL RX8 43 8 5 := ⟨RX8, TX8, 14, rfl, by decide, uw_X8, Or.inl (mj_inG 262 (by decide +kernel) (by decide +kernel))⟩
theorem ll_X8_185 : mj_LL RX8 185 mX2_seeNow := Or.inl (mj_inG 656 (by decide +kernel) (by decide +kernel))
theorem lb_X2_seeNow : mj_LB mX2_seeNow 1 := ⟨mj_inG 659 (by decide +kernel) (by decide +kernel), mj_inG 55 (by decide +kernel) (by decide +kernel), by decide +kernel, by decide +kernel, by decide +kernel⟩
theorem li_X2_seeNow : Jvm.Cond.instanceMethod mX2_seeNow.1 ∈ mj_G ∧ Jvm.Cond.selects mX2_seeNow.1.cls mX2_seeNow.1 mX2_seeNow.1 ∈ mj_G := ⟨mj_inG 657 (by decide +kernel) (by decide +kernel), mj_inG 658 (by decide +kernel) (by decide +kernel)⟩
theorem ll_X8_188 : mj_LL RX8 188 mX2_waysToHold := Or.inl (mj_inG 661 (by decide +kernel) (by decide +kernel))
theorem fl_X8_205 : mj_FL RX8 205 0 4 := ⟨RX0, TX0, 7, rfl, by decide, uw_X0, Or.inr ⟨"RiverChoice", mj_inN 98 (by decide +kernel) (by decide +kernel)⟩⟩
theorem ll_X8_208 : mj_LL RX8 208 mX2_chooseBest := Or.inl (mj_inG 682 (by decide +kernel) (by decide +kernel))
theorem lb_X2_chooseBest : mj_LB mX2_chooseBest 3 := ⟨mj_inG 685 (by decide +kernel) (by decide +kernel), mj_inG 55 (by decide +kernel) (by decide +kernel), by decide +kernel, by decide +kernel, by decide +kernel⟩
theorem li_X2_chooseBest : Jvm.Cond.instanceMethod mX2_chooseBest.1 ∈ mj_G ∧ Jvm.Cond.selects mX2_chooseBest.1.cls mX2_chooseBest.1 mX2_chooseBest.1 ∈ mj_G := ⟨mj_inG 683 (by decide +kernel) (by decide +kernel), mj_inG 684 (by decide +kernel) (by decide +kernel)⟩
theorem fl_X8_212 : mj_FL RX8 212 2 2 := ⟨RX2, TX2, 3, rfl, by decide, uw_X2, Or.inr ⟨"RiverChoice", mj_inN 228 (by decide +kernel) (by decide +kernel)⟩⟩
theorem ll_X8_323 : mj_LL RX8 323 mX2_seeBehind := Or.inl (mj_inG 706 (by decide +kernel) (by decide +kernel))
theorem lb_X2_seeBehind : mj_LB mX2_seeBehind 4 := ⟨mj_inG 709 (by decide +kernel) (by decide +kernel), mj_inG 55 (by decide +kernel) (by decide +kernel), by decide +kernel, by decide +kernel, by decide +kernel⟩
theorem li_X2_seeBehind : Jvm.Cond.instanceMethod mX2_seeBehind.1 ∈ mj_G ∧ Jvm.Cond.selects mX2_seeBehind.1.cls mX2_seeBehind.1 mX2_seeBehind.1 ∈ mj_G := ⟨mj_inG 707 (by decide +kernel) (by decide +kernel), mj_inG 708 (by decide +kernel) (by decide +kernel)⟩
theorem ll_X8_215 : mj_LL RX8 215 mX8_isWeighed := Or.inl (mj_inG 693 (by decide +kernel) (by decide +kernel))
theorem lb_X8_isWeighed : mj_LB mX8_isWeighed 1 := ⟨mj_inG 695 (by decide +kernel) (by decide +kernel), mj_inG 48 (by decide +kernel) (by decide +kernel), by decide +kernel, by decide +kernel, by decide +kernel⟩
theorem li_X8_isWeighed : Jvm.Cond.static mX8_isWeighed.1 ∈ mj_G := mj_inG 694 (by decide +kernel) (by decide +kernel)
theorem ll_X8_220 : mj_LL RX8 220 mX8_waysNow := Or.inl (mj_inG 698 (by decide +kernel) (by decide +kernel))
theorem lb_X8_waysNow : mj_LB mX8_waysNow 2 := ⟨mj_inG 701 (by decide +kernel) (by decide +kernel), mj_inG 48 (by decide +kernel) (by decide +kernel), by decide +kernel, by decide +kernel, by decide +kernel⟩
theorem li_X8_waysNow : Jvm.Cond.instanceMethod mX8_waysNow.1 ∈ mj_G ∧ Jvm.Cond.selects mX8_waysNow.1.cls mX8_waysNow.1 mX8_waysNow.1 ∈ mj_G := ⟨mj_inG 700 (by decide +kernel) (by decide +kernel), mj_inG 13 (by decide +kernel) (by decide +kernel)⟩
theorem ll_X8_223 : mj_LL RX8 223 mX8_gainOf := Or.inl (mj_inG 702 (by decide +kernel) (by decide +kernel))
theorem lb_X8_gainOf : mj_LB mX8_gainOf 5 := ⟨mj_inG 705 (by decide +kernel) (by decide +kernel), mj_inG 48 (by decide +kernel) (by decide +kernel), by decide +kernel, by decide +kernel, by decide +kernel⟩
theorem li_X8_gainOf : Jvm.Cond.instanceMethod mX8_gainOf.1 ∈ mj_G ∧ Jvm.Cond.selects mX8_gainOf.1.cls mX8_gainOf.1 mX8_gainOf.1 ∈ mj_G := ⟨mj_inG 704 (by decide +kernel) (by decide +kernel), mj_inG 14 (by decide +kernel) (by decide +kernel)⟩
theorem fl_X8_57 : mj_FL RX8 57 8 7 := ⟨RX8, TX8, 14, rfl, by decide, uw_X8, Or.inl (mj_inG 264 (by decide +kernel) (by decide +kernel))⟩
theorem ll_X8_227 : mj_LL RX8 227 mX6_find := Or.inl (mj_inG 722 (by decide +kernel) (by decide +kernel))
theorem lb_X6_find : mj_LB mX6_find 3 := ⟨mj_inG 725 (by decide +kernel) (by decide +kernel), mj_inG 56 (by decide +kernel) (by decide +kernel), by decide +kernel, by decide +kernel, by decide +kernel⟩
theorem li_X6_find : Jvm.Cond.instanceMethod mX6_find.1 ∈ mj_G ∧ Jvm.Cond.selects mX6_find.1.cls mX6_find.1 mX6_find.1 ∈ mj_G := ⟨mj_inG 723 (by decide +kernel) (by decide +kernel), mj_inG 724 (by decide +kernel) (by decide +kernel)⟩
theorem fl_X8_231 : mj_FL RX8 231 6 2 := ⟨RX6, TX6, 3, rfl, by decide, uw_X6, Or.inr ⟨"RiverChoice", mj_inN 249 (by decide +kernel) (by decide +kernel)⟩⟩
theorem ll_X8_232 : mj_LL RX8 232 mX6_testAt := Or.inl (mj_inG 739 (by decide +kernel) (by decide +kernel))
theorem lb_X6_testAt : mj_LB mX6_testAt 1 := ⟨mj_inG 742 (by decide +kernel) (by decide +kernel), mj_inG 56 (by decide +kernel) (by decide +kernel), by decide +kernel, by decide +kernel, by decide +kernel⟩
theorem li_X6_testAt : Jvm.Cond.instanceMethod mX6_testAt.1 ∈ mj_G ∧ Jvm.Cond.selects mX6_testAt.1.cls mX6_testAt.1 mX6_testAt.1 ∈ mj_G := ⟨mj_inG 740 (by decide +kernel) (by decide +kernel), mj_inG 741 (by decide +kernel) (by decide +kernel)⟩
theorem ll_X8_238 : mj_LL RX8 238 mX0_besides := Or.inl (mj_inG 747 (by decide +kernel) (by decide +kernel))
theorem fl_X8_235 : mj_FL RX8 235 0 5 := ⟨RX0, TX0, 7, rfl, by decide, uw_X0, Or.inr ⟨"RiverChoice", mj_inN 101 (by decide +kernel) (by decide +kernel)⟩⟩
theorem ll_X8_327 : mj_LL RX8 327 mX0_areBrothers := Or.inl (mj_inG 757 (by decide +kernel) (by decide +kernel))
theorem ll_X8_286 : mj_LL RX8 286 mX2_trustSeen := Or.inl (mj_inG 758 (by decide +kernel) (by decide +kernel))
theorem lb_X2_trustSeen : mj_LB mX2_trustSeen 1 := ⟨mj_inG 761 (by decide +kernel) (by decide +kernel), mj_inG 55 (by decide +kernel) (by decide +kernel), by decide +kernel, by decide +kernel, by decide +kernel⟩
theorem li_X2_trustSeen : Jvm.Cond.instanceMethod mX2_trustSeen.1 ∈ mj_G ∧ Jvm.Cond.selects mX2_trustSeen.1.cls mX2_trustSeen.1 mX2_trustSeen.1 ∈ mj_G := ⟨mj_inG 759 (by decide +kernel) (by decide +kernel), mj_inG 760 (by decide +kernel) (by decide +kernel)⟩
theorem ll_X8_275 : mj_LL RX8 275 mX8_isIn := Or.inl (mj_inG 756 (by decide +kernel) (by decide +kernel))
theorem ll_X8_241 : mj_LL RX8 241 mX8_mayStay := Or.inl (mj_inG 752 (by decide +kernel) (by decide +kernel))
theorem lb_X8_mayStay : mj_LB mX8_mayStay 2 := ⟨mj_inG 755 (by decide +kernel) (by decide +kernel), mj_inG 48 (by decide +kernel) (by decide +kernel), by decide +kernel, by decide +kernel, by decide +kernel⟩
theorem li_X8_mayStay : Jvm.Cond.instanceMethod mX8_mayStay.1 ∈ mj_G ∧ Jvm.Cond.selects mX8_mayStay.1.cls mX8_mayStay.1 mX8_mayStay.1 ∈ mj_G := ⟨mj_inG 754 (by decide +kernel) (by decide +kernel), mj_inG 17 (by decide +kernel) (by decide +kernel)⟩
theorem fl_X8_50 : mj_FL RX8 50 8 6 := ⟨RX8, TX8, 14, rfl, by decide, uw_X8, Or.inl (mj_inG 263 (by decide +kernel) (by decide +kernel))⟩
theorem ll_X8_245 : mj_LL RX8 245 mX5_load := Or.inl (mj_inG 766 (by decide +kernel) (by decide +kernel))
theorem ll_X8_249 : mj_LL RX8 249 mX5_dropSpy := Or.inl (mj_inG 767 (by decide +kernel) (by decide +kernel))
theorem lb_X5_dropSpy : mj_LB mX5_dropSpy 0 := ⟨mj_inG 770 (by decide +kernel) (by decide +kernel), mj_inG 50 (by decide +kernel) (by decide +kernel), by decide +kernel, by decide +kernel, by decide +kernel⟩
theorem li_X5_dropSpy : Jvm.Cond.instanceMethod mX5_dropSpy.1 ∈ mj_G ∧ Jvm.Cond.selects mX5_dropSpy.1.cls mX5_dropSpy.1 mX5_dropSpy.1 ∈ mj_G := ⟨mj_inG 768 (by decide +kernel) (by decide +kernel), mj_inG 769 (by decide +kernel) (by decide +kernel)⟩
theorem ll_X8_252 : mj_LL RX8 252 mX5_isEmpty := Or.inl (mj_inG 771 (by decide +kernel) (by decide +kernel))
theorem ll_X8_256 : mj_LL RX8 256 mX5_chance := Or.inl (mj_inG 772 (by decide +kernel) (by decide +kernel))
theorem ll_X8_260 : mj_LL RX8 260 mX0_wearers := Or.inl (mj_inG 777 (by decide +kernel) (by decide +kernel))
theorem lb_X0_wearers : mj_LB mX0_wearers 2 := ⟨mj_inG 780 (by decide +kernel) (by decide +kernel), mj_inG 49 (by decide +kernel) (by decide +kernel), by decide +kernel, by decide +kernel, by decide +kernel⟩
theorem li_X0_wearers : Jvm.Cond.instanceMethod mX0_wearers.1 ∈ mj_G ∧ Jvm.Cond.selects mX0_wearers.1.cls mX0_wearers.1 mX0_wearers.1 ∈ mj_G := ⟨mj_inG 778 (by decide +kernel) (by decide +kernel), mj_inG 779 (by decide +kernel) (by decide +kernel)⟩
theorem ll_X8_263 : mj_LL RX8 263 mX8_isOpen := Or.inl (mj_inG 786 (by decide +kernel) (by decide +kernel))
theorem lb_X8_isOpen : mj_LB mX8_isOpen 2 := ⟨mj_inG 789 (by decide +kernel) (by decide +kernel), mj_inG 48 (by decide +kernel) (by decide +kernel), by decide +kernel, by decide +kernel, by decide +kernel⟩
theorem li_X8_isOpen : Jvm.Cond.instanceMethod mX8_isOpen.1 ∈ mj_G ∧ Jvm.Cond.selects mX8_isOpen.1.cls mX8_isOpen.1 mX8_isOpen.1 ∈ mj_G := ⟨mj_inG 788 (by decide +kernel) (by decide +kernel), mj_inG 18 (by decide +kernel) (by decide +kernel)⟩
theorem ll_X8_330 : mj_LL RX8 330 mX8_gets := Or.inl (mj_inG 797 (by decide +kernel) (by decide +kernel))
theorem lb_X8_gets : mj_LB mX8_gets 3 := ⟨mj_inG 799 (by decide +kernel) (by decide +kernel), mj_inG 48 (by decide +kernel) (by decide +kernel), by decide +kernel, by decide +kernel, by decide +kernel⟩
theorem li_X8_gets : Jvm.Cond.static mX8_gets.1 ∈ mj_G := mj_inG 798 (by decide +kernel) (by decide +kernel)
theorem ll_X8_266 : mj_LL RX8 266 mX8_rests := Or.inl (mj_inG 794 (by decide +kernel) (by decide +kernel))
theorem lb_X8_rests : mj_LB mX8_rests 3 := ⟨mj_inG 796 (by decide +kernel) (by decide +kernel), mj_inG 48 (by decide +kernel) (by decide +kernel), by decide +kernel, by decide +kernel, by decide +kernel⟩
theorem li_X8_rests : Jvm.Cond.static mX8_rests.1 ∈ mj_G := mj_inG 795 (by decide +kernel) (by decide +kernel)
theorem ll_X8_270 : mj_LL RX8 270 mX5_weigh := Or.inl (mj_inG 804 (by decide +kernel) (by decide +kernel))
theorem fl_X8_69 : mj_FL RX8 69 8 10 := ⟨RX8, TX8, 14, rfl, by decide, uw_X8, Or.inl (mj_inG 267 (by decide +kernel) (by decide +kernel))⟩
theorem fl_X8_65 : mj_FL RX8 65 8 9 := ⟨RX8, TX8, 14, rfl, by decide, uw_X8, Or.inl (mj_inG 266 (by decide +kernel) (by decide +kernel))⟩
theorem fl_X8_30 : mj_FL RX8 30 8 3 := ⟨RX8, TX8, 14, rfl, by decide, uw_X8, Or.inl (mj_inG 260 (by decide +kernel) (by decide +kernel))⟩
theorem fl_X8_26 : mj_FL RX8 26 8 2 := ⟨RX8, TX8, 14, rfl, by decide, uw_X8, Or.inl (mj_inG 259 (by decide +kernel) (by decide +kernel))⟩
theorem ll_X8_289 : mj_LL RX8 289 mX8_imageAt := Or.inl (mj_inG 822 (by decide +kernel) (by decide +kernel))
theorem lb_X8_imageAt : mj_LB mX8_imageAt 1 := ⟨mj_inG 825 (by decide +kernel) (by decide +kernel), mj_inG 48 (by decide +kernel) (by decide +kernel), by decide +kernel, by decide +kernel, by decide +kernel⟩
theorem li_X8_imageAt : Jvm.Cond.instanceMethod mX8_imageAt.1 ∈ mj_G ∧ Jvm.Cond.selects mX8_imageAt.1.cls mX8_imageAt.1 mX8_imageAt.1 ∈ mj_G := ⟨mj_inG 824 (by decide +kernel) (by decide +kernel), mj_inG 19 (by decide +kernel) (by decide +kernel)⟩
theorem fl_X8_293 : mj_FL RX8 293 1 0 := ⟨RX1, TX1, 3, rfl, by decide, uw_X1, Or.inr ⟨"RiverChoice", mj_inN 155 (by decide +kernel) (by decide +kernel)⟩⟩
theorem fl_X8_294 : mj_FL RX8 294 1 1 := ⟨RX1, TX1, 3, rfl, by decide, uw_X1, Or.inr ⟨"RiverChoice", mj_inN 157 (by decide +kernel) (by decide +kernel)⟩⟩
theorem ll_X8_295 : mj_LL RX8 295 mX3_become := Or.inl (mj_inG 826 (by decide +kernel) (by decide +kernel))
theorem lb_X3_become : mj_LB mX3_become 1 := ⟨mj_inG 829 (by decide +kernel) (by decide +kernel), mj_inG 51 (by decide +kernel) (by decide +kernel), by decide +kernel, by decide +kernel, by decide +kernel⟩
theorem li_X3_become : Jvm.Cond.instanceMethod mX3_become.1 ∈ mj_G ∧ Jvm.Cond.selects mX3_become.1.cls mX3_become.1 mX3_become.1 ∈ mj_G := ⟨mj_inG 827 (by decide +kernel) (by decide +kernel), mj_inG 828 (by decide +kernel) (by decide +kernel)⟩
theorem fp_X8_298 {nm : String} : mj_FP RX8 nm 298 1 2 .boolean := ⟨RX1, TX1, 3, tyX1, rfl, by decide, uw_X1, tyX1_ok, nmX1, rfl, Or.inl ⟨rfl, Or.inr ⟨"RiverChoice", mj_inN 158 (by decide +kernel) (by decide +kernel)⟩⟩⟩
theorem fl_X8_298 : mj_FL RX8 298 1 2 := ⟨RX1, TX1, 3, rfl, by decide, uw_X1, Or.inr ⟨"RiverChoice", mj_inN 158 (by decide +kernel) (by decide +kernel)⟩⟩
theorem ll_X8_318 : mj_LL RX8 318 mX0_pairs := Or.inl (mj_inG 846 (by decide +kernel) (by decide +kernel))
theorem lb_X0_pairs : mj_LB mX0_pairs 0 := ⟨mj_inG 849 (by decide +kernel) (by decide +kernel), mj_inG 49 (by decide +kernel) (by decide +kernel), by decide +kernel, by decide +kernel, by decide +kernel⟩
theorem li_X0_pairs : Jvm.Cond.instanceMethod mX0_pairs.1 ∈ mj_G ∧ Jvm.Cond.selects mX0_pairs.1.cls mX0_pairs.1 mX0_pairs.1 ∈ mj_G := ⟨mj_inG 847 (by decide +kernel) (by decide +kernel), mj_inG 848 (by decide +kernel) (by decide +kernel)⟩
theorem fl_X8_321 : mj_FL RX8 321 3 4 := ⟨RX3, TX3, 5, rfl, by decide, uw_X3, Or.inr ⟨"RiverChoice", mj_inN 132 (by decide +kernel) (by decide +kernel)⟩⟩
theorem fl_X8_322 : mj_FL RX8 322 7 1 := ⟨RX7, TX7, 2, rfl, by decide, uw_X7, Or.inr ⟨"RiverChoice", mj_inN 180 (by decide +kernel) (by decide +kernel)⟩⟩
theorem ll_X8_311 : mj_LL RX8 311 mX8_howMany := Or.inl (mj_inG 842 (by decide +kernel) (by decide +kernel))
theorem lb_X8_howMany : mj_LB mX8_howMany 1 := ⟨mj_inG 845 (by decide +kernel) (by decide +kernel), mj_inG 48 (by decide +kernel) (by decide +kernel), by decide +kernel, by decide +kernel, by decide +kernel⟩
theorem li_X8_howMany : Jvm.Cond.instanceMethod mX8_howMany.1 ∈ mj_G ∧ Jvm.Cond.selects mX8_howMany.1.cls mX8_howMany.1 mX8_howMany.1 ∈ mj_G := ⟨mj_inG 844 (by decide +kernel) (by decide +kernel), mj_inG 20 (by decide +kernel) (by decide +kernel)⟩
theorem fl_X9_7 : mj_FL RX9 7 9 0 := ⟨RX9, TX9, 20, rfl, by decide, uw_X9, Or.inl (mj_inG 867 (by decide +kernel) (by decide +kernel))⟩
theorem pl_X9 : plainName RX9 = true := by decide +kernel
theorem ob_X9_1 : Jvm.Cond.methodLink RX9 1 Lib.objectInit ∈ mj_G ∧ Jvm.Cond.instanceMethod Lib.objectInit ∈ mj_G ∧ Jvm.Cond.code Lib.objectInit ⟨#[0xb1]⟩ 1 none ∈ mj_G := ⟨mj_inG 862 (by decide +kernel) (by decide +kernel), mj_inG 71 (by decide +kernel) (by decide +kernel), mj_inG 72 (by decide +kernel) (by decide +kernel)⟩
theorem fp_X9_7 : mj_FP RX9 "<init>" 7 9 0 (tyX9 0) := ⟨RX9, TX9, 20, tyX9, rfl, by decide, uw_X9, tyX9_ok, nmX9, rfl, Or.inr ⟨rfl, rfl, rfl, mj_inG 867 (by decide +kernel) (by decide +kernel)⟩⟩
theorem fp_X9_13 : mj_FP RX9 "<init>" 13 9 1 (tyX9 1) := ⟨RX9, TX9, 20, tyX9, rfl, by decide, uw_X9, tyX9_ok, nmX9, rfl, Or.inr ⟨rfl, rfl, rfl, mj_inG 868 (by decide +kernel) (by decide +kernel)⟩⟩
theorem aw_boolean : Jvm.Cond.arrayClass .boolean ∈ mj_G := mj_inG 928 (by decide +kernel) (by decide +kernel)
theorem fp_X9_16 : mj_FP RX9 "<init>" 16 9 2 (tyX9 2) := ⟨RX9, TX9, 20, tyX9, rfl, by decide, uw_X9, tyX9_ok, nmX9, rfl, Or.inr ⟨rfl, rfl, rfl, mj_inG 869 (by decide +kernel) (by decide +kernel)⟩⟩
theorem fp_X9_20 : mj_FP RX9 "<init>" 20 9 3 (tyX9 3) := ⟨RX9, TX9, 20, tyX9, rfl, by decide, uw_X9, tyX9_ok, nmX9, rfl, Or.inr ⟨rfl, rfl, rfl, mj_inG 870 (by decide +kernel) (by decide +kernel)⟩⟩
theorem fp_X9_23 {nm : String} : mj_FP RX9 nm 23 9 6 .long := ⟨RX9, TX9, 20, tyX9, rfl, by decide, uw_X9, tyX9_ok, nmX9, rfl, Or.inl ⟨rfl, Or.inl (mj_inG 873 (by decide +kernel) (by decide +kernel))⟩⟩
theorem fp_X9_27 : mj_FP RX9 "<init>" 27 9 7 (tyX9 7) := ⟨RX9, TX9, 20, tyX9, rfl, by decide, uw_X9, tyX9_ok, nmX9, rfl, Or.inr ⟨rfl, rfl, rfl, mj_inG 874 (by decide +kernel) (by decide +kernel)⟩⟩
theorem fp_X9_30 : mj_FP RX9 "<init>" 30 9 8 (tyX9 8) := ⟨RX9, TX9, 20, tyX9, rfl, by decide, uw_X9, tyX9_ok, nmX9, rfl, Or.inr ⟨rfl, rfl, rfl, mj_inG 875 (by decide +kernel) (by decide +kernel)⟩⟩
theorem fp_X9_33 : mj_FP RX9 "<init>" 33 9 14 (tyX9 14) := ⟨RX9, TX9, 20, tyX9, rfl, by decide, uw_X9, tyX9_ok, nmX9, rfl, Or.inr ⟨rfl, rfl, rfl, mj_inG 881 (by decide +kernel) (by decide +kernel)⟩⟩
theorem fp_X9_36 : mj_FP RX9 "<init>" 36 9 16 (tyX9 16) := ⟨RX9, TX9, 20, tyX9, rfl, by decide, uw_X9, tyX9_ok, nmX9, rfl, Or.inr ⟨rfl, rfl, rfl, mj_inG 883 (by decide +kernel) (by decide +kernel)⟩⟩
theorem fp_X9_39 : mj_FP RX9 "<init>" 39 9 17 (tyX9 17) := ⟨RX9, TX9, 20, tyX9, rfl, by decide, uw_X9, tyX9_ok, nmX9, rfl, Or.inr ⟨rfl, rfl, rfl, mj_inG 884 (by decide +kernel) (by decide +kernel)⟩⟩
theorem fp_X9_43 : mj_FP RX9 "<init>" 43 9 18 (tyX9 18) := ⟨RX9, TX9, 20, tyX9, rfl, by decide, uw_X9, tyX9_ok, nmX9, rfl, Or.inr ⟨rfl, rfl, rfl, mj_inG 885 (by decide +kernel) (by decide +kernel)⟩⟩
theorem fp_X9_46 : mj_FP RX9 "<init>" 46 9 19 (tyX9 19) := ⟨RX9, TX9, 20, tyX9, rfl, by decide, uw_X9, tyX9_ok, nmX9, rfl, Or.inr ⟨rfl, rfl, rfl, mj_inG 886 (by decide +kernel) (by decide +kernel)⟩⟩
theorem ll_X9_49 : mj_LL RX9 49 mX9_clean := Or.inl (mj_inG 863 (by decide +kernel) (by decide +kernel))
theorem lb_X9_clean : mj_LB mX9_clean 1 := ⟨mj_inG 866 (by decide +kernel) (by decide +kernel), mj_inG 57 (by decide +kernel) (by decide +kernel), by decide +kernel, by decide +kernel, by decide +kernel⟩
theorem li_X9_clean : Jvm.Cond.instanceMethod mX9_clean.1 ∈ mj_G ∧ Jvm.Cond.selects mX9_clean.1.cls mX9_clean.1 mX9_clean.1 ∈ mj_G := ⟨mj_inG 865 (by decide +kernel) (by decide +kernel), mj_inG 21 (by decide +kernel) (by decide +kernel)⟩
theorem ll_X9_53 : mj_LL RX9 53 mX9_in := Or.inl (mj_inG 934 (by decide +kernel) (by decide +kernel))
theorem lb_X9_in : mj_LB mX9_in 3 := ⟨mj_inG 936 (by decide +kernel) (by decide +kernel), mj_inG 57 (by decide +kernel) (by decide +kernel), by decide +kernel, by decide +kernel, by decide +kernel⟩
theorem li_X9_in : Jvm.Cond.static mX9_in.1 ∈ mj_G := mj_inG 935 (by decide +kernel) (by decide +kernel)
theorem fl_X9_27 : mj_FL RX9 27 9 7 := ⟨RX9, TX9, 20, rfl, by decide, uw_X9, Or.inl (mj_inG 874 (by decide +kernel) (by decide +kernel))⟩
theorem fl_X9_30 : mj_FL RX9 30 9 8 := ⟨RX9, TX9, 20, rfl, by decide, uw_X9, Or.inl (mj_inG 875 (by decide +kernel) (by decide +kernel))⟩
theorem ll_X9_59 : mj_LL RX9 59 mX9_copies := Or.inl (mj_inG 950 (by decide +kernel) (by decide +kernel))
theorem lb_X9_copies : mj_LB mX9_copies 5 := ⟨mj_inG 952 (by decide +kernel) (by decide +kernel), mj_inG 57 (by decide +kernel) (by decide +kernel), by decide +kernel, by decide +kernel, by decide +kernel⟩
theorem li_X9_copies : Jvm.Cond.static mX9_copies.1 ∈ mj_G := mj_inG 951 (by decide +kernel) (by decide +kernel)
theorem ll_X9_63 : mj_LL RX9 63 mX9_isMan := Or.inl (mj_inG 965 (by decide +kernel) (by decide +kernel))
theorem lb_X9_isMan : mj_LB mX9_isMan 1 := ⟨mj_inG 968 (by decide +kernel) (by decide +kernel), mj_inG 57 (by decide +kernel) (by decide +kernel), by decide +kernel, by decide +kernel, by decide +kernel⟩
theorem li_X9_isMan : Jvm.Cond.instanceMethod mX9_isMan.1 ∈ mj_G ∧ Jvm.Cond.selects mX9_isMan.1.cls mX9_isMan.1 mX9_isMan.1 ∈ mj_G := ⟨mj_inG 967 (by decide +kernel) (by decide +kernel), mj_inG 26 (by decide +kernel) (by decide +kernel)⟩
theorem ll_X9_69 : mj_LL RX9 69 mX9_has := Or.inl (mj_inG 978 (by decide +kernel) (by decide +kernel))
theorem lb_X9_has : mj_LB mX9_has 2 := ⟨mj_inG 980 (by decide +kernel) (by decide +kernel), mj_inG 57 (by decide +kernel) (by decide +kernel), by decide +kernel, by decide +kernel, by decide +kernel⟩
theorem li_X9_has : Jvm.Cond.static mX9_has.1 ∈ mj_G := mj_inG 979 (by decide +kernel) (by decide +kernel)
theorem ll_X9_75 : mj_LL RX9 75 mX9_bad := Or.inl (mj_inG 937 (by decide +kernel) (by decide +kernel))
theorem lb_X9_bad : mj_LB mX9_bad 1 := ⟨mj_inG 940 (by decide +kernel) (by decide +kernel), mj_inG 57 (by decide +kernel) (by decide +kernel), by decide +kernel, by decide +kernel, by decide +kernel⟩
theorem li_X9_bad : Jvm.Cond.instanceMethod mX9_bad.1 ∈ mj_G ∧ Jvm.Cond.selects mX9_bad.1.cls mX9_bad.1 mX9_bad.1 ∈ mj_G := ⟨mj_inG 939 (by decide +kernel) (by decide +kernel), mj_inG 22 (by decide +kernel) (by decide +kernel)⟩
theorem ll_X9_79 : mj_LL RX9 79 mX9_doMan := Or.inl (mj_inG 945 (by decide +kernel) (by decide +kernel))
theorem lb_X9_doMan : mj_LB mX9_doMan 0 := ⟨mj_inG 948 (by decide +kernel) (by decide +kernel), mj_inG 57 (by decide +kernel) (by decide +kernel), by decide +kernel, by decide +kernel, by decide +kernel⟩
theorem li_X9_doMan : Jvm.Cond.instanceMethod mX9_doMan.1 ∈ mj_G ∧ Jvm.Cond.selects mX9_doMan.1.cls mX9_doMan.1 mX9_doMan.1 ∈ mj_G := ⟨mj_inG 947 (by decide +kernel) (by decide +kernel), mj_inG 23 (by decide +kernel) (by decide +kernel)⟩
theorem ll_X9_83 : mj_LL RX9 83 mX9_tell := Or.inl (mj_inG 953 (by decide +kernel) (by decide +kernel))
theorem lb_X9_tell : mj_LB mX9_tell 1 := ⟨mj_inG 956 (by decide +kernel) (by decide +kernel), mj_inG 57 (by decide +kernel) (by decide +kernel), by decide +kernel, by decide +kernel, by decide +kernel⟩
theorem li_X9_tell : Jvm.Cond.instanceMethod mX9_tell.1 ∈ mj_G ∧ Jvm.Cond.selects mX9_tell.1.cls mX9_tell.1 mX9_tell.1 ∈ mj_G := ⟨mj_inG 955 (by decide +kernel) (by decide +kernel), mj_inG 24 (by decide +kernel) (by decide +kernel)⟩
theorem ll_X9_86 : mj_LL RX9 86 mX9_doWorn := Or.inl (mj_inG 961 (by decide +kernel) (by decide +kernel))
theorem lb_X9_doWorn : mj_LB mX9_doWorn 2 := ⟨mj_inG 964 (by decide +kernel) (by decide +kernel), mj_inG 57 (by decide +kernel) (by decide +kernel), by decide +kernel, by decide +kernel, by decide +kernel⟩
theorem li_X9_doWorn : Jvm.Cond.instanceMethod mX9_doWorn.1 ∈ mj_G ∧ Jvm.Cond.selects mX9_doWorn.1.cls mX9_doWorn.1 mX9_doWorn.1 ∈ mj_G := ⟨mj_inG 963 (by decide +kernel) (by decide +kernel), mj_inG 25 (by decide +kernel) (by decide +kernel)⟩
theorem ll_X9_90 : mj_LL RX9 90 mX9_doPair := Or.inl (mj_inG 974 (by decide +kernel) (by decide +kernel))
theorem lb_X9_doPair : mj_LB mX9_doPair 2 := ⟨mj_inG 977 (by decide +kernel) (by decide +kernel), mj_inG 57 (by decide +kernel) (by decide +kernel), by decide +kernel, by decide +kernel, by decide +kernel⟩
theorem li_X9_doPair : Jvm.Cond.instanceMethod mX9_doPair.1 ∈ mj_G ∧ Jvm.Cond.selects mX9_doPair.1.cls mX9_doPair.1 mX9_doPair.1 ∈ mj_G := ⟨mj_inG 976 (by decide +kernel) (by decide +kernel), mj_inG 27 (by decide +kernel) (by decide +kernel)⟩
theorem ll_X9_93 : mj_LL RX9 93 mX9_doWord := Or.inl (mj_inG 985 (by decide +kernel) (by decide +kernel))
theorem lb_X9_doWord : mj_LB mX9_doWord 1 := ⟨mj_inG 988 (by decide +kernel) (by decide +kernel), mj_inG 57 (by decide +kernel) (by decide +kernel), by decide +kernel, by decide +kernel, by decide +kernel⟩
theorem li_X9_doWord : Jvm.Cond.instanceMethod mX9_doWord.1 ∈ mj_G ∧ Jvm.Cond.selects mX9_doWord.1.cls mX9_doWord.1 mX9_doWord.1 ∈ mj_G := ⟨mj_inG 987 (by decide +kernel) (by decide +kernel), mj_inG 28 (by decide +kernel) (by decide +kernel)⟩
theorem fl_X9_98 : mj_FL RX9 98 9 4 := ⟨RX9, TX9, 20, rfl, by decide, uw_X9, Or.inl (mj_inG 871 (by decide +kernel) (by decide +kernel))⟩
theorem fl_X9_20 : mj_FL RX9 20 9 3 := ⟨RX9, TX9, 20, rfl, by decide, uw_X9, Or.inl (mj_inG 870 (by decide +kernel) (by decide +kernel))⟩
theorem fp_X9_98 {nm : String} : mj_FP RX9 nm 98 9 4 .int := ⟨RX9, TX9, 20, tyX9, rfl, by decide, uw_X9, tyX9_ok, nmX9, rfl, Or.inl ⟨rfl, Or.inl (mj_inG 871 (by decide +kernel) (by decide +kernel))⟩⟩
theorem fp_X9_116 {nm : String} : mj_FP RX9 nm 116 9 11 .int := ⟨RX9, TX9, 20, tyX9, rfl, by decide, uw_X9, tyX9_ok, nmX9, rfl, Or.inl ⟨rfl, Or.inl (mj_inG 878 (by decide +kernel) (by decide +kernel))⟩⟩
theorem fl_X9_116 : mj_FL RX9 116 9 11 := ⟨RX9, TX9, 20, rfl, by decide, uw_X9, Or.inl (mj_inG 878 (by decide +kernel) (by decide +kernel))⟩
theorem fl_X9_102 : mj_FL RX9 102 9 9 := ⟨RX9, TX9, 20, rfl, by decide, uw_X9, Or.inl (mj_inG 876 (by decide +kernel) (by decide +kernel))⟩
theorem fl_X9_105 : mj_FL RX9 105 9 10 := ⟨RX9, TX9, 20, rfl, by decide, uw_X9, Or.inl (mj_inG 877 (by decide +kernel) (by decide +kernel))⟩
theorem fp_X9_119 {nm : String} : mj_FP RX9 nm 119 9 12 .int := ⟨RX9, TX9, 20, tyX9, rfl, by decide, uw_X9, tyX9_ok, nmX9, rfl, Or.inl ⟨rfl, Or.inl (mj_inG 879 (by decide +kernel) (by decide +kernel))⟩⟩
theorem fp_X9_102 {nm : String} : mj_FP RX9 nm 102 9 9 .int := ⟨RX9, TX9, 20, tyX9, rfl, by decide, uw_X9, tyX9_ok, nmX9, rfl, Or.inl ⟨rfl, Or.inl (mj_inG 876 (by decide +kernel) (by decide +kernel))⟩⟩
theorem fl_X9_119 : mj_FL RX9 119 9 12 := ⟨RX9, TX9, 20, rfl, by decide, uw_X9, Or.inl (mj_inG 879 (by decide +kernel) (by decide +kernel))⟩
theorem fp_X9_122 {nm : String} : mj_FP RX9 nm 122 9 13 .long := ⟨RX9, TX9, 20, tyX9, rfl, by decide, uw_X9, tyX9_ok, nmX9, rfl, Or.inl ⟨rfl, Or.inl (mj_inG 880 (by decide +kernel) (by decide +kernel))⟩⟩
theorem fl_X9_122 : mj_FL RX9 122 9 13 := ⟨RX9, TX9, 20, rfl, by decide, uw_X9, Or.inl (mj_inG 880 (by decide +kernel) (by decide +kernel))⟩
theorem fp_X9_105 {nm : String} : mj_FP RX9 nm 105 9 10 .int := ⟨RX9, TX9, 20, tyX9, rfl, by decide, uw_X9, tyX9_ok, nmX9, rfl, Or.inl ⟨rfl, Or.inl (mj_inG 877 (by decide +kernel) (by decide +kernel))⟩⟩
theorem ll_X9_142 : mj_LL RX9 142 mX9_takes := Or.inl (mj_inG 1006 (by decide +kernel) (by decide +kernel))
theorem lb_X9_takes : mj_LB mX9_takes 0 := ⟨mj_inG 1009 (by decide +kernel) (by decide +kernel), mj_inG 57 (by decide +kernel) (by decide +kernel), by decide +kernel, by decide +kernel, by decide +kernel⟩
theorem li_X9_takes : Jvm.Cond.instanceMethod mX9_takes.1 ∈ mj_G ∧ Jvm.Cond.selects mX9_takes.1.cls mX9_takes.1 mX9_takes.1 ∈ mj_G := ⟨mj_inG 1008 (by decide +kernel) (by decide +kernel), mj_inG 30 (by decide +kernel) (by decide +kernel)⟩
theorem fl_X9_139 : mj_FL RX9 139 9 15 := ⟨RX9, TX9, 20, rfl, by decide, uw_X9, Or.inl (mj_inG 882 (by decide +kernel) (by decide +kernel))⟩
theorem fp_X9_139 {nm : String} : mj_FP RX9 nm 139 9 15 .int := ⟨RX9, TX9, 20, tyX9, rfl, by decide, uw_X9, tyX9_ok, nmX9, rfl, Or.inl ⟨rfl, Or.inl (mj_inG 882 (by decide +kernel) (by decide +kernel))⟩⟩
theorem fl_X9_33 : mj_FL RX9 33 9 14 := ⟨RX9, TX9, 20, rfl, by decide, uw_X9, Or.inl (mj_inG 881 (by decide +kernel) (by decide +kernel))⟩
theorem ll_X9_145 : mj_LL RX9 145 mX9_itemOf := Or.inl (mj_inG 1016 (by decide +kernel) (by decide +kernel))
theorem lb_X9_itemOf : mj_LB mX9_itemOf 1 := ⟨mj_inG 1018 (by decide +kernel) (by decide +kernel), mj_inG 57 (by decide +kernel) (by decide +kernel), by decide +kernel, by decide +kernel, by decide +kernel⟩
theorem li_X9_itemOf : Jvm.Cond.static mX9_itemOf.1 ∈ mj_G := mj_inG 1017 (by decide +kernel) (by decide +kernel)
theorem ll_X9_152 : mj_LL RX9 152 mX9_doItem := Or.inl (mj_inG 1024 (by decide +kernel) (by decide +kernel))
theorem lb_X9_doItem : mj_LB mX9_doItem 1 := ⟨mj_inG 1027 (by decide +kernel) (by decide +kernel), mj_inG 57 (by decide +kernel) (by decide +kernel), by decide +kernel, by decide +kernel, by decide +kernel⟩
theorem li_X9_doItem : Jvm.Cond.instanceMethod mX9_doItem.1 ∈ mj_G ∧ Jvm.Cond.selects mX9_doItem.1.cls mX9_doItem.1 mX9_doItem.1 ∈ mj_G := ⟨mj_inG 1026 (by decide +kernel) (by decide +kernel), mj_inG 31 (by decide +kernel) (by decide +kernel)⟩
theorem fl_X9_36 : mj_FL RX9 36 9 16 := ⟨RX9, TX9, 20, rfl, by decide, uw_X9, Or.inl (mj_inG 883 (by decide +kernel) (by decide +kernel))⟩
theorem ll_X9_149 : mj_LL RX9 149 mX9_reads := Or.inl (mj_inG 1002 (by decide +kernel) (by decide +kernel))
theorem lb_X9_reads : mj_LB mX9_reads 0 := ⟨mj_inG 1005 (by decide +kernel) (by decide +kernel), mj_inG 57 (by decide +kernel) (by decide +kernel), by decide +kernel, by decide +kernel, by decide +kernel⟩
theorem li_X9_reads : Jvm.Cond.instanceMethod mX9_reads.1 ∈ mj_G ∧ Jvm.Cond.selects mX9_reads.1.cls mX9_reads.1 mX9_reads.1 ∈ mj_G := ⟨mj_inG 1004 (by decide +kernel) (by decide +kernel), mj_inG 29 (by decide +kernel) (by decide +kernel)⟩
theorem ll_X9_157 : mj_LL RX9 157 mX9_casesOf := Or.inl (mj_inG 1053 (by decide +kernel) (by decide +kernel))
theorem lb_X9_casesOf : mj_LB mX9_casesOf 3 := ⟨mj_inG 1055 (by decide +kernel) (by decide +kernel), mj_inG 57 (by decide +kernel) (by decide +kernel), by decide +kernel, by decide +kernel, by decide +kernel⟩
theorem li_X9_casesOf : Jvm.Cond.static mX9_casesOf.1 ∈ mj_G := mj_inG 1054 (by decide +kernel) (by decide +kernel)
theorem ll_X9_163 : mj_LL RX9 163 mX9_sumOf := Or.inl (mj_inG 1067 (by decide +kernel) (by decide +kernel))
theorem lb_X9_sumOf : mj_LB mX9_sumOf 4 := ⟨mj_inG 1069 (by decide +kernel) (by decide +kernel), mj_inG 57 (by decide +kernel) (by decide +kernel), by decide +kernel, by decide +kernel, by decide +kernel⟩
theorem li_X9_sumOf : Jvm.Cond.static mX9_sumOf.1 ∈ mj_G := mj_inG 1068 (by decide +kernel) (by decide +kernel)
theorem ll_X9_169 : mj_LL RX9 169 mX9_allOf := Or.inl (mj_inG 1071 (by decide +kernel) (by decide +kernel))
theorem lb_X9_allOf : mj_LB mX9_allOf 2 := ⟨mj_inG 1073 (by decide +kernel) (by decide +kernel), mj_inG 57 (by decide +kernel) (by decide +kernel), by decide +kernel, by decide +kernel, by decide +kernel⟩
theorem li_X9_allOf : Jvm.Cond.static mX9_allOf.1 ∈ mj_G := mj_inG 1072 (by decide +kernel) (by decide +kernel)
theorem ll_X9_173 : mj_LL RX9 173 mX9_shareOf := Or.inl (mj_inG 1063 (by decide +kernel) (by decide +kernel))
theorem lb_X9_shareOf : mj_LB mX9_shareOf 4 := ⟨mj_inG 1065 (by decide +kernel) (by decide +kernel), mj_inG 57 (by decide +kernel) (by decide +kernel), by decide +kernel, by decide +kernel, by decide +kernel⟩
theorem li_X9_shareOf : Jvm.Cond.static mX9_shareOf.1 ∈ mj_G := mj_inG 1064 (by decide +kernel) (by decide +kernel)
theorem ll_X9_177 : mj_LL RX9 177 mX9_common := Or.inl (mj_inG 1056 (by decide +kernel) (by decide +kernel))
theorem lb_X9_common : mj_LB mX9_common 2 := ⟨mj_inG 1058 (by decide +kernel) (by decide +kernel), mj_inG 57 (by decide +kernel) (by decide +kernel), by decide +kernel, by decide +kernel, by decide +kernel⟩
theorem li_X9_common : Jvm.Cond.static mX9_common.1 ∈ mj_G := mj_inG 1057 (by decide +kernel) (by decide +kernel)
theorem ll_X9_185 : mj_LL RX9 185 mX9_costOf := Or.inl (mj_inG 1036 (by decide +kernel) (by decide +kernel))
theorem lb_X9_costOf : mj_LB mX9_costOf 1 := ⟨mj_inG 1038 (by decide +kernel) (by decide +kernel), mj_inG 57 (by decide +kernel) (by decide +kernel), by decide +kernel, by decide +kernel, by decide +kernel⟩
theorem li_X9_costOf : Jvm.Cond.static mX9_costOf.1 ∈ mj_G := mj_inG 1037 (by decide +kernel) (by decide +kernel)
theorem ll_X9_181 : mj_LL RX9 181 mX9_weighs := Or.inl (mj_inG 1050 (by decide +kernel) (by decide +kernel))
theorem lb_X9_weighs : mj_LB mX9_weighs 4 := ⟨mj_inG 1052 (by decide +kernel) (by decide +kernel), mj_inG 57 (by decide +kernel) (by decide +kernel), by decide +kernel, by decide +kernel, by decide +kernel⟩
theorem li_X9_weighs : Jvm.Cond.static mX9_weighs.1 ∈ mj_G := mj_inG 1051 (by decide +kernel) (by decide +kernel)
theorem ll_X9_188 : mj_LL RX9 188 mX9_isTest := Or.inl (mj_inG 1032 (by decide +kernel) (by decide +kernel))
theorem lb_X9_isTest : mj_LB mX9_isTest 1 := ⟨mj_inG 1034 (by decide +kernel) (by decide +kernel), mj_inG 57 (by decide +kernel) (by decide +kernel), by decide +kernel, by decide +kernel, by decide +kernel⟩
theorem li_X9_isTest : Jvm.Cond.static mX9_isTest.1 ∈ mj_G := mj_inG 1033 (by decide +kernel) (by decide +kernel)
theorem ll_X9_194 : mj_LL RX9 194 mX9_remember := Or.inl (mj_inG 1043 (by decide +kernel) (by decide +kernel))
theorem lb_X9_remember : mj_LB mX9_remember 0 := ⟨mj_inG 1046 (by decide +kernel) (by decide +kernel), mj_inG 57 (by decide +kernel) (by decide +kernel), by decide +kernel, by decide +kernel, by decide +kernel⟩
theorem li_X9_remember : Jvm.Cond.instanceMethod mX9_remember.1 ∈ mj_G ∧ Jvm.Cond.selects mX9_remember.1.cls mX9_remember.1 mX9_remember.1 ∈ mj_G := ⟨mj_inG 1045 (by decide +kernel) (by decide +kernel), mj_inG 33 (by decide +kernel) (by decide +kernel)⟩
theorem ll_X9_197 : mj_LL RX9 197 mX9_tests := Or.inl (mj_inG 1047 (by decide +kernel) (by decide +kernel))
theorem lb_X9_tests : mj_LB mX9_tests 4 := ⟨mj_inG 1049 (by decide +kernel) (by decide +kernel), mj_inG 57 (by decide +kernel) (by decide +kernel), by decide +kernel, by decide +kernel, by decide +kernel⟩
theorem li_X9_tests : Jvm.Cond.static mX9_tests.1 ∈ mj_G := mj_inG 1048 (by decide +kernel) (by decide +kernel)
theorem ll_X9_200 : mj_LL RX9 200 mX9_trustOn := Or.inl (mj_inG 1060 (by decide +kernel) (by decide +kernel))
theorem lb_X9_trustOn : mj_LB mX9_trustOn 2 := ⟨mj_inG 1062 (by decide +kernel) (by decide +kernel), mj_inG 57 (by decide +kernel) (by decide +kernel), by decide +kernel, by decide +kernel, by decide +kernel⟩
theorem li_X9_trustOn : Jvm.Cond.static mX9_trustOn.1 ∈ mj_G := mj_inG 1061 (by decide +kernel) (by decide +kernel)
theorem ll_X9_191 : mj_LL RX9 191 mX9_no := Or.inl (mj_inG 1039 (by decide +kernel) (by decide +kernel))
theorem lb_X9_no : mj_LB mX9_no 1 := ⟨mj_inG 1042 (by decide +kernel) (by decide +kernel), mj_inG 57 (by decide +kernel) (by decide +kernel), by decide +kernel, by decide +kernel, by decide +kernel⟩
theorem li_X9_no : Jvm.Cond.instanceMethod mX9_no.1 ∈ mj_G ∧ Jvm.Cond.selects mX9_no.1.cls mX9_no.1 mX9_no.1 ∈ mj_G := ⟨mj_inG 1041 (by decide +kernel) (by decide +kernel), mj_inG 32 (by decide +kernel) (by decide +kernel)⟩
theorem ll_X9_208 : mj_LL RX9 208 mX9_showsOn := Or.inl (mj_inG 1096 (by decide +kernel) (by decide +kernel))
theorem lb_X9_showsOn : mj_LB mX9_showsOn 2 := ⟨mj_inG 1099 (by decide +kernel) (by decide +kernel), mj_inG 57 (by decide +kernel) (by decide +kernel), by decide +kernel, by decide +kernel, by decide +kernel⟩
theorem li_X9_showsOn : Jvm.Cond.instanceMethod mX9_showsOn.1 ∈ mj_G ∧ Jvm.Cond.selects mX9_showsOn.1.cls mX9_showsOn.1 mX9_showsOn.1 ∈ mj_G := ⟨mj_inG 1098 (by decide +kernel) (by decide +kernel), mj_inG 34 (by decide +kernel) (by decide +kernel)⟩
theorem fl_X9_39 : mj_FL RX9 39 9 17 := ⟨RX9, TX9, 20, rfl, by decide, uw_X9, Or.inl (mj_inG 884 (by decide +kernel) (by decide +kernel))⟩
theorem fp_X9_211 {nm : String} : mj_FP RX9 nm 211 9 5 .long := ⟨RX9, TX9, 20, tyX9, rfl, by decide, uw_X9, tyX9_ok, nmX9, rfl, Or.inl ⟨rfl, Or.inl (mj_inG 872 (by decide +kernel) (by decide +kernel))⟩⟩
theorem ll_X9_219 : mj_LL RX9 219 mX9_bits := Or.inl (mj_inG 1113 (by decide +kernel) (by decide +kernel))
theorem lb_X9_bits : mj_LB mX9_bits 1 := ⟨mj_inG 1115 (by decide +kernel) (by decide +kernel), mj_inG 57 (by decide +kernel) (by decide +kernel), by decide +kernel, by decide +kernel, by decide +kernel⟩
theorem li_X9_bits : Jvm.Cond.static mX9_bits.1 ∈ mj_G := mj_inG 1114 (by decide +kernel) (by decide +kernel)
theorem ll_X9_222 : mj_LL RX9 222 mX9_holdOn := Or.inl (mj_inG 1116 (by decide +kernel) (by decide +kernel))
theorem lb_X9_holdOn : mj_LB mX9_holdOn 3 := ⟨mj_inG 1119 (by decide +kernel) (by decide +kernel), mj_inG 57 (by decide +kernel) (by decide +kernel), by decide +kernel, by decide +kernel, by decide +kernel⟩
theorem li_X9_holdOn : Jvm.Cond.instanceMethod mX9_holdOn.1 ∈ mj_G ∧ Jvm.Cond.selects mX9_holdOn.1.cls mX9_holdOn.1 mX9_holdOn.1 ∈ mj_G := ⟨mj_inG 1118 (by decide +kernel) (by decide +kernel), mj_inG 36 (by decide +kernel) (by decide +kernel)⟩
theorem ll_X9_226 : mj_LL RX9 226 mX9_fraction := Or.inl (mj_inG 1120 (by decide +kernel) (by decide +kernel))
theorem lb_X9_fraction : mj_LB mX9_fraction 2 := ⟨mj_inG 1123 (by decide +kernel) (by decide +kernel), mj_inG 57 (by decide +kernel) (by decide +kernel), by decide +kernel, by decide +kernel, by decide +kernel⟩
theorem li_X9_fraction : Jvm.Cond.instanceMethod mX9_fraction.1 ∈ mj_G ∧ Jvm.Cond.selects mX9_fraction.1.cls mX9_fraction.1 mX9_fraction.1 ∈ mj_G := ⟨mj_inG 1122 (by decide +kernel) (by decide +kernel), mj_inG 37 (by decide +kernel) (by decide +kernel)⟩
theorem ll_X9_214 : mj_LL RX9 214 mX9_areMen := Or.inl (mj_inG 1108 (by decide +kernel) (by decide +kernel))
theorem lb_X9_areMen : mj_LB mX9_areMen 1 := ⟨mj_inG 1111 (by decide +kernel) (by decide +kernel), mj_inG 57 (by decide +kernel) (by decide +kernel), by decide +kernel, by decide +kernel, by decide +kernel⟩
theorem li_X9_areMen : Jvm.Cond.instanceMethod mX9_areMen.1 ∈ mj_G ∧ Jvm.Cond.selects mX9_areMen.1.cls mX9_areMen.1 mX9_areMen.1 ∈ mj_G := ⟨mj_inG 1110 (by decide +kernel) (by decide +kernel), mj_inG 35 (by decide +kernel) (by decide +kernel)⟩
theorem ll_X9_230 : mj_LL RX9 230 mX9_keepOn := Or.inl (mj_inG 1128 (by decide +kernel) (by decide +kernel))
theorem lb_X9_keepOn : mj_LB mX9_keepOn 3 := ⟨mj_inG 1131 (by decide +kernel) (by decide +kernel), mj_inG 57 (by decide +kernel) (by decide +kernel), by decide +kernel, by decide +kernel, by decide +kernel⟩
theorem li_X9_keepOn : Jvm.Cond.instanceMethod mX9_keepOn.1 ∈ mj_G ∧ Jvm.Cond.selects mX9_keepOn.1.cls mX9_keepOn.1 mX9_keepOn.1 ∈ mj_G := ⟨mj_inG 1130 (by decide +kernel) (by decide +kernel), mj_inG 38 (by decide +kernel) (by decide +kernel)⟩
theorem fl_X9_43 : mj_FL RX9 43 9 18 := ⟨RX9, TX9, 20, rfl, by decide, uw_X9, Or.inl (mj_inG 885 (by decide +kernel) (by decide +kernel))⟩
theorem ll_X9_234 : mj_LL RX9 234 mX9_layDay := Or.inl (mj_inG 1146 (by decide +kernel) (by decide +kernel))
theorem lb_X9_layDay : mj_LB mX9_layDay 0 := ⟨mj_inG 1149 (by decide +kernel) (by decide +kernel), mj_inG 57 (by decide +kernel) (by decide +kernel), by decide +kernel, by decide +kernel, by decide +kernel⟩
theorem li_X9_layDay : Jvm.Cond.instanceMethod mX9_layDay.1 ∈ mj_G ∧ Jvm.Cond.selects mX9_layDay.1.cls mX9_layDay.1 mX9_layDay.1 ∈ mj_G := ⟨mj_inG 1148 (by decide +kernel) (by decide +kernel), mj_inG 41 (by decide +kernel) (by decide +kernel)⟩
theorem ll_X9_237 : mj_LL RX9 237 mX9_behind := Or.inl (mj_inG 1142 (by decide +kernel) (by decide +kernel))
theorem lb_X9_behind : mj_LB mX9_behind 5 := ⟨mj_inG 1145 (by decide +kernel) (by decide +kernel), mj_inG 57 (by decide +kernel) (by decide +kernel), by decide +kernel, by decide +kernel, by decide +kernel⟩
theorem li_X9_behind : Jvm.Cond.instanceMethod mX9_behind.1 ∈ mj_G ∧ Jvm.Cond.selects mX9_behind.1.cls mX9_behind.1 mX9_behind.1 ∈ mj_G := ⟨mj_inG 1144 (by decide +kernel) (by decide +kernel), mj_inG 40 (by decide +kernel) (by decide +kernel)⟩
theorem ll_X9_243 : mj_LL RX9 243 mX9_worthOf := Or.inl (mj_inG 1138 (by decide +kernel) (by decide +kernel))
theorem lb_X9_worthOf : mj_LB mX9_worthOf 4 := ⟨mj_inG 1141 (by decide +kernel) (by decide +kernel), mj_inG 57 (by decide +kernel) (by decide +kernel), by decide +kernel, by decide +kernel, by decide +kernel⟩
theorem li_X9_worthOf : Jvm.Cond.instanceMethod mX9_worthOf.1 ∈ mj_G ∧ Jvm.Cond.selects mX9_worthOf.1.cls mX9_worthOf.1 mX9_worthOf.1 ∈ mj_G := ⟨mj_inG 1140 (by decide +kernel) (by decide +kernel), mj_inG 39 (by decide +kernel) (by decide +kernel)⟩
theorem fl_X9_46 : mj_FL RX9 46 9 19 := ⟨RX9, TX9, 20, rfl, by decide, uw_X9, Or.inl (mj_inG 886 (by decide +kernel) (by decide +kernel))⟩
theorem ll_X9_247 : mj_LL RX9 247 mX9_sifts := Or.inl (mj_inG 1158 (by decide +kernel) (by decide +kernel))
theorem lb_X9_sifts : mj_LB mX9_sifts 4 := ⟨mj_inG 1161 (by decide +kernel) (by decide +kernel), mj_inG 57 (by decide +kernel) (by decide +kernel), by decide +kernel, by decide +kernel, by decide +kernel⟩
theorem li_X9_sifts : Jvm.Cond.instanceMethod mX9_sifts.1 ∈ mj_G ∧ Jvm.Cond.selects mX9_sifts.1.cls mX9_sifts.1 mX9_sifts.1 ∈ mj_G := ⟨mj_inG 1160 (by decide +kernel) (by decide +kernel), mj_inG 42 (by decide +kernel) (by decide +kernel)⟩
theorem ll_X9_253 : mj_LL RX9 253 mX9_areWell := Or.inl (mj_inG 1171 (by decide +kernel) (by decide +kernel))
theorem lb_X9_areWell : mj_LB mX9_areWell 2 := ⟨mj_inG 1174 (by decide +kernel) (by decide +kernel), mj_inG 57 (by decide +kernel) (by decide +kernel), by decide +kernel, by decide +kernel, by decide +kernel⟩
theorem li_X9_areWell : Jvm.Cond.instanceMethod mX9_areWell.1 ∈ mj_G ∧ Jvm.Cond.selects mX9_areWell.1.cls mX9_areWell.1 mX9_areWell.1 ∈ mj_G := ⟨mj_inG 1173 (by decide +kernel) (by decide +kernel), mj_inG 43 (by decide +kernel) (by decide +kernel)⟩
theorem ll_X9_259 : mj_LL RX9 259 mX9_wearing := Or.inl (mj_inG 1186 (by decide +kernel) (by decide +kernel))
theorem lb_X9_wearing : mj_LB mX9_wearing 2 := ⟨mj_inG 1189 (by decide +kernel) (by decide +kernel), mj_inG 57 (by decide +kernel) (by decide +kernel), by decide +kernel, by decide +kernel, by decide +kernel⟩
theorem li_X9_wearing : Jvm.Cond.instanceMethod mX9_wearing.1 ∈ mj_G ∧ Jvm.Cond.selects mX9_wearing.1.cls mX9_wearing.1 mX9_wearing.1 ∈ mj_G := ⟨mj_inG 1188 (by decide +kernel) (by decide +kernel), mj_inG 44 (by decide +kernel) (by decide +kernel)⟩
theorem ll_X9_256 : mj_LL RX9 256 mX9_isTwo := Or.inl (mj_inG 1183 (by decide +kernel) (by decide +kernel))
theorem lb_X9_isTwo : mj_LB mX9_isTwo 1 := ⟨mj_inG 1185 (by decide +kernel) (by decide +kernel), mj_inG 57 (by decide +kernel) (by decide +kernel), by decide +kernel, by decide +kernel, by decide +kernel⟩
theorem li_X9_isTwo : Jvm.Cond.static mX9_isTwo.1 ∈ mj_G := mj_inG 1184 (by decide +kernel) (by decide +kernel)
theorem ll_X9_263 : mj_LL RX9 263 mX9_gets := Or.inl (mj_inG 1198 (by decide +kernel) (by decide +kernel))
theorem lb_X9_gets : mj_LB mX9_gets 3 := ⟨mj_inG 1201 (by decide +kernel) (by decide +kernel), mj_inG 57 (by decide +kernel) (by decide +kernel), by decide +kernel, by decide +kernel, by decide +kernel⟩
theorem li_X9_gets : Jvm.Cond.instanceMethod mX9_gets.1 ∈ mj_G ∧ Jvm.Cond.selects mX9_gets.1.cls mX9_gets.1 mX9_gets.1 ∈ mj_G := ⟨mj_inG 1200 (by decide +kernel) (by decide +kernel), mj_inG 45 (by decide +kernel) (by decide +kernel)⟩
theorem fl_X9_23 : mj_FL RX9 23 9 6 := ⟨RX9, TX9, 20, rfl, by decide, uw_X9, Or.inl (mj_inG 873 (by decide +kernel) (by decide +kernel))⟩
theorem fl_X9_211 : mj_FL RX9 211 9 5 := ⟨RX9, TX9, 20, rfl, by decide, uw_X9, Or.inl (mj_inG 872 (by decide +kernel) (by decide +kernel))⟩
theorem fl_X9_13 : mj_FL RX9 13 9 1 := ⟨RX9, TX9, 20, rfl, by decide, uw_X9, Or.inl (mj_inG 868 (by decide +kernel) (by decide +kernel))⟩
theorem fl_X9_16 : mj_FL RX9 16 9 2 := ⟨RX9, TX9, 20, rfl, by decide, uw_X9, Or.inl (mj_inG 869 (by decide +kernel) (by decide +kernel))⟩
theorem ll_X9_279 : mj_LL RX9 279 mX9_counted := Or.inl (mj_inG 1236 (by decide +kernel) (by decide +kernel))
theorem lb_X9_counted : mj_LB mX9_counted 1 := ⟨mj_inG 1239 (by decide +kernel) (by decide +kernel), mj_inG 57 (by decide +kernel) (by decide +kernel), by decide +kernel, by decide +kernel, by decide +kernel⟩
theorem li_X9_counted : Jvm.Cond.instanceMethod mX9_counted.1 ∈ mj_G ∧ Jvm.Cond.selects mX9_counted.1.cls mX9_counted.1 mX9_counted.1 ∈ mj_G := ⟨mj_inG 1238 (by decide +kernel) (by decide +kernel), mj_inG 46 (by decide +kernel) (by decide +kernel)⟩
theorem ll_J0_335 : mj_LL RJ0 335 mJ0_coder_7d493 := Or.inl (mj_inG 438 (by decide +kernel) (by decide +kernel))
theorem lb_J0_coder_7d493 : mj_LB mJ0_coder_7d493 0 := ⟨mj_inG 441 (by decide +kernel) (by decide +kernel), mj_inG 58 (by decide +kernel) (by decide +kernel), by decide +kernel, by decide +kernel, by decide +kernel⟩
theorem li_J0_coder_7d493 : Jvm.Cond.instanceMethod mJ0_coder_7d493.1 ∈ mj_G ∧ Jvm.Cond.selects mJ0_coder_7d493.1.cls mJ0_coder_7d493.1 mJ0_coder_7d493.1 ∈ mj_G := ⟨mj_inG 439 (by decide +kernel) (by decide +kernel), mj_inG 440 (by decide +kernel) (by decide +kernel)⟩
theorem ll_J0_492 : mj_LL RJ0 492 mJ0_isLatin1_aae02 := Or.inl (mj_inG 449 (by decide +kernel) (by decide +kernel))
theorem lb_J0_isLatin1_aae02 : mj_LB mJ0_isLatin1_aae02 0 := ⟨mj_inG 452 (by decide +kernel) (by decide +kernel), mj_inG 58 (by decide +kernel) (by decide +kernel), by decide +kernel, by decide +kernel, by decide +kernel⟩
theorem li_J0_isLatin1_aae02 : Jvm.Cond.instanceMethod mJ0_isLatin1_aae02.1 ∈ mj_G ∧ Jvm.Cond.selects mJ0_isLatin1_aae02.1.cls mJ0_isLatin1_aae02.1 mJ0_isLatin1_aae02.1 ∈ mj_G := ⟨mj_inG 450 (by decide +kernel) (by decide +kernel), mj_inG 451 (by decide +kernel) (by decide +kernel)⟩
theorem ll_J0_495 : mj_LL RJ0 495 mJ1_charAt_3b067 := Or.inl (mj_inG 453 (by decide +kernel) (by decide +kernel))
theorem lb_J1_charAt_3b067 : mj_LB mJ1_charAt_3b067 2 := ⟨mj_inG 455 (by decide +kernel) (by decide +kernel), mj_inG 59 (by decide +kernel) (by decide +kernel), by decide +kernel, by decide +kernel, by decide +kernel⟩
theorem li_J1_charAt_3b067 : Jvm.Cond.static mJ1_charAt_3b067.1 ∈ mj_G := mj_inG 454 (by decide +kernel) (by decide +kernel)
theorem ll_J1_9 : mj_LL RJ1 9 mJ0_checkIndex_df160 := Or.inl (mj_inG 456 (by decide +kernel) (by decide +kernel))
theorem lb_J0_checkIndex_df160 : mj_LB mJ0_checkIndex_df160 2 := ⟨mj_inG 458 (by decide +kernel) (by decide +kernel), mj_inG 58 (by decide +kernel) (by decide +kernel), by decide +kernel, by decide +kernel, by decide +kernel⟩
theorem li_J0_checkIndex_df160 : Jvm.Cond.static mJ0_checkIndex_df160.1 ∈ mj_G := mj_inG 457 (by decide +kernel) (by decide +kernel)
theorem ll_J0_1059 : mj_LL RJ0 1059 mJ3_checkIndex_8e157 := Or.inl (mj_inG 461 (by decide +kernel) (by decide +kernel))
theorem lb_J3_checkIndex_8e157 : mj_LB mJ3_checkIndex_8e157 3 := ⟨mj_inG 463 (by decide +kernel) (by decide +kernel), mj_inG 60 (by decide +kernel) (by decide +kernel), by decide +kernel, by decide +kernel, by decide +kernel⟩
theorem li_J3_checkIndex_8e157 : Jvm.Cond.static mJ3_checkIndex_8e157.1 ∈ mj_G := mj_inG 462 (by decide +kernel) (by decide +kernel)
theorem sf_J0_38 : Jvm.Cond.fieldLink RJ0 38 "java/lang/String" "COMPACT_STRINGS" "Z" ∈ mj_G := mj_inG 442 (by decide +kernel) (by decide +kernel)
theorem sf_J0_15 : Jvm.Cond.fieldLink RJ0 15 "java/lang/String" "coder" "B" ∈ mj_G := mj_inG 1246 (by decide +kernel) (by decide +kernel)
theorem sf_J0_9 : Jvm.Cond.fieldLink RJ0 9 "java/lang/String" "value" "[B" ∈ mj_G := mj_inG 1245 (by decide +kernel) (by decide +kernel)
theorem sf_J0_1053 : Jvm.Cond.fieldLink RJ0 1053 "jdk/internal/util/Preconditions" "SIOOBE_FORMATTER" "Ljava/util/function/BiFunction;" ∈ mj_G := mj_inG 459 (by decide +kernel) (by decide +kernel)
theorem pl_J0 : plainName RJ0 = true := by decide +kernel
theorem pl_J1 : plainName RJ1 = true := by decide +kernel
theorem pl_J3 : plainName RJ3 = true := by decide +kernel
theorem mj_KO_of {own : String} {kon : List (Nat × Value)} (h : ∀ q ∈ kon, (∃ x, q.2 = .int x ∧ Jvm.Cond.constant own q.1 x ∈ mj_G) ∨ ∃ x, q.2 = .long x ∧ Jvm.Cond.constantLong own q.1 x ∈ mj_G) : mj_KO own kon := fun i v hv => h (i, v) (mj_lk_mem kon i v hv)
def k_J0 : List (Nat × Value) := []
theorem k_J0_ok : mj_KO RJ0 k_J0 := fun i v h => by cases h
def k_J1 : List (Nat × Value) := []
theorem k_J1_ok : mj_KO RJ1 k_J1 := fun i v h => by cases h
def k_J2 : List (Nat × Value) := []
theorem k_J2_ok : mj_KO RJ2 k_J2 := fun i v h => by cases h
def k_J3 : List (Nat × Value) := []
theorem k_J3_ok : mj_KO RJ3 k_J3 := fun i v h => by cases h
def k_J6 : List (Nat × Value) := [(265, .int (1431655765 : Int32)), (266, .int (858993459 : Int32)), (267, .int (252645135 : Int32))]
theorem k_J6_ok : mj_KO RJ6 k_J6 := mj_KO_of (by
  intro q hq
  simp only [k_J6, List.mem_cons, List.not_mem_nil, or_false] at hq
  rcases hq with rfl | rfl | rfl
  · exact Or.inl ⟨_, rfl, mj_inG 673 (by decide +kernel) (by decide +kernel)⟩
  · exact Or.inl ⟨_, rfl, mj_inG 674 (by decide +kernel) (by decide +kernel)⟩
  · exact Or.inl ⟨_, rfl, mj_inG 675 (by decide +kernel) (by decide +kernel)⟩
)
def k_J9 : List (Nat × Value) := []
theorem k_J9_ok : mj_KO RJ9 k_J9 := fun i v h => by cases h
def k_L : List (Nat × Value) := []
theorem k_L_ok : mj_KO RL k_L := fun i v h => by cases h
def k_X0 : List (Nat × Value) := []
theorem k_X0_ok : mj_KO RX0 k_X0 := fun i v h => by cases h
def k_X1 : List (Nat × Value) := []
theorem k_X1_ok : mj_KO RX1 k_X1 := fun i v h => by cases h
def k_X2 : List (Nat × Value) := [(41, .long (-1 : Int64))]
theorem k_X2_ok : mj_KO RX2 k_X2 := mj_KO_of (by
  intro q hq
  simp only [k_X2, List.mem_cons, List.not_mem_nil, or_false] at hq
  rcases hq with rfl
  · exact Or.inr ⟨_, rfl, mj_inG 686 (by decide +kernel) (by decide +kernel)⟩
)
def k_X3 : List (Nat × Value) := []
theorem k_X3_ok : mj_KO RX3 k_X3 := fun i v h => by cases h
def k_X4 : List (Nat × Value) := []
theorem k_X4_ok : mj_KO RX4 k_X4 := fun i v h => by cases h
def k_X5 : List (Nat × Value) := [(48, .long (999999 : Int64)), (50, .long (2 : Int64)), (52, .long (12 : Int64)), (54, .long (60 : Int64))]
theorem k_X5_ok : mj_KO RX5 k_X5 := mj_KO_of (by
  intro q hq
  simp only [k_X5, List.mem_cons, List.not_mem_nil, or_false] at hq
  rcases hq with rfl | rfl | rfl | rfl
  · exact Or.inr ⟨_, rfl, mj_inG 578 (by decide +kernel) (by decide +kernel)⟩
  · exact Or.inr ⟨_, rfl, mj_inG 579 (by decide +kernel) (by decide +kernel)⟩
  · exact Or.inr ⟨_, rfl, mj_inG 598 (by decide +kernel) (by decide +kernel)⟩
  · exact Or.inr ⟨_, rfl, mj_inG 599 (by decide +kernel) (by decide +kernel)⟩
)
def k_X6 : List (Nat × Value) := []
theorem k_X6_ok : mj_KO RX6 k_X6 := fun i v h => by cases h
def k_X7 : List (Nat × Value) := []
theorem k_X7_ok : mj_KO RX7 k_X7 := fun i v h => by cases h
def k_X8 : List (Nat × Value) := [(196, .long (60 : Int64)), (218, .int (-100000000 : Int32)), (219, .int (-200000000 : Int32)), (274, .int (999999 : Int32)), (278, .long (1103515245 : Int64)), (280, .long (12345 : Int64)), (282, .long (2147483648 : Int64)), (284, .long (65536 : Int64)), (314, .long (971 : Int64)), (316, .long (31 : Int64))]
theorem k_X8_ok : mj_KO RX8 k_X8 := mj_KO_of (by
  intro q hq
  simp only [k_X8, List.mem_cons, List.not_mem_nil, or_false] at hq
  rcases hq with rfl | rfl | rfl | rfl | rfl | rfl | rfl | rfl | rfl | rfl
  · exact Or.inr ⟨_, rfl, mj_inG 676 (by decide +kernel) (by decide +kernel)⟩
  · exact Or.inl ⟨_, rfl, mj_inG 696 (by decide +kernel) (by decide +kernel)⟩
  · exact Or.inl ⟨_, rfl, mj_inG 697 (by decide +kernel) (by decide +kernel)⟩
  · exact Or.inl ⟨_, rfl, mj_inG 809 (by decide +kernel) (by decide +kernel)⟩
  · exact Or.inr ⟨_, rfl, mj_inG 810 (by decide +kernel) (by decide +kernel)⟩
  · exact Or.inr ⟨_, rfl, mj_inG 811 (by decide +kernel) (by decide +kernel)⟩
  · exact Or.inr ⟨_, rfl, mj_inG 812 (by decide +kernel) (by decide +kernel)⟩
  · exact Or.inr ⟨_, rfl, mj_inG 813 (by decide +kernel) (by decide +kernel)⟩
  · exact Or.inr ⟨_, rfl, mj_inG 855 (by decide +kernel) (by decide +kernel)⟩
  · exact Or.inr ⟨_, rfl, mj_inG 856 (by decide +kernel) (by decide +kernel)⟩
)
def k_X9 : List (Nat × Value) := [(57, .long (9 : Int64)), (67, .long (31 : Int64)), (73, .long (99 : Int64)), (96, .long (127 : Int64)), (108, .long (97 : Int64)), (110, .long (122 : Int64)), (112, .long (48 : Int64)), (114, .long (57 : Int64)), (125, .long (256 : Int64)), (127, .long (-1 : Int64)), (129, .long (120351215609202 : Int64)), (131, .long (7168366 : Int64)), (133, .long (2003792494 : Int64)), (135, .long (1885432178 : Int64)), (137, .long (2003792484 : Int64)), (155, .long (2 : Int64)), (161, .long (60 : Int64)), (167, .long (12 : Int64)), (180, .int (999999 : Int32)), (204, .long (5 : Int64)), (206, .long (3 : Int64)), (217, .long (6 : Int64)), (241, .int (-100000000 : Int32)), (242, .int (-200000000 : Int32)), (251, .long (120 : Int64)), (267, .long (30 : Int64)), (269, .long (999999 : Int64)), (271, .long (1103515245 : Int64)), (273, .long (12345 : Int64)), (275, .long (2147483648 : Int64)), (277, .long (65536 : Int64)), (282, .long (971 : Int64))]
theorem k_X9_ok : mj_KO RX9 k_X9 := mj_KO_of (by
  intro q hq
  simp only [k_X9, List.mem_cons, List.not_mem_nil, or_false] at hq
  rcases hq with rfl | rfl | rfl | rfl | rfl | rfl | rfl | rfl | rfl | rfl | rfl | rfl | rfl | rfl | rfl | rfl | rfl | rfl | rfl | rfl | rfl | rfl | rfl | rfl | rfl | rfl | rfl | rfl | rfl | rfl | rfl | rfl
  · exact Or.inr ⟨_, rfl, mj_inG 949 (by decide +kernel) (by decide +kernel)⟩
  · exact Or.inr ⟨_, rfl, mj_inG 969 (by decide +kernel) (by decide +kernel)⟩
  · exact Or.inr ⟨_, rfl, mj_inG 933 (by decide +kernel) (by decide +kernel)⟩
  · exact Or.inr ⟨_, rfl, mj_inG 993 (by decide +kernel) (by decide +kernel)⟩
  · exact Or.inr ⟨_, rfl, mj_inG 1010 (by decide +kernel) (by decide +kernel)⟩
  · exact Or.inr ⟨_, rfl, mj_inG 1011 (by decide +kernel) (by decide +kernel)⟩
  · exact Or.inr ⟨_, rfl, mj_inG 1012 (by decide +kernel) (by decide +kernel)⟩
  · exact Or.inr ⟨_, rfl, mj_inG 1013 (by decide +kernel) (by decide +kernel)⟩
  · exact Or.inr ⟨_, rfl, mj_inG 1014 (by decide +kernel) (by decide +kernel)⟩
  · exact Or.inr ⟨_, rfl, mj_inG 1015 (by decide +kernel) (by decide +kernel)⟩
  · exact Or.inr ⟨_, rfl, mj_inG 1019 (by decide +kernel) (by decide +kernel)⟩
  · exact Or.inr ⟨_, rfl, mj_inG 1020 (by decide +kernel) (by decide +kernel)⟩
  · exact Or.inr ⟨_, rfl, mj_inG 1021 (by decide +kernel) (by decide +kernel)⟩
  · exact Or.inr ⟨_, rfl, mj_inG 1022 (by decide +kernel) (by decide +kernel)⟩
  · exact Or.inr ⟨_, rfl, mj_inG 1023 (by decide +kernel) (by decide +kernel)⟩
  · exact Or.inr ⟨_, rfl, mj_inG 1035 (by decide +kernel) (by decide +kernel)⟩
  · exact Or.inr ⟨_, rfl, mj_inG 1066 (by decide +kernel) (by decide +kernel)⟩
  · exact Or.inr ⟨_, rfl, mj_inG 1070 (by decide +kernel) (by decide +kernel)⟩
  · exact Or.inl ⟨_, rfl, mj_inG 1059 (by decide +kernel) (by decide +kernel)⟩
  · exact Or.inr ⟨_, rfl, mj_inG 1082 (by decide +kernel) (by decide +kernel)⟩
  · exact Or.inr ⟨_, rfl, mj_inG 1087 (by decide +kernel) (by decide +kernel)⟩
  · exact Or.inr ⟨_, rfl, mj_inG 1112 (by decide +kernel) (by decide +kernel)⟩
  · exact Or.inl ⟨_, rfl, mj_inG 1136 (by decide +kernel) (by decide +kernel)⟩
  · exact Or.inl ⟨_, rfl, mj_inG 1137 (by decide +kernel) (by decide +kernel)⟩
  · exact Or.inr ⟨_, rfl, mj_inG 1170 (by decide +kernel) (by decide +kernel)⟩
  · exact Or.inr ⟨_, rfl, mj_inG 1210 (by decide +kernel) (by decide +kernel)⟩
  · exact Or.inr ⟨_, rfl, mj_inG 1211 (by decide +kernel) (by decide +kernel)⟩
  · exact Or.inr ⟨_, rfl, mj_inG 1212 (by decide +kernel) (by decide +kernel)⟩
  · exact Or.inr ⟨_, rfl, mj_inG 1213 (by decide +kernel) (by decide +kernel)⟩
  · exact Or.inr ⟨_, rfl, mj_inG 1214 (by decide +kernel) (by decide +kernel)⟩
  · exact Or.inr ⟨_, rfl, mj_inG 1215 (by decide +kernel) (by decide +kernel)⟩
  · exact Or.inr ⟨_, rfl, mj_inG 1244 (by decide +kernel) (by decide +kernel)⟩
)
end
section
/-! String constants: length, charAt, by the JDK's own code -/
def mj_sl (b : Nat) : Option Int32 := if 1010 ≤ b ∧ b < 1015 then some (Int32.ofNat (mj_lens.getD (b - 1010) 0)) else none
def mj_sc (b : Nat) (j : Int32) : Option Int32 := if 1010 ≤ b ∧ b < 1015 then (if mj_ok j (mj_lens.getD (b - 1010) 0) = true then some ((mj_strs.getD (b - 1010) []).getD j.toNatClampNeg 0) else none) else none
def mj_sp (b : Nat) : Prop := ∃ i, i < 5 ∧ b = 1010 + i
theorem mj_sl_at {b : Nat} {x : Int32} (e : mj_sl b = some x) : mj_sp b := by
  unfold mj_sl at e
  obtain ⟨h1, -⟩ := mj_gp e
  exact ⟨b - 1010, by omega, by omega⟩
theorem mj_sc_at {b : Nat} {j x : Int32} (e : mj_sc b j = some x) : mj_sp b := by
  unfold mj_sc at e
  obtain ⟨h1, -⟩ := mj_gp e
  exact ⟨b - 1010, by omega, by omega⟩
theorem mj_callT {M : mj_M} {Fin : mj_F} {pc : Nat} {l : List (Nat × Value)} {st rest : List Value} {h h' : mj_H} {k n : Nat} {idx b np : Nat} {r : Option Value} (M' : mj_M) (as : List Value) (a : Nat) (ha : M.2.2.2.2.2[a]? = some (pc, .invokevirtual idx, 3)) (hL : mj_LL M.1.cls idx M') (hB : mj_LB M' np) (hi : Jvm.Cond.instanceMethod M'.1 ∈ mj_G ∧ Jvm.Cond.selects M'.1.cls M'.1 M'.1 ∈ mj_G) (hm : mj_rm M.2.2.2.2.1 M') (hrec : mj_sp b) (hcl0 : M'.1.cls = "java/lang/String") (hnp : as.length = np) (hst : st = as.reverse ++ .ref b :: rest) (hcat : (rest.map fun v => v.category).sum ≤ 8) (hk : k + M'.2.2.2.2.1.cells ≤ M.2.2.2.2.1.cells ∧ n + M'.2.2.2.2.1.slots ≤ M.2.2.2.2.1.slots) (hM : mj_Met M' (.ref b :: as) h r h')
    (kk : mj_W M Fin (pc + 3) l (r.toList ++ rest) h' (k + M'.2.2.2.2.1.cells) (n + M'.2.2.2.2.1.slots)) : mj_W M Fin pc l st h k n := by
  intro p lc e s m args below meth c H locs ls A Q dC dI cy ad ad0 n0 CX I hl hcl hcs hag hn hzz hret
  have CX' := CX
  obtain ⟨hx, hb, hml, hr, hown, hts, hlk, hnm, hN, hT⟩ := CX
  subst hst
  have hca : ∀ v ∈ Value.ref b :: as, mj_cv h.length v := by
    intro v hv
    rcases List.mem_cons.mp hv with rfl | hv
    · exact hcs _ (List.mem_append_right _ List.mem_cons_self)
    · exact hcs _ (List.mem_append_left _ (List.mem_reverse.mpr hv))
  have hcr : ∀ v ∈ rest, mj_cv h.length v := fun v hv => hcs _ (List.mem_append_right _ (List.mem_cons_of_mem _ hv))
  have hMt := hM lc dC dI cy ad H.size hca
  have hrecv : ∃ cellB : Cell, H[ad b]? = some cellB ∧ cellB.vm.isStatics = false ∧ s.vm.findClass M'.1.cls = some cellB.cls := by
    obtain ⟨i, h1, rfl⟩ := hrec
    rw [hcl0]
    exact vk_recv (adK := fun i => ad (1010 + i)) (adV := fun i => ad (1020 + i)) (i := i) I.2.2.1.2.2.2.1 h1 I.2.2.2.2.2.1
  have hp : PreV s H M'.1.cls (ad b) (va_Pc ((Value.ref b :: as).map (mj_v ad)) (mj_Pre dC dI cy ad h H.size)) (as.map (mj_v ad)) := ⟨mj_blind, hrecv, fun U hU hW => ⟨rfl, mj_pre_at I hN hU hW⟩⟩
  have hstk : ((as.reverse ++ Value.ref b :: rest).map (mj_v ad)) = (as.map (mj_v ad)).reverse ++ .ref (ad b) :: rest.map (mj_v ad) := by
    rw [List.map_append, List.map_reverse]; rfl
  have hGW := mj_ws_good hB.1
  have hd := mj_dec hT ha
  rw [hstk]
  rcases hL with hL | ⟨host, hL⟩
  · exact mj_after kk CX' I hl hcl hcr hag hn hzz hret (va_runV (As := as.map (mj_v ad)) (rest := rest.map (mj_v ad)) (nL := M.2.2.1) (Ts := mj_G) (own := M.1.cls) ⟨hx, hb, hml, hown, hts⟩ hMt ⟨callB_of np hts hGW rfl rfl rfl (hts _ hB.2.1) (hts _ hL) hB.2.2 hm, hts _ hi.1, hts _ hi.2⟩ hp rfl (by rw [List.length_map]; exact hnp) hl.1 rfl (by rw [mj_cat]; exact Nat.le_trans (by simp) (Nat.le_trans (Nat.le_of_eq (Nat.zero_add _)) hcat)) hd hk)
  · exact mj_after kk CX' I hl hcl hcr hag hn hzz hret (va_runVN (As := as.map (mj_v ad)) (rest := rest.map (mj_v ad)) (nL := M.2.2.1) (Ts := mj_G) (own := M.1.cls) ⟨hx, hb, hml, hown, hts⟩ hMt ⟨va_cnB np hts hGW rfl rfl rfl (hN _ hL) (hts _ hB.2.1) hB.2.2 hm, hts _ hi.1, hts _ hi.2⟩ hp rfl (by rw [List.length_map]; exact hnp) hl.1 rfl (by rw [mj_cat]; exact Nat.le_trans (by simp) (Nat.le_trans (Nat.le_of_eq (Nat.zero_add _)) hcat)) hd hk)
theorem mj_getsZ {M : mj_M} {Fin : mj_F} {pc : Nat} {l : List (Nat × Value)} {st : List Value} {h : mj_H} {k n : Nat} {idx : Nat} (a : Nat) (ha : M.2.2.2.2.2[a]? = some (pc, .getstatic idx, 3)) (hw : Jvm.Cond.fieldLink M.1.cls idx "java/lang/String" "COMPACT_STRINGS" "Z" ∈ mj_G) (kk : mj_W M Fin (pc + 3) l (.int 1 :: st) h k n) : mj_W M Fin pc l st h k n := by
  intro p lc e s m args below meth c H locs ls A Q dC dI cy ad ad0 n0 CX I hl hcl hcs hag hn hzz hret
  have CX' := CX
  have I' := I
  obtain ⟨hx, hb, hml, hr, hown, hts, hlk, hnm, hN, hT⟩ := CX
  obtain ⟨hK, hA, hR, hP, hD, hS, hch⟩ := I
  exact va_gets hx hb hR.2.1 hS hown (hts _ hw) (fun _ z => z) (mj_dec hT ha) (kk p lc e s m args below meth c H locs ls A Q dC dI cy ad ad0 n0 CX' I' hl hcl (mj_cs trivial hcs) hag hn hzz hret)
theorem mj_getC {M : mj_M} {Fin : mj_F} {pc : Nat} {l : List (Nat × Value)} {st : List Value} {h : mj_H} {k n : Nat} {idx i : Nat} (a : Nat) (ha : M.2.2.2.2.2[a]? = some (pc, .getfield idx, 3)) (hi : i < 5) (hw : Jvm.Cond.fieldLink M.1.cls idx "java/lang/String" "coder" "B" ∈ mj_G) (kk : mj_W M Fin (pc + 3) l (.int 0 :: st) h k n) : mj_W M Fin pc l (.ref (1010 + i) :: st) h k n := by
  intro p lc e s m args below meth c H locs ls A Q dC dI cy ad ad0 n0 CX I hl hcl hcs hag hn hzz hret
  have CX' := CX
  have I' := I
  obtain ⟨hx, hb, hml, hr, hown, hts, hlk, hnm, hN, hT⟩ := CX
  obtain ⟨hK, hA, hR, hP, hD, hS, hch⟩ := I
  exact vk_getf hx hb (hR.2.2.2.1.1 i hi).2.1 hS hown (hts _ hw) (fun _ z => z) (mj_dec hT ha) (kk p lc e s m args below meth c H locs ls A Q dC dI cy ad ad0 n0 CX' I' hl hcl (mj_cs trivial (mj_tl hcs)) hag hn hzz hret)
theorem mj_getT {M : mj_M} {Fin : mj_F} {pc : Nat} {l : List (Nat × Value)} {st : List Value} {h : mj_H} {k n : Nat} {idx i : Nat} (a : Nat) (ha : M.2.2.2.2.2[a]? = some (pc, .getfield idx, 3)) (hi : i < 5) (hw : Jvm.Cond.fieldLink M.1.cls idx "java/lang/String" "value" "[B" ∈ mj_G) (kk : mj_W M Fin (pc + 3) l (.ref (1020 + i) :: st) h k n) : mj_W M Fin pc l (.ref (1010 + i) :: st) h k n := by
  intro p lc e s m args below meth c H locs ls A Q dC dI cy ad ad0 n0 CX I hl hcl hcs hag hn hzz hret
  have CX' := CX
  have I' := I
  obtain ⟨hx, hb, hml, hr, hown, hts, hlk, hnm, hN, hT⟩ := CX
  obtain ⟨hK, hA, hR, hP, hD, hS, hch⟩ := I
  exact vk_getf hx hb (hR.2.2.2.1.1 i hi).2.2.1 hS hown (hts _ hw) (fun _ z => z) (mj_dec hT ha) (kk p lc e s m args below meth c H locs ls A Q dC dI cy ad ad0 n0 CX' I' hl hcl (mj_cs (Or.inr (Nat.le_trans (by decide : (1000 : Nat) ≤ 1020) (Nat.le_add_right _ _))) (mj_tl hcs)) hag hn hzz hret)
theorem mj_alenT {M : mj_M} {Fin : mj_F} {pc : Nat} {l : List (Nat × Value)} {st : List Value} {h : mj_H} {k n : Nat} {i : Nat} (a : Nat) (ha : M.2.2.2.2.2[a]? = some (pc, .arraylength, 1)) (hi : i < 5) (kk : mj_W M Fin (pc + 1) l (.int (Int32.ofNat (mj_lens.getD i 0)) :: st) h k n) : mj_W M Fin pc l (.ref (1020 + i) :: st) h k n := by
  intro p lc e s m args below meth c H locs ls A Q dC dI cy ad ad0 n0 CX I hl hcl hcs hag hn hzz hret
  have CX' := CX
  have I' := I
  obtain ⟨hx, hb, hml, hr, hown, hts, hlk, hnm, hN, hT⟩ := CX
  obtain ⟨hK, hA, hR, hP, hD, hS, hch⟩ := I
  exact va_tlen hx hb (hR.2.2.2.1.1 i hi).2.2.2 hS rfl (mj_dec hT ha) (kk p lc e s m args below meth c H locs ls A Q dC dI cy ad ad0 n0 CX' I' hl hcl (mj_cs trivial (mj_tl hcs)) hag hn hzz hret)
theorem mj_baldT {M : mj_M} {Fin : mj_F} {pc : Nat} {l : List (Nat × Value)} {st : List Value} {h : mj_H} {k n : Nat} {i : Nat} {j : Int32} (a : Nat) (ha : M.2.2.2.2.2[a]? = some (pc, .baload, 1)) (hi : i < 5) (hj : mj_ok j (mj_lens.getD i 0) = true) (kk : mj_W M Fin (pc + 1) l (.int ((mj_strs.getD i []).getD j.toNatClampNeg 0) :: st) h k n) : mj_W M Fin pc l (.int j :: .ref (1020 + i) :: st) h k n := by
  intro p lc e s m args below meth c H locs ls A Q dC dI cy ad ad0 n0 CX I hl hcl hcs hag hn hzz hret
  have CX' := CX
  have I' := I
  obtain ⟨hx, hb, hml, hr, hown, hts, hlk, hnm, hN, hT⟩ := CX
  obtain ⟨hK, hA, hR, hP, hD, hS, hch⟩ := I
  exact va_tb hx hb (hR.2.2.2.1.1 i hi).2.2.2 hS (mj_ok_in hj) rfl (mj_dec hT ha) (kk p lc e s m args below meth c H locs ls A Q dC dI cy ad ad0 n0 CX' I' hl hcl (mj_cs trivial (mj_tl (mj_tl hcs))) hag hn hzz hret)
set_option maxHeartbeats 4000000 in
set_option maxRecDepth 100000 in
theorem mj_coder (i : Nat) (hi : i < 5) (h : mj_H) : mj_Met mJ0_coder_7d493 [.ref (1010 + i)] h (some (.int 0)) h := by
  refine mj_met pl_J0 tok_J0_coder_7d493 (Nat.le_of_ble_eq_true rfl) ?_
  show mj_W mJ0_coder_7d493 (mj_FI (0, h)) 0 [(0, .ref (1010 + i))] [] h 0 0
  refine mj_getsZ 0 rfl sf_J0_38 ?_
  refine mj_if_eq 1 13 rfl (by decide) (fun q => absurd q (by decide)) (fun q => ?_)
  refine mj_blk k_J0_ok 2 1 (pc' := 7) (l' := [(0, .ref (1010 + i))]) (st' := [.ref (1010 + i)]) rfl ?_
  refine mj_getC 3 rfl hi sf_J0_15 ?_
  refine mj_blk k_J0_ok 4 1 (pc' := 14) (l' := [(0, .ref (1010 + i))]) (st' := [.int 0]) rfl ?_
  exact mj_end (some (.int 0)) ⟨mj_dec tok_J0_coder_7d493 (a := 6) rfl, .byte, rfl, rfl⟩ ⟨rfl, rfl⟩ (Nat.le_of_ble_eq_true rfl) (Nat.le_of_ble_eq_true rfl)
set_option maxHeartbeats 4000000 in
set_option maxRecDepth 100000 in
theorem mj_latin (i : Nat) (hi : i < 5) (h : mj_H) : mj_Met mJ0_isLatin1_aae02 [.ref (1010 + i)] h (some (.int 1)) h := by
  refine mj_met pl_J0 tok_J0_isLatin1_aae02 (Nat.le_of_ble_eq_true rfl) ?_
  show mj_W mJ0_isLatin1_aae02 (mj_FI (1, h)) 0 [(0, .ref (1010 + i))] [] h 0 0
  refine mj_getsZ 0 rfl sf_J0_38 ?_
  refine mj_if_eq 1 17 rfl (by decide) (fun q => absurd q (by decide)) (fun q => ?_)
  refine mj_blk k_J0_ok 2 1 (pc' := 7) (l' := [(0, .ref (1010 + i))]) (st' := [.ref (1010 + i)]) rfl ?_
  refine mj_getC 3 rfl hi sf_J0_15 ?_
  refine mj_if_ne 4 17 rfl (by decide) (fun q => absurd rfl q) (fun q => ?_)
  refine mj_blk k_J0_ok 5 2 (pc' := 18) (l' := [(0, .ref (1010 + i))]) (st' := [.int 1]) rfl ?_
  exact mj_end (some (.int 1)) ⟨mj_dec tok_J0_isLatin1_aae02 (a := 8) rfl, .boolean, rfl, rfl⟩ ⟨rfl, rfl⟩ (Nat.le_of_ble_eq_true rfl) (Nat.le_of_ble_eq_true rfl)
theorem mj_len0 : ∀ i, i < 5 → Int32.ofNat (mj_lens.getD i 0) >>> ((0 : Int32) &&& 31) = Int32.ofNat (mj_lens.getD i 0) := by decide
set_option maxHeartbeats 4000000 in
set_option maxRecDepth 100000 in
theorem c_J0_length_8abf5 (b : Nat) (h : mj_H) (x : Int32) (e : mj_sl b = some x) : mj_Met mJ0_length_8abf5 [.ref b] h (some (.int x)) h := by
  obtain ⟨i, hi, rfl⟩ := mj_sl_at e
  unfold mj_sl at e
  have e := (mj_gp e).2
  rw [Nat.add_sub_cancel_left] at e
  cases e
  refine mj_met pl_J0 tok_J0_length_8abf5 (Nat.le_of_ble_eq_true rfl) ?_
  show mj_W mJ0_length_8abf5 (mj_FI (Int32.ofNat (mj_lens.getD i 0), h)) 0 [(0, .ref (1010 + i))] [] h 0 0
  refine mj_blk k_J0_ok 0 1 (pc' := 1) (l' := [(0, .ref (1010 + i))]) (st' := [.ref (1010 + i)]) rfl ?_
  refine mj_getT 1 rfl hi sf_J0_9 ?_
  refine mj_alenT 2 rfl hi ?_
  refine mj_blk k_J0_ok 3 1 (pc' := 6) (l' := [(0, .ref (1010 + i))]) (st' := [.ref (1010 + i), .int (Int32.ofNat (mj_lens.getD i 0))]) rfl ?_
  refine mj_callT mJ0_coder_7d493 [] 4 rfl ll_J0_335 lb_J0_coder_7d493 li_J0_coder_7d493 ⟨Nat.le_of_ble_eq_true rfl, Nat.le_of_ble_eq_true rfl⟩ ⟨i, hi, rfl⟩ rfl rfl (rest := [.int (Int32.ofNat (mj_lens.getD i 0))]) rfl (Nat.le_of_ble_eq_true rfl) ⟨Nat.le_of_ble_eq_true rfl, Nat.le_of_ble_eq_true rfl⟩ (mj_coder i hi h) ?_
  show mj_W mJ0_length_8abf5 (mj_FI (Int32.ofNat (mj_lens.getD i 0), h)) 9 [(0, .ref (1010 + i))] [.int 0, .int (Int32.ofNat (mj_lens.getD i 0))] h 0 0
  refine mj_blk k_J0_ok 5 1 (pc' := 10) (l' := [(0, .ref (1010 + i))]) (st' := [.int (Int32.ofNat (mj_lens.getD i 0) >>> ((0 : Int32) &&& 31))]) rfl ?_
  rw [mj_len0 i hi]
  exact mj_end (some (.int (Int32.ofNat (mj_lens.getD i 0)))) ⟨mj_dec tok_J0_length_8abf5 (a := 6) rfl, .int, rfl, rfl⟩ ⟨rfl, rfl⟩ (Nat.le_of_ble_eq_true rfl) (Nat.le_of_ble_eq_true rfl)
set_option maxHeartbeats 4000000 in
set_option maxRecDepth 100000 in
/-- Preconditions.checkIndex, whatever the third argument is -/
theorem mj_pcheck (lc : Launch) (i n : Int32) (v : Value) (hv : v.category = 1) (h0 : ¬ i < 0) (h1 : i < n) (Hh : Heap) : Met lc yJ3_checkIndex_8e157 (mj_ws mJ3_checkIndex_8e157) mJ3_checkIndex_8e157.2.2.2.2.1 (va_Pc [.int i, .int n, v] (fun U => U.heap = Hh)) (va_Qi (fun y (_ : Unit) => y = i) (fun _ _ => True) (fun _ => False)) 0 0 (fun _ => False) := by
  refine Met.ofW (cc := cJ3_checkIndex_8e157) (maxL := 3) (ret := some .int) pl_J3 rfl ?_
  intro p e s m args below meth c s₁ B hml hq
  obtain ⟨rfl, -⟩ := hq
  have hx := B.exec
  have hb := B.bytes
  have hr := B.returns
  have hl := lv_entry ([.int i, .int n, v]) (n := 3) (by cases v <;> simp_all [lg_sl, Value.category])
  have hS : va_S (fun _ => False) s.heap s.heap [] := va_S.rf
  rw [lg_entry_eq]
  generalize (lg_sl ([.int i, .int n, v]) ++ List.replicate (3 - (lg_sl ([.int i, .int n, v])).length) Slot.unset).toArray = ls at hl ⊢
  have hl : lv_has ls 3 [(0, .int i), (1, .int n), (2, v)] := hl
  refine lv_iload_n hx hb (mj_dec tok_J3_checkIndex_8e157 (a := 0) rfl) rfl (lv_at hl 0 rfl) ?_
  refine lv_if_lt (tgt := 9) hx hb (mj_dec tok_J3_checkIndex_8e157 (a := 1) rfl) (by decide) (fun q => absurd q h0) (fun _ => ?_)
  refine lv_iload_n hx hb (mj_dec tok_J3_checkIndex_8e157 (a := 2) rfl) rfl (lv_at hl 0 rfl) ?_
  refine lv_iload_n hx hb (mj_dec tok_J3_checkIndex_8e157 (a := 3) rfl) rfl (lv_at hl 1 rfl) ?_
  refine lv_icmp_lt (tgt := 16) hx hb (mj_dec tok_J3_checkIndex_8e157 (a := 4) rfl) (by decide) (fun _ => ?_) (fun q => absurd h1 q)
  refine lv_iload_n hx hb (mj_dec tok_J3_checkIndex_8e157 (a := 10) rfl) rfl (lv_at hl 0 rfl) ?_
  exact W.iret hx hb hr (fun t ht hW => ⟨⟨i, (), rfl, rfl, trivial⟩, hS.F ht⟩) (fun q hq => by cases hq) (mj_dec tok_J3_checkIndex_8e157 (a := 11) rfl) B.notSynchronized
theorem mj_lk1059 : Jvm.Cond.methodLink RJ0 1059 mJ3_checkIndex_8e157.1 ∈ mj_G := mj_inG 461 (by decide +kernel) (by decide +kernel)
set_option maxHeartbeats 4000000 in
set_option maxRecDepth 100000 in
theorem mj_scheck {Fin : mj_F} {i n : Int32} {h : mj_H} (h0 : ¬ i < 0) (h1 : i < n) (kk : mj_W mJ0_checkIndex_df160 Fin 9 [(0, .int i), (1, .int n)] [] h 0 0) : mj_W mJ0_checkIndex_df160 Fin 2 [(0, .int i), (1, .int n)] [.int n, .int i] h 0 0 := by
  intro p lc e s m args below meth c H locs ls A Q dC dI cy ad ad0 n0 CX I hl hcl hcs hag hn hzz hret
  have CX' := CX
  obtain ⟨hx, hb, hml, hr, hown, hts, hlk, hnm, hN, hT⟩ := CX
  obtain ⟨hK, hA, hR, hP, hD, hS, hch⟩ := I
  have key : ∀ v : Value, v.category = 1 → W p lc e mJ0_checkIndex_df160.2.2.2.2.1 s m args below meth c H locs 0 0 Q (F0 m 5 ls [v, .int n, .int i]) := by
    intro v hv
    have hp : PreS s H (va_Pc [.int i, .int n, v] (fun U => U.heap = H)) [.int i, .int n, v] := ⟨fun a U g mk q => q, fun U hU hW => ⟨rfl, hU⟩⟩
    refine va_calli (A1 := fun _ => False) (va_runS (As := [.int i, .int n, v]) (rest := []) (nL := 2) (Ts := mj_G) (own := RJ0) ⟨hx, hb, hml, hown, hts⟩ (mj_pcheck lc i n v hv h0 h1 H) ⟨callB_of 3 hts (mj_ws_good lb_J3_checkIndex_8e157.1) rfl rfl rfl (hts _ lb_J3_checkIndex_8e157.2.1) (hts _ mj_lk1059) lb_J3_checkIndex_8e157.2.2 ⟨Nat.le_of_ble_eq_true rfl, Nat.le_of_ble_eq_true rfl⟩, hts _ li_J3_checkIndex_8e157⟩ hp rfl rfl hl.1 rfl (lv_room (Nat.le_of_ble_eq_true rfl)) (mj_dec hT (a := 3) rfl) ⟨Nat.le_of_ble_eq_true rfl, Nat.le_of_ble_eq_true rfl⟩) hS (fun q _ z => z.elim) (fun q z => z.elim) (fun y u t H1 locs1 ht hvm hy _ hz1 hk1 hS1 => ?_)
    refine lv_pop hx hb (mj_dec hT (a := 4) rfl) rfl ?_
    have hP1 : va_P (dC, dI) vwCl (mj_w cy ad h) H1 := hP.kept (fun k q hq => hk1 q.1 ((hP k q hq).lt) (fun z => z))
    exact kk p lc e s m args below meth c H1 locs1 ls A Q dC dI cy ad ad0 n0 CX' ⟨hK, hA, hR, hP1, hD, hS1, hch⟩ hl hcl (fun v hv => by cases hv) hag hn hzz hret
  rcases hR.2.2.1 with hZ | ⟨t, hZ⟩
  · exact va_gets hx hb hZ hS hown (hts _ sf_J0_1053) (fun _ z => z) (mj_dec hT (a := 2) rfl) (key .null rfl)
  · exact va_gets hx hb hZ hS hown (hts _ sf_J0_1053) (fun _ z => z) (mj_dec hT (a := 2) rfl) (key (.ref t) rfl)
set_option maxHeartbeats 4000000 in
set_option maxRecDepth 100000 in
theorem c_J0_checkIndex (i n : Int32) (h : mj_H) (h0 : ¬ i < 0) (h1 : i < n) : mj_Met mJ0_checkIndex_df160 [.int i, .int n] h none h := by
  refine mj_met pl_J0 tok_J0_checkIndex_df160 (Nat.le_of_ble_eq_true rfl) ?_
  show mj_W mJ0_checkIndex_df160 (mj_FV h) 0 [(0, .int i), (1, .int n)] [] h 0 0
  refine mj_blk k_J0_ok 0 2 (pc' := 2) (l' := [(0, .int i), (1, .int n)]) (st' := [.int n, .int i]) rfl ?_
  refine mj_scheck h0 h1 ?_
  exact mj_end none ⟨mj_dec tok_J0_checkIndex_df160 (a := 5) rfl, rfl⟩ ⟨rfl, rfl⟩ (Nat.le_of_ble_eq_true rfl) (Nat.le_of_ble_eq_true rfl)
theorem mj_okI {j : Int32} {n : Nat} (h : mj_ok j n = true) (hn : n < 100) : ¬ j < 0 ∧ j < Int32.ofNat n ∧ j.toNatClampNeg < n := by
  simp only [mj_ok, Bool.and_eq_true, decide_eq_true_eq] at h
  have e := nI_toInt (n := n) (by omega)
  refine ⟨fun q => ?_, ?_, ?_⟩
  · have := Int32.lt_iff_toInt_lt.mp q
    rw [Int32.toInt_zero] at this
    omega
  · rw [Int32.lt_iff_toInt_lt]
    show j.toInt < (nI n).toInt
    omega
  · show j.toInt.toNat < n
    omega
theorem mj_chr : ∀ i, i < 5 → ∀ j, j < mj_lens.getD i 0 → ((((mj_strs.getD i []).getD j 0) &&& (255 : Int32)).toUInt32 % 65536).toInt32 = (mj_strs.getD i []).getD j 0 ∧ narrow .char (.int ((mj_strs.getD i []).getD j 0)) = .int ((mj_strs.getD i []).getD j 0) := by decide
theorem mj_lens_lt : ∀ i, i < 5 → mj_lens.getD i 0 < 100 := by decide
set_option maxHeartbeats 4000000 in
set_option maxRecDepth 100000 in
theorem c_J1_charAt (i : Nat) (j : Int32) (h : mj_H) (hi : i < 5) (hj : mj_ok j (mj_lens.getD i 0) = true) : mj_Met mJ1_charAt_3b067 [.ref (1020 + i), .int j] h (some (.int ((mj_strs.getD i []).getD j.toNatClampNeg 0))) h := by
  obtain ⟨o1, o2, o3⟩ := mj_okI hj (mj_lens_lt i hi)
  obtain ⟨e1, e2⟩ := mj_chr i hi _ o3
  refine mj_met pl_J1 tok_J1_charAt_3b067 (Nat.le_of_ble_eq_true rfl) ?_
  show mj_W mJ1_charAt_3b067 (mj_FI ((mj_strs.getD i []).getD j.toNatClampNeg 0, h)) 0 [(0, .ref (1020 + i)), (1, .int j)] [] h 0 0
  refine mj_blk k_J1_ok 0 2 (pc' := 2) (l' := [(0, .ref (1020 + i)), (1, .int j)]) (st' := [.ref (1020 + i), .int j]) rfl ?_
  refine mj_alenT 2 rfl hi ?_
  refine mj_callS mJ0_checkIndex_df160 [.int j, .int (Int32.ofNat (mj_lens.getD i 0))] 3 rfl ll_J1_9 lb_J0_checkIndex_df160 li_J0_checkIndex_df160 ⟨Nat.le_of_ble_eq_true rfl, Nat.le_of_ble_eq_true rfl⟩ rfl (rest := []) rfl (Nat.le_of_ble_eq_true rfl) ⟨Nat.le_of_ble_eq_true rfl, Nat.le_of_ble_eq_true rfl⟩ (c_J0_checkIndex j _ h o1 o2) ?_
  show mj_W mJ1_charAt_3b067 (mj_FI ((mj_strs.getD i []).getD j.toNatClampNeg 0, h)) 6 [(0, .ref (1020 + i)), (1, .int j)] [] h 0 0
  refine mj_blk k_J1_ok 4 2 (pc' := 8) (l' := [(0, .ref (1020 + i)), (1, .int j)]) (st' := [.int j, .ref (1020 + i)]) rfl ?_
  refine mj_baldT 6 rfl hi hj ?_
  refine mj_blk k_J1_ok 7 3 (pc' := 14) (l' := [(0, .ref (1020 + i)), (1, .int j)]) (st' := [.int ((((mj_strs.getD i []).getD j.toNatClampNeg 0) &&& (255 : Int32)).toUInt32 % 65536).toInt32]) rfl ?_
  rw [e1]
  exact mj_end (some (.int ((mj_strs.getD i []).getD j.toNatClampNeg 0))) ⟨mj_dec tok_J1_charAt_3b067 (a := 10) rfl, .char, rfl, e2⟩ ⟨rfl, rfl⟩ (Nat.le_of_ble_eq_true rfl) (Nat.le_of_ble_eq_true rfl)
set_option maxHeartbeats 4000000 in
set_option maxRecDepth 100000 in
theorem c_J0_charAt_5068e (b : Nat) (j : Int32) (h : mj_H) (x : Int32) (e : mj_sc b j = some x) : mj_Met mJ0_charAt_5068e [.ref b, .int j] h (some (.int x)) h := by
  obtain ⟨i, hi, rfl⟩ := mj_sc_at e
  unfold mj_sc at e
  obtain ⟨hj, e⟩ := mj_gp (mj_gp e).2
  rw [Nat.add_sub_cancel_left] at e hj
  cases e
  obtain ⟨o1, o2, o3⟩ := mj_okI hj (mj_lens_lt i hi)
  obtain ⟨e1, e2⟩ := mj_chr i hi _ o3
  refine mj_met pl_J0 tok_J0_charAt_5068e (Nat.le_of_ble_eq_true rfl) ?_
  show mj_W mJ0_charAt_5068e (mj_FI ((mj_strs.getD i []).getD j.toNatClampNeg 0, h)) 0 [(0, .ref (1010 + i)), (1, .int j)] [] h 0 0
  refine mj_blk k_J0_ok 0 1 (pc' := 1) (l' := [(0, .ref (1010 + i)), (1, .int j)]) (st' := [.ref (1010 + i)]) rfl ?_
  refine mj_callT mJ0_isLatin1_aae02 [] 1 rfl ll_J0_492 lb_J0_isLatin1_aae02 li_J0_isLatin1_aae02 ⟨Nat.le_of_ble_eq_true rfl, Nat.le_of_ble_eq_true rfl⟩ ⟨i, hi, rfl⟩ rfl rfl (rest := []) rfl (Nat.le_of_ble_eq_true rfl) ⟨Nat.le_of_ble_eq_true rfl, Nat.le_of_ble_eq_true rfl⟩ (mj_latin i hi h) ?_
  show mj_W mJ0_charAt_5068e (mj_FI ((mj_strs.getD i []).getD j.toNatClampNeg 0, h)) 4 [(0, .ref (1010 + i)), (1, .int j)] [.int 1] h 0 0
  refine mj_if_eq 2 16 rfl (by decide) (fun q => absurd q (by decide)) (fun q => ?_)
  refine mj_blk k_J0_ok 3 1 (pc' := 8) (l' := [(0, .ref (1010 + i)), (1, .int j)]) (st' := [.ref (1010 + i)]) rfl ?_
  refine mj_getT 4 rfl hi sf_J0_9 ?_
  refine mj_blk k_J0_ok 5 1 (pc' := 12) (l' := [(0, .ref (1010 + i)), (1, .int j)]) (st' := [.int j, .ref (1020 + i)]) rfl ?_
  refine mj_callS mJ1_charAt_3b067 [.ref (1020 + i), .int j] 6 rfl ll_J0_495 lb_J1_charAt_3b067 li_J1_charAt_3b067 ⟨Nat.le_of_ble_eq_true rfl, Nat.le_of_ble_eq_true rfl⟩ rfl (rest := []) rfl (Nat.le_of_ble_eq_true rfl) ⟨Nat.le_of_ble_eq_true rfl, Nat.le_of_ble_eq_true rfl⟩ (c_J1_charAt i j h hi hj) ?_
  show mj_W mJ0_charAt_5068e (mj_FI ((mj_strs.getD i []).getD j.toNatClampNeg 0, h)) 15 [(0, .ref (1010 + i)), (1, .int j)] [.int ((mj_strs.getD i []).getD j.toNatClampNeg 0)] h 0 0
  exact mj_end (some (.int ((mj_strs.getD i []).getD j.toNatClampNeg 0))) ⟨mj_dec tok_J0_charAt_5068e (a := 7) rfl, .char, rfl, e2⟩ ⟨rfl, rfl⟩ (Nat.le_of_ble_eq_true rfl) (Nat.le_of_ble_eq_true rfl)
end
