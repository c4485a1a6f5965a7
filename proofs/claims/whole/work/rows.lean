section
-- ===== PART A: goes FIRST, ahead of the names: the tables' words, and 'selects' of the private methods out of them =====
/-- a private method of a class that the tables say can be made, by its rows of tables_1 -/
def lw_okq (q : MethodName × Nat) : Prop := (q.1.cls ≠ "java/lang/invoke/MethodHandle" ∧ q.1.cls ≠ "java/lang/invoke/VarHandle") ∧ Cond.instantiable q.1.cls q.2 ∈ tables_1 ∧ Cond.privateMethod q.1 ∈ tables_1 ∧ Cond.instanceMethod q.1 ∈ tables_1
theorem lw_p0 : lw_okq (⟨"RiverChoice", "accepted", "(I)I"⟩, 14) := ⟨⟨by decide +kernel, by decide +kernel⟩, List.mem_of_getElem? (i := 19) (by decide +kernel), List.mem_of_getElem? (i := 262) (by decide +kernel), List.mem_of_getElem? (i := 263) (by decide +kernel)⟩
theorem lw_p1 : lw_okq (⟨"RiverChoice", "refused", "(I)I"⟩, 14) := ⟨⟨by decide +kernel, by decide +kernel⟩, List.mem_of_getElem? (i := 19) (by decide +kernel), List.mem_of_getElem? (i := 266) (by decide +kernel), List.mem_of_getElem? (i := 267) (by decide +kernel)⟩
theorem lw_p2 : lw_okq (⟨"RiverChoice", "refusedAs", "(II)I"⟩, 14) := ⟨⟨by decide +kernel, by decide +kernel⟩, List.mem_of_getElem? (i := 19) (by decide +kernel), List.mem_of_getElem? (i := 270) (by decide +kernel), List.mem_of_getElem? (i := 271) (by decide +kernel)⟩
theorem lw_p3 : lw_okq (⟨"RiverChoice$Reader", "skipBlanks", "()V"⟩, 9) := ⟨⟨by decide +kernel, by decide +kernel⟩, List.mem_of_getElem? (i := 120) (by decide +kernel), List.mem_of_getElem? (i := 360) (by decide +kernel), List.mem_of_getElem? (i := 361) (by decide +kernel)⟩
theorem lw_p4 : lw_okq (⟨"RiverChoice$Reader", "readItem", "(Z)Z"⟩, 9) := ⟨⟨by decide +kernel, by decide +kernel⟩, List.mem_of_getElem? (i := 120) (by decide +kernel), List.mem_of_getElem? (i := 368) (by decide +kernel), List.mem_of_getElem? (i := 369) (by decide +kernel)⟩
theorem lw_p5 : lw_okq (⟨"RiverChoice$Reader", "readToken", "()V"⟩, 9) := ⟨⟨by decide +kernel, by decide +kernel⟩, List.mem_of_getElem? (i := 120) (by decide +kernel), List.mem_of_getElem? (i := 372) (by decide +kernel), List.mem_of_getElem? (i := 373) (by decide +kernel)⟩
theorem lw_p6 : lw_okq (⟨"RiverChoice$Reader", "readWord", "()V"⟩, 9) := ⟨⟨by decide +kernel, by decide +kernel⟩, List.mem_of_getElem? (i := 120) (by decide +kernel), List.mem_of_getElem? (i := 379) (by decide +kernel), List.mem_of_getElem? (i := 380) (by decide +kernel)⟩
theorem lw_p7 : lw_okq (⟨"RiverChoice$Reader", "readNumber", "()V"⟩, 9) := ⟨⟨by decide +kernel, by decide +kernel⟩, List.mem_of_getElem? (i := 120) (by decide +kernel), List.mem_of_getElem? (i := 444) (by decide +kernel), List.mem_of_getElem? (i := 445) (by decide +kernel)⟩
theorem lw_p8 : lw_okq (⟨"RiverChoice$Reader", "tellItem", "()I"⟩, 9) := ⟨⟨by decide +kernel, by decide +kernel⟩, List.mem_of_getElem? (i := 120) (by decide +kernel), List.mem_of_getElem? (i := 454) (by decide +kernel), List.mem_of_getElem? (i := 455) (by decide +kernel)⟩
theorem lw_p9 : lw_okq (⟨"RiverChoice$Row", "sum", "()J"⟩, 1) := ⟨⟨by decide +kernel, by decide +kernel⟩, List.mem_of_getElem? (i := 33) (by decide +kernel), List.mem_of_getElem? (i := 514) (by decide +kernel), List.mem_of_getElem? (i := 515) (by decide +kernel)⟩
theorem lw_p10 : lw_okq (⟨"RiverChoice$Row", "cutBy", "(J)V"⟩, 1) := ⟨⟨by decide +kernel, by decide +kernel⟩, List.mem_of_getElem? (i := 33) (by decide +kernel), List.mem_of_getElem? (i := 521) (by decide +kernel), List.mem_of_getElem? (i := 522) (by decide +kernel)⟩
theorem lw_p11 : lw_okq (⟨"RiverChoice$Row", "most", "()J"⟩, 1) := ⟨⟨by decide +kernel, by decide +kernel⟩, List.mem_of_getElem? (i := 33) (by decide +kernel), List.mem_of_getElem? (i := 525) (by decide +kernel), List.mem_of_getElem? (i := 526) (by decide +kernel)⟩
theorem lw_p12 : lw_okq (⟨"RiverChoice$Odds", "addMan", "(I)V"⟩, 3) := ⟨⟨by decide +kernel, by decide +kernel⟩, List.mem_of_getElem? (i := 173) (by decide +kernel), List.mem_of_getElem? (i := 620) (by decide +kernel), List.mem_of_getElem? (i := 621) (by decide +kernel)⟩
theorem lw_p13 : lw_okq (⟨"RiverChoice", "waysNow", "(II)J"⟩, 14) := ⟨⟨by decide +kernel, by decide +kernel⟩, List.mem_of_getElem? (i := 19) (by decide +kernel), List.mem_of_getElem? (i := 652) (by decide +kernel), List.mem_of_getElem? (i := 653) (by decide +kernel)⟩
theorem lw_p14 : lw_okq (⟨"RiverChoice", "gainOf", "(IIIIJ)I"⟩, 14) := ⟨⟨by decide +kernel, by decide +kernel⟩, List.mem_of_getElem? (i := 19) (by decide +kernel), List.mem_of_getElem? (i := 656) (by decide +kernel), List.mem_of_getElem? (i := 657) (by decide +kernel)⟩
theorem lw_p15 : lw_okq (⟨"RiverChoice$Sifted", "decode", "(II)V"⟩, 3) := ⟨⟨by decide +kernel, by decide +kernel⟩, List.mem_of_getElem? (i := 192) (by decide +kernel), List.mem_of_getElem? (i := 680) (by decide +kernel), List.mem_of_getElem? (i := 681) (by decide +kernel)⟩
def lw_privs_1 : List (MethodName × Nat) := [(⟨"RiverChoice", "accepted", "(I)I"⟩, 14), (⟨"RiverChoice", "refused", "(I)I"⟩, 14), (⟨"RiverChoice", "refusedAs", "(II)I"⟩, 14), (⟨"RiverChoice$Reader", "skipBlanks", "()V"⟩, 9), (⟨"RiverChoice$Reader", "readItem", "(Z)Z"⟩, 9), (⟨"RiverChoice$Reader", "readToken", "()V"⟩, 9), (⟨"RiverChoice$Reader", "readWord", "()V"⟩, 9), (⟨"RiverChoice$Reader", "readNumber", "()V"⟩, 9), (⟨"RiverChoice$Reader", "tellItem", "()I"⟩, 9), (⟨"RiverChoice$Row", "sum", "()J"⟩, 1), (⟨"RiverChoice$Row", "cutBy", "(J)V"⟩, 1), (⟨"RiverChoice$Row", "most", "()J"⟩, 1), (⟨"RiverChoice$Odds", "addMan", "(I)V"⟩, 3), (⟨"RiverChoice", "waysNow", "(II)J"⟩, 14), (⟨"RiverChoice", "gainOf", "(IIIIJ)I"⟩, 14), (⟨"RiverChoice$Sifted", "decode", "(II)V"⟩, 3)]
theorem lw_r1 : ∀ q ∈ lw_privs_1, lw_okq q := List.forall_mem_cons.mpr ⟨lw_p0, List.forall_mem_cons.mpr ⟨lw_p1, List.forall_mem_cons.mpr ⟨lw_p2, List.forall_mem_cons.mpr ⟨lw_p3, List.forall_mem_cons.mpr ⟨lw_p4, List.forall_mem_cons.mpr ⟨lw_p5, List.forall_mem_cons.mpr ⟨lw_p6, List.forall_mem_cons.mpr ⟨lw_p7, List.forall_mem_cons.mpr ⟨lw_p8, List.forall_mem_cons.mpr ⟨lw_p9, List.forall_mem_cons.mpr ⟨lw_p10, List.forall_mem_cons.mpr ⟨lw_p11, List.forall_mem_cons.mpr ⟨lw_p12, List.forall_mem_cons.mpr ⟨lw_p13, List.forall_mem_cons.mpr ⟨lw_p14, List.forall_mem_cons.mpr ⟨lw_p15, fun _ h => absurd h List.not_mem_nil⟩⟩⟩⟩⟩⟩⟩⟩⟩⟩⟩⟩⟩⟩⟩⟩
theorem lw_p16 : lw_okq (⟨"RiverChoice$Sifted", "fits", "(LRiverChoice$Band;II)Z"⟩, 3) := ⟨⟨by decide +kernel, by decide +kernel⟩, List.mem_of_getElem? (i := 192) (by decide +kernel), List.mem_of_getElem? (i := 684) (by decide +kernel), List.mem_of_getElem? (i := 685) (by decide +kernel)⟩
theorem lw_p17 : lw_okq (⟨"RiverChoice", "mayStay", "(II)Z"⟩, 14) := ⟨⟨by decide +kernel, by decide +kernel⟩, List.mem_of_getElem? (i := 19) (by decide +kernel), List.mem_of_getElem? (i := 706) (by decide +kernel), List.mem_of_getElem? (i := 707) (by decide +kernel)⟩
theorem lw_p18 : lw_okq (⟨"RiverChoice", "isOpen", "(II)Z"⟩, 14) := ⟨⟨by decide +kernel, by decide +kernel⟩, List.mem_of_getElem? (i := 19) (by decide +kernel), List.mem_of_getElem? (i := 740) (by decide +kernel), List.mem_of_getElem? (i := 741) (by decide +kernel)⟩
theorem lw_p19 : lw_okq (⟨"RiverChoice", "imageAt", "(I)LRiverChoice$Image;"⟩, 14) := ⟨⟨by decide +kernel, by decide +kernel⟩, List.mem_of_getElem? (i := 19) (by decide +kernel), List.mem_of_getElem? (i := 776) (by decide +kernel), List.mem_of_getElem? (i := 777) (by decide +kernel)⟩
theorem lw_p20 : lw_okq (⟨"RiverChoice", "howMany", "(I)I"⟩, 14) := ⟨⟨by decide +kernel, by decide +kernel⟩, List.mem_of_getElem? (i := 19) (by decide +kernel), List.mem_of_getElem? (i := 796) (by decide +kernel), List.mem_of_getElem? (i := 797) (by decide +kernel)⟩
theorem lw_p21 : lw_okq (⟨"RiverChoiceModel", "clean", "(I)V"⟩, 20) := ⟨⟨by decide +kernel, by decide +kernel⟩, List.mem_of_getElem? (i := 811) (by decide +kernel), List.mem_of_getElem? (i := 817) (by decide +kernel), List.mem_of_getElem? (i := 818) (by decide +kernel)⟩
theorem lw_p22 : lw_okq (⟨"RiverChoiceModel", "bad", "(I)I"⟩, 20) := ⟨⟨by decide +kernel, by decide +kernel⟩, List.mem_of_getElem? (i := 811) (by decide +kernel), List.mem_of_getElem? (i := 891) (by decide +kernel), List.mem_of_getElem? (i := 892) (by decide +kernel)⟩
theorem lw_p23 : lw_okq (⟨"RiverChoiceModel", "doMan", "()I"⟩, 20) := ⟨⟨by decide +kernel, by decide +kernel⟩, List.mem_of_getElem? (i := 811) (by decide +kernel), List.mem_of_getElem? (i := 899) (by decide +kernel), List.mem_of_getElem? (i := 900) (by decide +kernel)⟩
theorem lw_p24 : lw_okq (⟨"RiverChoiceModel", "tell", "(I)I"⟩, 20) := ⟨⟨by decide +kernel, by decide +kernel⟩, List.mem_of_getElem? (i := 811) (by decide +kernel), List.mem_of_getElem? (i := 907) (by decide +kernel), List.mem_of_getElem? (i := 908) (by decide +kernel)⟩
theorem lw_p25 : lw_okq (⟨"RiverChoiceModel", "doWorn", "(II)I"⟩, 20) := ⟨⟨by decide +kernel, by decide +kernel⟩, List.mem_of_getElem? (i := 811) (by decide +kernel), List.mem_of_getElem? (i := 915) (by decide +kernel), List.mem_of_getElem? (i := 916) (by decide +kernel)⟩
theorem lw_p26 : lw_okq (⟨"RiverChoiceModel", "isMan", "(I)Z"⟩, 20) := ⟨⟨by decide +kernel, by decide +kernel⟩, List.mem_of_getElem? (i := 811) (by decide +kernel), List.mem_of_getElem? (i := 919) (by decide +kernel), List.mem_of_getElem? (i := 920) (by decide +kernel)⟩
theorem lw_p27 : lw_okq (⟨"RiverChoiceModel", "doPair", "(II)I"⟩, 20) := ⟨⟨by decide +kernel, by decide +kernel⟩, List.mem_of_getElem? (i := 811) (by decide +kernel), List.mem_of_getElem? (i := 928) (by decide +kernel), List.mem_of_getElem? (i := 929) (by decide +kernel)⟩
theorem lw_p28 : lw_okq (⟨"RiverChoiceModel", "doWord", "(I)I"⟩, 20) := ⟨⟨by decide +kernel, by decide +kernel⟩, List.mem_of_getElem? (i := 811) (by decide +kernel), List.mem_of_getElem? (i := 939) (by decide +kernel), List.mem_of_getElem? (i := 940) (by decide +kernel)⟩
theorem lw_p29 : lw_okq (⟨"RiverChoiceModel", "reads", "()I"⟩, 20) := ⟨⟨by decide +kernel, by decide +kernel⟩, List.mem_of_getElem? (i := 811) (by decide +kernel), List.mem_of_getElem? (i := 956) (by decide +kernel), List.mem_of_getElem? (i := 957) (by decide +kernel)⟩
theorem lw_p30 : lw_okq (⟨"RiverChoiceModel", "takes", "()V"⟩, 20) := ⟨⟨by decide +kernel, by decide +kernel⟩, List.mem_of_getElem? (i := 811) (by decide +kernel), List.mem_of_getElem? (i := 960) (by decide +kernel), List.mem_of_getElem? (i := 961) (by decide +kernel)⟩
theorem lw_p31 : lw_okq (⟨"RiverChoiceModel", "doItem", "(I)I"⟩, 20) := ⟨⟨by decide +kernel, by decide +kernel⟩, List.mem_of_getElem? (i := 811) (by decide +kernel), List.mem_of_getElem? (i := 978) (by decide +kernel), List.mem_of_getElem? (i := 979) (by decide +kernel)⟩
def lw_privs_2 : List (MethodName × Nat) := [(⟨"RiverChoice$Sifted", "fits", "(LRiverChoice$Band;II)Z"⟩, 3), (⟨"RiverChoice", "mayStay", "(II)Z"⟩, 14), (⟨"RiverChoice", "isOpen", "(II)Z"⟩, 14), (⟨"RiverChoice", "imageAt", "(I)LRiverChoice$Image;"⟩, 14), (⟨"RiverChoice", "howMany", "(I)I"⟩, 14), (⟨"RiverChoiceModel", "clean", "(I)V"⟩, 20), (⟨"RiverChoiceModel", "bad", "(I)I"⟩, 20), (⟨"RiverChoiceModel", "doMan", "()I"⟩, 20), (⟨"RiverChoiceModel", "tell", "(I)I"⟩, 20), (⟨"RiverChoiceModel", "doWorn", "(II)I"⟩, 20), (⟨"RiverChoiceModel", "isMan", "(I)Z"⟩, 20), (⟨"RiverChoiceModel", "doPair", "(II)I"⟩, 20), (⟨"RiverChoiceModel", "doWord", "(I)I"⟩, 20), (⟨"RiverChoiceModel", "reads", "()I"⟩, 20), (⟨"RiverChoiceModel", "takes", "()V"⟩, 20), (⟨"RiverChoiceModel", "doItem", "(I)I"⟩, 20)]
theorem lw_r2 : ∀ q ∈ lw_privs_2, lw_okq q := List.forall_mem_cons.mpr ⟨lw_p16, List.forall_mem_cons.mpr ⟨lw_p17, List.forall_mem_cons.mpr ⟨lw_p18, List.forall_mem_cons.mpr ⟨lw_p19, List.forall_mem_cons.mpr ⟨lw_p20, List.forall_mem_cons.mpr ⟨lw_p21, List.forall_mem_cons.mpr ⟨lw_p22, List.forall_mem_cons.mpr ⟨lw_p23, List.forall_mem_cons.mpr ⟨lw_p24, List.forall_mem_cons.mpr ⟨lw_p25, List.forall_mem_cons.mpr ⟨lw_p26, List.forall_mem_cons.mpr ⟨lw_p27, List.forall_mem_cons.mpr ⟨lw_p28, List.forall_mem_cons.mpr ⟨lw_p29, List.forall_mem_cons.mpr ⟨lw_p30, List.forall_mem_cons.mpr ⟨lw_p31, fun _ h => absurd h List.not_mem_nil⟩⟩⟩⟩⟩⟩⟩⟩⟩⟩⟩⟩⟩⟩⟩⟩
theorem lw_p32 : lw_okq (⟨"RiverChoiceModel", "no", "(I)I"⟩, 20) := ⟨⟨by decide +kernel, by decide +kernel⟩, List.mem_of_getElem? (i := 811) (by decide +kernel), List.mem_of_getElem? (i := 993) (by decide +kernel), List.mem_of_getElem? (i := 994) (by decide +kernel)⟩
theorem lw_p33 : lw_okq (⟨"RiverChoiceModel", "remember", "()V"⟩, 20) := ⟨⟨by decide +kernel, by decide +kernel⟩, List.mem_of_getElem? (i := 811) (by decide +kernel), List.mem_of_getElem? (i := 997) (by decide +kernel), List.mem_of_getElem? (i := 998) (by decide +kernel)⟩
theorem lw_p34 : lw_okq (⟨"RiverChoiceModel", "showsOn", "(II)I"⟩, 20) := ⟨⟨by decide +kernel, by decide +kernel⟩, List.mem_of_getElem? (i := 811) (by decide +kernel), List.mem_of_getElem? (i := 1050) (by decide +kernel), List.mem_of_getElem? (i := 1051) (by decide +kernel)⟩
theorem lw_p35 : lw_okq (⟨"RiverChoiceModel", "areMen", "(I)Z"⟩, 20) := ⟨⟨by decide +kernel, by decide +kernel⟩, List.mem_of_getElem? (i := 811) (by decide +kernel), List.mem_of_getElem? (i := 1062) (by decide +kernel), List.mem_of_getElem? (i := 1063) (by decide +kernel)⟩
theorem lw_p36 : lw_okq (⟨"RiverChoiceModel", "holdOn", "([III)J"⟩, 20) := ⟨⟨by decide +kernel, by decide +kernel⟩, List.mem_of_getElem? (i := 811) (by decide +kernel), List.mem_of_getElem? (i := 1070) (by decide +kernel), List.mem_of_getElem? (i := 1071) (by decide +kernel)⟩
theorem lw_p37 : lw_okq (⟨"RiverChoiceModel", "fraction", "(JJ)V"⟩, 20) := ⟨⟨by decide +kernel, by decide +kernel⟩, List.mem_of_getElem? (i := 811) (by decide +kernel), List.mem_of_getElem? (i := 1074) (by decide +kernel), List.mem_of_getElem? (i := 1075) (by decide +kernel)⟩
theorem lw_p38 : lw_okq (⟨"RiverChoiceModel", "keepOn", "([III)I"⟩, 20) := ⟨⟨by decide +kernel, by decide +kernel⟩, List.mem_of_getElem? (i := 811) (by decide +kernel), List.mem_of_getElem? (i := 1082) (by decide +kernel), List.mem_of_getElem? (i := 1083) (by decide +kernel)⟩
theorem lw_p39 : lw_okq (⟨"RiverChoiceModel", "worthOf", "(IIII)I"⟩, 20) := ⟨⟨by decide +kernel, by decide +kernel⟩, List.mem_of_getElem? (i := 811) (by decide +kernel), List.mem_of_getElem? (i := 1092) (by decide +kernel), List.mem_of_getElem? (i := 1093) (by decide +kernel)⟩
theorem lw_p40 : lw_okq (⟨"RiverChoiceModel", "behind", "(IIZII)J"⟩, 20) := ⟨⟨by decide +kernel, by decide +kernel⟩, List.mem_of_getElem? (i := 811) (by decide +kernel), List.mem_of_getElem? (i := 1096) (by decide +kernel), List.mem_of_getElem? (i := 1097) (by decide +kernel)⟩
theorem lw_p41 : lw_okq (⟨"RiverChoiceModel", "layDay", "()V"⟩, 20) := ⟨⟨by decide +kernel, by decide +kernel⟩, List.mem_of_getElem? (i := 811) (by decide +kernel), List.mem_of_getElem? (i := 1100) (by decide +kernel), List.mem_of_getElem? (i := 1101) (by decide +kernel)⟩
theorem lw_p42 : lw_okq (⟨"RiverChoiceModel", "sifts", "(IIII)Z"⟩, 20) := ⟨⟨by decide +kernel, by decide +kernel⟩, List.mem_of_getElem? (i := 811) (by decide +kernel), List.mem_of_getElem? (i := 1112) (by decide +kernel), List.mem_of_getElem? (i := 1113) (by decide +kernel)⟩
theorem lw_p43 : lw_okq (⟨"RiverChoiceModel", "areWell", "(II)Z"⟩, 20) := ⟨⟨by decide +kernel, by decide +kernel⟩, List.mem_of_getElem? (i := 811) (by decide +kernel), List.mem_of_getElem? (i := 1125) (by decide +kernel), List.mem_of_getElem? (i := 1126) (by decide +kernel)⟩
theorem lw_p44 : lw_okq (⟨"RiverChoiceModel", "wearing", "(IZ)I"⟩, 20) := ⟨⟨by decide +kernel, by decide +kernel⟩, List.mem_of_getElem? (i := 811) (by decide +kernel), List.mem_of_getElem? (i := 1140) (by decide +kernel), List.mem_of_getElem? (i := 1141) (by decide +kernel)⟩
theorem lw_p45 : lw_okq (⟨"RiverChoiceModel", "gets", "(III)I"⟩, 20) := ⟨⟨by decide +kernel, by decide +kernel⟩, List.mem_of_getElem? (i := 811) (by decide +kernel), List.mem_of_getElem? (i := 1152) (by decide +kernel), List.mem_of_getElem? (i := 1153) (by decide +kernel)⟩
theorem lw_p46 : lw_okq (⟨"RiverChoiceModel", "counted", "(I)I"⟩, 20) := ⟨⟨by decide +kernel, by decide +kernel⟩, List.mem_of_getElem? (i := 811) (by decide +kernel), List.mem_of_getElem? (i := 1190) (by decide +kernel), List.mem_of_getElem? (i := 1191) (by decide +kernel)⟩
def lw_privs_3 : List (MethodName × Nat) := [(⟨"RiverChoiceModel", "no", "(I)I"⟩, 20), (⟨"RiverChoiceModel", "remember", "()V"⟩, 20), (⟨"RiverChoiceModel", "showsOn", "(II)I"⟩, 20), (⟨"RiverChoiceModel", "areMen", "(I)Z"⟩, 20), (⟨"RiverChoiceModel", "holdOn", "([III)J"⟩, 20), (⟨"RiverChoiceModel", "fraction", "(JJ)V"⟩, 20), (⟨"RiverChoiceModel", "keepOn", "([III)I"⟩, 20), (⟨"RiverChoiceModel", "worthOf", "(IIII)I"⟩, 20), (⟨"RiverChoiceModel", "behind", "(IIZII)J"⟩, 20), (⟨"RiverChoiceModel", "layDay", "()V"⟩, 20), (⟨"RiverChoiceModel", "sifts", "(IIII)Z"⟩, 20), (⟨"RiverChoiceModel", "areWell", "(II)Z"⟩, 20), (⟨"RiverChoiceModel", "wearing", "(IZ)I"⟩, 20), (⟨"RiverChoiceModel", "gets", "(III)I"⟩, 20), (⟨"RiverChoiceModel", "counted", "(I)I"⟩, 20)]
theorem lw_r3 : ∀ q ∈ lw_privs_3, lw_okq q := List.forall_mem_cons.mpr ⟨lw_p32, List.forall_mem_cons.mpr ⟨lw_p33, List.forall_mem_cons.mpr ⟨lw_p34, List.forall_mem_cons.mpr ⟨lw_p35, List.forall_mem_cons.mpr ⟨lw_p36, List.forall_mem_cons.mpr ⟨lw_p37, List.forall_mem_cons.mpr ⟨lw_p38, List.forall_mem_cons.mpr ⟨lw_p39, List.forall_mem_cons.mpr ⟨lw_p40, List.forall_mem_cons.mpr ⟨lw_p41, List.forall_mem_cons.mpr ⟨lw_p42, List.forall_mem_cons.mpr ⟨lw_p43, List.forall_mem_cons.mpr ⟨lw_p44, List.forall_mem_cons.mpr ⟨lw_p45, List.forall_mem_cons.mpr ⟨lw_p46, fun _ h => absurd h List.not_mem_nil⟩⟩⟩⟩⟩⟩⟩⟩⟩⟩⟩⟩⟩⟩⟩
def lw_privs : List (MethodName × Nat) := lw_privs_1 ++ (lw_privs_2 ++ (lw_privs_3))
def lw_tbl : List Cond := k2_sels lw_privs ++ tables_1
theorem lw_privs_ok : ∀ q ∈ lw_privs, lw_okq q := by
  show ∀ q ∈ lw_privs_1 ++ (lw_privs_2 ++ (lw_privs_3)), lw_okq q
  exact List.forall_mem_append.mpr ⟨lw_r1, List.forall_mem_append.mpr ⟨lw_r2, lw_r3⟩⟩
end
section
def RX0 : String := "RiverChoice$Band"
def TX0 : u_T := fun k => match k with
  | 0 => ("RiverChoice$Band", "weights", "[J", true)
  | 1 => ("RiverChoice$Band", "signs", "[I", true)
  | 2 => ("RiverChoice$Band", "brothers", "[I", true)
  | 3 => ("RiverChoice$Band", "row", "LRiverChoice$Row;", true)
  | 4 => ("RiverChoice$Band", "size", "I", false)
  | 5 => ("RiverChoice$Band", "informed", "I", false)
  | _ => ("RiverChoice$Band", "daylight", "I", false)
def tyX0 : Nat → FieldType := fun k => match k with
  | 0 => .array .long
  | 1 => .array .int
  | 2 => .array .int
  | 3 => .object "RiverChoice$Row"
  | 4 => .int
  | 5 => .int
  | _ => .int
abbrev wsX00 : List Cond := u_ws RX0 TX0 7
theorem nmX0 : ∀ a, a < 7 → ∀ b, b < 7 → a ≠ b → (TX0 a).2.1 ≠ (TX0 b).2.1 := by decide +kernel
theorem tyX0_ok : ∀ k, k < 7 → parseFieldDescriptor (TX0 k).2.2.1 = some (tyX0 k) := by decide +kernel
abbrev cX0_init : ByteArray := prog_2_method_1_code
def yX0_init : MethodName := ⟨RX0, "<init>", "()V"⟩
abbrev cX0_has : ByteArray := prog_2_method_2_code
def yX0_has : MethodName := ⟨RX0, "has", "(I)Z"⟩
abbrev cX0_hasAll : ByteArray := prog_2_method_3_code
def yX0_hasAll : MethodName := ⟨RX0, "hasAll", "(I)Z"⟩
abbrev cX0_begin : ByteArray := prog_2_method_4_code
def yX0_begin : MethodName := ⟨RX0, "begin", "(I)I"⟩
abbrev cX0_enrol : ByteArray := prog_2_method_5_code
def yX0_enrol : MethodName := ⟨RX0, "enrol", "([I)I"⟩
abbrev cX0_areWeights : ByteArray := prog_2_method_6_code
def yX0_areWeights : MethodName := ⟨RX0, "areWeights", "([I)Z"⟩
abbrev cX0_dress : ByteArray := prog_2_method_7_code
def yX0_dress : MethodName := ⟨RX0, "dress", "(II)I"⟩
abbrev cX0_bind : ByteArray := prog_2_method_8_code
def yX0_bind : MethodName := ⟨RX0, "bind", "(II)I"⟩
abbrev cX0_inform : ByteArray := prog_2_method_9_code
def yX0_inform : MethodName := ⟨RX0, "inform", "(I)I"⟩
abbrev cX0_knows : ByteArray := prog_2_method_10_code
def yX0_knows : MethodName := ⟨RX0, "knows", "(I)Z"⟩
abbrev cX0_weightOf : ByteArray := prog_2_method_11_code
def yX0_weightOf : MethodName := ⟨RX0, "weightOf", "(II)J"⟩
abbrev cX0_setWeight : ByteArray := prog_2_method_12_code
def yX0_setWeight : MethodName := ⟨RX0, "setWeight", "(IIJ)V"⟩
abbrev cX0_signsOf : ByteArray := prog_2_method_13_code
def yX0_signsOf : MethodName := ⟨RX0, "signsOf", "(I)I"⟩
abbrev cX0_brothersOf : ByteArray := prog_2_method_14_code
def yX0_brothersOf : MethodName := ⟨RX0, "brothersOf", "(I)I"⟩
abbrev cX0_areBrothers : ByteArray := prog_2_method_15_code
def yX0_areBrothers : MethodName := ⟨RX0, "areBrothers", "(II)Z"⟩
abbrev cX0_pairs : ByteArray := prog_2_method_16_code
def yX0_pairs : MethodName := ⟨RX0, "pairs", "()I"⟩
abbrev cX0_likeliestOf : ByteArray := prog_2_method_17_code
def yX0_likeliestOf : MethodName := ⟨RX0, "likeliestOf", "(I)I"⟩
abbrev cX0_trustOf : ByteArray := prog_2_method_18_code
def yX0_trustOf : MethodName := ⟨RX0, "trustOf", "(I)I"⟩
abbrev cX0_showsOf : ByteArray := prog_2_method_19_code
def yX0_showsOf : MethodName := ⟨RX0, "showsOf", "(II)I"⟩
abbrev cX0_trustBehind : ByteArray := prog_2_method_20_code
def yX0_trustBehind : MethodName := ⟨RX0, "trustBehind", "(IIIZ)I"⟩
abbrev cX0_pass : ByteArray := prog_2_method_21_code
def yX0_pass : MethodName := ⟨RX0, "pass", "(IIZ)V"⟩
abbrev cX0_besides : ByteArray := prog_2_method_22_code
def yX0_besides : MethodName := ⟨RX0, "besides", "(I)I"⟩
abbrev cX0_wearers : ByteArray := prog_2_method_23_code
def yX0_wearers : MethodName := ⟨RX0, "wearers", "(IZ)I"⟩
abbrev cX0_become : ByteArray := prog_2_method_24_code
def yX0_become : MethodName := ⟨RX0, "become", "(LRiverChoice$Band;)V"⟩
def RX1 : String := "RiverChoice$Image"
def TX1 : u_T := fun k => match k with
  | 0 => ("RiverChoice$Image", "band", "LRiverChoice$Band;", true)
  | 1 => ("RiverChoice$Image", "past", "LRiverChoice$Past;", true)
  | _ => ("RiverChoice$Image", "exists", "Z", false)
def tyX1 : Nat → FieldType := fun k => match k with
  | 0 => .object "RiverChoice$Band"
  | 1 => .object "RiverChoice$Past"
  | _ => .boolean
abbrev wsX10 : List Cond := u_ws RX1 TX1 3
theorem nmX1 : ∀ a, a < 3 → ∀ b, b < 3 → a ≠ b → (TX1 a).2.1 ≠ (TX1 b).2.1 := by decide +kernel
theorem tyX1_ok : ∀ k, k < 3 → parseFieldDescriptor (TX1 k).2.2.1 = some (tyX1 k) := by decide +kernel
abbrev cX1_init : ByteArray := prog_3_method_1_code
def yX1_init : MethodName := ⟨RX1, "<init>", "()V"⟩
def RX2 : String := "RiverChoice$Odds"
def TX2 : u_T := fun k => match k with
  | 0 => ("RiverChoice$Odds", "trusts", "[I", true)
  | 1 => ("RiverChoice$Odds", "ways", "[J", true)
  | _ => ("RiverChoice$Odds", "bestMen", "I", false)
def tyX2 : Nat → FieldType := fun k => match k with
  | 0 => .array .int
  | 1 => .array .long
  | _ => .int
abbrev wsX20 : List Cond := u_ws RX2 TX2 3
theorem nmX2 : ∀ a, a < 3 → ∀ b, b < 3 → a ≠ b → (TX2 a).2.1 ≠ (TX2 b).2.1 := by decide +kernel
theorem tyX2_ok : ∀ k, k < 3 → parseFieldDescriptor (TX2 k).2.2.1 = some (tyX2 k) := by decide +kernel
abbrev cX2_init : ByteArray := prog_4_method_1_code
def yX2_init : MethodName := ⟨RX2, "<init>", "()V"⟩
abbrev cX2_seeNow : ByteArray := prog_4_method_2_code
def yX2_seeNow : MethodName := ⟨RX2, "seeNow", "(LRiverChoice$Band;)V"⟩
abbrev cX2_seeBehind : ByteArray := prog_4_method_3_code
def yX2_seeBehind : MethodName := ⟨RX2, "seeBehind", "(LRiverChoice$Band;IIZ)V"⟩
abbrev cX2_trustSeen : ByteArray := prog_4_method_4_code
def yX2_trustSeen : MethodName := ⟨RX2, "trustSeen", "(I)I"⟩
abbrev cX2_waysToHold : ByteArray := prog_4_method_5_code
def yX2_waysToHold : MethodName := ⟨RX2, "waysToHold", "(II)J"⟩
abbrev cX2_addMan : ByteArray := prog_4_method_6_code
def yX2_addMan : MethodName := ⟨RX2, "addMan", "(I)V"⟩
abbrev cX2_chooseBest : ByteArray := prog_4_method_7_code
def yX2_chooseBest : MethodName := ⟨RX2, "chooseBest", "(III)J"⟩
def RX3 : String := "RiverChoice$Past"
def TX3 : u_T := fun k => match k with
  | 0 => ("RiverChoice$Past", "weights", "[J", true)
  | 1 => ("RiverChoice$Past", "informed", "[I", true)
  | 2 => ("RiverChoice$Past", "daylight", "[I", true)
  | 3 => ("RiverChoice$Past", "oldest", "I", false)
  | _ => ("RiverChoice$Past", "size", "I", false)
def tyX3 : Nat → FieldType := fun k => match k with
  | 0 => .array .long
  | 1 => .array .int
  | 2 => .array .int
  | 3 => .int
  | _ => .int
abbrev wsX30 : List Cond := u_ws RX3 TX3 5
theorem nmX3 : ∀ a, a < 5 → ∀ b, b < 5 → a ≠ b → (TX3 a).2.1 ≠ (TX3 b).2.1 := by decide +kernel
theorem tyX3_ok : ∀ k, k < 5 → parseFieldDescriptor (TX3 k).2.2.1 = some (tyX3 k) := by decide +kernel
abbrev cX3_init : ByteArray := prog_5_method_1_code
def yX3_init : MethodName := ⟨RX3, "<init>", "()V"⟩
abbrev cX3_push : ByteArray := prog_5_method_2_code
def yX3_push : MethodName := ⟨RX3, "push", "(LRiverChoice$Band;)V"⟩
abbrev cX3_pop : ByteArray := prog_5_method_3_code
def yX3_pop : MethodName := ⟨RX3, "pop", "(LRiverChoice$Band;)Z"⟩
abbrev cX3_forget : ByteArray := prog_5_method_4_code
def yX3_forget : MethodName := ⟨RX3, "forget", "()V"⟩
abbrev cX3_become : ByteArray := prog_5_method_5_code
def yX3_become : MethodName := ⟨RX3, "become", "(LRiverChoice$Past;)V"⟩
def RX4 : String := "RiverChoice$Reader"
def TX4 : u_T := fun k => match k with
  | 0 => ("RiverChoice$Reader", "text", "LRiverChoice$Text;", true)
  | 1 => ("RiverChoice$Reader", "draft", "LRiverChoice$Band;", true)
  | 2 => ("RiverChoice$Reader", "numbers", "[I", true)
  | 3 => ("RiverChoice$Reader", "place", "I", false)
  | 4 => ("RiverChoice$Reader", "start", "I", false)
  | 5 => ("RiverChoice$Reader", "token", "I", false)
  | 6 => ("RiverChoice$Reader", "value", "I", false)
  | 7 => ("RiverChoice$Reader", "item", "I", false)
  | _ => ("RiverChoice$Reader", "items", "I", false)
def tyX4 : Nat → FieldType := fun k => match k with
  | 0 => .object "RiverChoice$Text"
  | 1 => .object "RiverChoice$Band"
  | 2 => .array .int
  | 3 => .int
  | 4 => .int
  | 5 => .int
  | 6 => .int
  | 7 => .int
  | _ => .int
abbrev wsX40 : List Cond := u_ws RX4 TX4 9
theorem nmX4 : ∀ a, a < 9 → ∀ b, b < 9 → a ≠ b → (TX4 a).2.1 ≠ (TX4 b).2.1 := by decide +kernel
theorem tyX4_ok : ∀ k, k < 9 → parseFieldDescriptor (TX4 k).2.2.1 = some (tyX4 k) := by decide +kernel
abbrev cX4_init : ByteArray := prog_6_method_1_code
def yX4_init : MethodName := ⟨RX4, "<init>", "()V"⟩
abbrev cX4_findFault : ByteArray := prog_6_method_2_code
def yX4_findFault : MethodName := ⟨RX4, "findFault", "()I"⟩
abbrev cX4_tellDraft : ByteArray := prog_6_method_3_code
def yX4_tellDraft : MethodName := ⟨RX4, "tellDraft", "()I"⟩
abbrev cX4_tellItem : ByteArray := prog_6_method_4_code
def yX4_tellItem : MethodName := ⟨RX4, "tellItem", "()I"⟩
abbrev cX4_readItem : ByteArray := prog_6_method_5_code
def yX4_readItem : MethodName := ⟨RX4, "readItem", "(Z)Z"⟩
abbrev cX4_readToken : ByteArray := prog_6_method_6_code
def yX4_readToken : MethodName := ⟨RX4, "readToken", "()V"⟩
abbrev cX4_readWord : ByteArray := prog_6_method_7_code
def yX4_readWord : MethodName := ⟨RX4, "readWord", "()V"⟩
abbrev cX4_readNumber : ByteArray := prog_6_method_8_code
def yX4_readNumber : MethodName := ⟨RX4, "readNumber", "()V"⟩
abbrev cX4_skipBlanks : ByteArray := prog_6_method_9_code
def yX4_skipBlanks : MethodName := ⟨RX4, "skipBlanks", "()V"⟩
abbrev cX4_isLetter : ByteArray := prog_6_method_10_code
def yX4_isLetter : MethodName := ⟨RX4, "isLetter", "(I)Z"⟩
abbrev cX4_isFigure : ByteArray := prog_6_method_11_code
def yX4_isFigure : MethodName := ⟨RX4, "isFigure", "(I)Z"⟩
def RX5 : String := "RiverChoice$Row"
def TX5 : u_T := fun k => match k with
  | _ => ("RiverChoice$Row", "weights", "[J", true)
def tyX5 : Nat → FieldType := fun k => match k with
  | _ => .array .long
abbrev wsX50 : List Cond := u_ws RX5 TX5 1
theorem nmX5 : ∀ a, a < 1 → ∀ b, b < 1 → a ≠ b → (TX5 a).2.1 ≠ (TX5 b).2.1 := by decide +kernel
theorem tyX5_ok : ∀ k, k < 1 → parseFieldDescriptor (TX5 k).2.2.1 = some (tyX5 k) := by decide +kernel
abbrev cX5_init : ByteArray := prog_7_method_1_code
def yX5_init : MethodName := ⟨RX5, "<init>", "()V"⟩
abbrev cX5_load : ByteArray := prog_7_method_2_code
def yX5_load : MethodName := ⟨RX5, "load", "(LRiverChoice$Band;I)V"⟩
abbrev cX5_store : ByteArray := prog_7_method_3_code
def yX5_store : MethodName := ⟨RX5, "store", "(LRiverChoice$Band;I)V"⟩
abbrev cX5_dropSpy : ByteArray := prog_7_method_4_code
def yX5_dropSpy : MethodName := ⟨RX5, "dropSpy", "()V"⟩
abbrev cX5_isEmpty : ByteArray := prog_7_method_5_code
def yX5_isEmpty : MethodName := ⟨RX5, "isEmpty", "()Z"⟩
abbrev cX5_weigh : ByteArray := prog_7_method_6_code
def yX5_weigh : MethodName := ⟨RX5, "weigh", "(IZZ)V"⟩
abbrev cX5_chance : ByteArray := prog_7_method_7_code
def yX5_chance : MethodName := ⟨RX5, "chance", "(IZ)I"⟩
abbrev cX5_cutBy : ByteArray := prog_7_method_8_code
def yX5_cutBy : MethodName := ⟨RX5, "cutBy", "(J)V"⟩
abbrev cX5_sum : ByteArray := prog_7_method_9_code
def yX5_sum : MethodName := ⟨RX5, "sum", "()J"⟩
abbrev cX5_most : ByteArray := prog_7_method_10_code
def yX5_most : MethodName := ⟨RX5, "most", "()J"⟩
def RX6 : String := "RiverChoice$Sifted"
def TX6 : u_T := fun k => match k with
  | 0 => ("RiverChoice$Sifted", "tests", "[I", true)
  | 1 => ("RiverChoice$Sifted", "row", "LRiverChoice$Row;", true)
  | _ => ("RiverChoice$Sifted", "size", "I", false)
def tyX6 : Nat → FieldType := fun k => match k with
  | 0 => .array .int
  | 1 => .object "RiverChoice$Row"
  | _ => .int
abbrev wsX60 : List Cond := u_ws RX6 TX6 3
theorem nmX6 : ∀ a, a < 3 → ∀ b, b < 3 → a ≠ b → (TX6 a).2.1 ≠ (TX6 b).2.1 := by decide +kernel
theorem tyX6_ok : ∀ k, k < 3 → parseFieldDescriptor (TX6 k).2.2.1 = some (tyX6 k) := by decide +kernel
abbrev cX6_init : ByteArray := prog_8_method_1_code
def yX6_init : MethodName := ⟨RX6, "<init>", "()V"⟩
abbrev cX6_find : ByteArray := prog_8_method_2_code
def yX6_find : MethodName := ⟨RX6, "find", "(LRiverChoice$Band;II)Z"⟩
abbrev cX6_testAt : ByteArray := prog_8_method_3_code
def yX6_testAt : MethodName := ⟨RX6, "testAt", "(I)I"⟩
abbrev cX6_decode : ByteArray := prog_8_method_4_code
def yX6_decode : MethodName := ⟨RX6, "decode", "(II)V"⟩
abbrev cX6_fits : ByteArray := prog_8_method_5_code
def yX6_fits : MethodName := ⟨RX6, "fits", "(LRiverChoice$Band;II)Z"⟩
def RX7 : String := "RiverChoice$Text"
def TX7 : u_T := fun k => match k with
  | 0 => ("RiverChoice$Text", "bytes", "[I", true)
  | _ => ("RiverChoice$Text", "size", "I", false)
def tyX7 : Nat → FieldType := fun k => match k with
  | 0 => .array .int
  | _ => .int
abbrev wsX70 : List Cond := u_ws RX7 TX7 2
theorem nmX7 : ∀ a, a < 2 → ∀ b, b < 2 → a ≠ b → (TX7 a).2.1 ≠ (TX7 b).2.1 := by decide +kernel
theorem tyX7_ok : ∀ k, k < 2 → parseFieldDescriptor (TX7 k).2.2.1 = some (tyX7 k) := by decide +kernel
abbrev cX7_init : ByteArray := prog_9_method_1_code
def yX7_init : MethodName := ⟨RX7, "<init>", "()V"⟩
abbrev cX7_append : ByteArray := prog_9_method_2_code
def yX7_append : MethodName := ⟨RX7, "append", "(I)I"⟩
abbrev cX7_empty : ByteArray := prog_9_method_3_code
def yX7_empty : MethodName := ⟨RX7, "empty", "()I"⟩
abbrev cX7_byteAt : ByteArray := prog_9_method_4_code
def yX7_byteAt : MethodName := ⟨RX7, "byteAt", "(I)I"⟩
abbrev cX7_spells : ByteArray := prog_9_method_5_code
def yX7_spells : MethodName := ⟨RX7, "spells", "(Ljava/lang/String;II)Z"⟩
def RX8 : String := "RiverChoice"
def TX8 : u_T := fun k => match k with
  | 0 => ("RiverChoice", "band", "LRiverChoice$Band;", true)
  | 1 => ("RiverChoice", "past", "LRiverChoice$Past;", true)
  | 2 => ("RiverChoice", "firstImage", "LRiverChoice$Image;", true)
  | 3 => ("RiverChoice", "secondImage", "LRiverChoice$Image;", true)
  | 4 => ("RiverChoice", "reader", "LRiverChoice$Reader;", true)
  | 5 => ("RiverChoice", "odds", "LRiverChoice$Odds;", true)
  | 6 => ("RiverChoice", "trial", "LRiverChoice$Row;", true)
  | 7 => ("RiverChoice", "sifted", "LRiverChoice$Sifted;", true)
  | 8 => ("RiverChoice", "told", "[I", true)
  | 9 => ("RiverChoice", "above", "J", false)
  | 10 => ("RiverChoice", "below", "J", false)
  | 11 => ("RiverChoice", "badCalls", "I", false)
  | 12 => ("RiverChoice", "noCalls", "I", false)
  | _ => ("RiverChoice", "fullCalls", "I", false)
def tyX8 : Nat → FieldType := fun k => match k with
  | 0 => .object "RiverChoice$Band"
  | 1 => .object "RiverChoice$Past"
  | 2 => .object "RiverChoice$Image"
  | 3 => .object "RiverChoice$Image"
  | 4 => .object "RiverChoice$Reader"
  | 5 => .object "RiverChoice$Odds"
  | 6 => .object "RiverChoice$Row"
  | 7 => .object "RiverChoice$Sifted"
  | 8 => .array .int
  | 9 => .long
  | 10 => .long
  | 11 => .int
  | 12 => .int
  | _ => .int
abbrev wsX80 : List Cond := u_ws RX8 TX8 14
theorem nmX8 : ∀ a, a < 14 → ∀ b, b < 14 → a ≠ b → (TX8 a).2.1 ≠ (TX8 b).2.1 := by decide +kernel
theorem tyX8_ok : ∀ k, k < 14 → parseFieldDescriptor (TX8 k).2.2.1 = some (tyX8 k) := by decide +kernel
abbrev cX8_init : ByteArray := prog_1_method_1_code
def yX8_init : MethodName := ⟨RX8, "<init>", "()V"⟩
abbrev cX8_muster : ByteArray := prog_1_method_2_code
def yX8_muster : MethodName := ⟨RX8, "muster", "(I)I"⟩
abbrev cX8_man : ByteArray := prog_1_method_3_code
def yX8_man : MethodName := ⟨RX8, "man", "(IIIIII)I"⟩
abbrev cX8_worn : ByteArray := prog_1_method_4_code
def yX8_worn : MethodName := ⟨RX8, "worn", "(II)I"⟩
abbrev cX8_pair : ByteArray := prog_1_method_5_code
def yX8_pair : MethodName := ⟨RX8, "pair", "(II)I"⟩
abbrev cX8_word : ByteArray := prog_1_method_6_code
def yX8_word : MethodName := ⟨RX8, "word", "(I)I"⟩
abbrev cX8_type : ByteArray := prog_1_method_7_code
def yX8_type : MethodName := ⟨RX8, "type", "(I)I"⟩
abbrev cX8_clear : ByteArray := prog_1_method_8_code
def yX8_clear : MethodName := ⟨RX8, "clear", "()I"⟩
abbrev cX8_read : ByteArray := prog_1_method_9_code
def yX8_read : MethodName := ⟨RX8, "read", "()I"⟩
abbrev cX8_test : ByteArray := prog_1_method_10_code
def yX8_test : MethodName := ⟨RX8, "test", "(IIZ)I"⟩
abbrev cX8_undo : ByteArray := prog_1_method_11_code
def yX8_undo : MethodName := ⟨RX8, "undo", "()I"⟩
abbrev cX8_weight : ByteArray := prog_1_method_12_code
def yX8_weight : MethodName := ⟨RX8, "weight", "(II)J"⟩
abbrev cX8_cases : ByteArray := prog_1_method_13_code
def yX8_cases : MethodName := ⟨RX8, "cases", "(IIZ)I"⟩
abbrev cX8_trust : ByteArray := prog_1_method_14_code
def yX8_trust : MethodName := ⟨RX8, "trust", "(I)I"⟩
abbrev cX8_shows : ByteArray := prog_1_method_15_code
def yX8_shows : MethodName := ⟨RX8, "shows", "(II)I"⟩
abbrev cX8_of : ByteArray := prog_1_method_16_code
def yX8_of : MethodName := ⟨RX8, "of", "(II)I"⟩
abbrev cX8_hold : ByteArray := prog_1_method_17_code
def yX8_hold : MethodName := ⟨RX8, "hold", "(II)I"⟩
abbrev cX8_keep : ByteArray := prog_1_method_18_code
def yX8_keep : MethodName := ⟨RX8, "keep", "(II)I"⟩
abbrev cX8_worth : ByteArray := prog_1_method_19_code
def yX8_worth : MethodName := ⟨RX8, "worth", "(IIII)I"⟩
abbrev cX8_best : ByteArray := prog_1_method_20_code
def yX8_best : MethodName := ⟨RX8, "best", "(II)I"⟩
abbrev cX8_sift : ByteArray := prog_1_method_21_code
def yX8_sift : MethodName := ⟨RX8, "sift", "(III)I"⟩
abbrev cX8_runs : ByteArray := prog_1_method_22_code
def yX8_runs : MethodName := ⟨RX8, "runs", "(I)I"⟩
abbrev cX8_home : ByteArray := prog_1_method_23_code
def yX8_home : MethodName := ⟨RX8, "home", "(I)I"⟩
abbrev cX8_spy : ByteArray := prog_1_method_24_code
def yX8_spy : MethodName := ⟨RX8, "spy", "(I)I"⟩
abbrev cX8_looks : ByteArray := prog_1_method_25_code
def yX8_looks : MethodName := ⟨RX8, "looks", "(IZI)I"⟩
abbrev cX8_next : ByteArray := prog_1_method_26_code
def yX8_next : MethodName := ⟨RX8, "next", "(I)I"⟩
abbrev cX8_boast : ByteArray := prog_1_method_27_code
def yX8_boast : MethodName := ⟨RX8, "boast", "(III)I"⟩
abbrev cX8_again : ByteArray := prog_1_method_28_code
def yX8_again : MethodName := ⟨RX8, "again", "(I)I"⟩
abbrev cX8_drawn : ByteArray := prog_1_method_29_code
def yX8_drawn : MethodName := ⟨RX8, "drawn", "(III)I"⟩
abbrev cX8_part : ByteArray := prog_1_method_30_code
def yX8_part : MethodName := ⟨RX8, "part", "(I)J"⟩
abbrev cX8_image : ByteArray := prog_1_method_31_code
def yX8_image : MethodName := ⟨RX8, "image", "(I)I"⟩
abbrev cX8_from : ByteArray := prog_1_method_32_code
def yX8_from : MethodName := ⟨RX8, "from", "(I)I"⟩
abbrev cX8_status : ByteArray := prog_1_method_33_code
def yX8_status : MethodName := ⟨RX8, "status", "(I)I"⟩
abbrev cX8_count : ByteArray := prog_1_method_34_code
def yX8_count : MethodName := ⟨RX8, "count", "(I)I"⟩
abbrev cX8_digest : ByteArray := prog_1_method_35_code
def yX8_digest : MethodName := ⟨RX8, "digest", "()J"⟩
abbrev cX8_accepted : ByteArray := prog_1_method_36_code
def yX8_accepted : MethodName := ⟨RX8, "accepted", "(I)I"⟩
abbrev cX8_refused : ByteArray := prog_1_method_37_code
def yX8_refused : MethodName := ⟨RX8, "refused", "(I)I"⟩
abbrev cX8_refusedAs : ByteArray := prog_1_method_38_code
def yX8_refusedAs : MethodName := ⟨RX8, "refusedAs", "(II)I"⟩
abbrev cX8_howMany : ByteArray := prog_1_method_39_code
def yX8_howMany : MethodName := ⟨RX8, "howMany", "(I)I"⟩
abbrev cX8_imageAt : ByteArray := prog_1_method_40_code
def yX8_imageAt : MethodName := ⟨RX8, "imageAt", "(I)LRiverChoice$Image;"⟩
abbrev cX8_waysNow : ByteArray := prog_1_method_41_code
def yX8_waysNow : MethodName := ⟨RX8, "waysNow", "(II)J"⟩
abbrev cX8_gainOf : ByteArray := prog_1_method_42_code
def yX8_gainOf : MethodName := ⟨RX8, "gainOf", "(IIIIJ)I"⟩
abbrev cX8_mayStay : ByteArray := prog_1_method_43_code
def yX8_mayStay : MethodName := ⟨RX8, "mayStay", "(II)Z"⟩
abbrev cX8_isOpen : ByteArray := prog_1_method_44_code
def yX8_isOpen : MethodName := ⟨RX8, "isOpen", "(II)Z"⟩
abbrev cX8_rests : ByteArray := prog_1_method_45_code
def yX8_rests : MethodName := ⟨RX8, "rests", "(III)Z"⟩
abbrev cX8_gets : ByteArray := prog_1_method_46_code
def yX8_gets : MethodName := ⟨RX8, "gets", "(III)I"⟩
abbrev cX8_isIn : ByteArray := prog_1_method_47_code
def yX8_isIn : MethodName := ⟨RX8, "isIn", "(II)Z"⟩
abbrev cX8_isTest : ByteArray := prog_1_method_48_code
def yX8_isTest : MethodName := ⟨RX8, "isTest", "(I)Z"⟩
abbrev cX8_isNeed : ByteArray := prog_1_method_49_code
def yX8_isNeed : MethodName := ⟨RX8, "isNeed", "(I)Z"⟩
abbrev cX8_isWeighed : ByteArray := prog_1_method_50_code
def yX8_isWeighed : MethodName := ⟨RX8, "isWeighed", "(I)Z"⟩
abbrev cX8_costOf : ByteArray := prog_1_method_51_code
def yX8_costOf : MethodName := ⟨RX8, "costOf", "(I)I"⟩
abbrev cX8_casesOf : ByteArray := prog_1_method_52_code
def yX8_casesOf : MethodName := ⟨RX8, "casesOf", "(IIZ)I"⟩
abbrev cX8_greatestCommon : ByteArray := prog_1_method_53_code
def yX8_greatestCommon : MethodName := ⟨RX8, "greatestCommon", "(JJ)J"⟩
def RX9 : String := "RiverChoiceModel"
def TX9 : u_T := fun k => match k with
  | 0 => ("RiverChoiceModel", "now", "[I", true)
  | 1 => ("RiverChoiceModel", "images", "[I", true)
  | 2 => ("RiverChoiceModel", "kept", "[Z", true)
  | 3 => ("RiverChoiceModel", "text", "[I", true)
  | 4 => ("RiverChoiceModel", "size", "I", false)
  | 5 => ("RiverChoiceModel", "above", "J", false)
  | 6 => ("RiverChoiceModel", "below", "J", false)
  | 7 => ("RiverChoiceModel", "refusals", "[I", true)
  | 8 => ("RiverChoiceModel", "told", "[I", true)
  | 9 => ("RiverChoiceModel", "at", "I", false)
  | 10 => ("RiverChoiceModel", "begin", "I", false)
  | 11 => ("RiverChoiceModel", "token", "I", false)
  | 12 => ("RiverChoiceModel", "value", "I", false)
  | 13 => ("RiverChoiceModel", "letters", "J", false)
  | 14 => ("RiverChoiceModel", "items", "[I", true)
  | 15 => ("RiverChoiceModel", "itemMany", "I", false)
  | 16 => ("RiverChoiceModel", "saved", "[I", true)
  | 17 => ("RiverChoiceModel", "ways", "[J", true)
  | 18 => ("RiverChoiceModel", "day", "[I", true)
  | _ => ("RiverChoiceModel", "row", "[I", true)
def tyX9 : Nat → FieldType := fun k => match k with
  | 0 => .array .int
  | 1 => .array .int
  | 2 => .array .boolean
  | 3 => .array .int
  | 4 => .int
  | 5 => .long
  | 6 => .long
  | 7 => .array .int
  | 8 => .array .int
  | 9 => .int
  | 10 => .int
  | 11 => .int
  | 12 => .int
  | 13 => .long
  | 14 => .array .int
  | 15 => .int
  | 16 => .array .int
  | 17 => .array .long
  | 18 => .array .int
  | _ => .array .int
abbrev wsX90 : List Cond := u_ws RX9 TX9 20
theorem nmX9 : ∀ a, a < 20 → ∀ b, b < 20 → a ≠ b → (TX9 a).2.1 ≠ (TX9 b).2.1 := by decide +kernel
theorem tyX9_ok : ∀ k, k < 20 → parseFieldDescriptor (TX9 k).2.2.1 = some (tyX9 k) := by decide +kernel
abbrev cX9_init : ByteArray := prog_11_method_1_code
def yX9_init : MethodName := ⟨RX9, "<init>", "()V"⟩
abbrev cX9_in : ByteArray := prog_11_method_3_code
def yX9_in : MethodName := ⟨RX9, "in", "(JJJ)Z"⟩
abbrev cX9_isTwo : ByteArray := prog_11_method_4_code
def yX9_isTwo : MethodName := ⟨RX9, "isTwo", "(I)Z"⟩
abbrev cX9_tell : ByteArray := prog_11_method_5_code
def yX9_tell : MethodName := ⟨RX9, "tell", "(I)I"⟩
abbrev cX9_bad : ByteArray := prog_11_method_6_code
def yX9_bad : MethodName := ⟨RX9, "bad", "(I)I"⟩
abbrev cX9_no : ByteArray := prog_11_method_7_code
def yX9_no : MethodName := ⟨RX9, "no", "(I)I"⟩
abbrev cX9_has : ByteArray := prog_11_method_8_code
def yX9_has : MethodName := ⟨RX9, "has", "(II)Z"⟩
abbrev cX9_bits : ByteArray := prog_11_method_9_code
def yX9_bits : MethodName := ⟨RX9, "bits", "(I)I"⟩
abbrev cX9_copies : ByteArray := prog_11_method_10_code
def yX9_copies : MethodName := ⟨RX9, "copies", "([II[III)V"⟩
abbrev cX9_clean : ByteArray := prog_11_method_11_code
def yX9_clean : MethodName := ⟨RX9, "clean", "(I)V"⟩
abbrev cX9_isMan : ByteArray := prog_11_method_12_code
def yX9_isMan : MethodName := ⟨RX9, "isMan", "(I)Z"⟩
abbrev cX9_areMen : ByteArray := prog_11_method_13_code
def yX9_areMen : MethodName := ⟨RX9, "areMen", "(I)Z"⟩
abbrev cX9_doMan : ByteArray := prog_11_method_14_code
def yX9_doMan : MethodName := ⟨RX9, "doMan", "()I"⟩
abbrev cX9_doWorn : ByteArray := prog_11_method_15_code
def yX9_doWorn : MethodName := ⟨RX9, "doWorn", "(II)I"⟩
abbrev cX9_doPair : ByteArray := prog_11_method_16_code
def yX9_doPair : MethodName := ⟨RX9, "doPair", "(II)I"⟩
abbrev cX9_doWord : ByteArray := prog_11_method_17_code
def yX9_doWord : MethodName := ⟨RX9, "doWord", "(I)I"⟩
abbrev cX9_muster : ByteArray := prog_11_method_18_code
def yX9_muster : MethodName := ⟨RX9, "muster", "(I)I"⟩
abbrev cX9_man : ByteArray := prog_11_method_19_code
def yX9_man : MethodName := ⟨RX9, "man", "(IIIIII)I"⟩
abbrev cX9_worn : ByteArray := prog_11_method_20_code
def yX9_worn : MethodName := ⟨RX9, "worn", "(II)I"⟩
abbrev cX9_pair : ByteArray := prog_11_method_21_code
def yX9_pair : MethodName := ⟨RX9, "pair", "(II)I"⟩
abbrev cX9_word : ByteArray := prog_11_method_22_code
def yX9_word : MethodName := ⟨RX9, "word", "(I)I"⟩
abbrev cX9_type : ByteArray := prog_11_method_23_code
def yX9_type : MethodName := ⟨RX9, "type", "(I)I"⟩
abbrev cX9_clear : ByteArray := prog_11_method_24_code
def yX9_clear : MethodName := ⟨RX9, "clear", "()I"⟩
abbrev cX9_takes : ByteArray := prog_11_method_25_code
def yX9_takes : MethodName := ⟨RX9, "takes", "()V"⟩
abbrev cX9_itemOf : ByteArray := prog_11_method_26_code
def yX9_itemOf : MethodName := ⟨RX9, "itemOf", "(J)I"⟩
abbrev cX9_reads : ByteArray := prog_11_method_27_code
def yX9_reads : MethodName := ⟨RX9, "reads", "()I"⟩
abbrev cX9_doItem : ByteArray := prog_11_method_28_code
def yX9_doItem : MethodName := ⟨RX9, "doItem", "(I)I"⟩
abbrev cX9_read : ByteArray := prog_11_method_29_code
def yX9_read : MethodName := ⟨RX9, "read", "()I"⟩
abbrev cX9_costOf : ByteArray := prog_11_method_30_code
def yX9_costOf : MethodName := ⟨RX9, "costOf", "(I)I"⟩
abbrev cX9_isTest : ByteArray := prog_11_method_31_code
def yX9_isTest : MethodName := ⟨RX9, "isTest", "(I)Z"⟩
abbrev cX9_casesOf : ByteArray := prog_11_method_32_code
def yX9_casesOf : MethodName := ⟨RX9, "casesOf", "(IIZ)I"⟩
abbrev cX9_sumOf : ByteArray := prog_11_method_33_code
def yX9_sumOf : MethodName := ⟨RX9, "sumOf", "([IIIZ)J"⟩
abbrev cX9_allOf : ByteArray := prog_11_method_34_code
def yX9_allOf : MethodName := ⟨RX9, "allOf", "([II)J"⟩
abbrev cX9_shareOf : ByteArray := prog_11_method_35_code
def yX9_shareOf : MethodName := ⟨RX9, "shareOf", "([IIIZ)I"⟩
abbrev cX9_trustOn : ByteArray := prog_11_method_36_code
def yX9_trustOn : MethodName := ⟨RX9, "trustOn", "([II)I"⟩
abbrev cX9_common : ByteArray := prog_11_method_37_code
def yX9_common : MethodName := ⟨RX9, "common", "(II)I"⟩
abbrev cX9_weighs : ByteArray := prog_11_method_38_code
def yX9_weighs : MethodName := ⟨RX9, "weighs", "([IIIZ)V"⟩
abbrev cX9_tests : ByteArray := prog_11_method_39_code
def yX9_tests : MethodName := ⟨RX9, "tests", "([IIIZ)V"⟩
abbrev cX9_remember : ByteArray := prog_11_method_40_code
def yX9_remember : MethodName := ⟨RX9, "remember", "()V"⟩
abbrev cX9_test : ByteArray := prog_11_method_41_code
def yX9_test : MethodName := ⟨RX9, "test", "(IIZ)I"⟩
abbrev cX9_undo : ByteArray := prog_11_method_42_code
def yX9_undo : MethodName := ⟨RX9, "undo", "()I"⟩
abbrev cX9_weight : ByteArray := prog_11_method_43_code
def yX9_weight : MethodName := ⟨RX9, "weight", "(II)J"⟩
abbrev cX9_cases : ByteArray := prog_11_method_44_code
def yX9_cases : MethodName := ⟨RX9, "cases", "(IIZ)I"⟩
abbrev cX9_trust : ByteArray := prog_11_method_45_code
def yX9_trust : MethodName := ⟨RX9, "trust", "(I)I"⟩
abbrev cX9_showsOn : ByteArray := prog_11_method_46_code
def yX9_showsOn : MethodName := ⟨RX9, "showsOn", "(II)I"⟩
abbrev cX9_shows : ByteArray := prog_11_method_47_code
def yX9_shows : MethodName := ⟨RX9, "shows", "(II)I"⟩
abbrev cX9_of : ByteArray := prog_11_method_48_code
def yX9_of : MethodName := ⟨RX9, "of", "(II)I"⟩
abbrev cX9_holdOn : ByteArray := prog_11_method_49_code
def yX9_holdOn : MethodName := ⟨RX9, "holdOn", "([III)J"⟩
abbrev cX9_fraction : ByteArray := prog_11_method_50_code
def yX9_fraction : MethodName := ⟨RX9, "fraction", "(JJ)V"⟩
abbrev cX9_hold : ByteArray := prog_11_method_51_code
def yX9_hold : MethodName := ⟨RX9, "hold", "(II)I"⟩
abbrev cX9_keepOn : ByteArray := prog_11_method_52_code
def yX9_keepOn : MethodName := ⟨RX9, "keepOn", "([III)I"⟩
abbrev cX9_keep : ByteArray := prog_11_method_53_code
def yX9_keep : MethodName := ⟨RX9, "keep", "(II)I"⟩
abbrev cX9_layDay : ByteArray := prog_11_method_54_code
def yX9_layDay : MethodName := ⟨RX9, "layDay", "()V"⟩
abbrev cX9_behind : ByteArray := prog_11_method_55_code
def yX9_behind : MethodName := ⟨RX9, "behind", "(IIZII)J"⟩
abbrev cX9_worthOf : ByteArray := prog_11_method_56_code
def yX9_worthOf : MethodName := ⟨RX9, "worthOf", "(IIII)I"⟩
abbrev cX9_worth : ByteArray := prog_11_method_57_code
def yX9_worth : MethodName := ⟨RX9, "worth", "(IIII)I"⟩
abbrev cX9_best : ByteArray := prog_11_method_58_code
def yX9_best : MethodName := ⟨RX9, "best", "(II)I"⟩
abbrev cX9_sifts : ByteArray := prog_11_method_59_code
def yX9_sifts : MethodName := ⟨RX9, "sifts", "(IIII)Z"⟩
abbrev cX9_sift : ByteArray := prog_11_method_60_code
def yX9_sift : MethodName := ⟨RX9, "sift", "(III)I"⟩
abbrev cX9_runs : ByteArray := prog_11_method_61_code
def yX9_runs : MethodName := ⟨RX9, "runs", "(I)I"⟩
abbrev cX9_areWell : ByteArray := prog_11_method_62_code
def yX9_areWell : MethodName := ⟨RX9, "areWell", "(II)Z"⟩
abbrev cX9_home : ByteArray := prog_11_method_63_code
def yX9_home : MethodName := ⟨RX9, "home", "(I)I"⟩
abbrev cX9_spy : ByteArray := prog_11_method_64_code
def yX9_spy : MethodName := ⟨RX9, "spy", "(I)I"⟩
abbrev cX9_wearing : ByteArray := prog_11_method_65_code
def yX9_wearing : MethodName := ⟨RX9, "wearing", "(IZ)I"⟩
abbrev cX9_looks : ByteArray := prog_11_method_66_code
def yX9_looks : MethodName := ⟨RX9, "looks", "(IZI)I"⟩
abbrev cX9_next : ByteArray := prog_11_method_67_code
def yX9_next : MethodName := ⟨RX9, "next", "(I)I"⟩
abbrev cX9_gets : ByteArray := prog_11_method_68_code
def yX9_gets : MethodName := ⟨RX9, "gets", "(III)I"⟩
abbrev cX9_boast : ByteArray := prog_11_method_69_code
def yX9_boast : MethodName := ⟨RX9, "boast", "(III)I"⟩
abbrev cX9_again : ByteArray := prog_11_method_70_code
def yX9_again : MethodName := ⟨RX9, "again", "(I)I"⟩
abbrev cX9_drawn : ByteArray := prog_11_method_71_code
def yX9_drawn : MethodName := ⟨RX9, "drawn", "(III)I"⟩
abbrev cX9_part : ByteArray := prog_11_method_72_code
def yX9_part : MethodName := ⟨RX9, "part", "(I)J"⟩
abbrev cX9_image : ByteArray := prog_11_method_73_code
def yX9_image : MethodName := ⟨RX9, "image", "(I)I"⟩
abbrev cX9_from : ByteArray := prog_11_method_74_code
def yX9_from : MethodName := ⟨RX9, "from", "(I)I"⟩
abbrev cX9_status : ByteArray := prog_11_method_75_code
def yX9_status : MethodName := ⟨RX9, "status", "(I)I"⟩
abbrev cX9_counted : ByteArray := prog_11_method_76_code
def yX9_counted : MethodName := ⟨RX9, "counted", "(I)I"⟩
abbrev cX9_count : ByteArray := prog_11_method_77_code
def yX9_count : MethodName := ⟨RX9, "count", "(I)I"⟩
abbrev cX9_digest : ByteArray := prog_11_method_78_code
def yX9_digest : MethodName := ⟨RX9, "digest", "()J"⟩
def RJ6 : String := "java/lang/Integer"
def TJ6 : u_T := fun k => match k with
  | _ => ("", "", "", false)
def tyJ6 : Nat → FieldType := fun k => match k with
  | _ => .int
abbrev wsJ60 : List Cond := u_ws RJ6 TJ6 0
theorem nmJ6 : ∀ a, a < 0 → ∀ b, b < 0 → a ≠ b → (TJ6 a).2.1 ≠ (TJ6 b).2.1 := by decide +kernel
theorem tyJ6_ok : ∀ k, k < 0 → parseFieldDescriptor (TJ6 k).2.2.1 = some (tyJ6 k) := by decide +kernel
abbrev cJ6_bitCount_0f7a4 : ByteArray := prog_12_method_49_code
def yJ6_bitCount_0f7a4 : MethodName := ⟨RJ6, "bitCount", "(I)I"⟩
def RJ9 : String := "java/lang/Math"
def TJ9 : u_T := fun k => match k with
  | _ => ("", "", "", false)
def tyJ9 : Nat → FieldType := fun k => match k with
  | _ => .int
abbrev wsJ90 : List Cond := u_ws RJ9 TJ9 0
theorem nmJ9 : ∀ a, a < 0 → ∀ b, b < 0 → a ≠ b → (TJ9 a).2.1 ≠ (TJ9 b).2.1 := by decide +kernel
theorem tyJ9_ok : ∀ k, k < 0 → parseFieldDescriptor (TJ9 k).2.2.1 = some (tyJ9 k) := by decide +kernel
abbrev cJ9_max_f86c9 : ByteArray := prog_13_method_66_code
def yJ9_max_f86c9 : MethodName := ⟨RJ9, "max", "(JJ)J"⟩
def RJ0 : String := "java/lang/String"
def TJ0 : u_T := fun k => match k with
  | _ => ("", "", "", false)
def tyJ0 : Nat → FieldType := fun k => match k with
  | _ => .int
abbrev wsJ00 : List Cond := u_ws RJ0 TJ0 0
theorem nmJ0 : ∀ a, a < 0 → ∀ b, b < 0 → a ≠ b → (TJ0 a).2.1 ≠ (TJ0 b).2.1 := by decide +kernel
theorem tyJ0_ok : ∀ k, k < 0 → parseFieldDescriptor (TJ0 k).2.2.1 = some (tyJ0 k) := by decide +kernel
abbrev cJ0_length_8abf5 : ByteArray := prog_14_method_54_code
def yJ0_length_8abf5 : MethodName := ⟨RJ0, "length", "()I"⟩
abbrev cJ0_charAt_5068e : ByteArray := prog_14_method_56_code
def yJ0_charAt_5068e : MethodName := ⟨RJ0, "charAt", "(I)C"⟩
abbrev cJ0_coder_7d493 : ByteArray := prog_14_method_152_code
def yJ0_coder_7d493 : MethodName := ⟨RJ0, "coder", "()B"⟩
abbrev cJ0_isLatin1_aae02 : ByteArray := prog_14_method_154_code
def yJ0_isLatin1_aae02 : MethodName := ⟨RJ0, "isLatin1", "()Z"⟩
abbrev cJ0_checkIndex_df160 : ByteArray := prog_14_method_155_code
def yJ0_checkIndex_df160 : MethodName := ⟨RJ0, "checkIndex", "(II)V"⟩
def RJ1 : String := "java/lang/StringLatin1"
def TJ1 : u_T := fun k => match k with
  | _ => ("", "", "", false)
def tyJ1 : Nat → FieldType := fun k => match k with
  | _ => .int
abbrev wsJ10 : List Cond := u_ws RJ1 TJ1 0
theorem nmJ1 : ∀ a, a < 0 → ∀ b, b < 0 → a ≠ b → (TJ1 a).2.1 ≠ (TJ1 b).2.1 := by decide +kernel
theorem tyJ1_ok : ∀ k, k < 0 → parseFieldDescriptor (TJ1 k).2.2.1 = some (tyJ1 k) := by decide +kernel
abbrev cJ1_charAt_3b067 : ByteArray := prog_15_method_2_code
def yJ1_charAt_3b067 : MethodName := ⟨RJ1, "charAt", "([BI)C"⟩
def RJ2 : String := "java/lang/StringUTF16"
def TJ2 : u_T := fun k => match k with
  | _ => ("", "", "", false)
def tyJ2 : Nat → FieldType := fun k => match k with
  | _ => .int
abbrev wsJ20 : List Cond := u_ws RJ2 TJ2 0
theorem nmJ2 : ∀ a, a < 0 → ∀ b, b < 0 → a ≠ b → (TJ2 a).2.1 ≠ (TJ2 b).2.1 := by decide +kernel
theorem tyJ2_ok : ∀ k, k < 0 → parseFieldDescriptor (TJ2 k).2.2.1 = some (tyJ2 k) := by decide +kernel
abbrev cJ2_getChar_3b067 : ByteArray := prog_16_method_5_code
def yJ2_getChar_3b067 : MethodName := ⟨RJ2, "getChar", "([BI)C"⟩
abbrev cJ2_length_9d52b : ByteArray := prog_16_method_6_code
def yJ2_length_9d52b : MethodName := ⟨RJ2, "length", "([B)I"⟩
abbrev cJ2_charAt_3b067 : ByteArray := prog_16_method_83_code
def yJ2_charAt_3b067 : MethodName := ⟨RJ2, "charAt", "([BI)C"⟩
abbrev cJ2_checkIndex_2214a : ByteArray := prog_16_method_91_code
def yJ2_checkIndex_2214a : MethodName := ⟨RJ2, "checkIndex", "(I[B)V"⟩
def RJ10 : String := "java/lang/System"
def TJ10 : u_T := fun k => match k with
  | _ => ("", "", "", false)
def tyJ10 : Nat → FieldType := fun k => match k with
  | _ => .int
abbrev wsJ100 : List Cond := u_ws RJ10 TJ10 0
theorem nmJ10 : ∀ a, a < 0 → ∀ b, b < 0 → a ≠ b → (TJ10 a).2.1 ≠ (TJ10 b).2.1 := by decide +kernel
theorem tyJ10_ok : ∀ k, k < 0 → parseFieldDescriptor (TJ10 k).2.2.1 = some (tyJ10 k) := by decide +kernel
def RJ3 : String := "jdk/internal/util/Preconditions"
def TJ3 : u_T := fun k => match k with
  | _ => ("", "", "", false)
def tyJ3 : Nat → FieldType := fun k => match k with
  | _ => .int
abbrev wsJ30 : List Cond := u_ws RJ3 TJ3 0
theorem nmJ3 : ∀ a, a < 0 → ∀ b, b < 0 → a ≠ b → (TJ3 a).2.1 ≠ (TJ3 b).2.1 := by decide +kernel
theorem tyJ3_ok : ∀ k, k < 0 → parseFieldDescriptor (TJ3 k).2.2.1 = some (tyJ3 k) := by decide +kernel
abbrev cJ3_checkIndex_8e157 : ByteArray := prog_18_method_11_code
def yJ3_checkIndex_8e157 : MethodName := ⟨RJ3, "checkIndex", "(IILjava/util/function/BiFunction;)I"⟩
def RL : String := "RiverChoiceLaw"
abbrev cL_law : ByteArray := code
def yL_law : MethodName := ⟨RL, "law", "([I)Z"⟩
abbrev vwCl : List vw_C := [(RX0, TX0, 7), (RX1, TX1, 3), (RX2, TX2, 3), (RX3, TX3, 5), (RX4, TX4, 9), (RX5, TX5, 1), (RX6, TX6, 3), (RX7, TX7, 2), (RX8, TX8, 14), (RX9, TX9, 20)]
end
section
/-! THE MINI LAYER: the heap as a list of cells by place; places from 1000 on are cells that nobody writes (static arrays, String constants). -/
abbrev mj_C : Type := (Nat × vp_A) ⊕ (Nat × List Value)
abbrev mj_H : Type := List mj_C
/-- a method: its name, code, how many locals, what it returns, its room, its instructions by place -/
abbrev mj_M : Type := MethodName × ByteArray × Nat × Option FieldType × Room × List (Nat × Instr × Nat)
def mj_G : List Cond := lw_tbl.filter goodWord
def mj_isN : Cond → Bool
  | .fieldLinkNest .. => true
  | .methodLinkNest .. => true
  | _ => false
def mj_N : List Cond := lw_tbl.filter mj_isN
theorem mj_inG {w : Cond} (i : Nat) (h : lw_tbl[i]? = some w) (hg : goodWord w = true) : w ∈ mj_G := List.mem_filter.mpr ⟨List.mem_of_getElem? h, hg⟩
theorem mj_inN {w : Cond} (i : Nat) (h : lw_tbl[i]? = some w) (hg : mj_isN w = true) : w ∈ mj_N := List.mem_filter.mpr ⟨List.mem_of_getElem? h, hg⟩
def mj_v (ad : Nat → Nat) (v : Value) : Value := match v with
  | .ref k => .ref (ad k)
  | w => w
theorem mj_v_cat (ad : Nat → Nat) (v : Value) : (mj_v ad v).category = v.category := by cases v <;> rfl
def mj_c (cy : Nat → ClassId) (ad : Nat → Nat) (c : mj_C) : va_E := match c with
  | .inl a => .inl (cy a.1, a.2)
  | .inr o => .inr (o.1, o.2.map (mj_v ad))
def mj_w (cy : Nat → ClassId) (ad : Nat → Nat) (h : mj_H) : va_W := h.mapIdx (fun k c => (ad k, mj_c cy ad c))
def mj_l (ad : Nat → Nat) (l : List (Nat × Value)) : List (Nat × Value) := l.map (fun q => (q.1, mj_v ad q.2))
def mj_cv (n : Nat) (v : Value) : Prop := match v with
  | .ref k => k < n ∨ 1000 ≤ k
  | _ => True
def mj_cc (n : Nat) (c : mj_C) : Prop := match c with
  | .inl _ => True
  | .inr o => ∀ v ∈ o.2, mj_cv n v
def mj_ch (h : mj_H) : Prop := h.length ≤ 1000 ∧ ∀ c ∈ h, mj_cc h.length c
def mj_ty (cy : Nat → ClassId) : List (ClassId × FieldType) := [(cy 0, .int), (cy 1, .long), (cy 2, .boolean)]
theorem mj_cv_mono {n k : Nat} (h : n ≤ k) {v : Value} (hv : mj_cv n v) : mj_cv k v := by
  cases v <;> simp only [mj_cv] at hv ⊢
  exact hv.elim (fun q => Or.inl (Nat.lt_of_lt_of_le q h)) Or.inr
theorem mj_cc_mono {n k : Nat} (h : n ≤ k) {c : mj_C} (hc : mj_cc n c) : mj_cc k c := by
  cases c with
  | inl a => trivial
  | inr o => exact fun v hv => mj_cv_mono h (hc v hv)
theorem mj_w_get (cy : Nat → ClassId) (ad : Nat → Nat) {h : mj_H} {k : Nat} {c : mj_C} (hc : h[k]? = some c) : (mj_w cy ad h)[k]? = some (ad k, mj_c cy ad c) := by
  simp [mj_w, List.getElem?_mapIdx, hc]
theorem mj_w_len (cy : Nat → ClassId) (ad : Nat → Nat) (h : mj_H) : (mj_w cy ad h).length = h.length := by simp [mj_w]
theorem mj_w_set (cy : Nat → ClassId) (ad : Nat → Nat) (h : mj_H) (k : Nat) (c : mj_C) : (mj_w cy ad h).set k (ad k, mj_c cy ad c) = mj_w cy ad (h.set k c) := by
  apply List.ext_getElem?
  intro i
  simp only [mj_w, List.getElem?_set, List.getElem?_mapIdx, List.length_mapIdx]
  by_cases hi : k = i
  · subst hi
    by_cases hl : k < h.length <;> simp [hl]
  · simp [hi]
/-- two valuations agree where a world of n cells reaches -/
def mj_ag (n : Nat) (a b : Nat → Nat) : Prop := ∀ k : Nat, k < n ∨ 1000 ≤ k → b k = a k
theorem mj_ag.rf (n : Nat) (a : Nat → Nat) : mj_ag n a a := fun _ _ => rfl
theorem mj_ag.tr {n m : Nat} {a b c : Nat → Nat} (h : mj_ag n a b) (h2 : mj_ag m b c) (hm : n ≤ m) : mj_ag n a c := fun k hk => (h2 k (by omega)).trans (h k hk)
theorem mj_v_ag {n : Nat} {a b : Nat → Nat} (h : mj_ag n a b) {v : Value} (hv : mj_cv n v) : mj_v b v = mj_v a v := by
  cases v <;> simp only [mj_v, mj_cv] at hv ⊢
  rw [h _ hv]
theorem mj_c_ag {cy : Nat → ClassId} {n : Nat} {a b : Nat → Nat} (h : mj_ag n a b) {c : mj_C} (hc : mj_cc n c) : mj_c cy b c = mj_c cy a c := by
  cases c with
  | inl x => rfl
  | inr o =>
    simp only [mj_c]
    congr 2
    exact List.map_congr_left fun v hv => mj_v_ag h (hc v hv)
theorem mj_l_ag {n : Nat} {a b : Nat → Nat} (h : mj_ag n a b) {l : List (Nat × Value)} (hl : ∀ q ∈ l, mj_cv n q.2) : mj_l b l = mj_l a l := by
  simp only [mj_l]
  exact List.map_congr_left fun q hq => by rw [mj_v_ag h (hl q hq)]
theorem mj_s_ag {n : Nat} {a b : Nat → Nat} (h : mj_ag n a b) {l : List Value} (hl : ∀ q ∈ l, mj_cv n q) : l.map (mj_v b) = l.map (mj_v a) :=
  List.map_congr_left fun q hq => mj_v_ag h (hl q hq)
theorem mj_w_ag {cy : Nat → ClassId} {a b : Nat → Nat} {h : mj_H} (hab : mj_ag h.length a b) (hc : ∀ c ∈ h, mj_cc h.length c) : mj_w cy b h = mj_w cy a h := by
  apply List.ext_getElem?
  intro i
  simp only [mj_w, List.getElem?_mapIdx]
  cases hi : h[i]? with
  | none => rfl
  | some c =>
    have hl : i < h.length := (List.getElem?_eq_some_iff.mp hi).1
    simp only [Option.map_some]
    rw [hab i (Or.inl hl), mj_c_ag hab (hc c (List.mem_of_getElem? hi))]
theorem mj_w_push (cy : Nat → ClassId) {ad : Nat → Nat} {h : mj_H} (q : Nat) {c : mj_C} (hh : mj_ch h) (hl : h.length < 1000) (hc : mj_cc h.length c) :
    mj_w cy ad h ++ [(q, mj_c cy ad c)] = mj_w cy (va_up ad h.length q) (h ++ [c]) ∧ mj_ag h.length ad (va_up ad h.length q) := by
  have hag : mj_ag h.length ad (va_up ad h.length q) := fun k hk => va_up_ne _ _ (by omega)
  refine ⟨?_, hag⟩
  have h1 : mj_w cy (va_up ad h.length q) (h ++ [c]) = mj_w cy (va_up ad h.length q) h ++ [(q, mj_c cy (va_up ad h.length q) c)] := by
    simp only [mj_w, List.mapIdx_append, List.mapIdx_cons, List.mapIdx_nil, Nat.zero_add]
    rw [va_up_self]
  rw [h1, mj_w_ag hag hh.2, mj_c_ag hag hc]
theorem mj_ch_set {h : mj_H} (hh : mj_ch h) (k : Nat) {c : mj_C} (hc : mj_cc h.length c) : mj_ch (h.set k c) := by
  refine ⟨by simpa using hh.1, fun x hx => ?_⟩
  rw [List.length_set]
  rcases List.mem_or_eq_of_mem_set hx with h1 | h1
  · exact hh.2 x h1
  · rw [h1]; exact hc
theorem mj_ch_push {h : mj_H} (hh : mj_ch h) (hl : h.length < 1000) {c : mj_C} (hc : mj_cc h.length c) : mj_ch (h ++ [c]) := by
  refine ⟨by simp; omega, fun x hx => ?_⟩
  have : h.length ≤ (h ++ [c]).length := by simp
  rcases List.mem_append.mp hx with h1 | h1
  · exact mj_cc_mono this (hh.2 x h1)
  · rw [List.mem_singleton.mp h1]; exact mj_cc_mono this hc
/-! what nobody writes -/
def mj_roI (k j : Nat) : Int32 := (([[6, 5, 4, 6, 9, 8, 7, 10, 3, 2, 1, 2, 3, 2, 1, 1, 4, 10, 9, 11, 3, 2, 1, 0], [2, 5, 3], [1, 6, 2, 2, 1]] : List (List Int32)).getD k []).getD j 0
def mj_roN (k : Nat) : Nat := ([24, 3, 5] : List Nat).getD k 0
def mj_strs : List (List Int32) := [[109, 117, 115, 116, 101, 114], [109, 97, 110], [119, 111, 114, 110], [112, 97, 105, 114], [119, 111, 114, 100]]
def mj_lens : List Nat := [6, 3, 4, 4, 4]
def mj_keys : List (Nat × String) := [(99, "muster"), (105, "man"), (107, "worn"), (109, "pair"), (111, "word")]
def mj_stat : List (String × String × Nat) := [("RiverChoice", "CASES", 0), ("RiverChoice", "COSTS", 1), ("RiverChoice$Reader", "NEEDS", 2)]
def mj_R (ad : Nat → Nat) (A : Nat → Prop) (U : State) (H : Heap) : Prop :=
  (∀ q ∈ mj_stat, va_Z q.1 q.2.1 "[I" (.ref (ad (1000 + q.2.2))) A U H ∧ va_T .int (ad (1000 + q.2.2)) (mj_roN q.2.2) (fun j => .int (mj_roI q.2.2 j)) A U H) ∧
  va_Z "java/lang/String" "COMPACT_STRINGS" "Z" (.int 1) A U H ∧ va_Zq "jdk/internal/util/Preconditions" "SIOOBE_FORMATTER" "Ljava/util/function/BiFunction;" A U H ∧
  vk_S 5 mj_lens mj_strs (fun i => ad (1010 + i)) (fun i => ad (1020 + i)) A U H ∧ ∀ (i : Nat) (q : Nat × String), mj_keys[i]? = some q → vk_R "RiverChoice$Reader" q.1 q.2 (ad (1010 + i)) U
theorem mj_R.warm {ad : Nat → Nat} {A B : Nat → Prop} {s U : State} {H H1 : Heap} (h : mj_R ad A s H) (hW : s.WarmedH U.vm) (hq : ∀ a : Nat, a < H.size → ¬ A a → H1[a]? = H[a]?) (hAB : ∀ q, B q → A q) : mj_R ad B U H1 := by
  obtain ⟨h1, h2, h3, h4, h5⟩ := h
  have ha := hW.alike
  exact ⟨fun q hm => ⟨(((h1 q hm).1.moved ha).kept hq).narrow hAB, (((h1 q hm).2.moved ha).kept hq).narrow hAB⟩, ((h2.moved ha).kept hq).narrow hAB, ((h3.moved ha).kept hq).narrow hAB, ((h4.moved ha).kept hq).narrow hAB, fun i q hi => (h5 i q hi).warm hW⟩
theorem mj_R.same {ad : Nat → Nat} {A : Nat → Prop} {s U : State} {H : Heap} (h : mj_R ad A s H) (hv : U.vm = s.vm) : mj_R ad A U H := by
  obtain ⟨h1, h2, h3, h4, h5⟩ := h
  have ha : s.vm.Alike U.vm := by rw [hv]; exact Vm.Alike.refl _
  exact ⟨fun q hm => ⟨(h1 q hm).1.moved ha, (h1 q hm).2.moved ha⟩, h2.moved ha, h3.moved ha, h4.moved ha, fun i q hi => (h5 i q hi).same hv⟩
theorem mj_R.ag {ad ad' : Nat → Nat} {n : Nat} {A : Nat → Prop} {s : State} {H : Heap} (h : mj_R ad A s H) (hg : mj_ag n ad ad') : mj_R ad' A s H := by
  have e : ∀ k, 1000 ≤ k → ad' k = ad k := fun k hk => hg k (Or.inr hk)
  obtain ⟨h1, h2, h3, h4, h5⟩ := h
  refine ⟨fun q hm => by rw [e _ (by omega)]; exact h1 q hm, h2, h3, ?_, fun i q hi => by rw [e _ (by omega)]; exact h5 i q hi⟩
  have e1 : (fun i => ad' (1010 + i)) = fun i => ad (1010 + i) := funext fun i => e _ (by omega)
  have e2 : (fun i => ad' (1020 + i)) = fun i => ad (1020 + i) := funext fun i => e _ (by omega)
  rw [e1, e2]; exact h4
theorem mj_N.warm {s U : State} (hW : s.WarmedH U.vm) (h : ∀ w ∈ mj_N, va_Nw w s) : ∀ w ∈ mj_N, va_Nw w U := by
  intro w hw
  have h1 := h w hw
  have h2 := (List.mem_filter.mp hw).2
  cases w <;> first | (simp [mj_isN] at h2; done) | exact va_Nw.warmF hW h1 | exact va_Nw.warmM hW h1
theorem mj_N.same {s U : State} (hv : U.vm = s.vm) (h : ∀ w ∈ mj_N, va_Nw w s) : ∀ w ∈ mj_N, va_Nw w U := by
  intro w hw
  have h1 := h w hw
  have h2 := (List.mem_filter.mp hw).2
  cases w <;> first | (simp [mj_isN] at h2; done) | exact va_Nw.same rfl hv.symm h1
/-! the judgement -/
def mj_CX (M : mj_M) (p : Program) (s : State) (m : MethodId) (args : Array Value) (meth : Method) (c : Code) : Prop :=
  p.tables.exec = Jvm.exec ∧ c.code = M.2.1 ∧ c.maxLocals = M.2.2.1 ∧ meth.sig.returnType = M.2.2.2.1 ∧ s.vm.findClass M.1.cls = some m.cls ∧ (∀ w ∈ mj_G, w.before args s = true) ∧ meth.locks = false ∧ meth.name = M.1.name ∧ (∀ w ∈ mj_N, va_Nw w s) ∧ ∀ q ∈ M.2.2.2.2.2, decode M.2.1 q.1 = .ok q.2
def mj_I (dC : Nat → ClassId) (dI : Nat → Nat → Nat) (cy : Nat → ClassId) (A : Nat → Prop) (s : State) (ad : Nat → Nat) (h : mj_H) (H : Heap) (locs : List Loc) : Prop :=
  va_K (dC, dI) vwCl (mj_ty cy) s ∧ (∀ q, s.heap.size ≤ q → A q) ∧ mj_R ad A s s.heap ∧ va_P (dC, dI) vwCl (mj_w cy ad h) H ∧ va_D A (mj_w cy ad h) ∧ va_S A s.heap H locs ∧ mj_ch h
def mj_ret (M : mj_M) (pc : Nat) (r : Option Value) : Prop := match r with
  | none => decode M.2.1 pc = .ok (.return_, 1) ∧ M.2.2.2.1 = none
  | some (.int x) => decode M.2.1 pc = .ok (.ireturn, 1) ∧ ∃ ty, M.2.2.2.1 = some ty ∧ narrow ty (.int x) = .int x
  | some (.long _) => decode M.2.1 pc = .ok (.lreturn, 1) ∧ M.2.2.2.1 = some .long
  | some (.ref _) => decode M.2.1 pc = .ok (.areturn, 1) ∧ ∃ n, M.2.2.2.1 = some (.object n)
  | _ => False
def mj_cr (n : Nat) (r : Option Value) : Prop := ∀ v, r = some v → mj_cv n v
/-- what the end must be, and what else is known of the start -/
abbrev mj_F : Type := (Option Value → mj_H → Prop) × (State → (Nat → Prop) → (Nat → Nat) → Prop)
def mj_W (M : mj_M) (Fin : mj_F) (pc : Nat) (l : List (Nat × Value)) (st : List Value) (h : mj_H) (k n : Nat) : Prop :=
  ∀ (p : Program) (lc : Launch) (e : Env) (s : State) (m : MethodId) (args : Array Value) (below : List Frame) (meth : Method) (c : Code) (H : Heap) (locs : List Loc) (ls : Array Slot) (A : Nat → Prop) (Q : State → Prop) (dC : Nat → ClassId) (dI : Nat → Nat → Nat) (cy : Nat → ClassId) (ad ad0 : Nat → Nat) (n0 : Nat),
    mj_CX M p s m args meth c → mj_I dC dI cy A s ad h H locs → lv_has ls M.2.2.1 (mj_l ad l) → (∀ q ∈ l, mj_cv h.length q.2) → (∀ v ∈ st, mj_cv h.length v) → mj_ag n0 ad0 ad → n0 ≤ h.length → Fin.2 s A ad0 →
    (∀ (pc : Nat) (H : Heap) (locs : List Loc) (ls : Array Slot) (ad : Nat → Nat) (h : mj_H) (r : Option Value) (k n : Nat), mj_I dC dI cy A s ad h H locs → mj_ag n0 ad0 ad → n0 ≤ h.length → mj_cr h.length r → Fin.1 r h → mj_ret M pc r → ls.size = M.2.2.1 → k ≤ M.2.2.2.2.1.cells → n ≤ M.2.2.2.2.1.slots →
      W p lc e M.2.2.2.2.1 s m args below meth c H locs k n Q (F0 m pc ls ((r.map (mj_v ad)).toList))) →
    W p lc e M.2.2.2.2.1 s m args below meth c H locs k n Q (F0 m pc ls (st.map (mj_v ad)))
end
section
/-! the pure instructions, by an evaluator -/
def mj_lk : List (Nat × Value) → Nat → Option Value
  | [], _ => none
  | (j, v) :: r, i => match Nat.beq j i with
    | true => some v
    | false => mj_lk r i
def mj_s1 (l : List (Nat × Value)) (i : Nat) (v : Value) : List (Nat × Value) := (i, v) :: l.filter (fun q => !(q.1 == i) && !(q.1 + 1 == i && q.2.category == 2))
def mj_s2 (l : List (Nat × Value)) (i : Nat) (v : Value) : List (Nat × Value) := (i, v) :: l.filter (fun q => !(q.1 == i) && (!(q.1 == i + 1) && !(q.1 + 1 == i && q.2.category == 2)))
theorem mj_lk_mem : ∀ (l : List (Nat × Value)) (i : Nat) (v : Value), mj_lk l i = some v → (i, v) ∈ l
  | [], _, _, h => by cases h
  | (j, w) :: r, i, v, h => by
    unfold mj_lk at h
    split at h
    next e => cases h; rw [Nat.eq_of_beq_eq_true e]; exact List.mem_cons_self
    next e => exact List.mem_cons_of_mem _ (mj_lk_mem r i v h)
theorem mj_lk_real {l : List (Nat × Value)} {i : Nat} {v : Value} (h : mj_lk l i = some v) (ad : Nat → Nat) : (i, mj_v ad v) ∈ mj_l ad l := List.mem_map.mpr ⟨(i, v), mj_lk_mem l i v h, rfl⟩
theorem mj_lk_at {ls : Array Slot} {nL : Nat} {l : List (Nat × Value)} {ad : Nat → Nat} (hl : lv_has ls nL (mj_l ad l)) {i : Nat} {v : Value} (h : mj_lk l i = some v) : ls[i]? = some (.val (mj_v ad v)) := hl.2.2 _ (mj_lk_real h ad)
theorem mj_lk_c {l : List (Nat × Value)} {i n : Nat} {v : Value} (h : mj_lk l i = some v) (hc : ∀ q ∈ l, mj_cv n q.2) : mj_cv n v := hc _ (mj_lk_mem l i v h)
theorem mj_s1_real (l : List (Nat × Value)) (i : Nat) (v : Value) (ad : Nat → Nat) : (i, mj_v ad v) :: (mj_l ad l).filter (fun q => !(q.1 == i) && !(q.1 + 1 == i && q.2.category == 2)) = mj_l ad (mj_s1 l i v) := by
  simp only [mj_l, mj_s1, List.map_cons, List.filter_map]
  congr 2
  exact List.filter_congr fun q _ => by simp [mj_v_cat]
theorem mj_s2_real (l : List (Nat × Value)) (i : Nat) (v : Value) (ad : Nat → Nat) : (i, mj_v ad v) :: (mj_l ad l).filter (fun q => !(q.1 == i) && (!(q.1 == i + 1) && !(q.1 + 1 == i && q.2.category == 2))) = mj_l ad (mj_s2 l i v) := by
  simp only [mj_l, mj_s2, List.map_cons, List.filter_map]
  congr 2
  exact List.filter_congr fun q _ => by simp [mj_v_cat]
theorem mj_s1_c {l : List (Nat × Value)} {i n : Nat} {v : Value} (hl : ∀ q ∈ l, mj_cv n q.2) (hv : mj_cv n v) : ∀ q ∈ mj_s1 l i v, mj_cv n q.2 := by
  intro q hq
  rcases List.mem_cons.mp hq with rfl | hq
  · exact hv
  · exact hl q (List.mem_filter.mp hq).1
theorem mj_s2_c {l : List (Nat × Value)} {i n : Nat} {v : Value} (hl : ∀ q ∈ l, mj_cv n q.2) (hv : mj_cv n v) : ∀ q ∈ mj_s2 l i v, mj_cv n q.2 := by
  intro q hq
  rcases List.mem_cons.mp hq with rfl | hq
  · exact hv
  · exact hl q (List.mem_filter.mp hq).1

def mj_ev (kon : List (Nat × Value)) (nL : Nat) (i : Instr) (n pc : Nat) (l : List (Nat × Value)) (st : List Value) : Option (Nat × List (Nat × Value) × List Value) := match i with
  | .iconst z => if n = 1 then some (pc + 1, l, .int (Int32.ofInt z) :: st) else none
  | .bipush z => if n = 2 then some (pc + 2, l, .int (Int8.ofInt z).toInt32 :: st) else none
  | .sipush z => if n = 3 then some (pc + 3, l, .int (Int16.ofInt z).toInt32 :: st) else none
  | .lconst z => if n = 1 then some (pc + 1, l, .long (Int64.ofNat (z : Nat)) :: st) else none
  | .iload_n k => if n = 1 then (match mj_lk l (k : Nat) with
    | some (.int x) => some (pc + 1, l, .int x :: st)
    | _ => none) else none
  | .iload k => if n = 2 then (match mj_lk l k with
    | some (.int x) => some (pc + 2, l, .int x :: st)
    | _ => none) else none
  | .lload_n k => if n = 1 then (match mj_lk l (k : Nat) with
    | some (.long x) => some (pc + 1, l, .long x :: st)
    | _ => none) else none
  | .lload k => if n = 2 then (match mj_lk l k with
    | some (.long x) => some (pc + 2, l, .long x :: st)
    | _ => none) else none
  | .aload_n k => if n = 1 then (match mj_lk l (k : Nat) with
    | some (.ref x) => some (pc + 1, l, .ref x :: st)
    | _ => none) else none
  | .aload k => if n = 2 then (match mj_lk l k with
    | some (.ref x) => some (pc + 2, l, .ref x :: st)
    | _ => none) else none
  | .istore_n k => if n = 1 then (if (k : Nat) < nL then (match st with
    | .int x :: r => some (pc + 1, mj_s1 l (k : Nat) (.int x), r)
    | _ => none) else none) else none
  | .istore k => if n = 2 then (if k < nL then (match st with
    | .int x :: r => some (pc + 2, mj_s1 l k (.int x), r)
    | _ => none) else none) else none
  | .astore_n k => if n = 1 then (if (k : Nat) < nL then (match st with
    | .ref x :: r => some (pc + 1, mj_s1 l (k : Nat) (.ref x), r)
    | _ => none) else none) else none
  | .astore k => if n = 2 then (if k < nL then (match st with
    | .ref x :: r => some (pc + 2, mj_s1 l k (.ref x), r)
    | _ => none) else none) else none
  | .lstore_n k => if n = 1 then (if (k : Nat) + 1 < nL then (match st with
    | .long x :: r => some (pc + 1, mj_s2 l (k : Nat) (.long x), r)
    | _ => none) else none) else none
  | .lstore k => if n = 2 then (if k + 1 < nL then (match st with
    | .long x :: r => some (pc + 2, mj_s2 l k (.long x), r)
    | _ => none) else none) else none
  | .iinc k z => if n = 3 then (if k < nL then (match mj_lk l k with
    | some (.int x) => some (pc + 3, mj_s1 l k (.int (x + Int32.ofInt z)), st)
    | _ => none) else none) else none
  | .iadd => if n = 1 then (match st with
    | .int y :: .int x :: r => some (pc + 1, l, .int (x + y) :: r)
    | _ => none) else none
  | .isub => if n = 1 then (match st with
    | .int y :: .int x :: r => some (pc + 1, l, .int (x - y) :: r)
    | _ => none) else none
  | .imul => if n = 1 then (match st with
    | .int y :: .int x :: r => some (pc + 1, l, .int (x * y) :: r)
    | _ => none) else none
  | .iand => if n = 1 then (match st with
    | .int y :: .int x :: r => some (pc + 1, l, .int (x &&& y) :: r)
    | _ => none) else none
  | .ior => if n = 1 then (match st with
    | .int y :: .int x :: r => some (pc + 1, l, .int (x ||| y) :: r)
    | _ => none) else none
  | .ixor => if n = 1 then (match st with
    | .int y :: .int x :: r => some (pc + 1, l, .int (x ^^^ y) :: r)
    | _ => none) else none
  | .ladd => if n = 1 then (match st with
    | .long y :: .long x :: r => some (pc + 1, l, .long (x + y) :: r)
    | _ => none) else none
  | .lsub => if n = 1 then (match st with
    | .long y :: .long x :: r => some (pc + 1, l, .long (x - y) :: r)
    | _ => none) else none
  | .lmul => if n = 1 then (match st with
    | .long y :: .long x :: r => some (pc + 1, l, .long (x * y) :: r)
    | _ => none) else none
  | .ishl => if n = 1 then (match st with
    | .int y :: .int x :: r => some (pc + 1, l, .int (x <<< (y &&& 31)) :: r)
    | _ => none) else none
  | .ishr => if n = 1 then (match st with
    | .int y :: .int x :: r => some (pc + 1, l, .int (x >>> (y &&& 31)) :: r)
    | _ => none) else none
  | .iushr => if n = 1 then (match st with
    | .int y :: .int x :: r => some (pc + 1, l, .int ((x.toUInt32 >>> (y.toUInt32 &&& Int32.toUInt32 31)).toInt32) :: r)
    | _ => none) else none
  | .i2l => if n = 1 then (match st with
    | .int x :: r => some (pc + 1, l, .long (x.toInt64) :: r)
    | _ => none) else none
  | .l2i => if n = 1 then (match st with
    | .long x :: r => some (pc + 1, l, .int (x.toInt32) :: r)
    | _ => none) else none
  | .i2c => if n = 1 then (match st with
    | .int x :: r => some (pc + 1, l, .int ((x.toUInt32 % 65536).toInt32) :: r)
    | _ => none) else none
  | .ineg => if n = 1 then (match st with
    | .int x :: r => some (pc + 1, l, .int (-x) :: r)
    | _ => none) else none
  | .dup => if n = 1 then (match st with
    | v :: r => if v.category = 1 then some (pc + 1, l, v :: v :: r) else none
    | _ => none) else none
  | .pop => if n = 1 then (match st with
    | v :: r => if v.category = 1 then some (pc + 1, l, r) else none
    | _ => none) else none
  | .pop2 => if n = 1 then (match st with
    | v :: r => if v.category = 2 then some (pc + 1, l, r) else none
    | _ => none) else none
  | .dup2 => if n = 1 then (match st with
    | v :: r => if v.category = 2 then some (pc + 1, l, v :: v :: r) else (match r with
      | w :: q => if w.category = 1 then some (pc + 1, l, v :: w :: v :: w :: q) else none
      | _ => none)
    | _ => none) else none
  | .goto off => if n = 3 then (match ((pc : Int) + off) with
    | .ofNat t => some (t, l, st)
    | _ => none) else none
  | .ldc k => if n = 2 then (match mj_lk kon k with
    | some (.int x) => some (pc + 2, l, .int x :: st)
    | _ => none) else none
  | .ldc_w k => if n = 3 then (match mj_lk kon k with
    | some (.int x) => some (pc + 3, l, .int x :: st)
    | _ => none) else none
  | .ldc2_w k => if n = 3 then (match mj_lk kon k with
    | some (.long x) => some (pc + 3, l, .long x :: st)
    | _ => none) else none
  | _ => none
theorem mj_e_iconst {p : Program} {lc : Launch} {e : Env} {R : Room} {s : State} {m : MethodId} {args : Array Value} {below : List Frame} {meth : Method} {c : Code} {H : Heap} {locs : List Loc} {cells slots : Nat} {Q : State → Prop} {cc : ByteArray} {ls : Array Slot} {ad : Nat → Nat} {N : Nat} {own : String} {kon : List (Nat × Value)} {nL n pc pc' : Nat} {l l' : List (Nat × Value)} {st st' : List Value} {z : Int} (hx : p.tables.exec = Jvm.exec) (hb : c.code = cc) (hown : s.vm.findClass own = some m.cls) (hkon : ∀ i v, mj_lk kon i = some v → (∃ x, v = .int x ∧ (Jvm.Cond.constant own i x).before args s = true) ∨ ∃ x, v = .long x ∧ (Jvm.Cond.constantLong own i x).before args s = true)
    (hl : lv_has ls nL (mj_l ad l)) (hcl : ∀ q ∈ l, mj_cv N q.2) (hcs : ∀ v ∈ st, mj_cv N v) (hd : decode cc pc = .ok (.iconst z, n)) (h : mj_ev kon nL (.iconst z) n pc l st = some (pc', l', st'))
    (kk : ∀ ls', lv_has ls' nL (mj_l ad l') → (∀ q ∈ l', mj_cv N q.2) → (∀ v ∈ st', mj_cv N v) → W p lc e R s m args below meth c H locs cells slots Q (F0 m pc' ls' (st'.map (mj_v ad)))) : W p lc e R s m args below meth c H locs cells slots Q (F0 m pc ls (st.map (mj_v ad))) := by
  unfold mj_ev at h
  dsimp only at h
  split at h
  next hn =>
    subst hn
    cases h
    exact lv_iconst hx hb hd rfl (kk ls hl hcl (fun v hv => by rcases List.mem_cons.mp hv with rfl | hv; trivial; exact hcs v hv))
  next => cases h

theorem mj_e_bipush {p : Program} {lc : Launch} {e : Env} {R : Room} {s : State} {m : MethodId} {args : Array Value} {below : List Frame} {meth : Method} {c : Code} {H : Heap} {locs : List Loc} {cells slots : Nat} {Q : State → Prop} {cc : ByteArray} {ls : Array Slot} {ad : Nat → Nat} {N : Nat} {own : String} {kon : List (Nat × Value)} {nL n pc pc' : Nat} {l l' : List (Nat × Value)} {st st' : List Value} {z : Int} (hx : p.tables.exec = Jvm.exec) (hb : c.code = cc) (hown : s.vm.findClass own = some m.cls) (hkon : ∀ i v, mj_lk kon i = some v → (∃ x, v = .int x ∧ (Jvm.Cond.constant own i x).before args s = true) ∨ ∃ x, v = .long x ∧ (Jvm.Cond.constantLong own i x).before args s = true)
    (hl : lv_has ls nL (mj_l ad l)) (hcl : ∀ q ∈ l, mj_cv N q.2) (hcs : ∀ v ∈ st, mj_cv N v) (hd : decode cc pc = .ok (.bipush z, n)) (h : mj_ev kon nL (.bipush z) n pc l st = some (pc', l', st'))
    (kk : ∀ ls', lv_has ls' nL (mj_l ad l') → (∀ q ∈ l', mj_cv N q.2) → (∀ v ∈ st', mj_cv N v) → W p lc e R s m args below meth c H locs cells slots Q (F0 m pc' ls' (st'.map (mj_v ad)))) : W p lc e R s m args below meth c H locs cells slots Q (F0 m pc ls (st.map (mj_v ad))) := by
  unfold mj_ev at h
  dsimp only at h
  split at h
  next hn =>
    subst hn
    cases h
    exact lv_bipush hx hb hd rfl (kk ls hl hcl (fun v hv => by rcases List.mem_cons.mp hv with rfl | hv; trivial; exact hcs v hv))
  next => cases h

theorem mj_e_sipush {p : Program} {lc : Launch} {e : Env} {R : Room} {s : State} {m : MethodId} {args : Array Value} {below : List Frame} {meth : Method} {c : Code} {H : Heap} {locs : List Loc} {cells slots : Nat} {Q : State → Prop} {cc : ByteArray} {ls : Array Slot} {ad : Nat → Nat} {N : Nat} {own : String} {kon : List (Nat × Value)} {nL n pc pc' : Nat} {l l' : List (Nat × Value)} {st st' : List Value} {z : Int} (hx : p.tables.exec = Jvm.exec) (hb : c.code = cc) (hown : s.vm.findClass own = some m.cls) (hkon : ∀ i v, mj_lk kon i = some v → (∃ x, v = .int x ∧ (Jvm.Cond.constant own i x).before args s = true) ∨ ∃ x, v = .long x ∧ (Jvm.Cond.constantLong own i x).before args s = true)
    (hl : lv_has ls nL (mj_l ad l)) (hcl : ∀ q ∈ l, mj_cv N q.2) (hcs : ∀ v ∈ st, mj_cv N v) (hd : decode cc pc = .ok (.sipush z, n)) (h : mj_ev kon nL (.sipush z) n pc l st = some (pc', l', st'))
    (kk : ∀ ls', lv_has ls' nL (mj_l ad l') → (∀ q ∈ l', mj_cv N q.2) → (∀ v ∈ st', mj_cv N v) → W p lc e R s m args below meth c H locs cells slots Q (F0 m pc' ls' (st'.map (mj_v ad)))) : W p lc e R s m args below meth c H locs cells slots Q (F0 m pc ls (st.map (mj_v ad))) := by
  unfold mj_ev at h
  dsimp only at h
  split at h
  next hn =>
    subst hn
    cases h
    exact lv_sipush hx hb hd rfl (kk ls hl hcl (fun v hv => by rcases List.mem_cons.mp hv with rfl | hv; trivial; exact hcs v hv))
  next => cases h

theorem mj_e_lconst {p : Program} {lc : Launch} {e : Env} {R : Room} {s : State} {m : MethodId} {args : Array Value} {below : List Frame} {meth : Method} {c : Code} {H : Heap} {locs : List Loc} {cells slots : Nat} {Q : State → Prop} {cc : ByteArray} {ls : Array Slot} {ad : Nat → Nat} {N : Nat} {own : String} {kon : List (Nat × Value)} {nL n pc pc' : Nat} {l l' : List (Nat × Value)} {st st' : List Value} {z : Fin 2} (hx : p.tables.exec = Jvm.exec) (hb : c.code = cc) (hown : s.vm.findClass own = some m.cls) (hkon : ∀ i v, mj_lk kon i = some v → (∃ x, v = .int x ∧ (Jvm.Cond.constant own i x).before args s = true) ∨ ∃ x, v = .long x ∧ (Jvm.Cond.constantLong own i x).before args s = true)
    (hl : lv_has ls nL (mj_l ad l)) (hcl : ∀ q ∈ l, mj_cv N q.2) (hcs : ∀ v ∈ st, mj_cv N v) (hd : decode cc pc = .ok (.lconst z, n)) (h : mj_ev kon nL (.lconst z) n pc l st = some (pc', l', st'))
    (kk : ∀ ls', lv_has ls' nL (mj_l ad l') → (∀ q ∈ l', mj_cv N q.2) → (∀ v ∈ st', mj_cv N v) → W p lc e R s m args below meth c H locs cells slots Q (F0 m pc' ls' (st'.map (mj_v ad)))) : W p lc e R s m args below meth c H locs cells slots Q (F0 m pc ls (st.map (mj_v ad))) := by
  unfold mj_ev at h
  dsimp only at h
  split at h
  next hn =>
    subst hn
    cases h
    exact lv_lconst hx hb hd rfl (kk ls hl hcl (fun v hv => by rcases List.mem_cons.mp hv with rfl | hv; trivial; exact hcs v hv))
  next => cases h

theorem mj_e_iload_n {p : Program} {lc : Launch} {e : Env} {R : Room} {s : State} {m : MethodId} {args : Array Value} {below : List Frame} {meth : Method} {c : Code} {H : Heap} {locs : List Loc} {cells slots : Nat} {Q : State → Prop} {cc : ByteArray} {ls : Array Slot} {ad : Nat → Nat} {N : Nat} {own : String} {kon : List (Nat × Value)} {nL n pc pc' : Nat} {l l' : List (Nat × Value)} {st st' : List Value} {k : Fin 4} (hx : p.tables.exec = Jvm.exec) (hb : c.code = cc) (hown : s.vm.findClass own = some m.cls) (hkon : ∀ i v, mj_lk kon i = some v → (∃ x, v = .int x ∧ (Jvm.Cond.constant own i x).before args s = true) ∨ ∃ x, v = .long x ∧ (Jvm.Cond.constantLong own i x).before args s = true)
    (hl : lv_has ls nL (mj_l ad l)) (hcl : ∀ q ∈ l, mj_cv N q.2) (hcs : ∀ v ∈ st, mj_cv N v) (hd : decode cc pc = .ok (.iload_n k, n)) (h : mj_ev kon nL (.iload_n k) n pc l st = some (pc', l', st'))
    (kk : ∀ ls', lv_has ls' nL (mj_l ad l') → (∀ q ∈ l', mj_cv N q.2) → (∀ v ∈ st', mj_cv N v) → W p lc e R s m args below meth c H locs cells slots Q (F0 m pc' ls' (st'.map (mj_v ad)))) : W p lc e R s m args below meth c H locs cells slots Q (F0 m pc ls (st.map (mj_v ad))) := by
  unfold mj_ev at h
  dsimp only at h
  split at h
  next hn =>
    subst hn
    split at h
    next x hg =>
      cases h
      exact lv_iload_n hx hb hd rfl (mj_lk_at hl hg) (kk ls hl hcl (fun v hv => by rcases List.mem_cons.mp hv with rfl | hv; exact mj_lk_c hg hcl; exact hcs v hv))
    next => cases h
  next => cases h

theorem mj_e_iload {p : Program} {lc : Launch} {e : Env} {R : Room} {s : State} {m : MethodId} {args : Array Value} {below : List Frame} {meth : Method} {c : Code} {H : Heap} {locs : List Loc} {cells slots : Nat} {Q : State → Prop} {cc : ByteArray} {ls : Array Slot} {ad : Nat → Nat} {N : Nat} {own : String} {kon : List (Nat × Value)} {nL n pc pc' : Nat} {l l' : List (Nat × Value)} {st st' : List Value} {k : Nat} (hx : p.tables.exec = Jvm.exec) (hb : c.code = cc) (hown : s.vm.findClass own = some m.cls) (hkon : ∀ i v, mj_lk kon i = some v → (∃ x, v = .int x ∧ (Jvm.Cond.constant own i x).before args s = true) ∨ ∃ x, v = .long x ∧ (Jvm.Cond.constantLong own i x).before args s = true)
    (hl : lv_has ls nL (mj_l ad l)) (hcl : ∀ q ∈ l, mj_cv N q.2) (hcs : ∀ v ∈ st, mj_cv N v) (hd : decode cc pc = .ok (.iload k, n)) (h : mj_ev kon nL (.iload k) n pc l st = some (pc', l', st'))
    (kk : ∀ ls', lv_has ls' nL (mj_l ad l') → (∀ q ∈ l', mj_cv N q.2) → (∀ v ∈ st', mj_cv N v) → W p lc e R s m args below meth c H locs cells slots Q (F0 m pc' ls' (st'.map (mj_v ad)))) : W p lc e R s m args below meth c H locs cells slots Q (F0 m pc ls (st.map (mj_v ad))) := by
  unfold mj_ev at h
  dsimp only at h
  split at h
  next hn =>
    subst hn
    split at h
    next x hg =>
      cases h
      exact lv_iload hx hb hd (mj_lk_at hl hg) (kk ls hl hcl (fun v hv => by rcases List.mem_cons.mp hv with rfl | hv; exact mj_lk_c hg hcl; exact hcs v hv))
    next => cases h
  next => cases h

theorem mj_e_lload_n {p : Program} {lc : Launch} {e : Env} {R : Room} {s : State} {m : MethodId} {args : Array Value} {below : List Frame} {meth : Method} {c : Code} {H : Heap} {locs : List Loc} {cells slots : Nat} {Q : State → Prop} {cc : ByteArray} {ls : Array Slot} {ad : Nat → Nat} {N : Nat} {own : String} {kon : List (Nat × Value)} {nL n pc pc' : Nat} {l l' : List (Nat × Value)} {st st' : List Value} {k : Fin 4} (hx : p.tables.exec = Jvm.exec) (hb : c.code = cc) (hown : s.vm.findClass own = some m.cls) (hkon : ∀ i v, mj_lk kon i = some v → (∃ x, v = .int x ∧ (Jvm.Cond.constant own i x).before args s = true) ∨ ∃ x, v = .long x ∧ (Jvm.Cond.constantLong own i x).before args s = true)
    (hl : lv_has ls nL (mj_l ad l)) (hcl : ∀ q ∈ l, mj_cv N q.2) (hcs : ∀ v ∈ st, mj_cv N v) (hd : decode cc pc = .ok (.lload_n k, n)) (h : mj_ev kon nL (.lload_n k) n pc l st = some (pc', l', st'))
    (kk : ∀ ls', lv_has ls' nL (mj_l ad l') → (∀ q ∈ l', mj_cv N q.2) → (∀ v ∈ st', mj_cv N v) → W p lc e R s m args below meth c H locs cells slots Q (F0 m pc' ls' (st'.map (mj_v ad)))) : W p lc e R s m args below meth c H locs cells slots Q (F0 m pc ls (st.map (mj_v ad))) := by
  unfold mj_ev at h
  dsimp only at h
  split at h
  next hn =>
    subst hn
    split at h
    next x hg =>
      cases h
      exact lv_lload_n hx hb hd rfl (mj_lk_at hl hg) (kk ls hl hcl (fun v hv => by rcases List.mem_cons.mp hv with rfl | hv; exact mj_lk_c hg hcl; exact hcs v hv))
    next => cases h
  next => cases h

theorem mj_e_lload {p : Program} {lc : Launch} {e : Env} {R : Room} {s : State} {m : MethodId} {args : Array Value} {below : List Frame} {meth : Method} {c : Code} {H : Heap} {locs : List Loc} {cells slots : Nat} {Q : State → Prop} {cc : ByteArray} {ls : Array Slot} {ad : Nat → Nat} {N : Nat} {own : String} {kon : List (Nat × Value)} {nL n pc pc' : Nat} {l l' : List (Nat × Value)} {st st' : List Value} {k : Nat} (hx : p.tables.exec = Jvm.exec) (hb : c.code = cc) (hown : s.vm.findClass own = some m.cls) (hkon : ∀ i v, mj_lk kon i = some v → (∃ x, v = .int x ∧ (Jvm.Cond.constant own i x).before args s = true) ∨ ∃ x, v = .long x ∧ (Jvm.Cond.constantLong own i x).before args s = true)
    (hl : lv_has ls nL (mj_l ad l)) (hcl : ∀ q ∈ l, mj_cv N q.2) (hcs : ∀ v ∈ st, mj_cv N v) (hd : decode cc pc = .ok (.lload k, n)) (h : mj_ev kon nL (.lload k) n pc l st = some (pc', l', st'))
    (kk : ∀ ls', lv_has ls' nL (mj_l ad l') → (∀ q ∈ l', mj_cv N q.2) → (∀ v ∈ st', mj_cv N v) → W p lc e R s m args below meth c H locs cells slots Q (F0 m pc' ls' (st'.map (mj_v ad)))) : W p lc e R s m args below meth c H locs cells slots Q (F0 m pc ls (st.map (mj_v ad))) := by
  unfold mj_ev at h
  dsimp only at h
  split at h
  next hn =>
    subst hn
    split at h
    next x hg =>
      cases h
      exact lv_lload hx hb hd (mj_lk_at hl hg) (kk ls hl hcl (fun v hv => by rcases List.mem_cons.mp hv with rfl | hv; exact mj_lk_c hg hcl; exact hcs v hv))
    next => cases h
  next => cases h

theorem mj_e_aload_n {p : Program} {lc : Launch} {e : Env} {R : Room} {s : State} {m : MethodId} {args : Array Value} {below : List Frame} {meth : Method} {c : Code} {H : Heap} {locs : List Loc} {cells slots : Nat} {Q : State → Prop} {cc : ByteArray} {ls : Array Slot} {ad : Nat → Nat} {N : Nat} {own : String} {kon : List (Nat × Value)} {nL n pc pc' : Nat} {l l' : List (Nat × Value)} {st st' : List Value} {k : Fin 4} (hx : p.tables.exec = Jvm.exec) (hb : c.code = cc) (hown : s.vm.findClass own = some m.cls) (hkon : ∀ i v, mj_lk kon i = some v → (∃ x, v = .int x ∧ (Jvm.Cond.constant own i x).before args s = true) ∨ ∃ x, v = .long x ∧ (Jvm.Cond.constantLong own i x).before args s = true)
    (hl : lv_has ls nL (mj_l ad l)) (hcl : ∀ q ∈ l, mj_cv N q.2) (hcs : ∀ v ∈ st, mj_cv N v) (hd : decode cc pc = .ok (.aload_n k, n)) (h : mj_ev kon nL (.aload_n k) n pc l st = some (pc', l', st'))
    (kk : ∀ ls', lv_has ls' nL (mj_l ad l') → (∀ q ∈ l', mj_cv N q.2) → (∀ v ∈ st', mj_cv N v) → W p lc e R s m args below meth c H locs cells slots Q (F0 m pc' ls' (st'.map (mj_v ad)))) : W p lc e R s m args below meth c H locs cells slots Q (F0 m pc ls (st.map (mj_v ad))) := by
  unfold mj_ev at h
  dsimp only at h
  split at h
  next hn =>
    subst hn
    split at h
    next x hg =>
      cases h
      exact lv_aload_n hx hb hd rfl (mj_lk_at hl hg) (kk ls hl hcl (fun v hv => by rcases List.mem_cons.mp hv with rfl | hv; exact mj_lk_c hg hcl; exact hcs v hv))
    next => cases h
  next => cases h

theorem mj_e_aload {p : Program} {lc : Launch} {e : Env} {R : Room} {s : State} {m : MethodId} {args : Array Value} {below : List Frame} {meth : Method} {c : Code} {H : Heap} {locs : List Loc} {cells slots : Nat} {Q : State → Prop} {cc : ByteArray} {ls : Array Slot} {ad : Nat → Nat} {N : Nat} {own : String} {kon : List (Nat × Value)} {nL n pc pc' : Nat} {l l' : List (Nat × Value)} {st st' : List Value} {k : Nat} (hx : p.tables.exec = Jvm.exec) (hb : c.code = cc) (hown : s.vm.findClass own = some m.cls) (hkon : ∀ i v, mj_lk kon i = some v → (∃ x, v = .int x ∧ (Jvm.Cond.constant own i x).before args s = true) ∨ ∃ x, v = .long x ∧ (Jvm.Cond.constantLong own i x).before args s = true)
    (hl : lv_has ls nL (mj_l ad l)) (hcl : ∀ q ∈ l, mj_cv N q.2) (hcs : ∀ v ∈ st, mj_cv N v) (hd : decode cc pc = .ok (.aload k, n)) (h : mj_ev kon nL (.aload k) n pc l st = some (pc', l', st'))
    (kk : ∀ ls', lv_has ls' nL (mj_l ad l') → (∀ q ∈ l', mj_cv N q.2) → (∀ v ∈ st', mj_cv N v) → W p lc e R s m args below meth c H locs cells slots Q (F0 m pc' ls' (st'.map (mj_v ad)))) : W p lc e R s m args below meth c H locs cells slots Q (F0 m pc ls (st.map (mj_v ad))) := by
  unfold mj_ev at h
  dsimp only at h
  split at h
  next hn =>
    subst hn
    split at h
    next x hg =>
      cases h
      exact lv_aload hx hb hd (mj_lk_at hl hg) (kk ls hl hcl (fun v hv => by rcases List.mem_cons.mp hv with rfl | hv; exact mj_lk_c hg hcl; exact hcs v hv))
    next => cases h
  next => cases h

theorem mj_e_istore_n {p : Program} {lc : Launch} {e : Env} {R : Room} {s : State} {m : MethodId} {args : Array Value} {below : List Frame} {meth : Method} {c : Code} {H : Heap} {locs : List Loc} {cells slots : Nat} {Q : State → Prop} {cc : ByteArray} {ls : Array Slot} {ad : Nat → Nat} {N : Nat} {own : String} {kon : List (Nat × Value)} {nL n pc pc' : Nat} {l l' : List (Nat × Value)} {st st' : List Value} {k : Fin 4} (hx : p.tables.exec = Jvm.exec) (hb : c.code = cc) (hown : s.vm.findClass own = some m.cls) (hkon : ∀ i v, mj_lk kon i = some v → (∃ x, v = .int x ∧ (Jvm.Cond.constant own i x).before args s = true) ∨ ∃ x, v = .long x ∧ (Jvm.Cond.constantLong own i x).before args s = true)
    (hl : lv_has ls nL (mj_l ad l)) (hcl : ∀ q ∈ l, mj_cv N q.2) (hcs : ∀ v ∈ st, mj_cv N v) (hd : decode cc pc = .ok (.istore_n k, n)) (h : mj_ev kon nL (.istore_n k) n pc l st = some (pc', l', st'))
    (kk : ∀ ls', lv_has ls' nL (mj_l ad l') → (∀ q ∈ l', mj_cv N q.2) → (∀ v ∈ st', mj_cv N v) → W p lc e R s m args below meth c H locs cells slots Q (F0 m pc' ls' (st'.map (mj_v ad)))) : W p lc e R s m args below meth c H locs cells slots Q (F0 m pc ls (st.map (mj_v ad))) := by
  unfold mj_ev at h
  dsimp only at h
  split at h
  next hn =>
    subst hn
    split at h
    next hb2 =>
      split at h
      next x r =>
        cases h
        have hx0 : mj_cv N (.int x) := hcs _ List.mem_cons_self
        exact lv_istore_n (lv' := mj_l ad (mj_s1 l (k : Nat) (.int x))) hx hb hd rfl hl hb2 (mj_s1_real l (k : Nat) (.int x) ad) (fun ls' hl' => kk ls' hl' (mj_s1_c hcl hx0) (fun v hv => hcs v (List.mem_cons_of_mem _ hv)))
      next => cases h
    next => cases h
  next => cases h

theorem mj_e_istore {p : Program} {lc : Launch} {e : Env} {R : Room} {s : State} {m : MethodId} {args : Array Value} {below : List Frame} {meth : Method} {c : Code} {H : Heap} {locs : List Loc} {cells slots : Nat} {Q : State → Prop} {cc : ByteArray} {ls : Array Slot} {ad : Nat → Nat} {N : Nat} {own : String} {kon : List (Nat × Value)} {nL n pc pc' : Nat} {l l' : List (Nat × Value)} {st st' : List Value} {k : Nat} (hx : p.tables.exec = Jvm.exec) (hb : c.code = cc) (hown : s.vm.findClass own = some m.cls) (hkon : ∀ i v, mj_lk kon i = some v → (∃ x, v = .int x ∧ (Jvm.Cond.constant own i x).before args s = true) ∨ ∃ x, v = .long x ∧ (Jvm.Cond.constantLong own i x).before args s = true)
    (hl : lv_has ls nL (mj_l ad l)) (hcl : ∀ q ∈ l, mj_cv N q.2) (hcs : ∀ v ∈ st, mj_cv N v) (hd : decode cc pc = .ok (.istore k, n)) (h : mj_ev kon nL (.istore k) n pc l st = some (pc', l', st'))
    (kk : ∀ ls', lv_has ls' nL (mj_l ad l') → (∀ q ∈ l', mj_cv N q.2) → (∀ v ∈ st', mj_cv N v) → W p lc e R s m args below meth c H locs cells slots Q (F0 m pc' ls' (st'.map (mj_v ad)))) : W p lc e R s m args below meth c H locs cells slots Q (F0 m pc ls (st.map (mj_v ad))) := by
  unfold mj_ev at h
  dsimp only at h
  split at h
  next hn =>
    subst hn
    split at h
    next hb2 =>
      split at h
      next x r =>
        cases h
        have hx0 : mj_cv N (.int x) := hcs _ List.mem_cons_self
        exact lv_istore (lv' := mj_l ad (mj_s1 l k (.int x))) hx hb hd hl hb2 (mj_s1_real l k (.int x) ad) (fun ls' hl' => kk ls' hl' (mj_s1_c hcl hx0) (fun v hv => hcs v (List.mem_cons_of_mem _ hv)))
      next => cases h
    next => cases h
  next => cases h

theorem mj_e_astore_n {p : Program} {lc : Launch} {e : Env} {R : Room} {s : State} {m : MethodId} {args : Array Value} {below : List Frame} {meth : Method} {c : Code} {H : Heap} {locs : List Loc} {cells slots : Nat} {Q : State → Prop} {cc : ByteArray} {ls : Array Slot} {ad : Nat → Nat} {N : Nat} {own : String} {kon : List (Nat × Value)} {nL n pc pc' : Nat} {l l' : List (Nat × Value)} {st st' : List Value} {k : Fin 4} (hx : p.tables.exec = Jvm.exec) (hb : c.code = cc) (hown : s.vm.findClass own = some m.cls) (hkon : ∀ i v, mj_lk kon i = some v → (∃ x, v = .int x ∧ (Jvm.Cond.constant own i x).before args s = true) ∨ ∃ x, v = .long x ∧ (Jvm.Cond.constantLong own i x).before args s = true)
    (hl : lv_has ls nL (mj_l ad l)) (hcl : ∀ q ∈ l, mj_cv N q.2) (hcs : ∀ v ∈ st, mj_cv N v) (hd : decode cc pc = .ok (.astore_n k, n)) (h : mj_ev kon nL (.astore_n k) n pc l st = some (pc', l', st'))
    (kk : ∀ ls', lv_has ls' nL (mj_l ad l') → (∀ q ∈ l', mj_cv N q.2) → (∀ v ∈ st', mj_cv N v) → W p lc e R s m args below meth c H locs cells slots Q (F0 m pc' ls' (st'.map (mj_v ad)))) : W p lc e R s m args below meth c H locs cells slots Q (F0 m pc ls (st.map (mj_v ad))) := by
  unfold mj_ev at h
  dsimp only at h
  split at h
  next hn =>
    subst hn
    split at h
    next hb2 =>
      split at h
      next x r =>
        cases h
        have hx0 : mj_cv N (.ref x) := hcs _ List.mem_cons_self
        exact lv_astore_n (lv' := mj_l ad (mj_s1 l (k : Nat) (.ref x))) hx hb hd rfl hl hb2 (mj_s1_real l (k : Nat) (.ref x) ad) (fun ls' hl' => kk ls' hl' (mj_s1_c hcl hx0) (fun v hv => hcs v (List.mem_cons_of_mem _ hv)))
      next => cases h
    next => cases h
  next => cases h

theorem mj_e_astore {p : Program} {lc : Launch} {e : Env} {R : Room} {s : State} {m : MethodId} {args : Array Value} {below : List Frame} {meth : Method} {c : Code} {H : Heap} {locs : List Loc} {cells slots : Nat} {Q : State → Prop} {cc : ByteArray} {ls : Array Slot} {ad : Nat → Nat} {N : Nat} {own : String} {kon : List (Nat × Value)} {nL n pc pc' : Nat} {l l' : List (Nat × Value)} {st st' : List Value} {k : Nat} (hx : p.tables.exec = Jvm.exec) (hb : c.code = cc) (hown : s.vm.findClass own = some m.cls) (hkon : ∀ i v, mj_lk kon i = some v → (∃ x, v = .int x ∧ (Jvm.Cond.constant own i x).before args s = true) ∨ ∃ x, v = .long x ∧ (Jvm.Cond.constantLong own i x).before args s = true)
    (hl : lv_has ls nL (mj_l ad l)) (hcl : ∀ q ∈ l, mj_cv N q.2) (hcs : ∀ v ∈ st, mj_cv N v) (hd : decode cc pc = .ok (.astore k, n)) (h : mj_ev kon nL (.astore k) n pc l st = some (pc', l', st'))
    (kk : ∀ ls', lv_has ls' nL (mj_l ad l') → (∀ q ∈ l', mj_cv N q.2) → (∀ v ∈ st', mj_cv N v) → W p lc e R s m args below meth c H locs cells slots Q (F0 m pc' ls' (st'.map (mj_v ad)))) : W p lc e R s m args below meth c H locs cells slots Q (F0 m pc ls (st.map (mj_v ad))) := by
  unfold mj_ev at h
  dsimp only at h
  split at h
  next hn =>
    subst hn
    split at h
    next hb2 =>
      split at h
      next x r =>
        cases h
        have hx0 : mj_cv N (.ref x) := hcs _ List.mem_cons_self
        exact lv_astore (lv' := mj_l ad (mj_s1 l k (.ref x))) hx hb hd hl hb2 (mj_s1_real l k (.ref x) ad) (fun ls' hl' => kk ls' hl' (mj_s1_c hcl hx0) (fun v hv => hcs v (List.mem_cons_of_mem _ hv)))
      next => cases h
    next => cases h
  next => cases h

theorem mj_e_lstore_n {p : Program} {lc : Launch} {e : Env} {R : Room} {s : State} {m : MethodId} {args : Array Value} {below : List Frame} {meth : Method} {c : Code} {H : Heap} {locs : List Loc} {cells slots : Nat} {Q : State → Prop} {cc : ByteArray} {ls : Array Slot} {ad : Nat → Nat} {N : Nat} {own : String} {kon : List (Nat × Value)} {nL n pc pc' : Nat} {l l' : List (Nat × Value)} {st st' : List Value} {k : Fin 4} (hx : p.tables.exec = Jvm.exec) (hb : c.code = cc) (hown : s.vm.findClass own = some m.cls) (hkon : ∀ i v, mj_lk kon i = some v → (∃ x, v = .int x ∧ (Jvm.Cond.constant own i x).before args s = true) ∨ ∃ x, v = .long x ∧ (Jvm.Cond.constantLong own i x).before args s = true)
    (hl : lv_has ls nL (mj_l ad l)) (hcl : ∀ q ∈ l, mj_cv N q.2) (hcs : ∀ v ∈ st, mj_cv N v) (hd : decode cc pc = .ok (.lstore_n k, n)) (h : mj_ev kon nL (.lstore_n k) n pc l st = some (pc', l', st'))
    (kk : ∀ ls', lv_has ls' nL (mj_l ad l') → (∀ q ∈ l', mj_cv N q.2) → (∀ v ∈ st', mj_cv N v) → W p lc e R s m args below meth c H locs cells slots Q (F0 m pc' ls' (st'.map (mj_v ad)))) : W p lc e R s m args below meth c H locs cells slots Q (F0 m pc ls (st.map (mj_v ad))) := by
  unfold mj_ev at h
  dsimp only at h
  split at h
  next hn =>
    subst hn
    split at h
    next hb2 =>
      split at h
      next x r =>
        cases h
        have hx0 : mj_cv N (.long x) := hcs _ List.mem_cons_self
        exact lv_lstore_n (lv' := mj_l ad (mj_s2 l (k : Nat) (.long x))) hx hb hd rfl hl hb2 (mj_s2_real l (k : Nat) (.long x) ad) (fun ls' hl' => kk ls' hl' (mj_s2_c hcl hx0) (fun v hv => hcs v (List.mem_cons_of_mem _ hv)))
      next => cases h
    next => cases h
  next => cases h

theorem mj_e_lstore {p : Program} {lc : Launch} {e : Env} {R : Room} {s : State} {m : MethodId} {args : Array Value} {below : List Frame} {meth : Method} {c : Code} {H : Heap} {locs : List Loc} {cells slots : Nat} {Q : State → Prop} {cc : ByteArray} {ls : Array Slot} {ad : Nat → Nat} {N : Nat} {own : String} {kon : List (Nat × Value)} {nL n pc pc' : Nat} {l l' : List (Nat × Value)} {st st' : List Value} {k : Nat} (hx : p.tables.exec = Jvm.exec) (hb : c.code = cc) (hown : s.vm.findClass own = some m.cls) (hkon : ∀ i v, mj_lk kon i = some v → (∃ x, v = .int x ∧ (Jvm.Cond.constant own i x).before args s = true) ∨ ∃ x, v = .long x ∧ (Jvm.Cond.constantLong own i x).before args s = true)
    (hl : lv_has ls nL (mj_l ad l)) (hcl : ∀ q ∈ l, mj_cv N q.2) (hcs : ∀ v ∈ st, mj_cv N v) (hd : decode cc pc = .ok (.lstore k, n)) (h : mj_ev kon nL (.lstore k) n pc l st = some (pc', l', st'))
    (kk : ∀ ls', lv_has ls' nL (mj_l ad l') → (∀ q ∈ l', mj_cv N q.2) → (∀ v ∈ st', mj_cv N v) → W p lc e R s m args below meth c H locs cells slots Q (F0 m pc' ls' (st'.map (mj_v ad)))) : W p lc e R s m args below meth c H locs cells slots Q (F0 m pc ls (st.map (mj_v ad))) := by
  unfold mj_ev at h
  dsimp only at h
  split at h
  next hn =>
    subst hn
    split at h
    next hb2 =>
      split at h
      next x r =>
        cases h
        have hx0 : mj_cv N (.long x) := hcs _ List.mem_cons_self
        exact lv_lstore (lv' := mj_l ad (mj_s2 l k (.long x))) hx hb hd hl hb2 (mj_s2_real l k (.long x) ad) (fun ls' hl' => kk ls' hl' (mj_s2_c hcl hx0) (fun v hv => hcs v (List.mem_cons_of_mem _ hv)))
      next => cases h
    next => cases h
  next => cases h

theorem mj_e_iinc {p : Program} {lc : Launch} {e : Env} {R : Room} {s : State} {m : MethodId} {args : Array Value} {below : List Frame} {meth : Method} {c : Code} {H : Heap} {locs : List Loc} {cells slots : Nat} {Q : State → Prop} {cc : ByteArray} {ls : Array Slot} {ad : Nat → Nat} {N : Nat} {own : String} {kon : List (Nat × Value)} {nL n pc pc' : Nat} {l l' : List (Nat × Value)} {st st' : List Value} {k : Nat} {z : Int} (hx : p.tables.exec = Jvm.exec) (hb : c.code = cc) (hown : s.vm.findClass own = some m.cls) (hkon : ∀ i v, mj_lk kon i = some v → (∃ x, v = .int x ∧ (Jvm.Cond.constant own i x).before args s = true) ∨ ∃ x, v = .long x ∧ (Jvm.Cond.constantLong own i x).before args s = true)
    (hl : lv_has ls nL (mj_l ad l)) (hcl : ∀ q ∈ l, mj_cv N q.2) (hcs : ∀ v ∈ st, mj_cv N v) (hd : decode cc pc = .ok (.iinc k z, n)) (h : mj_ev kon nL (.iinc k z) n pc l st = some (pc', l', st'))
    (kk : ∀ ls', lv_has ls' nL (mj_l ad l') → (∀ q ∈ l', mj_cv N q.2) → (∀ v ∈ st', mj_cv N v) → W p lc e R s m args below meth c H locs cells slots Q (F0 m pc' ls' (st'.map (mj_v ad)))) : W p lc e R s m args below meth c H locs cells slots Q (F0 m pc ls (st.map (mj_v ad))) := by
  unfold mj_ev at h
  dsimp only at h
  split at h
  next hn =>
    subst hn
    split at h
    next hb2 =>
      split at h
      next x hg =>
        cases h
        obtain ⟨j, hj⟩ := List.mem_iff_getElem?.mp (mj_lk_real hg ad)
        exact lv_iinc (k := j) (x := x) (v := x + Int32.ofInt z) (lv' := mj_l ad (mj_s1 l k (.int (x + Int32.ofInt z)))) hx hb hd hl hj rfl hb2 (mj_s1_real l k (.int (x + Int32.ofInt z)) ad) (fun ls' hl' => kk ls' hl' (mj_s1_c hcl trivial) hcs)
      next => cases h
    next => cases h
  next => cases h

theorem mj_e_iadd {p : Program} {lc : Launch} {e : Env} {R : Room} {s : State} {m : MethodId} {args : Array Value} {below : List Frame} {meth : Method} {c : Code} {H : Heap} {locs : List Loc} {cells slots : Nat} {Q : State → Prop} {cc : ByteArray} {ls : Array Slot} {ad : Nat → Nat} {N : Nat} {own : String} {kon : List (Nat × Value)} {nL n pc pc' : Nat} {l l' : List (Nat × Value)} {st st' : List Value} (hx : p.tables.exec = Jvm.exec) (hb : c.code = cc) (hown : s.vm.findClass own = some m.cls) (hkon : ∀ i v, mj_lk kon i = some v → (∃ x, v = .int x ∧ (Jvm.Cond.constant own i x).before args s = true) ∨ ∃ x, v = .long x ∧ (Jvm.Cond.constantLong own i x).before args s = true)
    (hl : lv_has ls nL (mj_l ad l)) (hcl : ∀ q ∈ l, mj_cv N q.2) (hcs : ∀ v ∈ st, mj_cv N v) (hd : decode cc pc = .ok (.iadd, n)) (h : mj_ev kon nL (.iadd) n pc l st = some (pc', l', st'))
    (kk : ∀ ls', lv_has ls' nL (mj_l ad l') → (∀ q ∈ l', mj_cv N q.2) → (∀ v ∈ st', mj_cv N v) → W p lc e R s m args below meth c H locs cells slots Q (F0 m pc' ls' (st'.map (mj_v ad)))) : W p lc e R s m args below meth c H locs cells slots Q (F0 m pc ls (st.map (mj_v ad))) := by
  unfold mj_ev at h
  dsimp only at h
  split at h
  next hn =>
    subst hn
    split at h
    next y x r =>
      cases h
      exact lv_iadd hx hb hd (kk ls hl hcl (fun v hv => by rcases List.mem_cons.mp hv with rfl | hv; trivial; exact hcs v (List.mem_cons_of_mem _ (List.mem_cons_of_mem _ hv))))
    next => cases h
  next => cases h

theorem mj_e_isub {p : Program} {lc : Launch} {e : Env} {R : Room} {s : State} {m : MethodId} {args : Array Value} {below : List Frame} {meth : Method} {c : Code} {H : Heap} {locs : List Loc} {cells slots : Nat} {Q : State → Prop} {cc : ByteArray} {ls : Array Slot} {ad : Nat → Nat} {N : Nat} {own : String} {kon : List (Nat × Value)} {nL n pc pc' : Nat} {l l' : List (Nat × Value)} {st st' : List Value} (hx : p.tables.exec = Jvm.exec) (hb : c.code = cc) (hown : s.vm.findClass own = some m.cls) (hkon : ∀ i v, mj_lk kon i = some v → (∃ x, v = .int x ∧ (Jvm.Cond.constant own i x).before args s = true) ∨ ∃ x, v = .long x ∧ (Jvm.Cond.constantLong own i x).before args s = true)
    (hl : lv_has ls nL (mj_l ad l)) (hcl : ∀ q ∈ l, mj_cv N q.2) (hcs : ∀ v ∈ st, mj_cv N v) (hd : decode cc pc = .ok (.isub, n)) (h : mj_ev kon nL (.isub) n pc l st = some (pc', l', st'))
    (kk : ∀ ls', lv_has ls' nL (mj_l ad l') → (∀ q ∈ l', mj_cv N q.2) → (∀ v ∈ st', mj_cv N v) → W p lc e R s m args below meth c H locs cells slots Q (F0 m pc' ls' (st'.map (mj_v ad)))) : W p lc e R s m args below meth c H locs cells slots Q (F0 m pc ls (st.map (mj_v ad))) := by
  unfold mj_ev at h
  dsimp only at h
  split at h
  next hn =>
    subst hn
    split at h
    next y x r =>
      cases h
      exact lv_isub hx hb hd (kk ls hl hcl (fun v hv => by rcases List.mem_cons.mp hv with rfl | hv; trivial; exact hcs v (List.mem_cons_of_mem _ (List.mem_cons_of_mem _ hv))))
    next => cases h
  next => cases h

theorem mj_e_imul {p : Program} {lc : Launch} {e : Env} {R : Room} {s : State} {m : MethodId} {args : Array Value} {below : List Frame} {meth : Method} {c : Code} {H : Heap} {locs : List Loc} {cells slots : Nat} {Q : State → Prop} {cc : ByteArray} {ls : Array Slot} {ad : Nat → Nat} {N : Nat} {own : String} {kon : List (Nat × Value)} {nL n pc pc' : Nat} {l l' : List (Nat × Value)} {st st' : List Value} (hx : p.tables.exec = Jvm.exec) (hb : c.code = cc) (hown : s.vm.findClass own = some m.cls) (hkon : ∀ i v, mj_lk kon i = some v → (∃ x, v = .int x ∧ (Jvm.Cond.constant own i x).before args s = true) ∨ ∃ x, v = .long x ∧ (Jvm.Cond.constantLong own i x).before args s = true)
    (hl : lv_has ls nL (mj_l ad l)) (hcl : ∀ q ∈ l, mj_cv N q.2) (hcs : ∀ v ∈ st, mj_cv N v) (hd : decode cc pc = .ok (.imul, n)) (h : mj_ev kon nL (.imul) n pc l st = some (pc', l', st'))
    (kk : ∀ ls', lv_has ls' nL (mj_l ad l') → (∀ q ∈ l', mj_cv N q.2) → (∀ v ∈ st', mj_cv N v) → W p lc e R s m args below meth c H locs cells slots Q (F0 m pc' ls' (st'.map (mj_v ad)))) : W p lc e R s m args below meth c H locs cells slots Q (F0 m pc ls (st.map (mj_v ad))) := by
  unfold mj_ev at h
  dsimp only at h
  split at h
  next hn =>
    subst hn
    split at h
    next y x r =>
      cases h
      exact lv_imul hx hb hd (kk ls hl hcl (fun v hv => by rcases List.mem_cons.mp hv with rfl | hv; trivial; exact hcs v (List.mem_cons_of_mem _ (List.mem_cons_of_mem _ hv))))
    next => cases h
  next => cases h

theorem mj_e_iand {p : Program} {lc : Launch} {e : Env} {R : Room} {s : State} {m : MethodId} {args : Array Value} {below : List Frame} {meth : Method} {c : Code} {H : Heap} {locs : List Loc} {cells slots : Nat} {Q : State → Prop} {cc : ByteArray} {ls : Array Slot} {ad : Nat → Nat} {N : Nat} {own : String} {kon : List (Nat × Value)} {nL n pc pc' : Nat} {l l' : List (Nat × Value)} {st st' : List Value} (hx : p.tables.exec = Jvm.exec) (hb : c.code = cc) (hown : s.vm.findClass own = some m.cls) (hkon : ∀ i v, mj_lk kon i = some v → (∃ x, v = .int x ∧ (Jvm.Cond.constant own i x).before args s = true) ∨ ∃ x, v = .long x ∧ (Jvm.Cond.constantLong own i x).before args s = true)
    (hl : lv_has ls nL (mj_l ad l)) (hcl : ∀ q ∈ l, mj_cv N q.2) (hcs : ∀ v ∈ st, mj_cv N v) (hd : decode cc pc = .ok (.iand, n)) (h : mj_ev kon nL (.iand) n pc l st = some (pc', l', st'))
    (kk : ∀ ls', lv_has ls' nL (mj_l ad l') → (∀ q ∈ l', mj_cv N q.2) → (∀ v ∈ st', mj_cv N v) → W p lc e R s m args below meth c H locs cells slots Q (F0 m pc' ls' (st'.map (mj_v ad)))) : W p lc e R s m args below meth c H locs cells slots Q (F0 m pc ls (st.map (mj_v ad))) := by
  unfold mj_ev at h
  dsimp only at h
  split at h
  next hn =>
    subst hn
    split at h
    next y x r =>
      cases h
      exact lv_iand hx hb hd (kk ls hl hcl (fun v hv => by rcases List.mem_cons.mp hv with rfl | hv; trivial; exact hcs v (List.mem_cons_of_mem _ (List.mem_cons_of_mem _ hv))))
    next => cases h
  next => cases h

theorem mj_e_ior {p : Program} {lc : Launch} {e : Env} {R : Room} {s : State} {m : MethodId} {args : Array Value} {below : List Frame} {meth : Method} {c : Code} {H : Heap} {locs : List Loc} {cells slots : Nat} {Q : State → Prop} {cc : ByteArray} {ls : Array Slot} {ad : Nat → Nat} {N : Nat} {own : String} {kon : List (Nat × Value)} {nL n pc pc' : Nat} {l l' : List (Nat × Value)} {st st' : List Value} (hx : p.tables.exec = Jvm.exec) (hb : c.code = cc) (hown : s.vm.findClass own = some m.cls) (hkon : ∀ i v, mj_lk kon i = some v → (∃ x, v = .int x ∧ (Jvm.Cond.constant own i x).before args s = true) ∨ ∃ x, v = .long x ∧ (Jvm.Cond.constantLong own i x).before args s = true)
    (hl : lv_has ls nL (mj_l ad l)) (hcl : ∀ q ∈ l, mj_cv N q.2) (hcs : ∀ v ∈ st, mj_cv N v) (hd : decode cc pc = .ok (.ior, n)) (h : mj_ev kon nL (.ior) n pc l st = some (pc', l', st'))
    (kk : ∀ ls', lv_has ls' nL (mj_l ad l') → (∀ q ∈ l', mj_cv N q.2) → (∀ v ∈ st', mj_cv N v) → W p lc e R s m args below meth c H locs cells slots Q (F0 m pc' ls' (st'.map (mj_v ad)))) : W p lc e R s m args below meth c H locs cells slots Q (F0 m pc ls (st.map (mj_v ad))) := by
  unfold mj_ev at h
  dsimp only at h
  split at h
  next hn =>
    subst hn
    split at h
    next y x r =>
      cases h
      exact lv_ior hx hb hd (kk ls hl hcl (fun v hv => by rcases List.mem_cons.mp hv with rfl | hv; trivial; exact hcs v (List.mem_cons_of_mem _ (List.mem_cons_of_mem _ hv))))
    next => cases h
  next => cases h

theorem mj_e_ixor {p : Program} {lc : Launch} {e : Env} {R : Room} {s : State} {m : MethodId} {args : Array Value} {below : List Frame} {meth : Method} {c : Code} {H : Heap} {locs : List Loc} {cells slots : Nat} {Q : State → Prop} {cc : ByteArray} {ls : Array Slot} {ad : Nat → Nat} {N : Nat} {own : String} {kon : List (Nat × Value)} {nL n pc pc' : Nat} {l l' : List (Nat × Value)} {st st' : List Value} (hx : p.tables.exec = Jvm.exec) (hb : c.code = cc) (hown : s.vm.findClass own = some m.cls) (hkon : ∀ i v, mj_lk kon i = some v → (∃ x, v = .int x ∧ (Jvm.Cond.constant own i x).before args s = true) ∨ ∃ x, v = .long x ∧ (Jvm.Cond.constantLong own i x).before args s = true)
    (hl : lv_has ls nL (mj_l ad l)) (hcl : ∀ q ∈ l, mj_cv N q.2) (hcs : ∀ v ∈ st, mj_cv N v) (hd : decode cc pc = .ok (.ixor, n)) (h : mj_ev kon nL (.ixor) n pc l st = some (pc', l', st'))
    (kk : ∀ ls', lv_has ls' nL (mj_l ad l') → (∀ q ∈ l', mj_cv N q.2) → (∀ v ∈ st', mj_cv N v) → W p lc e R s m args below meth c H locs cells slots Q (F0 m pc' ls' (st'.map (mj_v ad)))) : W p lc e R s m args below meth c H locs cells slots Q (F0 m pc ls (st.map (mj_v ad))) := by
  unfold mj_ev at h
  dsimp only at h
  split at h
  next hn =>
    subst hn
    split at h
    next y x r =>
      cases h
      exact lv_ixor hx hb hd (kk ls hl hcl (fun v hv => by rcases List.mem_cons.mp hv with rfl | hv; trivial; exact hcs v (List.mem_cons_of_mem _ (List.mem_cons_of_mem _ hv))))
    next => cases h
  next => cases h

theorem mj_e_ladd {p : Program} {lc : Launch} {e : Env} {R : Room} {s : State} {m : MethodId} {args : Array Value} {below : List Frame} {meth : Method} {c : Code} {H : Heap} {locs : List Loc} {cells slots : Nat} {Q : State → Prop} {cc : ByteArray} {ls : Array Slot} {ad : Nat → Nat} {N : Nat} {own : String} {kon : List (Nat × Value)} {nL n pc pc' : Nat} {l l' : List (Nat × Value)} {st st' : List Value} (hx : p.tables.exec = Jvm.exec) (hb : c.code = cc) (hown : s.vm.findClass own = some m.cls) (hkon : ∀ i v, mj_lk kon i = some v → (∃ x, v = .int x ∧ (Jvm.Cond.constant own i x).before args s = true) ∨ ∃ x, v = .long x ∧ (Jvm.Cond.constantLong own i x).before args s = true)
    (hl : lv_has ls nL (mj_l ad l)) (hcl : ∀ q ∈ l, mj_cv N q.2) (hcs : ∀ v ∈ st, mj_cv N v) (hd : decode cc pc = .ok (.ladd, n)) (h : mj_ev kon nL (.ladd) n pc l st = some (pc', l', st'))
    (kk : ∀ ls', lv_has ls' nL (mj_l ad l') → (∀ q ∈ l', mj_cv N q.2) → (∀ v ∈ st', mj_cv N v) → W p lc e R s m args below meth c H locs cells slots Q (F0 m pc' ls' (st'.map (mj_v ad)))) : W p lc e R s m args below meth c H locs cells slots Q (F0 m pc ls (st.map (mj_v ad))) := by
  unfold mj_ev at h
  dsimp only at h
  split at h
  next hn =>
    subst hn
    split at h
    next y x r =>
      cases h
      exact lv_ladd hx hb hd (kk ls hl hcl (fun v hv => by rcases List.mem_cons.mp hv with rfl | hv; trivial; exact hcs v (List.mem_cons_of_mem _ (List.mem_cons_of_mem _ hv))))
    next => cases h
  next => cases h

theorem mj_e_lsub {p : Program} {lc : Launch} {e : Env} {R : Room} {s : State} {m : MethodId} {args : Array Value} {below : List Frame} {meth : Method} {c : Code} {H : Heap} {locs : List Loc} {cells slots : Nat} {Q : State → Prop} {cc : ByteArray} {ls : Array Slot} {ad : Nat → Nat} {N : Nat} {own : String} {kon : List (Nat × Value)} {nL n pc pc' : Nat} {l l' : List (Nat × Value)} {st st' : List Value} (hx : p.tables.exec = Jvm.exec) (hb : c.code = cc) (hown : s.vm.findClass own = some m.cls) (hkon : ∀ i v, mj_lk kon i = some v → (∃ x, v = .int x ∧ (Jvm.Cond.constant own i x).before args s = true) ∨ ∃ x, v = .long x ∧ (Jvm.Cond.constantLong own i x).before args s = true)
    (hl : lv_has ls nL (mj_l ad l)) (hcl : ∀ q ∈ l, mj_cv N q.2) (hcs : ∀ v ∈ st, mj_cv N v) (hd : decode cc pc = .ok (.lsub, n)) (h : mj_ev kon nL (.lsub) n pc l st = some (pc', l', st'))
    (kk : ∀ ls', lv_has ls' nL (mj_l ad l') → (∀ q ∈ l', mj_cv N q.2) → (∀ v ∈ st', mj_cv N v) → W p lc e R s m args below meth c H locs cells slots Q (F0 m pc' ls' (st'.map (mj_v ad)))) : W p lc e R s m args below meth c H locs cells slots Q (F0 m pc ls (st.map (mj_v ad))) := by
  unfold mj_ev at h
  dsimp only at h
  split at h
  next hn =>
    subst hn
    split at h
    next y x r =>
      cases h
      exact lv_lsub hx hb hd (kk ls hl hcl (fun v hv => by rcases List.mem_cons.mp hv with rfl | hv; trivial; exact hcs v (List.mem_cons_of_mem _ (List.mem_cons_of_mem _ hv))))
    next => cases h
  next => cases h

theorem mj_e_lmul {p : Program} {lc : Launch} {e : Env} {R : Room} {s : State} {m : MethodId} {args : Array Value} {below : List Frame} {meth : Method} {c : Code} {H : Heap} {locs : List Loc} {cells slots : Nat} {Q : State → Prop} {cc : ByteArray} {ls : Array Slot} {ad : Nat → Nat} {N : Nat} {own : String} {kon : List (Nat × Value)} {nL n pc pc' : Nat} {l l' : List (Nat × Value)} {st st' : List Value} (hx : p.tables.exec = Jvm.exec) (hb : c.code = cc) (hown : s.vm.findClass own = some m.cls) (hkon : ∀ i v, mj_lk kon i = some v → (∃ x, v = .int x ∧ (Jvm.Cond.constant own i x).before args s = true) ∨ ∃ x, v = .long x ∧ (Jvm.Cond.constantLong own i x).before args s = true)
    (hl : lv_has ls nL (mj_l ad l)) (hcl : ∀ q ∈ l, mj_cv N q.2) (hcs : ∀ v ∈ st, mj_cv N v) (hd : decode cc pc = .ok (.lmul, n)) (h : mj_ev kon nL (.lmul) n pc l st = some (pc', l', st'))
    (kk : ∀ ls', lv_has ls' nL (mj_l ad l') → (∀ q ∈ l', mj_cv N q.2) → (∀ v ∈ st', mj_cv N v) → W p lc e R s m args below meth c H locs cells slots Q (F0 m pc' ls' (st'.map (mj_v ad)))) : W p lc e R s m args below meth c H locs cells slots Q (F0 m pc ls (st.map (mj_v ad))) := by
  unfold mj_ev at h
  dsimp only at h
  split at h
  next hn =>
    subst hn
    split at h
    next y x r =>
      cases h
      exact lv_lmul hx hb hd (kk ls hl hcl (fun v hv => by rcases List.mem_cons.mp hv with rfl | hv; trivial; exact hcs v (List.mem_cons_of_mem _ (List.mem_cons_of_mem _ hv))))
    next => cases h
  next => cases h

theorem mj_e_ishl {p : Program} {lc : Launch} {e : Env} {R : Room} {s : State} {m : MethodId} {args : Array Value} {below : List Frame} {meth : Method} {c : Code} {H : Heap} {locs : List Loc} {cells slots : Nat} {Q : State → Prop} {cc : ByteArray} {ls : Array Slot} {ad : Nat → Nat} {N : Nat} {own : String} {kon : List (Nat × Value)} {nL n pc pc' : Nat} {l l' : List (Nat × Value)} {st st' : List Value} (hx : p.tables.exec = Jvm.exec) (hb : c.code = cc) (hown : s.vm.findClass own = some m.cls) (hkon : ∀ i v, mj_lk kon i = some v → (∃ x, v = .int x ∧ (Jvm.Cond.constant own i x).before args s = true) ∨ ∃ x, v = .long x ∧ (Jvm.Cond.constantLong own i x).before args s = true)
    (hl : lv_has ls nL (mj_l ad l)) (hcl : ∀ q ∈ l, mj_cv N q.2) (hcs : ∀ v ∈ st, mj_cv N v) (hd : decode cc pc = .ok (.ishl, n)) (h : mj_ev kon nL (.ishl) n pc l st = some (pc', l', st'))
    (kk : ∀ ls', lv_has ls' nL (mj_l ad l') → (∀ q ∈ l', mj_cv N q.2) → (∀ v ∈ st', mj_cv N v) → W p lc e R s m args below meth c H locs cells slots Q (F0 m pc' ls' (st'.map (mj_v ad)))) : W p lc e R s m args below meth c H locs cells slots Q (F0 m pc ls (st.map (mj_v ad))) := by
  unfold mj_ev at h
  dsimp only at h
  split at h
  next hn =>
    subst hn
    split at h
    next y x r =>
      cases h
      exact lv_ishl hx hb hd (kk ls hl hcl (fun v hv => by rcases List.mem_cons.mp hv with rfl | hv; trivial; exact hcs v (List.mem_cons_of_mem _ (List.mem_cons_of_mem _ hv))))
    next => cases h
  next => cases h

theorem mj_e_ishr {p : Program} {lc : Launch} {e : Env} {R : Room} {s : State} {m : MethodId} {args : Array Value} {below : List Frame} {meth : Method} {c : Code} {H : Heap} {locs : List Loc} {cells slots : Nat} {Q : State → Prop} {cc : ByteArray} {ls : Array Slot} {ad : Nat → Nat} {N : Nat} {own : String} {kon : List (Nat × Value)} {nL n pc pc' : Nat} {l l' : List (Nat × Value)} {st st' : List Value} (hx : p.tables.exec = Jvm.exec) (hb : c.code = cc) (hown : s.vm.findClass own = some m.cls) (hkon : ∀ i v, mj_lk kon i = some v → (∃ x, v = .int x ∧ (Jvm.Cond.constant own i x).before args s = true) ∨ ∃ x, v = .long x ∧ (Jvm.Cond.constantLong own i x).before args s = true)
    (hl : lv_has ls nL (mj_l ad l)) (hcl : ∀ q ∈ l, mj_cv N q.2) (hcs : ∀ v ∈ st, mj_cv N v) (hd : decode cc pc = .ok (.ishr, n)) (h : mj_ev kon nL (.ishr) n pc l st = some (pc', l', st'))
    (kk : ∀ ls', lv_has ls' nL (mj_l ad l') → (∀ q ∈ l', mj_cv N q.2) → (∀ v ∈ st', mj_cv N v) → W p lc e R s m args below meth c H locs cells slots Q (F0 m pc' ls' (st'.map (mj_v ad)))) : W p lc e R s m args below meth c H locs cells slots Q (F0 m pc ls (st.map (mj_v ad))) := by
  unfold mj_ev at h
  dsimp only at h
  split at h
  next hn =>
    subst hn
    split at h
    next y x r =>
      cases h
      exact lv_ishr hx hb hd (kk ls hl hcl (fun v hv => by rcases List.mem_cons.mp hv with rfl | hv; trivial; exact hcs v (List.mem_cons_of_mem _ (List.mem_cons_of_mem _ hv))))
    next => cases h
  next => cases h

theorem mj_e_iushr {p : Program} {lc : Launch} {e : Env} {R : Room} {s : State} {m : MethodId} {args : Array Value} {below : List Frame} {meth : Method} {c : Code} {H : Heap} {locs : List Loc} {cells slots : Nat} {Q : State → Prop} {cc : ByteArray} {ls : Array Slot} {ad : Nat → Nat} {N : Nat} {own : String} {kon : List (Nat × Value)} {nL n pc pc' : Nat} {l l' : List (Nat × Value)} {st st' : List Value} (hx : p.tables.exec = Jvm.exec) (hb : c.code = cc) (hown : s.vm.findClass own = some m.cls) (hkon : ∀ i v, mj_lk kon i = some v → (∃ x, v = .int x ∧ (Jvm.Cond.constant own i x).before args s = true) ∨ ∃ x, v = .long x ∧ (Jvm.Cond.constantLong own i x).before args s = true)
    (hl : lv_has ls nL (mj_l ad l)) (hcl : ∀ q ∈ l, mj_cv N q.2) (hcs : ∀ v ∈ st, mj_cv N v) (hd : decode cc pc = .ok (.iushr, n)) (h : mj_ev kon nL (.iushr) n pc l st = some (pc', l', st'))
    (kk : ∀ ls', lv_has ls' nL (mj_l ad l') → (∀ q ∈ l', mj_cv N q.2) → (∀ v ∈ st', mj_cv N v) → W p lc e R s m args below meth c H locs cells slots Q (F0 m pc' ls' (st'.map (mj_v ad)))) : W p lc e R s m args below meth c H locs cells slots Q (F0 m pc ls (st.map (mj_v ad))) := by
  unfold mj_ev at h
  dsimp only at h
  split at h
  next hn =>
    subst hn
    split at h
    next y x r =>
      cases h
      exact lv_iushr hx hb hd rfl (kk ls hl hcl (fun v hv => by rcases List.mem_cons.mp hv with rfl | hv; trivial; exact hcs v (List.mem_cons_of_mem _ (List.mem_cons_of_mem _ hv))))
    next => cases h
  next => cases h

theorem mj_e_i2l {p : Program} {lc : Launch} {e : Env} {R : Room} {s : State} {m : MethodId} {args : Array Value} {below : List Frame} {meth : Method} {c : Code} {H : Heap} {locs : List Loc} {cells slots : Nat} {Q : State → Prop} {cc : ByteArray} {ls : Array Slot} {ad : Nat → Nat} {N : Nat} {own : String} {kon : List (Nat × Value)} {nL n pc pc' : Nat} {l l' : List (Nat × Value)} {st st' : List Value} (hx : p.tables.exec = Jvm.exec) (hb : c.code = cc) (hown : s.vm.findClass own = some m.cls) (hkon : ∀ i v, mj_lk kon i = some v → (∃ x, v = .int x ∧ (Jvm.Cond.constant own i x).before args s = true) ∨ ∃ x, v = .long x ∧ (Jvm.Cond.constantLong own i x).before args s = true)
    (hl : lv_has ls nL (mj_l ad l)) (hcl : ∀ q ∈ l, mj_cv N q.2) (hcs : ∀ v ∈ st, mj_cv N v) (hd : decode cc pc = .ok (.i2l, n)) (h : mj_ev kon nL (.i2l) n pc l st = some (pc', l', st'))
    (kk : ∀ ls', lv_has ls' nL (mj_l ad l') → (∀ q ∈ l', mj_cv N q.2) → (∀ v ∈ st', mj_cv N v) → W p lc e R s m args below meth c H locs cells slots Q (F0 m pc' ls' (st'.map (mj_v ad)))) : W p lc e R s m args below meth c H locs cells slots Q (F0 m pc ls (st.map (mj_v ad))) := by
  unfold mj_ev at h
  dsimp only at h
  split at h
  next hn =>
    subst hn
    split at h
    next x r =>
      cases h
      exact lv_i2l hx hb hd rfl (kk ls hl hcl (fun v hv => by rcases List.mem_cons.mp hv with rfl | hv; trivial; exact hcs v (List.mem_cons_of_mem _ hv)))
    next => cases h
  next => cases h

theorem mj_e_l2i {p : Program} {lc : Launch} {e : Env} {R : Room} {s : State} {m : MethodId} {args : Array Value} {below : List Frame} {meth : Method} {c : Code} {H : Heap} {locs : List Loc} {cells slots : Nat} {Q : State → Prop} {cc : ByteArray} {ls : Array Slot} {ad : Nat → Nat} {N : Nat} {own : String} {kon : List (Nat × Value)} {nL n pc pc' : Nat} {l l' : List (Nat × Value)} {st st' : List Value} (hx : p.tables.exec = Jvm.exec) (hb : c.code = cc) (hown : s.vm.findClass own = some m.cls) (hkon : ∀ i v, mj_lk kon i = some v → (∃ x, v = .int x ∧ (Jvm.Cond.constant own i x).before args s = true) ∨ ∃ x, v = .long x ∧ (Jvm.Cond.constantLong own i x).before args s = true)
    (hl : lv_has ls nL (mj_l ad l)) (hcl : ∀ q ∈ l, mj_cv N q.2) (hcs : ∀ v ∈ st, mj_cv N v) (hd : decode cc pc = .ok (.l2i, n)) (h : mj_ev kon nL (.l2i) n pc l st = some (pc', l', st'))
    (kk : ∀ ls', lv_has ls' nL (mj_l ad l') → (∀ q ∈ l', mj_cv N q.2) → (∀ v ∈ st', mj_cv N v) → W p lc e R s m args below meth c H locs cells slots Q (F0 m pc' ls' (st'.map (mj_v ad)))) : W p lc e R s m args below meth c H locs cells slots Q (F0 m pc ls (st.map (mj_v ad))) := by
  unfold mj_ev at h
  dsimp only at h
  split at h
  next hn =>
    subst hn
    split at h
    next x r =>
      cases h
      exact lv_l2i hx hb hd rfl (kk ls hl hcl (fun v hv => by rcases List.mem_cons.mp hv with rfl | hv; trivial; exact hcs v (List.mem_cons_of_mem _ hv)))
    next => cases h
  next => cases h

theorem mj_e_i2c {p : Program} {lc : Launch} {e : Env} {R : Room} {s : State} {m : MethodId} {args : Array Value} {below : List Frame} {meth : Method} {c : Code} {H : Heap} {locs : List Loc} {cells slots : Nat} {Q : State → Prop} {cc : ByteArray} {ls : Array Slot} {ad : Nat → Nat} {N : Nat} {own : String} {kon : List (Nat × Value)} {nL n pc pc' : Nat} {l l' : List (Nat × Value)} {st st' : List Value} (hx : p.tables.exec = Jvm.exec) (hb : c.code = cc) (hown : s.vm.findClass own = some m.cls) (hkon : ∀ i v, mj_lk kon i = some v → (∃ x, v = .int x ∧ (Jvm.Cond.constant own i x).before args s = true) ∨ ∃ x, v = .long x ∧ (Jvm.Cond.constantLong own i x).before args s = true)
    (hl : lv_has ls nL (mj_l ad l)) (hcl : ∀ q ∈ l, mj_cv N q.2) (hcs : ∀ v ∈ st, mj_cv N v) (hd : decode cc pc = .ok (.i2c, n)) (h : mj_ev kon nL (.i2c) n pc l st = some (pc', l', st'))
    (kk : ∀ ls', lv_has ls' nL (mj_l ad l') → (∀ q ∈ l', mj_cv N q.2) → (∀ v ∈ st', mj_cv N v) → W p lc e R s m args below meth c H locs cells slots Q (F0 m pc' ls' (st'.map (mj_v ad)))) : W p lc e R s m args below meth c H locs cells slots Q (F0 m pc ls (st.map (mj_v ad))) := by
  unfold mj_ev at h
  dsimp only at h
  split at h
  next hn =>
    subst hn
    split at h
    next x r =>
      cases h
      exact lv_i2c hx hb hd rfl (kk ls hl hcl (fun v hv => by rcases List.mem_cons.mp hv with rfl | hv; trivial; exact hcs v (List.mem_cons_of_mem _ hv)))
    next => cases h
  next => cases h

theorem mj_e_ineg {p : Program} {lc : Launch} {e : Env} {R : Room} {s : State} {m : MethodId} {args : Array Value} {below : List Frame} {meth : Method} {c : Code} {H : Heap} {locs : List Loc} {cells slots : Nat} {Q : State → Prop} {cc : ByteArray} {ls : Array Slot} {ad : Nat → Nat} {N : Nat} {own : String} {kon : List (Nat × Value)} {nL n pc pc' : Nat} {l l' : List (Nat × Value)} {st st' : List Value} (hx : p.tables.exec = Jvm.exec) (hb : c.code = cc) (hown : s.vm.findClass own = some m.cls) (hkon : ∀ i v, mj_lk kon i = some v → (∃ x, v = .int x ∧ (Jvm.Cond.constant own i x).before args s = true) ∨ ∃ x, v = .long x ∧ (Jvm.Cond.constantLong own i x).before args s = true)
    (hl : lv_has ls nL (mj_l ad l)) (hcl : ∀ q ∈ l, mj_cv N q.2) (hcs : ∀ v ∈ st, mj_cv N v) (hd : decode cc pc = .ok (.ineg, n)) (h : mj_ev kon nL (.ineg) n pc l st = some (pc', l', st'))
    (kk : ∀ ls', lv_has ls' nL (mj_l ad l') → (∀ q ∈ l', mj_cv N q.2) → (∀ v ∈ st', mj_cv N v) → W p lc e R s m args below meth c H locs cells slots Q (F0 m pc' ls' (st'.map (mj_v ad)))) : W p lc e R s m args below meth c H locs cells slots Q (F0 m pc ls (st.map (mj_v ad))) := by
  unfold mj_ev at h
  dsimp only at h
  split at h
  next hn =>
    subst hn
    split at h
    next x r =>
      cases h
      exact lv_ineg hx hb hd (kk ls hl hcl (fun v hv => by rcases List.mem_cons.mp hv with rfl | hv; trivial; exact hcs v (List.mem_cons_of_mem _ hv)))
    next => cases h
  next => cases h

theorem mj_e_dup {p : Program} {lc : Launch} {e : Env} {R : Room} {s : State} {m : MethodId} {args : Array Value} {below : List Frame} {meth : Method} {c : Code} {H : Heap} {locs : List Loc} {cells slots : Nat} {Q : State → Prop} {cc : ByteArray} {ls : Array Slot} {ad : Nat → Nat} {N : Nat} {own : String} {kon : List (Nat × Value)} {nL n pc pc' : Nat} {l l' : List (Nat × Value)} {st st' : List Value} (hx : p.tables.exec = Jvm.exec) (hb : c.code = cc) (hown : s.vm.findClass own = some m.cls) (hkon : ∀ i v, mj_lk kon i = some v → (∃ x, v = .int x ∧ (Jvm.Cond.constant own i x).before args s = true) ∨ ∃ x, v = .long x ∧ (Jvm.Cond.constantLong own i x).before args s = true)
    (hl : lv_has ls nL (mj_l ad l)) (hcl : ∀ q ∈ l, mj_cv N q.2) (hcs : ∀ v ∈ st, mj_cv N v) (hd : decode cc pc = .ok (.dup, n)) (h : mj_ev kon nL (.dup) n pc l st = some (pc', l', st'))
    (kk : ∀ ls', lv_has ls' nL (mj_l ad l') → (∀ q ∈ l', mj_cv N q.2) → (∀ v ∈ st', mj_cv N v) → W p lc e R s m args below meth c H locs cells slots Q (F0 m pc' ls' (st'.map (mj_v ad)))) : W p lc e R s m args below meth c H locs cells slots Q (F0 m pc ls (st.map (mj_v ad))) := by
  unfold mj_ev at h
  dsimp only at h
  split at h
  next hn =>
    subst hn
    split at h
    next v r =>
      split at h
      next hc1 =>
        cases h
        exact lv_dup hx hb hd (by rw [mj_v_cat]; exact hc1) (kk ls hl hcl (fun w hw => by rcases List.mem_cons.mp hw with rfl | hw; exact hcs _ List.mem_cons_self; exact hcs w hw))
      next => cases h
    next => cases h
  next => cases h

theorem mj_e_pop {p : Program} {lc : Launch} {e : Env} {R : Room} {s : State} {m : MethodId} {args : Array Value} {below : List Frame} {meth : Method} {c : Code} {H : Heap} {locs : List Loc} {cells slots : Nat} {Q : State → Prop} {cc : ByteArray} {ls : Array Slot} {ad : Nat → Nat} {N : Nat} {own : String} {kon : List (Nat × Value)} {nL n pc pc' : Nat} {l l' : List (Nat × Value)} {st st' : List Value} (hx : p.tables.exec = Jvm.exec) (hb : c.code = cc) (hown : s.vm.findClass own = some m.cls) (hkon : ∀ i v, mj_lk kon i = some v → (∃ x, v = .int x ∧ (Jvm.Cond.constant own i x).before args s = true) ∨ ∃ x, v = .long x ∧ (Jvm.Cond.constantLong own i x).before args s = true)
    (hl : lv_has ls nL (mj_l ad l)) (hcl : ∀ q ∈ l, mj_cv N q.2) (hcs : ∀ v ∈ st, mj_cv N v) (hd : decode cc pc = .ok (.pop, n)) (h : mj_ev kon nL (.pop) n pc l st = some (pc', l', st'))
    (kk : ∀ ls', lv_has ls' nL (mj_l ad l') → (∀ q ∈ l', mj_cv N q.2) → (∀ v ∈ st', mj_cv N v) → W p lc e R s m args below meth c H locs cells slots Q (F0 m pc' ls' (st'.map (mj_v ad)))) : W p lc e R s m args below meth c H locs cells slots Q (F0 m pc ls (st.map (mj_v ad))) := by
  unfold mj_ev at h
  dsimp only at h
  split at h
  next hn =>
    subst hn
    split at h
    next v r =>
      split at h
      next hc1 =>
        cases h
        exact lv_pop hx hb hd (by rw [mj_v_cat]; exact hc1) (kk ls hl hcl (fun w hw => hcs w (List.mem_cons_of_mem _ hw)))
      next => cases h
    next => cases h
  next => cases h

theorem mj_e_pop2 {p : Program} {lc : Launch} {e : Env} {R : Room} {s : State} {m : MethodId} {args : Array Value} {below : List Frame} {meth : Method} {c : Code} {H : Heap} {locs : List Loc} {cells slots : Nat} {Q : State → Prop} {cc : ByteArray} {ls : Array Slot} {ad : Nat → Nat} {N : Nat} {own : String} {kon : List (Nat × Value)} {nL n pc pc' : Nat} {l l' : List (Nat × Value)} {st st' : List Value} (hx : p.tables.exec = Jvm.exec) (hb : c.code = cc) (hown : s.vm.findClass own = some m.cls) (hkon : ∀ i v, mj_lk kon i = some v → (∃ x, v = .int x ∧ (Jvm.Cond.constant own i x).before args s = true) ∨ ∃ x, v = .long x ∧ (Jvm.Cond.constantLong own i x).before args s = true)
    (hl : lv_has ls nL (mj_l ad l)) (hcl : ∀ q ∈ l, mj_cv N q.2) (hcs : ∀ v ∈ st, mj_cv N v) (hd : decode cc pc = .ok (.pop2, n)) (h : mj_ev kon nL (.pop2) n pc l st = some (pc', l', st'))
    (kk : ∀ ls', lv_has ls' nL (mj_l ad l') → (∀ q ∈ l', mj_cv N q.2) → (∀ v ∈ st', mj_cv N v) → W p lc e R s m args below meth c H locs cells slots Q (F0 m pc' ls' (st'.map (mj_v ad)))) : W p lc e R s m args below meth c H locs cells slots Q (F0 m pc ls (st.map (mj_v ad))) := by
  unfold mj_ev at h
  dsimp only at h
  split at h
  next hn =>
    subst hn
    split at h
    next v r =>
      split at h
      next hc1 =>
        cases h
        exact lv_pop2_2 hx hb hd (by rw [mj_v_cat]; exact hc1) (kk ls hl hcl (fun w hw => hcs w (List.mem_cons_of_mem _ hw)))
      next => cases h
    next => cases h
  next => cases h

theorem mj_e_dup2 {p : Program} {lc : Launch} {e : Env} {R : Room} {s : State} {m : MethodId} {args : Array Value} {below : List Frame} {meth : Method} {c : Code} {H : Heap} {locs : List Loc} {cells slots : Nat} {Q : State → Prop} {cc : ByteArray} {ls : Array Slot} {ad : Nat → Nat} {N : Nat} {own : String} {kon : List (Nat × Value)} {nL n pc pc' : Nat} {l l' : List (Nat × Value)} {st st' : List Value} (hx : p.tables.exec = Jvm.exec) (hb : c.code = cc) (hown : s.vm.findClass own = some m.cls) (hkon : ∀ i v, mj_lk kon i = some v → (∃ x, v = .int x ∧ (Jvm.Cond.constant own i x).before args s = true) ∨ ∃ x, v = .long x ∧ (Jvm.Cond.constantLong own i x).before args s = true)
    (hl : lv_has ls nL (mj_l ad l)) (hcl : ∀ q ∈ l, mj_cv N q.2) (hcs : ∀ v ∈ st, mj_cv N v) (hd : decode cc pc = .ok (.dup2, n)) (h : mj_ev kon nL (.dup2) n pc l st = some (pc', l', st'))
    (kk : ∀ ls', lv_has ls' nL (mj_l ad l') → (∀ q ∈ l', mj_cv N q.2) → (∀ v ∈ st', mj_cv N v) → W p lc e R s m args below meth c H locs cells slots Q (F0 m pc' ls' (st'.map (mj_v ad)))) : W p lc e R s m args below meth c H locs cells slots Q (F0 m pc ls (st.map (mj_v ad))) := by
  unfold mj_ev at h
  dsimp only at h
  split at h
  next hn =>
    subst hn
    split at h
    next v r =>
      split at h
      next hc1 =>
        cases h
        exact lv_dup2_2 hx hb hd (by rw [mj_v_cat]; exact hc1) (kk ls hl hcl (fun w hw => by rcases List.mem_cons.mp hw with rfl | hw; exact hcs _ List.mem_cons_self; exact hcs w hw))
      next hc1 =>
        split at h
        next w q =>
          split at h
          next hc2 =>
            cases h
            have hv1 : v.category = 1 := (lv_cat v).resolve_right hc1
            exact lv_dup2_11 hx hb hd (by rw [mj_v_cat]; exact hv1) (by rw [mj_v_cat]; exact hc2) (kk ls hl hcl (fun z hz => by
              rcases List.mem_cons.mp hz with rfl | hz
              · exact hcs _ List.mem_cons_self
              · rcases List.mem_cons.mp hz with rfl | hz
                · exact hcs _ (List.mem_cons_of_mem _ List.mem_cons_self)
                · exact hcs z hz))
          next => cases h
        next => cases h
    next => cases h
  next => cases h

theorem mj_e_goto {p : Program} {lc : Launch} {e : Env} {R : Room} {s : State} {m : MethodId} {args : Array Value} {below : List Frame} {meth : Method} {c : Code} {H : Heap} {locs : List Loc} {cells slots : Nat} {Q : State → Prop} {cc : ByteArray} {ls : Array Slot} {ad : Nat → Nat} {N : Nat} {own : String} {kon : List (Nat × Value)} {nL n pc pc' : Nat} {l l' : List (Nat × Value)} {st st' : List Value} {off : Int} (hx : p.tables.exec = Jvm.exec) (hb : c.code = cc) (hown : s.vm.findClass own = some m.cls) (hkon : ∀ i v, mj_lk kon i = some v → (∃ x, v = .int x ∧ (Jvm.Cond.constant own i x).before args s = true) ∨ ∃ x, v = .long x ∧ (Jvm.Cond.constantLong own i x).before args s = true)
    (hl : lv_has ls nL (mj_l ad l)) (hcl : ∀ q ∈ l, mj_cv N q.2) (hcs : ∀ v ∈ st, mj_cv N v) (hd : decode cc pc = .ok (.goto off, n)) (h : mj_ev kon nL (.goto off) n pc l st = some (pc', l', st'))
    (kk : ∀ ls', lv_has ls' nL (mj_l ad l') → (∀ q ∈ l', mj_cv N q.2) → (∀ v ∈ st', mj_cv N v) → W p lc e R s m args below meth c H locs cells slots Q (F0 m pc' ls' (st'.map (mj_v ad)))) : W p lc e R s m args below meth c H locs cells slots Q (F0 m pc ls (st.map (mj_v ad))) := by
  unfold mj_ev at h
  dsimp only at h
  split at h
  next hn =>
    subst hn
    split at h
    next t ht =>
      cases h
      exact lv_goto hx hb hd ht (kk ls hl hcl hcs)
    next => cases h
  next => cases h

theorem mj_e_ldc {p : Program} {lc : Launch} {e : Env} {R : Room} {s : State} {m : MethodId} {args : Array Value} {below : List Frame} {meth : Method} {c : Code} {H : Heap} {locs : List Loc} {cells slots : Nat} {Q : State → Prop} {cc : ByteArray} {ls : Array Slot} {ad : Nat → Nat} {N : Nat} {own : String} {kon : List (Nat × Value)} {nL n pc pc' : Nat} {l l' : List (Nat × Value)} {st st' : List Value} {k : Nat} (hx : p.tables.exec = Jvm.exec) (hb : c.code = cc) (hown : s.vm.findClass own = some m.cls) (hkon : ∀ i v, mj_lk kon i = some v → (∃ x, v = .int x ∧ (Jvm.Cond.constant own i x).before args s = true) ∨ ∃ x, v = .long x ∧ (Jvm.Cond.constantLong own i x).before args s = true)
    (hl : lv_has ls nL (mj_l ad l)) (hcl : ∀ q ∈ l, mj_cv N q.2) (hcs : ∀ v ∈ st, mj_cv N v) (hd : decode cc pc = .ok (.ldc k, n)) (h : mj_ev kon nL (.ldc k) n pc l st = some (pc', l', st'))
    (kk : ∀ ls', lv_has ls' nL (mj_l ad l') → (∀ q ∈ l', mj_cv N q.2) → (∀ v ∈ st', mj_cv N v) → W p lc e R s m args below meth c H locs cells slots Q (F0 m pc' ls' (st'.map (mj_v ad)))) : W p lc e R s m args below meth c H locs cells slots Q (F0 m pc ls (st.map (mj_v ad))) := by
  unfold mj_ev at h
  dsimp only at h
  split at h
  next hn =>
    subst hn
    split at h
    next x hg =>
      cases h
      have hk : (Jvm.Cond.constant own k x).before args s = true := by
        rcases hkon _ _ hg with ⟨y, h1, h2⟩ | ⟨y, h1, h2⟩
        all_goals (cases h1; try exact h2)
      exact lv_ldc hx hb hown hk hd (kk ls hl hcl (fun v hv => by rcases List.mem_cons.mp hv with rfl | hv; trivial; exact hcs v hv))
    next => cases h
  next => cases h

theorem mj_e_ldc_w {p : Program} {lc : Launch} {e : Env} {R : Room} {s : State} {m : MethodId} {args : Array Value} {below : List Frame} {meth : Method} {c : Code} {H : Heap} {locs : List Loc} {cells slots : Nat} {Q : State → Prop} {cc : ByteArray} {ls : Array Slot} {ad : Nat → Nat} {N : Nat} {own : String} {kon : List (Nat × Value)} {nL n pc pc' : Nat} {l l' : List (Nat × Value)} {st st' : List Value} {k : Nat} (hx : p.tables.exec = Jvm.exec) (hb : c.code = cc) (hown : s.vm.findClass own = some m.cls) (hkon : ∀ i v, mj_lk kon i = some v → (∃ x, v = .int x ∧ (Jvm.Cond.constant own i x).before args s = true) ∨ ∃ x, v = .long x ∧ (Jvm.Cond.constantLong own i x).before args s = true)
    (hl : lv_has ls nL (mj_l ad l)) (hcl : ∀ q ∈ l, mj_cv N q.2) (hcs : ∀ v ∈ st, mj_cv N v) (hd : decode cc pc = .ok (.ldc_w k, n)) (h : mj_ev kon nL (.ldc_w k) n pc l st = some (pc', l', st'))
    (kk : ∀ ls', lv_has ls' nL (mj_l ad l') → (∀ q ∈ l', mj_cv N q.2) → (∀ v ∈ st', mj_cv N v) → W p lc e R s m args below meth c H locs cells slots Q (F0 m pc' ls' (st'.map (mj_v ad)))) : W p lc e R s m args below meth c H locs cells slots Q (F0 m pc ls (st.map (mj_v ad))) := by
  unfold mj_ev at h
  dsimp only at h
  split at h
  next hn =>
    subst hn
    split at h
    next x hg =>
      cases h
      have hk : (Jvm.Cond.constant own k x).before args s = true := by
        rcases hkon _ _ hg with ⟨y, h1, h2⟩ | ⟨y, h1, h2⟩
        all_goals (cases h1; try exact h2)
      exact lv_ldcw hx hb hown hk hd (kk ls hl hcl (fun v hv => by rcases List.mem_cons.mp hv with rfl | hv; trivial; exact hcs v hv))
    next => cases h
  next => cases h

theorem mj_e_ldc2_w {p : Program} {lc : Launch} {e : Env} {R : Room} {s : State} {m : MethodId} {args : Array Value} {below : List Frame} {meth : Method} {c : Code} {H : Heap} {locs : List Loc} {cells slots : Nat} {Q : State → Prop} {cc : ByteArray} {ls : Array Slot} {ad : Nat → Nat} {N : Nat} {own : String} {kon : List (Nat × Value)} {nL n pc pc' : Nat} {l l' : List (Nat × Value)} {st st' : List Value} {k : Nat} (hx : p.tables.exec = Jvm.exec) (hb : c.code = cc) (hown : s.vm.findClass own = some m.cls) (hkon : ∀ i v, mj_lk kon i = some v → (∃ x, v = .int x ∧ (Jvm.Cond.constant own i x).before args s = true) ∨ ∃ x, v = .long x ∧ (Jvm.Cond.constantLong own i x).before args s = true)
    (hl : lv_has ls nL (mj_l ad l)) (hcl : ∀ q ∈ l, mj_cv N q.2) (hcs : ∀ v ∈ st, mj_cv N v) (hd : decode cc pc = .ok (.ldc2_w k, n)) (h : mj_ev kon nL (.ldc2_w k) n pc l st = some (pc', l', st'))
    (kk : ∀ ls', lv_has ls' nL (mj_l ad l') → (∀ q ∈ l', mj_cv N q.2) → (∀ v ∈ st', mj_cv N v) → W p lc e R s m args below meth c H locs cells slots Q (F0 m pc' ls' (st'.map (mj_v ad)))) : W p lc e R s m args below meth c H locs cells slots Q (F0 m pc ls (st.map (mj_v ad))) := by
  unfold mj_ev at h
  dsimp only at h
  split at h
  next hn =>
    subst hn
    split at h
    next x hg =>
      cases h
      have hk : (Jvm.Cond.constantLong own k x).before args s = true := by
        rcases hkon _ _ hg with ⟨y, h1, h2⟩ | ⟨y, h1, h2⟩
        all_goals (cases h1; try exact h2)
      exact lv_ldc2 hx hb hown hk hd (kk ls hl hcl (fun v hv => by rcases List.mem_cons.mp hv with rfl | hv; trivial; exact hcs v hv))
    next => cases h
  next => cases h

theorem mj_ev_W {p : Program} {lc : Launch} {e : Env} {R : Room} {s : State} {m : MethodId} {args : Array Value} {below : List Frame} {meth : Method} {c : Code} {H : Heap} {locs : List Loc} {cells slots : Nat} {Q : State → Prop} {cc : ByteArray} {ls : Array Slot} {ad : Nat → Nat} {N : Nat} {own : String} {kon : List (Nat × Value)} {nL n pc pc' : Nat} {i : Instr} {l l' : List (Nat × Value)} {st st' : List Value} (hx : p.tables.exec = Jvm.exec) (hb : c.code = cc) (hown : s.vm.findClass own = some m.cls) (hkon : ∀ i v, mj_lk kon i = some v → (∃ x, v = .int x ∧ (Jvm.Cond.constant own i x).before args s = true) ∨ ∃ x, v = .long x ∧ (Jvm.Cond.constantLong own i x).before args s = true)
    (hl : lv_has ls nL (mj_l ad l)) (hcl : ∀ q ∈ l, mj_cv N q.2) (hcs : ∀ v ∈ st, mj_cv N v) (hd : decode cc pc = .ok (i, n)) (h : mj_ev kon nL i n pc l st = some (pc', l', st'))
    (kk : ∀ ls', lv_has ls' nL (mj_l ad l') → (∀ q ∈ l', mj_cv N q.2) → (∀ v ∈ st', mj_cv N v) → W p lc e R s m args below meth c H locs cells slots Q (F0 m pc' ls' (st'.map (mj_v ad)))) : W p lc e R s m args below meth c H locs cells slots Q (F0 m pc ls (st.map (mj_v ad))) := by
  cases i
  case iconst z => exact mj_e_iconst hx hb hown hkon hl hcl hcs hd h kk
  case bipush z => exact mj_e_bipush hx hb hown hkon hl hcl hcs hd h kk
  case sipush z => exact mj_e_sipush hx hb hown hkon hl hcl hcs hd h kk
  case lconst z => exact mj_e_lconst hx hb hown hkon hl hcl hcs hd h kk
  case iload_n k => exact mj_e_iload_n hx hb hown hkon hl hcl hcs hd h kk
  case iload k => exact mj_e_iload hx hb hown hkon hl hcl hcs hd h kk
  case lload_n k => exact mj_e_lload_n hx hb hown hkon hl hcl hcs hd h kk
  case lload k => exact mj_e_lload hx hb hown hkon hl hcl hcs hd h kk
  case aload_n k => exact mj_e_aload_n hx hb hown hkon hl hcl hcs hd h kk
  case aload k => exact mj_e_aload hx hb hown hkon hl hcl hcs hd h kk
  case istore_n k => exact mj_e_istore_n hx hb hown hkon hl hcl hcs hd h kk
  case istore k => exact mj_e_istore hx hb hown hkon hl hcl hcs hd h kk
  case astore_n k => exact mj_e_astore_n hx hb hown hkon hl hcl hcs hd h kk
  case astore k => exact mj_e_astore hx hb hown hkon hl hcl hcs hd h kk
  case lstore_n k => exact mj_e_lstore_n hx hb hown hkon hl hcl hcs hd h kk
  case lstore k => exact mj_e_lstore hx hb hown hkon hl hcl hcs hd h kk
  case iinc k z => exact mj_e_iinc hx hb hown hkon hl hcl hcs hd h kk
  case iadd => exact mj_e_iadd hx hb hown hkon hl hcl hcs hd h kk
  case isub => exact mj_e_isub hx hb hown hkon hl hcl hcs hd h kk
  case imul => exact mj_e_imul hx hb hown hkon hl hcl hcs hd h kk
  case iand => exact mj_e_iand hx hb hown hkon hl hcl hcs hd h kk
  case ior => exact mj_e_ior hx hb hown hkon hl hcl hcs hd h kk
  case ixor => exact mj_e_ixor hx hb hown hkon hl hcl hcs hd h kk
  case ladd => exact mj_e_ladd hx hb hown hkon hl hcl hcs hd h kk
  case lsub => exact mj_e_lsub hx hb hown hkon hl hcl hcs hd h kk
  case lmul => exact mj_e_lmul hx hb hown hkon hl hcl hcs hd h kk
  case ishl => exact mj_e_ishl hx hb hown hkon hl hcl hcs hd h kk
  case ishr => exact mj_e_ishr hx hb hown hkon hl hcl hcs hd h kk
  case iushr => exact mj_e_iushr hx hb hown hkon hl hcl hcs hd h kk
  case i2l => exact mj_e_i2l hx hb hown hkon hl hcl hcs hd h kk
  case l2i => exact mj_e_l2i hx hb hown hkon hl hcl hcs hd h kk
  case i2c => exact mj_e_i2c hx hb hown hkon hl hcl hcs hd h kk
  case ineg => exact mj_e_ineg hx hb hown hkon hl hcl hcs hd h kk
  case dup => exact mj_e_dup hx hb hown hkon hl hcl hcs hd h kk
  case pop => exact mj_e_pop hx hb hown hkon hl hcl hcs hd h kk
  case pop2 => exact mj_e_pop2 hx hb hown hkon hl hcl hcs hd h kk
  case dup2 => exact mj_e_dup2 hx hb hown hkon hl hcl hcs hd h kk
  case goto off => exact mj_e_goto hx hb hown hkon hl hcl hcs hd h kk
  case ldc k => exact mj_e_ldc hx hb hown hkon hl hcl hcs hd h kk
  case ldc_w k => exact mj_e_ldc_w hx hb hown hkon hl hcl hcs hd h kk
  case ldc2_w k => exact mj_e_ldc2_w hx hb hown hkon hl hcl hcs hd h kk
  all_goals (cases h)

def mj_evs (kon : List (Nat × Value)) (nL : Nat) : List (Nat × Instr × Nat) → Nat → List (Nat × Value) → List Value → Option (Nat × List (Nat × Value) × List Value)
  | [], pc, l, st => some (pc, l, st)
  | q :: r, pc, l, st => match Nat.beq q.1 pc with
    | true => (match mj_ev kon nL q.2.1 q.2.2 pc l st with
      | some z => mj_evs kon nL r z.1 z.2.1 z.2.2
      | none => none)
    | false => none
theorem mj_evs_W {p : Program} {lc : Launch} {e : Env} {R : Room} {s : State} {m : MethodId} {args : Array Value} {below : List Frame} {meth : Method} {c : Code} {H : Heap} {locs : List Loc} {cells slots : Nat} {Q : State → Prop} {cc : ByteArray} {ad : Nat → Nat} {N : Nat} {own : String} {kon : List (Nat × Value)} {nL : Nat} (hx : p.tables.exec = Jvm.exec) (hb : c.code = cc) (hown : s.vm.findClass own = some m.cls) (hkon : ∀ i v, mj_lk kon i = some v → (∃ x, v = .int x ∧ (Jvm.Cond.constant own i x).before args s = true) ∨ ∃ x, v = .long x ∧ (Jvm.Cond.constantLong own i x).before args s = true) {pc' : Nat} {l' : List (Nat × Value)} {st' : List Value}
    (kk : ∀ ls', lv_has ls' nL (mj_l ad l') → (∀ q ∈ l', mj_cv N q.2) → (∀ v ∈ st', mj_cv N v) → W p lc e R s m args below meth c H locs cells slots Q (F0 m pc' ls' (st'.map (mj_v ad)))) : ∀ (b : List (Nat × Instr × Nat)) (pc : Nat) (l : List (Nat × Value)) (st : List Value) (ls : Array Slot), (∀ q ∈ b, decode cc q.1 = .ok q.2) → mj_evs kon nL b pc l st = some (pc', l', st') → lv_has ls nL (mj_l ad l) → (∀ q ∈ l, mj_cv N q.2) → (∀ v ∈ st, mj_cv N v) → W p lc e R s m args below meth c H locs cells slots Q (F0 m pc ls (st.map (mj_v ad)))
  | [], pc, l, st, ls, hb2, h, hl, hcl, hcs => by
    cases h
    exact kk ls hl hcl hcs
  | q :: r, pc, l, st, ls, hb2, h, hl, hcl, hcs => by
    unfold mj_evs at h
    split at h
    next e =>
      have e := Nat.eq_of_beq_eq_true e
      split at h
      next z hz =>
        have hd : decode cc pc = .ok (q.2.1, q.2.2) := by rw [← e]; exact hb2 q List.mem_cons_self
        exact mj_ev_W hx hb hown hkon hl hcl hcs hd (pc' := z.1) (l' := z.2.1) (st' := z.2.2) hz (fun ls' hl' hcl' hcs' => mj_evs_W hx hb hown hkon kk r z.1 z.2.1 z.2.2 ls' (fun w hw => hb2 w (List.mem_cons_of_mem _ hw)) h hl' hcl' hcs')
      next => cases h
    next => cases h
/-- a class's constants -/
def mj_KO (own : String) (kon : List (Nat × Value)) : Prop := ∀ i v, mj_lk kon i = some v → (∃ x, v = .int x ∧ Jvm.Cond.constant own i x ∈ mj_G) ∨ ∃ x, v = .long x ∧ Jvm.Cond.constantLong own i x ∈ mj_G
/-- a block of pure instructions: b of them, from the a-th of the table on -/
theorem mj_blk {M : mj_M} {Fin : mj_F} {pc : Nat} {l : List (Nat × Value)} {st : List Value} {h : mj_H} {k n : Nat} {kon : List (Nat × Value)} (hkon : mj_KO M.1.cls kon) (a b : Nat) {pc' : Nat} {l' : List (Nat × Value)} {st' : List Value} (hev : mj_evs kon M.2.2.1 ((M.2.2.2.2.2.drop a).take b) pc l st = some (pc', l', st')) (kk : mj_W M Fin pc' l' st' h k n) : mj_W M Fin pc l st h k n := by
  intro p lc e s m args below meth c H locs ls A Q dC dI cy ad ad0 n0 CX I hl hcl hcs hag hn hz hret
  have CX' := CX
  obtain ⟨hx, hb, hml, hr, hown, hts, hlk, hnm, hN, hT⟩ := CX
  exact mj_evs_W hx hb hown (fun i v hv => (hkon i v hv).imp (fun ⟨x, h1, h2⟩ => ⟨x, h1, hts _ h2⟩) (fun ⟨x, h1, h2⟩ => ⟨x, h1, hts _ h2⟩)) (fun ls' hl' hcl' hcs' => kk p lc e s m args below meth c H locs ls' A Q dC dI cy ad ad0 n0 CX' I hl' hcl' hcs' hag hn hz hret) _ pc l st ls (fun q hq => hT q (List.mem_of_mem_drop (List.mem_of_mem_take hq))) hev hl hcl hcs
end
section
/-! rules: branches -/
theorem mj_dec {cc : ByteArray} {t : List (Nat × Instr × Nat)} (hT : ∀ q ∈ t, decode cc q.1 = .ok q.2) {a pc len : Nat} {i : Instr} (h : t[a]? = some (pc, i, len)) : decode cc pc = .ok (i, len) := hT (pc, i, len) (List.mem_of_getElem? h)
theorem mj_tl {n : Nat} {v : Value} {st : List Value} (h : ∀ w ∈ v :: st, mj_cv n w) : ∀ w ∈ st, mj_cv n w := fun w hw => h w (List.mem_cons_of_mem _ hw)
theorem mj_cs {n : Nat} {v : Value} {st : List Value} (hv : mj_cv n v) (h : ∀ w ∈ st, mj_cv n w) : ∀ w ∈ v :: st, mj_cv n w := fun w hw => (List.mem_cons.mp hw).elim (fun e => e ▸ hv) (h w)
theorem mj_if_eq {M : mj_M} {Fin : mj_F} {pc : Nat} {l : List (Nat × Value)} {st : List Value} {h : mj_H} {k n : Nat} {x : Int32} (a : Nat) {off : Int} (tgt : Nat) (ha : M.2.2.2.2.2[a]? = some (pc, .ifCond .eq off, 3)) (ht : (pc : Int) + off = (tgt : Int)) (kt : x = 0 → mj_W M Fin tgt l st h k n) (kf : ¬ x = 0 → mj_W M Fin (pc + 3) l st h k n) : mj_W M Fin pc l (.int x :: st) h k n := by
  intro p lc e s m args below meth c H locs ls A Q dC dI cy ad ad0 n0 CX I hl hcl hcs hag hn hzz hret
  have CX' := CX
  have I' := I
  obtain ⟨hx, hb, hml, hr, hown, hts, hlk, hnm, hN, hT⟩ := CX
  obtain ⟨hK, hA, hR, hP, hD, hS, hch⟩ := I
  exact lv_if_eq hx hb (mj_dec hT ha) ht (fun q => kt q p lc e s m args below meth c H locs ls A Q dC dI cy ad ad0 n0 CX' I' hl hcl (mj_tl hcs) hag hn hzz hret) (fun q => kf q p lc e s m args below meth c H locs ls A Q dC dI cy ad ad0 n0 CX' I' hl hcl (mj_tl hcs) hag hn hzz hret)
theorem mj_if_ne {M : mj_M} {Fin : mj_F} {pc : Nat} {l : List (Nat × Value)} {st : List Value} {h : mj_H} {k n : Nat} {x : Int32} (a : Nat) {off : Int} (tgt : Nat) (ha : M.2.2.2.2.2[a]? = some (pc, .ifCond .ne off, 3)) (ht : (pc : Int) + off = (tgt : Int)) (kt : ¬ x = 0 → mj_W M Fin tgt l st h k n) (kf : x = 0 → mj_W M Fin (pc + 3) l st h k n) : mj_W M Fin pc l (.int x :: st) h k n := by
  intro p lc e s m args below meth c H locs ls A Q dC dI cy ad ad0 n0 CX I hl hcl hcs hag hn hzz hret
  have CX' := CX
  have I' := I
  obtain ⟨hx, hb, hml, hr, hown, hts, hlk, hnm, hN, hT⟩ := CX
  obtain ⟨hK, hA, hR, hP, hD, hS, hch⟩ := I
  exact lv_if_ne hx hb (mj_dec hT ha) ht (fun q => kt q p lc e s m args below meth c H locs ls A Q dC dI cy ad ad0 n0 CX' I' hl hcl (mj_tl hcs) hag hn hzz hret) (fun q => kf q p lc e s m args below meth c H locs ls A Q dC dI cy ad ad0 n0 CX' I' hl hcl (mj_tl hcs) hag hn hzz hret)
theorem mj_if_lt {M : mj_M} {Fin : mj_F} {pc : Nat} {l : List (Nat × Value)} {st : List Value} {h : mj_H} {k n : Nat} {x : Int32} (a : Nat) {off : Int} (tgt : Nat) (ha : M.2.2.2.2.2[a]? = some (pc, .ifCond .lt off, 3)) (ht : (pc : Int) + off = (tgt : Int)) (kt : x < 0 → mj_W M Fin tgt l st h k n) (kf : ¬ x < 0 → mj_W M Fin (pc + 3) l st h k n) : mj_W M Fin pc l (.int x :: st) h k n := by
  intro p lc e s m args below meth c H locs ls A Q dC dI cy ad ad0 n0 CX I hl hcl hcs hag hn hzz hret
  have CX' := CX
  have I' := I
  obtain ⟨hx, hb, hml, hr, hown, hts, hlk, hnm, hN, hT⟩ := CX
  obtain ⟨hK, hA, hR, hP, hD, hS, hch⟩ := I
  exact lv_if_lt hx hb (mj_dec hT ha) ht (fun q => kt q p lc e s m args below meth c H locs ls A Q dC dI cy ad ad0 n0 CX' I' hl hcl (mj_tl hcs) hag hn hzz hret) (fun q => kf q p lc e s m args below meth c H locs ls A Q dC dI cy ad ad0 n0 CX' I' hl hcl (mj_tl hcs) hag hn hzz hret)
theorem mj_if_ge {M : mj_M} {Fin : mj_F} {pc : Nat} {l : List (Nat × Value)} {st : List Value} {h : mj_H} {k n : Nat} {x : Int32} (a : Nat) {off : Int} (tgt : Nat) (ha : M.2.2.2.2.2[a]? = some (pc, .ifCond .ge off, 3)) (ht : (pc : Int) + off = (tgt : Int)) (kt : 0 ≤ x → mj_W M Fin tgt l st h k n) (kf : ¬ 0 ≤ x → mj_W M Fin (pc + 3) l st h k n) : mj_W M Fin pc l (.int x :: st) h k n := by
  intro p lc e s m args below meth c H locs ls A Q dC dI cy ad ad0 n0 CX I hl hcl hcs hag hn hzz hret
  have CX' := CX
  have I' := I
  obtain ⟨hx, hb, hml, hr, hown, hts, hlk, hnm, hN, hT⟩ := CX
  obtain ⟨hK, hA, hR, hP, hD, hS, hch⟩ := I
  exact lv_if_ge hx hb (mj_dec hT ha) ht (fun q => kt q p lc e s m args below meth c H locs ls A Q dC dI cy ad ad0 n0 CX' I' hl hcl (mj_tl hcs) hag hn hzz hret) (fun q => kf q p lc e s m args below meth c H locs ls A Q dC dI cy ad ad0 n0 CX' I' hl hcl (mj_tl hcs) hag hn hzz hret)
theorem mj_if_gt {M : mj_M} {Fin : mj_F} {pc : Nat} {l : List (Nat × Value)} {st : List Value} {h : mj_H} {k n : Nat} {x : Int32} (a : Nat) {off : Int} (tgt : Nat) (ha : M.2.2.2.2.2[a]? = some (pc, .ifCond .gt off, 3)) (ht : (pc : Int) + off = (tgt : Int)) (kt : 0 < x → mj_W M Fin tgt l st h k n) (kf : ¬ 0 < x → mj_W M Fin (pc + 3) l st h k n) : mj_W M Fin pc l (.int x :: st) h k n := by
  intro p lc e s m args below meth c H locs ls A Q dC dI cy ad ad0 n0 CX I hl hcl hcs hag hn hzz hret
  have CX' := CX
  have I' := I
  obtain ⟨hx, hb, hml, hr, hown, hts, hlk, hnm, hN, hT⟩ := CX
  obtain ⟨hK, hA, hR, hP, hD, hS, hch⟩ := I
  exact lv_if_gt hx hb (mj_dec hT ha) ht (fun q => kt q p lc e s m args below meth c H locs ls A Q dC dI cy ad ad0 n0 CX' I' hl hcl (mj_tl hcs) hag hn hzz hret) (fun q => kf q p lc e s m args below meth c H locs ls A Q dC dI cy ad ad0 n0 CX' I' hl hcl (mj_tl hcs) hag hn hzz hret)
theorem mj_if_le {M : mj_M} {Fin : mj_F} {pc : Nat} {l : List (Nat × Value)} {st : List Value} {h : mj_H} {k n : Nat} {x : Int32} (a : Nat) {off : Int} (tgt : Nat) (ha : M.2.2.2.2.2[a]? = some (pc, .ifCond .le off, 3)) (ht : (pc : Int) + off = (tgt : Int)) (kt : x ≤ 0 → mj_W M Fin tgt l st h k n) (kf : ¬ x ≤ 0 → mj_W M Fin (pc + 3) l st h k n) : mj_W M Fin pc l (.int x :: st) h k n := by
  intro p lc e s m args below meth c H locs ls A Q dC dI cy ad ad0 n0 CX I hl hcl hcs hag hn hzz hret
  have CX' := CX
  have I' := I
  obtain ⟨hx, hb, hml, hr, hown, hts, hlk, hnm, hN, hT⟩ := CX
  obtain ⟨hK, hA, hR, hP, hD, hS, hch⟩ := I
  exact lv_if_le hx hb (mj_dec hT ha) ht (fun q => kt q p lc e s m args below meth c H locs ls A Q dC dI cy ad ad0 n0 CX' I' hl hcl (mj_tl hcs) hag hn hzz hret) (fun q => kf q p lc e s m args below meth c H locs ls A Q dC dI cy ad ad0 n0 CX' I' hl hcl (mj_tl hcs) hag hn hzz hret)
theorem mj_icmp_eq {M : mj_M} {Fin : mj_F} {pc : Nat} {l : List (Nat × Value)} {st : List Value} {h : mj_H} {k n : Nat} {x y : Int32} (a : Nat) {off : Int} (tgt : Nat) (ha : M.2.2.2.2.2[a]? = some (pc, .if_icmp .eq off, 3)) (ht : (pc : Int) + off = (tgt : Int)) (kt : x = y → mj_W M Fin tgt l st h k n) (kf : ¬ x = y → mj_W M Fin (pc + 3) l st h k n) : mj_W M Fin pc l (.int y :: .int x :: st) h k n := by
  intro p lc e s m args below meth c H locs ls A Q dC dI cy ad ad0 n0 CX I hl hcl hcs hag hn hzz hret
  have CX' := CX
  have I' := I
  obtain ⟨hx, hb, hml, hr, hown, hts, hlk, hnm, hN, hT⟩ := CX
  obtain ⟨hK, hA, hR, hP, hD, hS, hch⟩ := I
  exact lv_icmp_eq hx hb (mj_dec hT ha) ht (fun q => kt q p lc e s m args below meth c H locs ls A Q dC dI cy ad ad0 n0 CX' I' hl hcl (mj_tl (mj_tl hcs)) hag hn hzz hret) (fun q => kf q p lc e s m args below meth c H locs ls A Q dC dI cy ad ad0 n0 CX' I' hl hcl (mj_tl (mj_tl hcs)) hag hn hzz hret)
theorem mj_icmp_ne {M : mj_M} {Fin : mj_F} {pc : Nat} {l : List (Nat × Value)} {st : List Value} {h : mj_H} {k n : Nat} {x y : Int32} (a : Nat) {off : Int} (tgt : Nat) (ha : M.2.2.2.2.2[a]? = some (pc, .if_icmp .ne off, 3)) (ht : (pc : Int) + off = (tgt : Int)) (kt : ¬ x = y → mj_W M Fin tgt l st h k n) (kf : x = y → mj_W M Fin (pc + 3) l st h k n) : mj_W M Fin pc l (.int y :: .int x :: st) h k n := by
  intro p lc e s m args below meth c H locs ls A Q dC dI cy ad ad0 n0 CX I hl hcl hcs hag hn hzz hret
  have CX' := CX
  have I' := I
  obtain ⟨hx, hb, hml, hr, hown, hts, hlk, hnm, hN, hT⟩ := CX
  obtain ⟨hK, hA, hR, hP, hD, hS, hch⟩ := I
  exact lv_icmp_ne hx hb (mj_dec hT ha) ht (fun q => kt q p lc e s m args below meth c H locs ls A Q dC dI cy ad ad0 n0 CX' I' hl hcl (mj_tl (mj_tl hcs)) hag hn hzz hret) (fun q => kf q p lc e s m args below meth c H locs ls A Q dC dI cy ad ad0 n0 CX' I' hl hcl (mj_tl (mj_tl hcs)) hag hn hzz hret)
theorem mj_icmp_lt {M : mj_M} {Fin : mj_F} {pc : Nat} {l : List (Nat × Value)} {st : List Value} {h : mj_H} {k n : Nat} {x y : Int32} (a : Nat) {off : Int} (tgt : Nat) (ha : M.2.2.2.2.2[a]? = some (pc, .if_icmp .lt off, 3)) (ht : (pc : Int) + off = (tgt : Int)) (kt : x < y → mj_W M Fin tgt l st h k n) (kf : ¬ x < y → mj_W M Fin (pc + 3) l st h k n) : mj_W M Fin pc l (.int y :: .int x :: st) h k n := by
  intro p lc e s m args below meth c H locs ls A Q dC dI cy ad ad0 n0 CX I hl hcl hcs hag hn hzz hret
  have CX' := CX
  have I' := I
  obtain ⟨hx, hb, hml, hr, hown, hts, hlk, hnm, hN, hT⟩ := CX
  obtain ⟨hK, hA, hR, hP, hD, hS, hch⟩ := I
  exact lv_icmp_lt hx hb (mj_dec hT ha) ht (fun q => kt q p lc e s m args below meth c H locs ls A Q dC dI cy ad ad0 n0 CX' I' hl hcl (mj_tl (mj_tl hcs)) hag hn hzz hret) (fun q => kf q p lc e s m args below meth c H locs ls A Q dC dI cy ad ad0 n0 CX' I' hl hcl (mj_tl (mj_tl hcs)) hag hn hzz hret)
theorem mj_icmp_ge {M : mj_M} {Fin : mj_F} {pc : Nat} {l : List (Nat × Value)} {st : List Value} {h : mj_H} {k n : Nat} {x y : Int32} (a : Nat) {off : Int} (tgt : Nat) (ha : M.2.2.2.2.2[a]? = some (pc, .if_icmp .ge off, 3)) (ht : (pc : Int) + off = (tgt : Int)) (kt : y ≤ x → mj_W M Fin tgt l st h k n) (kf : ¬ y ≤ x → mj_W M Fin (pc + 3) l st h k n) : mj_W M Fin pc l (.int y :: .int x :: st) h k n := by
  intro p lc e s m args below meth c H locs ls A Q dC dI cy ad ad0 n0 CX I hl hcl hcs hag hn hzz hret
  have CX' := CX
  have I' := I
  obtain ⟨hx, hb, hml, hr, hown, hts, hlk, hnm, hN, hT⟩ := CX
  obtain ⟨hK, hA, hR, hP, hD, hS, hch⟩ := I
  exact lv_icmp_ge hx hb (mj_dec hT ha) ht (fun q => kt q p lc e s m args below meth c H locs ls A Q dC dI cy ad ad0 n0 CX' I' hl hcl (mj_tl (mj_tl hcs)) hag hn hzz hret) (fun q => kf q p lc e s m args below meth c H locs ls A Q dC dI cy ad ad0 n0 CX' I' hl hcl (mj_tl (mj_tl hcs)) hag hn hzz hret)
theorem mj_icmp_gt {M : mj_M} {Fin : mj_F} {pc : Nat} {l : List (Nat × Value)} {st : List Value} {h : mj_H} {k n : Nat} {x y : Int32} (a : Nat) {off : Int} (tgt : Nat) (ha : M.2.2.2.2.2[a]? = some (pc, .if_icmp .gt off, 3)) (ht : (pc : Int) + off = (tgt : Int)) (kt : y < x → mj_W M Fin tgt l st h k n) (kf : ¬ y < x → mj_W M Fin (pc + 3) l st h k n) : mj_W M Fin pc l (.int y :: .int x :: st) h k n := by
  intro p lc e s m args below meth c H locs ls A Q dC dI cy ad ad0 n0 CX I hl hcl hcs hag hn hzz hret
  have CX' := CX
  have I' := I
  obtain ⟨hx, hb, hml, hr, hown, hts, hlk, hnm, hN, hT⟩ := CX
  obtain ⟨hK, hA, hR, hP, hD, hS, hch⟩ := I
  exact lv_icmp_gt hx hb (mj_dec hT ha) ht (fun q => kt q p lc e s m args below meth c H locs ls A Q dC dI cy ad ad0 n0 CX' I' hl hcl (mj_tl (mj_tl hcs)) hag hn hzz hret) (fun q => kf q p lc e s m args below meth c H locs ls A Q dC dI cy ad ad0 n0 CX' I' hl hcl (mj_tl (mj_tl hcs)) hag hn hzz hret)
theorem mj_icmp_le {M : mj_M} {Fin : mj_F} {pc : Nat} {l : List (Nat × Value)} {st : List Value} {h : mj_H} {k n : Nat} {x y : Int32} (a : Nat) {off : Int} (tgt : Nat) (ha : M.2.2.2.2.2[a]? = some (pc, .if_icmp .le off, 3)) (ht : (pc : Int) + off = (tgt : Int)) (kt : x ≤ y → mj_W M Fin tgt l st h k n) (kf : ¬ x ≤ y → mj_W M Fin (pc + 3) l st h k n) : mj_W M Fin pc l (.int y :: .int x :: st) h k n := by
  intro p lc e s m args below meth c H locs ls A Q dC dI cy ad ad0 n0 CX I hl hcl hcs hag hn hzz hret
  have CX' := CX
  have I' := I
  obtain ⟨hx, hb, hml, hr, hown, hts, hlk, hnm, hN, hT⟩ := CX
  obtain ⟨hK, hA, hR, hP, hD, hS, hch⟩ := I
  exact lv_icmp_le hx hb (mj_dec hT ha) ht (fun q => kt q p lc e s m args below meth c H locs ls A Q dC dI cy ad ad0 n0 CX' I' hl hcl (mj_tl (mj_tl hcs)) hag hn hzz hret) (fun q => kf q p lc e s m args below meth c H locs ls A Q dC dI cy ad ad0 n0 CX' I' hl hcl (mj_tl (mj_tl hcs)) hag hn hzz hret)
theorem mj_lcmp_eq {M : mj_M} {Fin : mj_F} {pc : Nat} {l : List (Nat × Value)} {st : List Value} {h : mj_H} {k n : Nat} {x y : Int64} (a : Nat) {off : Int} (tgt : Nat) (hc0 : M.2.2.2.2.2[a]? = some (pc, .lcmp, 1)) (ha : M.2.2.2.2.2[a + 1]? = some (pc + 1, .ifCond .eq off, 3)) (ht : ((pc + 1 : Nat) : Int) + off = (tgt : Int)) (kt : x = y → mj_W M Fin tgt l st h k n) (kf : ¬ x = y → mj_W M Fin (pc + 1 + 3) l st h k n) : mj_W M Fin pc l (.long y :: .long x :: st) h k n := by
  intro p lc e s m args below meth c H locs ls A Q dC dI cy ad ad0 n0 CX I hl hcl hcs hag hn hzz hret
  have CX' := CX
  have I' := I
  obtain ⟨hx, hb, hml, hr, hown, hts, hlk, hnm, hN, hT⟩ := CX
  obtain ⟨hK, hA, hR, hP, hD, hS, hch⟩ := I
  refine W.lcmp hx hb (mj_dec hT hc0) ?_
  exact lv_if_eq hx hb (mj_dec hT ha) ht (fun q => kt ((lg_cmp_eq x y).mp q) p lc e s m args below meth c H locs ls A Q dC dI cy ad ad0 n0 CX' I' hl hcl (mj_tl (mj_tl hcs)) hag hn hzz hret) (fun q => kf ((not_congr (lg_cmp_eq x y)).mp q) p lc e s m args below meth c H locs ls A Q dC dI cy ad ad0 n0 CX' I' hl hcl (mj_tl (mj_tl hcs)) hag hn hzz hret)
theorem mj_lcmp_ne {M : mj_M} {Fin : mj_F} {pc : Nat} {l : List (Nat × Value)} {st : List Value} {h : mj_H} {k n : Nat} {x y : Int64} (a : Nat) {off : Int} (tgt : Nat) (hc0 : M.2.2.2.2.2[a]? = some (pc, .lcmp, 1)) (ha : M.2.2.2.2.2[a + 1]? = some (pc + 1, .ifCond .ne off, 3)) (ht : ((pc + 1 : Nat) : Int) + off = (tgt : Int)) (kt : ¬ x = y → mj_W M Fin tgt l st h k n) (kf : x = y → mj_W M Fin (pc + 1 + 3) l st h k n) : mj_W M Fin pc l (.long y :: .long x :: st) h k n := by
  intro p lc e s m args below meth c H locs ls A Q dC dI cy ad ad0 n0 CX I hl hcl hcs hag hn hzz hret
  have CX' := CX
  have I' := I
  obtain ⟨hx, hb, hml, hr, hown, hts, hlk, hnm, hN, hT⟩ := CX
  obtain ⟨hK, hA, hR, hP, hD, hS, hch⟩ := I
  refine W.lcmp hx hb (mj_dec hT hc0) ?_
  exact lv_if_ne hx hb (mj_dec hT ha) ht (fun q => kt ((not_congr (lg_cmp_eq x y)).mp q) p lc e s m args below meth c H locs ls A Q dC dI cy ad ad0 n0 CX' I' hl hcl (mj_tl (mj_tl hcs)) hag hn hzz hret) (fun q => kf ((lg_cmp_eq x y).mp q) p lc e s m args below meth c H locs ls A Q dC dI cy ad ad0 n0 CX' I' hl hcl (mj_tl (mj_tl hcs)) hag hn hzz hret)
theorem mj_lcmp_lt {M : mj_M} {Fin : mj_F} {pc : Nat} {l : List (Nat × Value)} {st : List Value} {h : mj_H} {k n : Nat} {x y : Int64} (a : Nat) {off : Int} (tgt : Nat) (hc0 : M.2.2.2.2.2[a]? = some (pc, .lcmp, 1)) (ha : M.2.2.2.2.2[a + 1]? = some (pc + 1, .ifCond .lt off, 3)) (ht : ((pc + 1 : Nat) : Int) + off = (tgt : Int)) (kt : x < y → mj_W M Fin tgt l st h k n) (kf : ¬ x < y → mj_W M Fin (pc + 1 + 3) l st h k n) : mj_W M Fin pc l (.long y :: .long x :: st) h k n := by
  intro p lc e s m args below meth c H locs ls A Q dC dI cy ad ad0 n0 CX I hl hcl hcs hag hn hzz hret
  have CX' := CX
  have I' := I
  obtain ⟨hx, hb, hml, hr, hown, hts, hlk, hnm, hN, hT⟩ := CX
  obtain ⟨hK, hA, hR, hP, hD, hS, hch⟩ := I
  refine W.lcmp hx hb (mj_dec hT hc0) ?_
  exact lv_if_lt hx hb (mj_dec hT ha) ht (fun q => kt ((lg_cmp_lt x y).mp q) p lc e s m args below meth c H locs ls A Q dC dI cy ad ad0 n0 CX' I' hl hcl (mj_tl (mj_tl hcs)) hag hn hzz hret) (fun q => kf ((not_congr (lg_cmp_lt x y)).mp q) p lc e s m args below meth c H locs ls A Q dC dI cy ad ad0 n0 CX' I' hl hcl (mj_tl (mj_tl hcs)) hag hn hzz hret)
theorem mj_lcmp_ge {M : mj_M} {Fin : mj_F} {pc : Nat} {l : List (Nat × Value)} {st : List Value} {h : mj_H} {k n : Nat} {x y : Int64} (a : Nat) {off : Int} (tgt : Nat) (hc0 : M.2.2.2.2.2[a]? = some (pc, .lcmp, 1)) (ha : M.2.2.2.2.2[a + 1]? = some (pc + 1, .ifCond .ge off, 3)) (ht : ((pc + 1 : Nat) : Int) + off = (tgt : Int)) (kt : y ≤ x → mj_W M Fin tgt l st h k n) (kf : ¬ y ≤ x → mj_W M Fin (pc + 1 + 3) l st h k n) : mj_W M Fin pc l (.long y :: .long x :: st) h k n := by
  intro p lc e s m args below meth c H locs ls A Q dC dI cy ad ad0 n0 CX I hl hcl hcs hag hn hzz hret
  have CX' := CX
  have I' := I
  obtain ⟨hx, hb, hml, hr, hown, hts, hlk, hnm, hN, hT⟩ := CX
  obtain ⟨hK, hA, hR, hP, hD, hS, hch⟩ := I
  refine W.lcmp hx hb (mj_dec hT hc0) ?_
  exact lv_if_ge hx hb (mj_dec hT ha) ht (fun q => kt ((lg_cmp_ge x y).mp q) p lc e s m args below meth c H locs ls A Q dC dI cy ad ad0 n0 CX' I' hl hcl (mj_tl (mj_tl hcs)) hag hn hzz hret) (fun q => kf ((not_congr (lg_cmp_ge x y)).mp q) p lc e s m args below meth c H locs ls A Q dC dI cy ad ad0 n0 CX' I' hl hcl (mj_tl (mj_tl hcs)) hag hn hzz hret)
theorem mj_lcmp_gt {M : mj_M} {Fin : mj_F} {pc : Nat} {l : List (Nat × Value)} {st : List Value} {h : mj_H} {k n : Nat} {x y : Int64} (a : Nat) {off : Int} (tgt : Nat) (hc0 : M.2.2.2.2.2[a]? = some (pc, .lcmp, 1)) (ha : M.2.2.2.2.2[a + 1]? = some (pc + 1, .ifCond .gt off, 3)) (ht : ((pc + 1 : Nat) : Int) + off = (tgt : Int)) (kt : y < x → mj_W M Fin tgt l st h k n) (kf : ¬ y < x → mj_W M Fin (pc + 1 + 3) l st h k n) : mj_W M Fin pc l (.long y :: .long x :: st) h k n := by
  intro p lc e s m args below meth c H locs ls A Q dC dI cy ad ad0 n0 CX I hl hcl hcs hag hn hzz hret
  have CX' := CX
  have I' := I
  obtain ⟨hx, hb, hml, hr, hown, hts, hlk, hnm, hN, hT⟩ := CX
  obtain ⟨hK, hA, hR, hP, hD, hS, hch⟩ := I
  refine W.lcmp hx hb (mj_dec hT hc0) ?_
  exact lv_if_gt hx hb (mj_dec hT ha) ht (fun q => kt ((lg_cmp_gt x y).mp q) p lc e s m args below meth c H locs ls A Q dC dI cy ad ad0 n0 CX' I' hl hcl (mj_tl (mj_tl hcs)) hag hn hzz hret) (fun q => kf ((not_congr (lg_cmp_gt x y)).mp q) p lc e s m args below meth c H locs ls A Q dC dI cy ad ad0 n0 CX' I' hl hcl (mj_tl (mj_tl hcs)) hag hn hzz hret)
theorem mj_lcmp_le {M : mj_M} {Fin : mj_F} {pc : Nat} {l : List (Nat × Value)} {st : List Value} {h : mj_H} {k n : Nat} {x y : Int64} (a : Nat) {off : Int} (tgt : Nat) (hc0 : M.2.2.2.2.2[a]? = some (pc, .lcmp, 1)) (ha : M.2.2.2.2.2[a + 1]? = some (pc + 1, .ifCond .le off, 3)) (ht : ((pc + 1 : Nat) : Int) + off = (tgt : Int)) (kt : x ≤ y → mj_W M Fin tgt l st h k n) (kf : ¬ x ≤ y → mj_W M Fin (pc + 1 + 3) l st h k n) : mj_W M Fin pc l (.long y :: .long x :: st) h k n := by
  intro p lc e s m args below meth c H locs ls A Q dC dI cy ad ad0 n0 CX I hl hcl hcs hag hn hzz hret
  have CX' := CX
  have I' := I
  obtain ⟨hx, hb, hml, hr, hown, hts, hlk, hnm, hN, hT⟩ := CX
  obtain ⟨hK, hA, hR, hP, hD, hS, hch⟩ := I
  refine W.lcmp hx hb (mj_dec hT hc0) ?_
  exact lv_if_le hx hb (mj_dec hT ha) ht (fun q => kt ((lg_cmp_le x y).mp q) p lc e s m args below meth c H locs ls A Q dC dI cy ad ad0 n0 CX' I' hl hcl (mj_tl (mj_tl hcs)) hag hn hzz hret) (fun q => kf ((not_congr (lg_cmp_le x y)).mp q) p lc e s m args below meth c H locs ls A Q dC dI cy ad ad0 n0 CX' I' hl hcl (mj_tl (mj_tl hcs)) hag hn hzz hret)
theorem mj_ifnull {M : mj_M} {Fin : mj_F} {pc : Nat} {l : List (Nat × Value)} {st : List Value} {h : mj_H} {k n : Nat} {b : Nat} (a : Nat) {off : Int} (ha : M.2.2.2.2.2[a]? = some (pc, .ifnull off, 3)) (kk : mj_W M Fin (pc + 3) l st h k n) : mj_W M Fin pc l (.ref b :: st) h k n := by
  intro p lc e s m args below meth c H locs ls A Q dC dI cy ad ad0 n0 CX I hl hcl hcs hag hn hzz hret
  have CX' := CX
  have I' := I
  obtain ⟨hx, hb, hml, hr, hown, hts, hlk, hnm, hN, hT⟩ := CX
  obtain ⟨hK, hA, hR, hP, hD, hS, hch⟩ := I
  exact lv_ifnull hx hb (mj_dec hT ha) (kk p lc e s m args below meth c H locs ls A Q dC dI cy ad ad0 n0 CX' I' hl hcl (mj_tl hcs) hag hn hzz hret)
theorem mj_ifnonnull {M : mj_M} {Fin : mj_F} {pc : Nat} {l : List (Nat × Value)} {st : List Value} {h : mj_H} {k n : Nat} {b : Nat} (a : Nat) {off : Int} (tgt : Nat) (ha : M.2.2.2.2.2[a]? = some (pc, .ifnonnull off, 3)) (ht : (pc : Int) + off = (tgt : Int)) (kk : mj_W M Fin tgt l st h k n) : mj_W M Fin pc l (.ref b :: st) h k n := by
  intro p lc e s m args below meth c H locs ls A Q dC dI cy ad ad0 n0 CX I hl hcl hcs hag hn hzz hret
  have CX' := CX
  have I' := I
  obtain ⟨hx, hb, hml, hr, hown, hts, hlk, hnm, hN, hT⟩ := CX
  obtain ⟨hK, hA, hR, hP, hD, hS, hch⟩ := I
  exact lv_ifnonnull hx hb (mj_dec hT ha) ht (kk p lc e s m args below meth c H locs ls A Q dC dI cy ad ad0 n0 CX' I' hl hcl (mj_tl hcs) hag hn hzz hret)
theorem mj_swIn {M : mj_M} {Fin : mj_F} {pc : Nat} {l : List (Nat × Value)} {st : List Value} {h : mj_H} {k n : Nat} {x : Int32} (a : Nat) {df lo hi : Int} {offs : Array Int} {len : Nat} (z : Int32) {off : Int} (tgt : Nat) (hz : x = z) (ha : M.2.2.2.2.2[a]? = some (pc, .tableswitch df lo hi offs, len)) (h1 : ¬ z.toInt < lo) (h2 : ¬ hi < z.toInt) (ho : offs[(z.toInt - lo).toNat]? = some off) (ht : (pc : Int) + off = (tgt : Int)) (kk : mj_W M Fin tgt l st h k n) : mj_W M Fin pc l (.int x :: st) h k n := by
  intro p lc e s m args below meth c H locs ls A Q dC dI cy ad ad0 n0 CX I hl hcl hcs hag hn hzz hret
  have CX' := CX
  have I' := I
  obtain ⟨hx, hb, hml, hr, hown, hts, hlk, hnm, hN, hT⟩ := CX
  obtain ⟨hK, hA, hR, hP, hD, hS, hch⟩ := I
  subst hz
  exact lv_tableIn hx hb (mj_dec hT ha) h1 h2 ho ht (kk p lc e s m args below meth c H locs ls A Q dC dI cy ad ad0 n0 CX' I' hl hcl (mj_tl hcs) hag hn hzz hret)
theorem mj_swOut {M : mj_M} {Fin : mj_F} {pc : Nat} {l : List (Nat × Value)} {st : List Value} {h : mj_H} {k n : Nat} {x : Int32} (a : Nat) {df lo hi : Int} {offs : Array Int} {len : Nat} (tgt : Nat) (ha : M.2.2.2.2.2[a]? = some (pc, .tableswitch df lo hi offs, len)) (hz : x.toInt < lo ∨ hi < x.toInt) (ht : (pc : Int) + df = (tgt : Int)) (kk : mj_W M Fin tgt l st h k n) : mj_W M Fin pc l (.int x :: st) h k n := by
  intro p lc e s m args below meth c H locs ls A Q dC dI cy ad ad0 n0 CX I hl hcl hcs hag hn hzz hret
  have CX' := CX
  have I' := I
  obtain ⟨hx, hb, hml, hr, hown, hts, hlk, hnm, hN, hT⟩ := CX
  obtain ⟨hK, hA, hR, hP, hD, hS, hch⟩ := I
  exact lv_tableOut hx hb (mj_dec hT ha) hz ht (kk p lc e s m args below meth c H locs ls A Q dC dI cy ad ad0 n0 CX' I' hl hcl (mj_tl hcs) hag hn hzz hret)
theorem mj_neI {x z : Int32} {i : Int} (hi : z.toInt = i) (h : ¬ x = z) : x.toInt ≠ i := fun e => h (Int32.toInt_inj.mp (e.trans hi.symm))
theorem mj_idiv {M : mj_M} {Fin : mj_F} {pc : Nat} {l : List (Nat × Value)} {st : List Value} {h : mj_H} {k n : Nat} {x y : Int32} (a : Nat) (ha : M.2.2.2.2.2[a]? = some (pc, .idiv, 1)) (hy : ¬ y = 0) (kk : mj_W M Fin (pc + 1) l (.int (x / y) :: st) h k n) : mj_W M Fin pc l (.int y :: .int x :: st) h k n := by
  intro p lc e s m args below meth c H locs ls A Q dC dI cy ad ad0 n0 CX I hl hcl hcs hag hn hzz hret
  have CX' := CX
  have I' := I
  obtain ⟨hx, hb, hml, hr, hown, hts, hlk, hnm, hN, hT⟩ := CX
  obtain ⟨hK, hA, hR, hP, hD, hS, hch⟩ := I
  exact lv_idiv hx hb (mj_dec hT ha) hy (kk p lc e s m args below meth c H locs ls A Q dC dI cy ad ad0 n0 CX' I' hl hcl (mj_cs trivial (mj_tl (mj_tl hcs))) hag hn hzz hret)
theorem mj_irem {M : mj_M} {Fin : mj_F} {pc : Nat} {l : List (Nat × Value)} {st : List Value} {h : mj_H} {k n : Nat} {x y : Int32} (a : Nat) (ha : M.2.2.2.2.2[a]? = some (pc, .irem, 1)) (hy : ¬ y = 0) (kk : mj_W M Fin (pc + 1) l (.int (x - x / y * y) :: st) h k n) : mj_W M Fin pc l (.int y :: .int x :: st) h k n := by
  intro p lc e s m args below meth c H locs ls A Q dC dI cy ad ad0 n0 CX I hl hcl hcs hag hn hzz hret
  have CX' := CX
  have I' := I
  obtain ⟨hx, hb, hml, hr, hown, hts, hlk, hnm, hN, hT⟩ := CX
  obtain ⟨hK, hA, hR, hP, hD, hS, hch⟩ := I
  exact lv_irem hx hb (mj_dec hT ha) hy (kk p lc e s m args below meth c H locs ls A Q dC dI cy ad ad0 n0 CX' I' hl hcl (mj_cs trivial (mj_tl (mj_tl hcs))) hag hn hzz hret)
theorem mj_ldiv {M : mj_M} {Fin : mj_F} {pc : Nat} {l : List (Nat × Value)} {st : List Value} {h : mj_H} {k n : Nat} {x y : Int64} (a : Nat) (ha : M.2.2.2.2.2[a]? = some (pc, .ldiv, 1)) (hy : ¬ y = 0) (kk : mj_W M Fin (pc + 1) l (.long (x / y) :: st) h k n) : mj_W M Fin pc l (.long y :: .long x :: st) h k n := by
  intro p lc e s m args below meth c H locs ls A Q dC dI cy ad ad0 n0 CX I hl hcl hcs hag hn hzz hret
  have CX' := CX
  have I' := I
  obtain ⟨hx, hb, hml, hr, hown, hts, hlk, hnm, hN, hT⟩ := CX
  obtain ⟨hK, hA, hR, hP, hD, hS, hch⟩ := I
  exact lv_ldiv hx hb (mj_dec hT ha) hy (kk p lc e s m args below meth c H locs ls A Q dC dI cy ad ad0 n0 CX' I' hl hcl (mj_cs trivial (mj_tl (mj_tl hcs))) hag hn hzz hret)
theorem mj_lrem {M : mj_M} {Fin : mj_F} {pc : Nat} {l : List (Nat × Value)} {st : List Value} {h : mj_H} {k n : Nat} {x y : Int64} (a : Nat) (ha : M.2.2.2.2.2[a]? = some (pc, .lrem, 1)) (hy : ¬ y = 0) (kk : mj_W M Fin (pc + 1) l (.long (x - x / y * y) :: st) h k n) : mj_W M Fin pc l (.long y :: .long x :: st) h k n := by
  intro p lc e s m args below meth c H locs ls A Q dC dI cy ad ad0 n0 CX I hl hcl hcs hag hn hzz hret
  have CX' := CX
  have I' := I
  obtain ⟨hx, hb, hml, hr, hown, hts, hlk, hnm, hN, hT⟩ := CX
  obtain ⟨hK, hA, hR, hP, hD, hS, hch⟩ := I
  exact lv_lrem hx hb (mj_dec hT ha) hy (kk p lc e s m args below meth c H locs ls A Q dC dI cy ad ad0 n0 CX' I' hl hcl (mj_cs trivial (mj_tl (mj_tl hcs))) hag hn hzz hret)
end
section
/-! rules: fields -/
def mj_FL (own : String) (idx ci fk : Nat) : Prop := ∃ (C : String) (T : u_T) (N : Nat), vwCl[ci]? = some (C, T, N) ∧ fk < N ∧ (∀ w ∈ u_ws C T N, w ∈ mj_G) ∧ (Jvm.Cond.fieldLink own idx (T fk).1 (T fk).2.1 (T fk).2.2.1 ∈ mj_G ∨ ∃ host, Jvm.Cond.fieldLinkNest own idx (T fk).1 (T fk).2.1 (T fk).2.2.1 host ∈ mj_N)
def mj_FP (own name : String) (idx ci fk : Nat) (ty : FieldType) : Prop := ∃ (C : String) (T : u_T) (N : Nat) (ty0 : Nat → FieldType), vwCl[ci]? = some (C, T, N) ∧ fk < N ∧ (∀ w ∈ u_ws C T N, w ∈ mj_G) ∧ (∀ k, k < N → parseFieldDescriptor (T k).2.2.1 = some (ty0 k)) ∧ (∀ a, a < N → ∀ b, b < N → a ≠ b → (T a).2.1 ≠ (T b).2.1) ∧ ty0 fk = ty ∧
  (((T fk).2.2.2 = false ∧ (Jvm.Cond.fieldLink own idx (T fk).1 (T fk).2.1 (T fk).2.2.1 ∈ mj_G ∨ ∃ host, Jvm.Cond.fieldLinkNest own idx (T fk).1 (T fk).2.1 (T fk).2.2.1 host ∈ mj_N)) ∨ ((T fk).2.2.2 = true ∧ name = "<init>" ∧ (T fk).1 = own ∧ Jvm.Cond.fieldLink own idx (T fk).1 (T fk).2.1 (T fk).2.2.1 ∈ mj_G))
def mj_gV (h : mj_H) (b ci fk : Nat) : Option Value := match h[b]? with
  | some (.inr q) => if q.1 = ci then q.2[fk]? else none
  | _ => none
def mj_gI (h : mj_H) (b ci fk : Nat) : Option Int32 := match mj_gV h b ci fk with
  | some (.int x) => some x
  | _ => none
def mj_gJ (h : mj_H) (b ci fk : Nat) : Option Int64 := match mj_gV h b ci fk with
  | some (.long x) => some x
  | _ => none
def mj_gR (h : mj_H) (b ci fk : Nat) : Option Nat := match mj_gV h b ci fk with
  | some (.ref x) => some x
  | _ => none
theorem mj_gI_V {h : mj_H} {b ci fk : Nat} {x : Int32} (e : mj_gI h b ci fk = some x) : mj_gV h b ci fk = some (.int x) := by
  unfold mj_gI at e
  split at e
  next y hy => cases e; exact hy
  next => cases e
theorem mj_gJ_V {h : mj_H} {b ci fk : Nat} {x : Int64} (e : mj_gJ h b ci fk = some x) : mj_gV h b ci fk = some (.long x) := by
  unfold mj_gJ at e
  split at e
  next y hy => cases e; exact hy
  next => cases e
theorem mj_gR_V {h : mj_H} {b ci fk : Nat} {x : Nat} (e : mj_gR h b ci fk = some x) : mj_gV h b ci fk = some (.ref x) := by
  unfold mj_gR at e
  split at e
  next y hy => cases e; exact hy
  next => cases e
theorem mj_gV_at {h : mj_H} {b ci fk : Nat} {v : Value} (e : mj_gV h b ci fk = some v) : ∃ fs : List Value, h[b]? = some (.inr (ci, fs)) ∧ fs[fk]? = some v := by
  unfold mj_gV at e
  split at e
  next q hq =>
    split at e
    next hc => exact ⟨q.2, by rw [hq, ← hc], e⟩
    next => cases e
  next => cases e
def mj_sV (h : mj_H) (b ci fk : Nat) (v : Value) : Option mj_H := match h[b]? with
  | some (.inr q) => if q.1 = ci then (if fk < q.2.length then some (h.set b (.inr (ci, q.2.set fk v))) else none) else none
  | _ => none
theorem mj_sV_at {h h' : mj_H} {b ci fk : Nat} {v : Value} (e : mj_sV h b ci fk v = some h') : ∃ fs : List Value, h[b]? = some (.inr (ci, fs)) ∧ fk < fs.length ∧ h' = h.set b (.inr (ci, fs.set fk v)) := by
  unfold mj_sV at e
  split at e
  next q hq =>
    split at e
    next hc =>
      split at e
      next hl => cases e; exact ⟨q.2, by rw [hq, ← hc], hl, rfl⟩
      next => cases e
    next => cases e
  next => cases e
theorem mj_gV_c {h : mj_H} (hch : mj_ch h) {b ci fk : Nat} {v : Value} (e : mj_gV h b ci fk = some v) : mj_cv h.length v := by
  obtain ⟨fs, h1, h2⟩ := mj_gV_at e
  exact hch.2 _ (List.mem_of_getElem? h1) v (List.mem_of_getElem? h2)
theorem mj_get {M : mj_M} {Fin : mj_F} {pc : Nat} {l : List (Nat × Value)} {st : List Value} {h : mj_H} {k n : Nat} {b ci fk idx : Nat} {v : Value} (a : Nat) (ha : M.2.2.2.2.2[a]? = some (pc, .getfield idx, 3)) (hf : mj_FL M.1.cls idx ci fk) (hv : mj_gV h b ci fk = some v) (kk : mj_W M Fin (pc + 3) l (v :: st) h k n) : mj_W M Fin pc l (.ref b :: st) h k n := by
  intro p lc e s m args below meth c H locs ls A Q dC dI cy ad ad0 n0 CX I hl hcl hcs hag hn hzz hret
  have CX' := CX
  have I' := I
  obtain ⟨hx, hb, hml, hr, hown, hts, hlk, hnm, hN, hT⟩ := CX
  obtain ⟨hK, hA, hR, hP, hD, hS, hch⟩ := I
  obtain ⟨C, T, N, f1, f2, f3, f4⟩ := hf
  obtain ⟨fs, h1, h2⟩ := mj_gV_at hv
  have hw := mj_w_get cy ad h1
  have hv2 : (fs.map (mj_v ad))[fk]? = some (mj_v ad v) := by rw [List.getElem?_map, h2]; rfl
  have hvc := mj_gV_c hch hv
  rcases f4 with f4 | ⟨host, f4⟩
  · exact va_get hx hb hts f3 hown hK hP b hw f1 fk f2 (hts _ f4) (fun _ q => q) hv2 (mj_dec hT ha) (kk p lc e s m args below meth c H locs ls A Q dC dI cy ad ad0 n0 CX' I' hl hcl (mj_cs hvc (mj_tl hcs)) hag hn hzz hret)
  · exact va_getN hx hb hts f3 hown hK hP b hw f1 fk f2 (va_Nw.use rfl (hN _ f4)) (fun _ q => q) hv2 (mj_dec hT ha) (kk p lc e s m args below meth c H locs ls A Q dC dI cy ad ad0 n0 CX' I' hl hcl (mj_cs hvc (mj_tl hcs)) hag hn hzz hret)
theorem mj_put {M : mj_M} {Fin : mj_F} {pc : Nat} {l : List (Nat × Value)} {st : List Value} {h : mj_H} {k n : Nat} {b ci fk idx : Nat} {v : Value} {ty : FieldType} {h' : mj_H} (a : Nat) (ha : M.2.2.2.2.2[a]? = some (pc, .putfield idx, 3)) (hf : mj_FP M.1.cls M.1.name idx ci fk ty) (hv : ∀ ad, narrow ty (mj_v ad v) = mj_v ad v ∧ fits ty (mj_v ad v) = true) (hs : mj_sV h b ci fk v = some h') (kk : mj_W M Fin (pc + 3) l st h' k n) : mj_W M Fin pc l (v :: .ref b :: st) h k n := by
  intro p lc e s m args below meth c H locs ls A Q dC dI cy ad ad0 n0 CX I hl hcl hcs hag hn hzz hret
  have CX' := CX
  have I' := I
  obtain ⟨hx, hb, hml, hr, hown, hts, hlk, hnm, hN, hT⟩ := CX
  obtain ⟨hK, hA, hR, hP, hD, hS, hch⟩ := I
  obtain ⟨C, T, N, ty0, f1, f2, f3, f4, f5, f6, f7⟩ := hf
  obtain ⟨fs, h1, h2, rfl⟩ := mj_sV_at hs
  have hw := mj_w_get cy ad h1
  have hv2 : fk < (fs.map (mj_v ad)).length := by rw [List.length_map]; exact h2
  have hvc : mj_cv h.length v := hcs v List.mem_cons_self
  have hset : (mj_w cy ad h).set b (ad b, .inr (ci, (fs.map (mj_v ad)).set fk (mj_v ad v))) = mj_w cy ad (h.set b (.inr (ci, fs.set fk v))) := by
    rw [← mj_w_set]
    simp only [mj_c, List.map_set]
  have hcc : mj_cc h.length (.inr (ci, fs.set fk v)) := by
    intro w hw2
    rcases List.mem_or_eq_of_mem_set hw2 with q | q
    · exact hch.2 _ (List.mem_of_getElem? h1) w q
    · rw [q]; exact hvc
  have hch' := mj_ch_set hch b hcc
  have hlen : (h.set b (.inr (ci, fs.set fk v))).length = h.length := List.length_set
  have hd := f6 ▸ f4 fk f2
  rcases f7 with ⟨g1, g2⟩ | ⟨g1, g2, g3, g4⟩
  · rcases g2 with g2 | ⟨host, g2⟩
    · exact va_put hx hb hts f3 ty0 f4 f5 hown hK hP hD hS b hw f1 fk f2 (hts _ g2) (fun _ q => q) g1 hd (hv ad).1 (hv ad).2 hv2 (mj_dec hT ha) (fun H1 locs1 hP1 hD1 hS1 => kk p lc e s m args below meth c H1 locs1 ls A Q dC dI cy ad ad0 n0 CX' ⟨hK, hA, hR, hset ▸ hP1, hset ▸ hD1, hS1, hch'⟩ hl (by rw [hlen]; exact hcl) (by rw [hlen]; exact mj_tl (mj_tl hcs)) hag (by rw [hlen]; exact hn) hzz hret)
    · exact va_putN hx hb hts f3 ty0 f4 f5 hown hK hP hD hS b hw f1 fk f2 (va_Nw.use rfl (hN _ g2)) (fun _ q => q) g1 hd (hv ad).1 (hv ad).2 hv2 (mj_dec hT ha) (fun H1 locs1 hP1 hD1 hS1 => kk p lc e s m args below meth c H1 locs1 ls A Q dC dI cy ad ad0 n0 CX' ⟨hK, hA, hR, hset ▸ hP1, hset ▸ hD1, hS1, hch'⟩ hl (by rw [hlen]; exact hcl) (by rw [hlen]; exact mj_tl (mj_tl hcs)) hag (by rw [hlen]; exact hn) hzz hret)
  · exact va_putF hx hb hts f3 ty0 f4 f5 hown hK hP hD hS b hw f1 fk f2 (hts _ g4) (fun _ q => q) g1 (hnm.trans g2) g3 hd (hv ad).1 (hv ad).2 hv2 (mj_dec hT ha) (fun H1 locs1 hP1 hD1 hS1 => kk p lc e s m args below meth c H1 locs1 ls A Q dC dI cy ad ad0 n0 CX' ⟨hK, hA, hR, hset ▸ hP1, hset ▸ hD1, hS1, hch'⟩ hl (by rw [hlen]; exact hcl) (by rw [hlen]; exact mj_tl (mj_tl hcs)) hag (by rw [hlen]; exact hn) hzz hret)
end
section
/-! rules: arrays -/
def mj_ok (j : Int32) (n : Nat) : Bool := decide (0 ≤ j.toInt) && decide (j.toInt < n)
theorem mj_ok_in {j : Int32} {n : Nat} (h : mj_ok j n = true) : vp_in j n := by
  simp only [mj_ok, Bool.and_eq_true, decide_eq_true_eq] at h
  exact vp_in_iff.mpr h
def mj_aI (h : mj_H) (b : Nat) (j : Int32) : Option Int32 := match h[b]? with
  | some (.inl (0, n, .inl f)) => if mj_ok j n then some (f j.toNatClampNeg) else none
  | _ => none
def mj_aZ (h : mj_H) (b : Nat) (j : Int32) : Option Int32 := match h[b]? with
  | some (.inl (2, n, .inl f)) => if mj_ok j n then some (f j.toNatClampNeg) else none
  | _ => none
def mj_aJ (h : mj_H) (b : Nat) (j : Int32) : Option Int64 := match h[b]? with
  | some (.inl (1, n, .inr (.inl f))) => if mj_ok j n then some (f j.toNatClampNeg) else none
  | _ => none
def mj_uI (h : mj_H) (b : Nat) (j : Int32) (x : Int32) : Option mj_H := match h[b]? with
  | some (.inl (0, n, .inl f)) => if mj_ok j n then some (h.set b (.inl (0, n, .inl (upd f j.toNatClampNeg x)))) else none
  | _ => none
def mj_uZ (h : mj_H) (b : Nat) (j : Int32) (x : Int32) : Option mj_H := match h[b]? with
  | some (.inl (2, n, .inl f)) => if mj_ok j n then some (h.set b (.inl (2, n, .inl (upd f j.toNatClampNeg (vp_nar .boolean x))))) else none
  | _ => none
def mj_uJ (h : mj_H) (b : Nat) (j : Int32) (x : Int64) : Option mj_H := match h[b]? with
  | some (.inl (1, n, .inr (.inl f))) => if mj_ok j n then some (h.set b (.inl (1, n, .inr (.inl (vp_updL f j.toNatClampNeg x))))) else none
  | _ => none
def mj_aL (h : mj_H) (b : Nat) : Option Int32 := match h[b]? with
  | some (.inl (0, n, _)) => some (Int32.ofNat n)
  | some (.inl (1, n, _)) => some (Int32.ofNat n)
  | _ => none
theorem mj_iald {M : mj_M} {Fin : mj_F} {pc : Nat} {l : List (Nat × Value)} {st : List Value} {h : mj_H} {k n : Nat} {b : Nat} {j : Int32} {x : Int32} (a : Nat) (ha : M.2.2.2.2.2[a]? = some (pc, .iaload, 1)) (hv : mj_aI h b j = some x) (kk : mj_W M Fin (pc + 1) l (.int x :: st) h k n) : mj_W M Fin pc l (.int j :: .ref b :: st) h k n := by
  intro p lc e s m args below meth c H locs ls A Q dC dI cy ad ad0 n0 CX I hl hcl hcs hag hn hzz hret
  have CX' := CX
  have I' := I
  obtain ⟨hx, hb, hml, hr, hown, hts, hlk, hnm, hN, hT⟩ := CX
  obtain ⟨hK, hA, hR, hP, hD, hS, hch⟩ := I
  unfold mj_aI at hv
  split at hv
  next nn f hq =>
    split at hv
    next hin =>
      cases hv
      exact va_iald hx hb hK hP b 0 (mj_w_get cy ad hq) rfl (mj_ok_in hin) (mj_dec hT ha) (kk p lc e s m args below meth c H locs ls A Q dC dI cy ad ad0 n0 CX' I' hl hcl (mj_cs trivial (mj_tl (mj_tl hcs))) hag hn hzz hret)
    next => cases hv
  next => cases hv
theorem mj_zald {M : mj_M} {Fin : mj_F} {pc : Nat} {l : List (Nat × Value)} {st : List Value} {h : mj_H} {k n : Nat} {b : Nat} {j : Int32} {x : Int32} (a : Nat) (ha : M.2.2.2.2.2[a]? = some (pc, .baload, 1)) (hv : mj_aZ h b j = some x) (kk : mj_W M Fin (pc + 1) l (.int x :: st) h k n) : mj_W M Fin pc l (.int j :: .ref b :: st) h k n := by
  intro p lc e s m args below meth c H locs ls A Q dC dI cy ad ad0 n0 CX I hl hcl hcs hag hn hzz hret
  have CX' := CX
  have I' := I
  obtain ⟨hx, hb, hml, hr, hown, hts, hlk, hnm, hN, hT⟩ := CX
  obtain ⟨hK, hA, hR, hP, hD, hS, hch⟩ := I
  unfold mj_aZ at hv
  split at hv
  next nn f hq =>
    split at hv
    next hin =>
      cases hv
      exact va_zald hx hb hK hP b 2 (mj_w_get cy ad hq) rfl (mj_ok_in hin) (mj_dec hT ha) (kk p lc e s m args below meth c H locs ls A Q dC dI cy ad ad0 n0 CX' I' hl hcl (mj_cs trivial (mj_tl (mj_tl hcs))) hag hn hzz hret)
    next => cases hv
  next => cases hv
theorem mj_lald {M : mj_M} {Fin : mj_F} {pc : Nat} {l : List (Nat × Value)} {st : List Value} {h : mj_H} {k n : Nat} {b : Nat} {j : Int32} {x : Int64} (a : Nat) (ha : M.2.2.2.2.2[a]? = some (pc, .laload, 1)) (hv : mj_aJ h b j = some x) (kk : mj_W M Fin (pc + 1) l (.long x :: st) h k n) : mj_W M Fin pc l (.int j :: .ref b :: st) h k n := by
  intro p lc e s m args below meth c H locs ls A Q dC dI cy ad ad0 n0 CX I hl hcl hcs hag hn hzz hret
  have CX' := CX
  have I' := I
  obtain ⟨hx, hb, hml, hr, hown, hts, hlk, hnm, hN, hT⟩ := CX
  obtain ⟨hK, hA, hR, hP, hD, hS, hch⟩ := I
  unfold mj_aJ at hv
  split at hv
  next nn f hq =>
    split at hv
    next hin =>
      cases hv
      exact va_lald hx hb hK hP b 1 (mj_w_get cy ad hq) rfl (mj_ok_in hin) (mj_dec hT ha) (kk p lc e s m args below meth c H locs ls A Q dC dI cy ad ad0 n0 CX' I' hl hcl (mj_cs trivial (mj_tl (mj_tl hcs))) hag hn hzz hret)
    next => cases hv
  next => cases hv
theorem mj_iast {M : mj_M} {Fin : mj_F} {pc : Nat} {l : List (Nat × Value)} {st : List Value} {h : mj_H} {k n : Nat} {b : Nat} {j : Int32} {x : Int32} {h' : mj_H} (a : Nat) (ha : M.2.2.2.2.2[a]? = some (pc, .iastore, 1)) (hv : mj_uI h b j x = some h') (kk : mj_W M Fin (pc + 1) l st h' k n) : mj_W M Fin pc l (.int x :: .int j :: .ref b :: st) h k n := by
  intro p lc e s m args below meth c H locs ls A Q dC dI cy ad ad0 n0 CX I hl hcl hcs hag hn hzz hret
  have CX' := CX
  have I' := I
  obtain ⟨hx, hb, hml, hr, hown, hts, hlk, hnm, hN, hT⟩ := CX
  obtain ⟨hK, hA, hR, hP, hD, hS, hch⟩ := I
  unfold mj_uI at hv
  split at hv
  next nn f hq =>
    split at hv
    next hin =>
      cases hv
      have hch' := mj_ch_set hch b (c := .inl (0, nn, .inl (upd f j.toNatClampNeg x))) trivial
      have hlen : (h.set b (.inl (0, nn, .inl (upd f j.toNatClampNeg x)))).length = h.length := List.length_set
      have hset := mj_w_set cy ad h b (.inl (0, nn, .inl (upd f j.toNatClampNeg x)))
      exact va_iast hx hb hK hP hD hS b 0 (mj_w_get cy ad hq) rfl (mj_ok_in hin) (mj_dec hT ha) (fun H1 locs1 hP1 hD1 hS1 => kk p lc e s m args below meth c H1 locs1 ls A Q dC dI cy ad ad0 n0 CX' ⟨hK, hA, hR, hset ▸ hP1, hset ▸ hD1, hS1, hch'⟩ hl (by rw [hlen]; exact hcl) (by rw [hlen]; exact mj_tl (mj_tl (mj_tl hcs))) hag (by rw [hlen]; exact hn) hzz hret)
    next => cases hv
  next => cases hv
theorem mj_zast {M : mj_M} {Fin : mj_F} {pc : Nat} {l : List (Nat × Value)} {st : List Value} {h : mj_H} {k n : Nat} {b : Nat} {j : Int32} {x : Int32} {h' : mj_H} (a : Nat) (ha : M.2.2.2.2.2[a]? = some (pc, .bastore, 1)) (hv : mj_uZ h b j x = some h') (kk : mj_W M Fin (pc + 1) l st h' k n) : mj_W M Fin pc l (.int x :: .int j :: .ref b :: st) h k n := by
  intro p lc e s m args below meth c H locs ls A Q dC dI cy ad ad0 n0 CX I hl hcl hcs hag hn hzz hret
  have CX' := CX
  have I' := I
  obtain ⟨hx, hb, hml, hr, hown, hts, hlk, hnm, hN, hT⟩ := CX
  obtain ⟨hK, hA, hR, hP, hD, hS, hch⟩ := I
  unfold mj_uZ at hv
  split at hv
  next nn f hq =>
    split at hv
    next hin =>
      cases hv
      have hch' := mj_ch_set hch b (c := .inl (2, nn, .inl (upd f j.toNatClampNeg (vp_nar .boolean x)))) trivial
      have hlen : (h.set b (.inl (2, nn, .inl (upd f j.toNatClampNeg (vp_nar .boolean x))))).length = h.length := List.length_set
      have hset := mj_w_set cy ad h b (.inl (2, nn, .inl (upd f j.toNatClampNeg (vp_nar .boolean x))))
      exact va_zast hx hb hK hP hD hS b 2 (mj_w_get cy ad hq) rfl (mj_ok_in hin) (mj_dec hT ha) (fun H1 locs1 hP1 hD1 hS1 => kk p lc e s m args below meth c H1 locs1 ls A Q dC dI cy ad ad0 n0 CX' ⟨hK, hA, hR, hset ▸ hP1, hset ▸ hD1, hS1, hch'⟩ hl (by rw [hlen]; exact hcl) (by rw [hlen]; exact mj_tl (mj_tl (mj_tl hcs))) hag (by rw [hlen]; exact hn) hzz hret)
    next => cases hv
  next => cases hv
theorem mj_last {M : mj_M} {Fin : mj_F} {pc : Nat} {l : List (Nat × Value)} {st : List Value} {h : mj_H} {k n : Nat} {b : Nat} {j : Int32} {x : Int64} {h' : mj_H} (a : Nat) (ha : M.2.2.2.2.2[a]? = some (pc, .lastore, 1)) (hv : mj_uJ h b j x = some h') (kk : mj_W M Fin (pc + 1) l st h' k n) : mj_W M Fin pc l (.long x :: .int j :: .ref b :: st) h k n := by
  intro p lc e s m args below meth c H locs ls A Q dC dI cy ad ad0 n0 CX I hl hcl hcs hag hn hzz hret
  have CX' := CX
  have I' := I
  obtain ⟨hx, hb, hml, hr, hown, hts, hlk, hnm, hN, hT⟩ := CX
  obtain ⟨hK, hA, hR, hP, hD, hS, hch⟩ := I
  unfold mj_uJ at hv
  split at hv
  next nn f hq =>
    split at hv
    next hin =>
      cases hv
      have hch' := mj_ch_set hch b (c := .inl (1, nn, .inr (.inl (vp_updL f j.toNatClampNeg x)))) trivial
      have hlen : (h.set b (.inl (1, nn, .inr (.inl (vp_updL f j.toNatClampNeg x))))).length = h.length := List.length_set
      have hset := mj_w_set cy ad h b (.inl (1, nn, .inr (.inl (vp_updL f j.toNatClampNeg x))))
      exact va_last hx hb hK hP hD hS b 1 (mj_w_get cy ad hq) rfl (mj_ok_in hin) (mj_dec hT ha) (fun H1 locs1 hP1 hD1 hS1 => kk p lc e s m args below meth c H1 locs1 ls A Q dC dI cy ad ad0 n0 CX' ⟨hK, hA, hR, hset ▸ hP1, hset ▸ hD1, hS1, hch'⟩ hl (by rw [hlen]; exact hcl) (by rw [hlen]; exact mj_tl (mj_tl (mj_tl hcs))) hag (by rw [hlen]; exact hn) hzz hret)
    next => cases hv
  next => cases hv
theorem mj_alen {M : mj_M} {Fin : mj_F} {pc : Nat} {l : List (Nat × Value)} {st : List Value} {h : mj_H} {k n : Nat} {b : Nat} {x : Int32} (a : Nat) (ha : M.2.2.2.2.2[a]? = some (pc, .arraylength, 1)) (hv : mj_aL h b = some x) (kk : mj_W M Fin (pc + 1) l (.int x :: st) h k n) : mj_W M Fin pc l (.ref b :: st) h k n := by
  intro p lc e s m args below meth c H locs ls A Q dC dI cy ad ad0 n0 CX I hl hcl hcs hag hn hzz hret
  have CX' := CX
  have I' := I
  obtain ⟨hx, hb, hml, hr, hown, hts, hlk, hnm, hN, hT⟩ := CX
  obtain ⟨hK, hA, hR, hP, hD, hS, hch⟩ := I
  unfold mj_aL at hv
  split at hv
  next nn f hq =>
    cases hv
    exact va_alen hx hb hK hP b 0 (mj_w_get cy ad hq) rfl rfl (mj_dec hT ha) (kk p lc e s m args below meth c H locs ls A Q dC dI cy ad ad0 n0 CX' I' hl hcl (mj_cs trivial (mj_tl hcs)) hag hn hzz hret)
  next nn f hq =>
    cases hv
    exact va_alen hx hb hK hP b 1 (mj_w_get cy ad hq) rfl rfl (mj_dec hT ha) (kk p lc e s m args below meth c H locs ls A Q dC dI cy ad ad0 n0 CX' I' hl hcl (mj_cs trivial (mj_tl hcs)) hag hn hzz hret)
  next => cases hv
end
section
/-! rules: static arrays, String constants -/
def mj_roA (q : Nat) (j : Int32) : Option Int32 := if mj_ok j (mj_roN q) then some (mj_roI q j.toNatClampNeg) else none
theorem mj_gets {M : mj_M} {Fin : mj_F} {pc : Nat} {l : List (Nat × Value)} {st : List Value} {h : mj_H} {k n : Nat} {idx : Nat} (q : String × String × Nat) (a : Nat) (ha : M.2.2.2.2.2[a]? = some (pc, .getstatic idx, 3)) (hq : q ∈ mj_stat) (hw : Jvm.Cond.fieldLink M.1.cls idx q.1 q.2.1 "[I" ∈ mj_G) (kk : mj_W M Fin (pc + 3) l (.ref (1000 + q.2.2) :: st) h k n) : mj_W M Fin pc l st h k n := by
  intro p lc e s m args below meth c H locs ls A Q dC dI cy ad ad0 n0 CX I hl hcl hcs hag hn hzz hret
  have CX' := CX
  have I' := I
  obtain ⟨hx, hb, hml, hr, hown, hts, hlk, hnm, hN, hT⟩ := CX
  obtain ⟨hK, hA, hR, hP, hD, hS, hch⟩ := I
  exact va_gets hx hb (hR.1 q hq).1 hS hown (hts _ hw) (fun _ z => z) (mj_dec hT ha) (kk p lc e s m args below meth c H locs ls A Q dC dI cy ad ad0 n0 CX' I' hl hcl (mj_cs (Or.inr (Nat.le_add_right _ _)) hcs) hag hn hzz hret)
theorem mj_ialdR {M : mj_M} {Fin : mj_F} {pc : Nat} {l : List (Nat × Value)} {st : List Value} {h : mj_H} {k n : Nat} {j x : Int32} (q : String × String × Nat) (a : Nat) (ha : M.2.2.2.2.2[a]? = some (pc, .iaload, 1)) (hq : q ∈ mj_stat) (hv : mj_roA q.2.2 j = some x) (kk : mj_W M Fin (pc + 1) l (.int x :: st) h k n) : mj_W M Fin pc l (.int j :: .ref (1000 + q.2.2) :: st) h k n := by
  intro p lc e s m args below meth c H locs ls A Q dC dI cy ad ad0 n0 CX I hl hcl hcs hag hn hzz hret
  have CX' := CX
  have I' := I
  obtain ⟨hx, hb, hml, hr, hown, hts, hlk, hnm, hN, hT⟩ := CX
  obtain ⟨hK, hA, hR, hP, hD, hS, hch⟩ := I
  unfold mj_roA at hv
  split at hv
  next hin =>
    cases hv
    exact va_ti hx hb (hR.1 q hq).2 hS (mj_ok_in hin) rfl (mj_dec hT ha) (kk p lc e s m args below meth c H locs ls A Q dC dI cy ad ad0 n0 CX' I' hl hcl (mj_cs trivial (mj_tl (mj_tl hcs))) hag hn hzz hret)
  next => cases hv
theorem mj_alenR {M : mj_M} {Fin : mj_F} {pc : Nat} {l : List (Nat × Value)} {st : List Value} {h : mj_H} {k n : Nat} (q : String × String × Nat) (a : Nat) (ha : M.2.2.2.2.2[a]? = some (pc, .arraylength, 1)) (hq : q ∈ mj_stat) (kk : mj_W M Fin (pc + 1) l (.int (Int32.ofNat (mj_roN q.2.2)) :: st) h k n) : mj_W M Fin pc l (.ref (1000 + q.2.2) :: st) h k n := by
  intro p lc e s m args below meth c H locs ls A Q dC dI cy ad ad0 n0 CX I hl hcl hcs hag hn hzz hret
  have CX' := CX
  have I' := I
  obtain ⟨hx, hb, hml, hr, hown, hts, hlk, hnm, hN, hT⟩ := CX
  obtain ⟨hK, hA, hR, hP, hD, hS, hch⟩ := I
  exact va_tlen hx hb (hR.1 q hq).2 hS rfl (mj_dec hT ha) (kk p lc e s m args below meth c H locs ls A Q dC dI cy ad ad0 n0 CX' I' hl hcl (mj_cs trivial (mj_tl hcs)) hag hn hzz hret)
theorem mj_ldcS {M : mj_M} {Fin : mj_F} {pc : Nat} {l : List (Nat × Value)} {st : List Value} {h : mj_H} {k n : Nat} {idx : Nat} {tx : String} (i a : Nat) (ha : M.2.2.2.2.2[a]? = some (pc, .ldc idx, 2)) (hi : mj_keys[i]? = some (idx, tx)) (ho : M.1.cls = "RiverChoice$Reader") (kk : mj_W M Fin (pc + 2) l (.ref (1010 + i) :: st) h k n) : mj_W M Fin pc l st h k n := by
  intro p lc e s m args below meth c H locs ls A Q dC dI cy ad ad0 n0 CX I hl hcl hcs hag hn hzz hret
  have CX' := CX
  have I' := I
  obtain ⟨hx, hb, hml, hr, hown, hts, hlk, hnm, hN, hT⟩ := CX
  obtain ⟨hK, hA, hR, hP, hD, hS, hch⟩ := I
  rw [ho] at hown
  exact va_ldcS hx hb hown (hR.2.2.2.2 i _ hi) (mj_dec hT ha) (kk p lc e s m args below meth c H locs ls A Q dC dI cy ad ad0 n0 CX' I' hl hcl (mj_cs (Or.inr (Nat.le_trans (by decide : (1000 : Nat) ≤ 1010) (Nat.le_add_right _ _))) hcs) hag hn hzz hret)
end
section
/-! rules: what is made -/
def mj_dflt (c : String × u_T × Nat) (ty : Nat → FieldType) (fs : List Value) : Prop := fs.length = c.2.2 ∧ ∀ j, j < c.2.2 → defaultValue (ty j) = vp_V fs j
def mj_NW (own : String) (idx ci N : Nat) (fs : List Value) : Prop := ∃ (C : String) (T : u_T) (ty0 : Nat → FieldType), vwCl[ci]? = some (C, T, N) ∧ (∀ w ∈ u_ws C T N, w ∈ mj_G) ∧ (∀ k, k < N → parseFieldDescriptor (T k).2.2.1 = some (ty0 k)) ∧ Jvm.Cond.classLink own idx C ∈ mj_G ∧ Jvm.Cond.instantiable C N ∈ mj_G ∧ Jvm.Cond.initialized C ∈ mj_G ∧ (∀ j, j < N → defaultValue (ty0 j) = vp_V fs j)
def mj_0 (v : Value) : Prop := match v with
  | .ref _ => False
  | _ => True
theorem mj_0_map {fs : List Value} (h : ∀ v ∈ fs, mj_0 v) (ad : Nat → Nat) : fs.map (mj_v ad) = fs := by
  conv => rhs; rw [← List.map_id fs]
  exact List.map_congr_left fun v hv => by
    have := h v hv
    cases v <;> first | rfl | exact this.elim
theorem mj_0_c {fs : List Value} (h : ∀ v ∈ fs, mj_0 v) (n : Nat) : ∀ v ∈ fs, mj_cv n v := fun v hv => by
  have := h v hv
  cases v <;> first | trivial | exact this.elim
theorem mj_push_I {dC : Nat → ClassId} {dI : Nat → Nat → Nat} {cy : Nat → ClassId} {A : Nat → Prop} {s : State} {ad : Nat → Nat} {h : mj_H} {H1 : Heap} {locs : List Loc} {q : Nat} {c : mj_C} (hK : va_K (dC, dI) vwCl (mj_ty cy) s) (hA : ∀ q, s.heap.size ≤ q → A q) (hR : mj_R ad A s s.heap) (hch : mj_ch h) (hl : h.length < 1000) (hc : mj_cc h.length c) (hP : va_P (dC, dI) vwCl (mj_w cy ad h ++ [(q, mj_c cy ad c)]) H1) (hD : va_D A (mj_w cy ad h ++ [(q, mj_c cy ad c)])) (hS : va_S A s.heap H1 locs) : mj_I dC dI cy A s (va_up ad h.length q) (h ++ [c]) H1 locs ∧ mj_ag h.length ad (va_up ad h.length q) := by
  obtain ⟨e1, e2⟩ := mj_w_push cy (ad := ad) q hch hl hc
  exact ⟨⟨hK, hA, hR.ag e2, e1 ▸ hP, e1 ▸ hD, hS, mj_ch_push hch hl hc⟩, e2⟩
theorem mj_new {M : mj_M} {Fin : mj_F} {pc : Nat} {l : List (Nat × Value)} {st : List Value} {h : mj_H} {k n : Nat} {idx ci N : Nat} {fs : List Value} (a : Nat) (ha : M.2.2.2.2.2[a]? = some (pc, .new idx, 3)) (hf : mj_NW M.1.cls idx ci N fs) (h0 : ∀ v ∈ fs, mj_0 v) (hl0 : h.length < 1000) (hk : k + 1 ≤ M.2.2.2.2.1.cells) (hn0 : n + N ≤ M.2.2.2.2.1.slots) (kk : mj_W M Fin (pc + 3) l (.ref h.length :: st) (h ++ [.inr (ci, fs)]) (k + 1) (n + N)) : mj_W M Fin pc l st h k n := by
  intro p lc e s m args below meth c H locs ls A Q dC dI cy ad ad0 n0 CX I hl hcl hcs hag hn hzz hret
  have CX' := CX
  have I' := I
  obtain ⟨hx, hb, hml, hr, hown, hts, hlk, hnm, hN, hT⟩ := CX
  obtain ⟨hK, hA, hR, hP, hD, hS, hch⟩ := I
  obtain ⟨C, T, ty0, f1, f2, f3, f4, f5, f6, f7⟩ := hf
  refine va_new hx hb hts f2 ty0 f3 hown (hts _ f4) (hts _ f5) (hts _ f6) hK hP hD hS hA f1 f7 hk hn0 (mj_dec hT ha) (fun q H1 hP1 hD1 hS1 => ?_)
  have ec : (Sum.inr (ci, fs) : va_E) = mj_c cy ad (.inr (ci, fs)) := by simp only [mj_c]; rw [mj_0_map h0]
  rw [ec] at hP1 hD1
  obtain ⟨I2, e2⟩ := mj_push_I (c := .inr (ci, fs)) hK hA hR hch hl0 (show mj_cc h.length (.inr (ci, fs)) from mj_0_c h0 h.length) hP1 hD1 hS1
  have HCS : ∀ v ∈ Value.ref h.length :: st, mj_cv (h ++ ([.inr (ci, fs)] : mj_H)).length v := mj_cs (Or.inl (by simp)) (fun w hw => mj_cv_mono (by simp) (hcs w hw))
  have key := kk p lc e s m args below meth c H1 locs ls A Q dC dI cy (va_up ad h.length q) ad0 n0 CX' I2 (by rw [mj_l_ag e2 hcl]; exact hl) (fun w hw => mj_cv_mono (by simp) (hcl w hw)) HCS (hag.tr e2 hn) (by simp; omega) hzz hret
  have est : (Value.ref h.length :: st).map (mj_v (va_up ad h.length q)) = Value.ref q :: st.map (mj_v ad) := by
    rw [List.map_cons, mj_s_ag e2 hcs]
    simp [mj_v, va_up_self]
  rw [est] at key
  exact key
theorem mj_newI {M : mj_M} {Fin : mj_F} {pc : Nat} {l : List (Nat × Value)} {st : List Value} {h : mj_H} {k n : Nat} {z : Int32} (N : Nat) (a : Nat) (ha : M.2.2.2.2.2[a]? = some (pc, .newarray .int, 2)) (hz : z = Int32.ofNat N) (hN : N < 65536) (hw : Jvm.Cond.arrayClass .int ∈ mj_G) (hl0 : h.length < 1000) (hk : k + 1 ≤ M.2.2.2.2.1.cells) (hn0 : n + N ≤ M.2.2.2.2.1.slots) (kk : mj_W M Fin (pc + 2) l (.ref h.length :: st) (h ++ [.inl (0, N, .inl (fun _ => (0 : Int32)))]) (k + 1) (n + N)) : mj_W M Fin pc l (.int z :: st) h k n := by
  intro p lc e s m args below meth c H locs ls A Q dC dI cy ad ad0 n0 CX I hl hcl hcs hag hn hzz hret
  have CX' := CX
  have I' := I
  obtain ⟨hx, hb, hml, hr, hown, hts, hlk, hnm, hN, hT⟩ := CX
  obtain ⟨hK, hA, hR, hP, hD, hS, hch⟩ := I
  subst hz
  have hz0 : ¬ Int32.ofNat N < 0 := nI_pos (n := N) (by omega)
  have hz1 : (Int32.ofNat N).toNatClampNeg = N := nI_clamp (n := N) (by omega)
  refine va_newa (atype := .int) (ty := .int) (a0 := (N, .inl (fun _ => (0 : Int32)))) hx hb (hts _ hw) rfl hK hP hD hS hA (fun _ => rfl) hz0 hz1 (by simp only [componentBytes]; omega) hk hn0 (mj_dec hT ha) (fun q cA H1 hK1 hP1 hD1 hS1 => ?_)
  have hca : cA = cy 0 := by
    have g1 := va_nm_int (hK1.2 3 _ rfl).2
    have g2 := va_nm_int (hK.2 0 _ rfl).2
    rw [g1] at g2
    exact Option.some.inj g2
  subst hca
  obtain ⟨I2, e2⟩ := mj_push_I (c := .inl (0, N, .inl (fun _ => (0 : Int32)))) hK hA hR hch hl0 trivial hP1 hD1 hS1
  have HCS : ∀ v ∈ Value.ref h.length :: st, mj_cv (h ++ ([.inl (0, N, .inl (fun _ => (0 : Int32)))] : mj_H)).length v := mj_cs (Or.inl (by simp)) (fun w hw => mj_cv_mono (by simp) (mj_tl hcs w hw))
  have key := kk p lc e s m args below meth c H1 locs ls A Q dC dI cy (va_up ad h.length q) ad0 n0 CX' I2 (by rw [mj_l_ag e2 hcl]; exact hl) (fun w hw => mj_cv_mono (by simp) (hcl w hw)) HCS (hag.tr e2 hn) (by simp; omega) hzz hret
  have est : (Value.ref h.length :: st).map (mj_v (va_up ad h.length q)) = Value.ref q :: st.map (mj_v ad) := by
    rw [List.map_cons, mj_s_ag e2 (mj_tl hcs)]
    simp [mj_v, va_up_self]
  rw [est] at key
  exact key
theorem mj_newJ {M : mj_M} {Fin : mj_F} {pc : Nat} {l : List (Nat × Value)} {st : List Value} {h : mj_H} {k n : Nat} {z : Int32} (N : Nat) (a : Nat) (ha : M.2.2.2.2.2[a]? = some (pc, .newarray .long, 2)) (hz : z = Int32.ofNat N) (hN : N < 65536) (hw : Jvm.Cond.arrayClass .long ∈ mj_G) (hl0 : h.length < 1000) (hk : k + 1 ≤ M.2.2.2.2.1.cells) (hn0 : n + N ≤ M.2.2.2.2.1.slots) (kk : mj_W M Fin (pc + 2) l (.ref h.length :: st) (h ++ [.inl (1, N, .inr (.inl (fun _ => (0 : Int64))))]) (k + 1) (n + N)) : mj_W M Fin pc l (.int z :: st) h k n := by
  intro p lc e s m args below meth c H locs ls A Q dC dI cy ad ad0 n0 CX I hl hcl hcs hag hn hzz hret
  have CX' := CX
  have I' := I
  obtain ⟨hx, hb, hml, hr, hown, hts, hlk, hnm, hN, hT⟩ := CX
  obtain ⟨hK, hA, hR, hP, hD, hS, hch⟩ := I
  subst hz
  have hz0 : ¬ Int32.ofNat N < 0 := nI_pos (n := N) (by omega)
  have hz1 : (Int32.ofNat N).toNatClampNeg = N := nI_clamp (n := N) (by omega)
  refine va_newa (atype := .long) (ty := .long) (a0 := (N, .inr (.inl (fun _ => (0 : Int64))))) hx hb (hts _ hw) rfl hK hP hD hS hA (fun _ => rfl) hz0 hz1 (by simp only [componentBytes]; omega) hk hn0 (mj_dec hT ha) (fun q cA H1 hK1 hP1 hD1 hS1 => ?_)
  have hca : cA = cy 1 := by
    have g1 := va_nm_long (hK1.2 3 _ rfl).2
    have g2 := va_nm_long (hK.2 1 _ rfl).2
    rw [g1] at g2
    exact Option.some.inj g2
  subst hca
  obtain ⟨I2, e2⟩ := mj_push_I (c := .inl (1, N, .inr (.inl (fun _ => (0 : Int64))))) hK hA hR hch hl0 trivial hP1 hD1 hS1
  have HCS : ∀ v ∈ Value.ref h.length :: st, mj_cv (h ++ ([.inl (1, N, .inr (.inl (fun _ => (0 : Int64))))] : mj_H)).length v := mj_cs (Or.inl (by simp)) (fun w hw => mj_cv_mono (by simp) (mj_tl hcs w hw))
  have key := kk p lc e s m args below meth c H1 locs ls A Q dC dI cy (va_up ad h.length q) ad0 n0 CX' I2 (by rw [mj_l_ag e2 hcl]; exact hl) (fun w hw => mj_cv_mono (by simp) (hcl w hw)) HCS (hag.tr e2 hn) (by simp; omega) hzz hret
  have est : (Value.ref h.length :: st).map (mj_v (va_up ad h.length q)) = Value.ref q :: st.map (mj_v ad) := by
    rw [List.map_cons, mj_s_ag e2 (mj_tl hcs)]
    simp [mj_v, va_up_self]
  rw [est] at key
  exact key
theorem mj_newZ {M : mj_M} {Fin : mj_F} {pc : Nat} {l : List (Nat × Value)} {st : List Value} {h : mj_H} {k n : Nat} {z : Int32} (N : Nat) (a : Nat) (ha : M.2.2.2.2.2[a]? = some (pc, .newarray .boolean, 2)) (hz : z = Int32.ofNat N) (hN : N < 65536) (hw : Jvm.Cond.arrayClass .boolean ∈ mj_G) (hl0 : h.length < 1000) (hk : k + 1 ≤ M.2.2.2.2.1.cells) (hn0 : n + N ≤ M.2.2.2.2.1.slots) (kk : mj_W M Fin (pc + 2) l (.ref h.length :: st) (h ++ [.inl (2, N, .inl (fun _ => (0 : Int32)))]) (k + 1) (n + N)) : mj_W M Fin pc l (.int z :: st) h k n := by
  intro p lc e s m args below meth c H locs ls A Q dC dI cy ad ad0 n0 CX I hl hcl hcs hag hn hzz hret
  have CX' := CX
  have I' := I
  obtain ⟨hx, hb, hml, hr, hown, hts, hlk, hnm, hN, hT⟩ := CX
  obtain ⟨hK, hA, hR, hP, hD, hS, hch⟩ := I
  subst hz
  have hz0 : ¬ Int32.ofNat N < 0 := nI_pos (n := N) (by omega)
  have hz1 : (Int32.ofNat N).toNatClampNeg = N := nI_clamp (n := N) (by omega)
  refine va_newa (atype := .boolean) (ty := .boolean) (a0 := (N, .inl (fun _ => (0 : Int32)))) hx hb (hts _ hw) rfl hK hP hD hS hA (fun _ => rfl) hz0 hz1 (by simp only [componentBytes]; omega) hk hn0 (mj_dec hT ha) (fun q cA H1 hK1 hP1 hD1 hS1 => ?_)
  have hca : cA = cy 2 := by
    have g1 := va_nm_boolean (hK1.2 3 _ rfl).2
    have g2 := va_nm_boolean (hK.2 2 _ rfl).2
    rw [g1] at g2
    exact Option.some.inj g2
  subst hca
  obtain ⟨I2, e2⟩ := mj_push_I (c := .inl (2, N, .inl (fun _ => (0 : Int32)))) hK hA hR hch hl0 trivial hP1 hD1 hS1
  have HCS : ∀ v ∈ Value.ref h.length :: st, mj_cv (h ++ ([.inl (2, N, .inl (fun _ => (0 : Int32)))] : mj_H)).length v := mj_cs (Or.inl (by simp)) (fun w hw => mj_cv_mono (by simp) (mj_tl hcs w hw))
  have key := kk p lc e s m args below meth c H1 locs ls A Q dC dI cy (va_up ad h.length q) ad0 n0 CX' I2 (by rw [mj_l_ag e2 hcl]; exact hl) (fun w hw => mj_cv_mono (by simp) (hcl w hw)) HCS (hag.tr e2 hn) (by simp; omega) hzz hret
  have est : (Value.ref h.length :: st).map (mj_v (va_up ad h.length q)) = Value.ref q :: st.map (mj_v ad) := by
    rw [List.map_cons, mj_s_ag e2 (mj_tl hcs)]
    simp [mj_v, va_up_self]
  rw [est] at key
  exact key
end
section
/-! contracts, calls, returns -/
def mj_ws (M : mj_M) : List Cond := .code M.1 M.2.1 M.2.2.1 M.2.2.2.1 :: mj_G
def mj_Pre (dC : Nat → ClassId) (dI : Nat → Nat → Nat) (cy : Nat → ClassId) (ad : Nat → Nat) (h : mj_H) (sz : Nat) (U : State) : Prop :=
  U.heap.size = sz ∧ va_P (dC, dI) vwCl (mj_w cy ad h) U.heap ∧ va_K (dC, dI) vwCl (mj_ty cy) U ∧ va_D (fun _ => True) (mj_w cy ad h) ∧ mj_ch h ∧ mj_R ad (va_A (mj_w cy ad h) sz) U U.heap ∧ ∀ w ∈ mj_N, va_Nw w U
def mj_B (dC : Nat → ClassId) (dI : Nat → Nat → Nat) (cy : Nat → ClassId) (ad : Nat → Nat) (h : mj_H) (A : Nat → Prop) (r : Option Value) (h' : mj_H) (ad' : Nat → Nat) (t : State) : Prop :=
  mj_ag h.length ad ad' ∧ h.length ≤ h'.length ∧ mj_ch h' ∧ mj_cr h'.length r ∧ va_P (dC, dI) vwCl (mj_w cy ad' h') t.heap ∧ va_D A (mj_w cy ad' h')
def mj_Q (r : Option Value) (B : (Nat → Nat) → State → Prop) (A : Nat → Prop) : Array Value → State → Outcome → State → Prop := match r with
  | none => va_Qv (fun _ => True) B A
  | some (.int x) => va_Qi (fun y _ => y = x) B A
  | some (.long x) => va_Ql (fun y _ => y = x) B A
  | some (.ref k) => va_Qr (fun _ => True) (fun (ad' : Nat → Nat) a t => a = ad' k ∧ B ad' t) A
  | _ => fun _ _ _ _ => False
/-- what a method does: from every world that looks like h, with these arguments, it answers r, and the world looks like h' -/
def mj_Met (M : mj_M) (as : List Value) (h : mj_H) (r : Option Value) (h' : mj_H) : Prop :=
  ∀ (lc : Launch) (dC : Nat → ClassId) (dI : Nat → Nat → Nat) (cy : Nat → ClassId) (ad : Nat → Nat) (sz : Nat), (∀ v ∈ as, mj_cv h.length v) →
    Met lc M.1 (mj_ws M) M.2.2.2.2.1 (va_Pc (as.map (mj_v ad)) (mj_Pre dC dI cy ad h sz)) (mj_Q r (mj_B dC dI cy ad h (va_A (mj_w cy ad h) sz) r h') (va_A (mj_w cy ad h) sz)) M.2.2.2.2.1.cells M.2.2.2.2.1.slots (va_A (mj_w cy ad h) sz)
theorem mj_args_real (ad : Nat → Nat) : ∀ (as : List Value) (i : Nat), lv_args i (as.map (mj_v ad)) = mj_l ad (lv_args i as)
  | [], _ => rfl
  | v :: r, i => by
    simp only [List.map_cons, lv_args, mj_v_cat, mj_args_real ad r, mj_l]
theorem mj_args_c {n : Nat} : ∀ (as : List Value) (i : Nat), (∀ v ∈ as, mj_cv n v) → ∀ q ∈ lv_args i as, mj_cv n q.2
  | [], _, _, q, hq => by cases hq
  | v :: r, i, h, q, hq => by
    rcases List.mem_cons.mp hq with rfl | hq
    · exact h v List.mem_cons_self
    · exact mj_args_c r _ (fun w hw => h w (List.mem_cons_of_mem _ hw)) q hq
theorem mj_sl_real (ad : Nat → Nat) (as : List Value) : (lg_sl (as.map (mj_v ad))).length = (lg_sl as).length := by
  induction as with
  | nil => rfl
  | cons v r ih =>
    simp only [lg_sl, List.map_cons, List.flatMap_cons, List.length_append, mj_v_cat] at ih ⊢
    rw [ih]
    congr 1
    split <;> rfl
theorem mj_code_in {M : mj_M} (h : Jvm.Cond.code M.1 M.2.1 M.2.2.1 M.2.2.2.1 ∈ mj_G) : ∀ w ∈ mj_ws M, w ∈ mj_G := fun w hw => (List.mem_cons.mp hw).elim (fun e => e ▸ h) id
theorem mj_ws_good {M' : mj_M} (hc : Jvm.Cond.code M'.1 M'.2.1 M'.2.2.1 M'.2.2.2.1 ∈ mj_G) : GoodIn mj_G (mj_ws M') := fun w hw => ⟨mj_code_in hc w hw, good_of_word (List.mem_filter.mp (mj_code_in hc w hw)).2⟩
theorem mj_met {M : mj_M} {as : List Value} {h : mj_H} {r : Option Value} {h' : mj_H} (hpl : plainName M.1.cls = true) (hT : ∀ q ∈ M.2.2.2.2.2, decode M.2.1 q.1 = .ok q.2) (hlen : (lg_sl as).length ≤ M.2.2.1) (hW : mj_W M (fun r' h'' => r' = r ∧ h'' = h', fun _ _ _ => True) 0 (lv_args 0 as) [] h 0 0) : mj_Met M as h r h' := by
  intro lc dC dI cy ad sz hcas
  refine Met.ofW (cc := M.2.1) (maxL := M.2.2.1) (ret := M.2.2.2.1) (ws' := mj_G) hpl rfl ?_
  intro p e s m args below meth c s₁ B hml hv
  obtain ⟨rfl, hsz, hP, hK, hD0, hch, hR, hN⟩ := hv
  have hts := atoms_spec (ws := mj_ws M) B.pre
  have hown : s.vm.findClass M.1.cls = some m.cls := findClass_of_methodNamed B.named
  have hnm : meth.name = M.1.name := (name_of_methodNamed B.named B.method).1
  subst hsz
  have hD := hD0.self (sz := s.heap.size)
  generalize hAe : va_A (mj_w cy ad h) s.heap.size = A at hD hR ⊢
  have hA : ∀ q : Nat, s.heap.size ≤ q → A q := fun q h => by rw [← hAe]; exact Or.inr h
  have hS : va_S A s.heap s.heap [] := va_S.rf
  have hl := lv_entry (as.map (mj_v ad)) (n := M.2.2.1) (by rw [mj_sl_real]; exact hlen)
  rw [mj_args_real] at hl
  rw [lg_entry_eq]
  generalize (lg_sl (as.map (mj_v ad)) ++ List.replicate (M.2.2.1 - (lg_sl (as.map (mj_v ad))).length) Slot.unset).toArray = ls at hl ⊢
  have CX : mj_CX M p s m (as.map (mj_v ad)).toArray meth c := ⟨B.exec, B.bytes, hml, B.returns, hown, fun w hw => hts w (List.mem_cons_of_mem _ hw), B.notSynchronized, hnm, hN, hT⟩
  refine hW p lc e s m (as.map (mj_v ad)).toArray below meth c s.heap [] ls A _ dC dI cy ad ad h.length CX ⟨hK, hA, hR, hP, hD, hS, hch⟩ hl (mj_args_c as 0 hcas) (fun v hv => by cases hv) (mj_ag.rf _ _) (Nat.le_refl _) trivial ?_
  intro pc H locs ls2 ad2 h2 r2 k2 n2 I2 hag2 hn2 hcr2 hfin hret hsz2 hk2 hns2
  obtain ⟨rfl, rfl⟩ := hfin
  obtain ⟨-, -, -, hP2, hD2, hS2, hch2⟩ := I2
  refine W.widen hk2 hns2 ?_
  have hBB : ∀ t : State, t.heap = H → mj_B dC dI cy ad h A r2 h2 ad2 t := fun t ht => ⟨hag2, hn2, hch2, hcr2, by rw [ht]; exact hP2, hD2⟩
  match r2, hret, hBB with
  | none, hret, hBB => exact W.vret B.exec B.bytes (B.returns.trans hret.2) (fun t ht hW => ⟨⟨ad2, rfl, trivial, hBB t ht⟩, hS2.F ht⟩) hS2.2.2 hret.1 B.notSynchronized
  | some (.int x), hret, hBB =>
    obtain ⟨h1, ty, h3, h4⟩ := hret
    exact W.zret B.exec B.bytes (B.returns.trans h3) h4 (fun t ht hW => ⟨⟨x, ad2, rfl, rfl, hBB t ht⟩, hS2.F ht⟩) hS2.2.2 h1 B.notSynchronized
  | some (.long x), hret, hBB => exact W.lret B.exec B.bytes (B.returns.trans hret.2) (fun t ht hW => ⟨⟨x, ad2, rfl, rfl, hBB t ht⟩, hS2.F ht⟩) hS2.2.2 hret.1 B.notSynchronized
  | some (.ref x), hret, hBB =>
    obtain ⟨h1, nm, h3⟩ := hret
    exact W.aret (rt := .object nm) B.exec B.bytes (B.returns.trans h3) (Or.inl ⟨nm, rfl⟩) (Or.inr ⟨ad2 x, rfl⟩) (fun t ht hW => ⟨⟨ad2, ad2 x, rfl, trivial, rfl, hBB t ht⟩, hS2.F ht⟩) hS2.2.2 h1 B.notSynchronized
/-- a method's own end -/
theorem mj_end {M : mj_M} {Fin : mj_F} {pc : Nat} {l : List (Nat × Value)} {h : mj_H} {k n : Nat} (r : Option Value) (hr : mj_ret M pc r) (hF : Fin.1 r h) (hk : k ≤ M.2.2.2.2.1.cells) (hn : n ≤ M.2.2.2.2.1.slots) : mj_W M Fin pc l r.toList h k n := by
  intro p lc e s m args below meth c H locs ls A Q dC dI cy ad ad0 n0 CX I hl hcl hcs hag hn0 hz hret
  have key := hret pc H locs ls ad h r k n I hag hn0 (fun v hv => hcs v (by rw [hv]; exact List.mem_cons_self)) hF hr hl.1 hk hn
  have e1 : r.toList.map (mj_v ad) = (r.map (mj_v ad)).toList := by cases r <;> rfl
  rw [e1]
  exact key
/-- behind a call -/
theorem mj_after {M : mj_M} {Fin : mj_F} {pc : Nat} {l : List (Nat × Value)} {rest : List Value} {h h' : mj_H} {k n mc ms : Nat} {r : Option Value} (kk : mj_W M Fin (pc + 3) l (r.toList ++ rest) h' (k + mc) (n + ms))
    {p : Program} {lc : Launch} {e : Env} {s : State} {m : MethodId} {args : Array Value} {below : List Frame} {meth : Method} {c : Code} {H : Heap} {locs : List Loc} {ls : Array Slot} {A : Nat → Prop} {Q : State → Prop} {dC : Nat → ClassId} {dI : Nat → Nat → Nat} {cy : Nat → ClassId} {ad ad0 : Nat → Nat} {n0 : Nat} {st0 : List Value} {a : Array Value}
    (CX : mj_CX M p s m args meth c) (I : mj_I dC dI cy A s ad h H locs) (hl : lv_has ls M.2.2.1 (mj_l ad l)) (hcl : ∀ q ∈ l, mj_cv h.length q.2) (hcs : ∀ v ∈ rest, mj_cv h.length v) (hag : mj_ag n0 ad0 ad) (hn : n0 ≤ h.length) (hz : Fin.2 s A ad0)
    (hret : ∀ (pc : Nat) (H : Heap) (locs : List Loc) (ls : Array Slot) (ad : Nat → Nat) (h : mj_H) (r : Option Value) (k n : Nat), mj_I dC dI cy A s ad h H locs → mj_ag n0 ad0 ad → n0 ≤ h.length → mj_cr h.length r → Fin.1 r h → mj_ret M pc r → ls.size = M.2.2.1 → k ≤ M.2.2.2.2.1.cells → n ≤ M.2.2.2.2.1.slots →
      W p lc e M.2.2.2.2.1 s m args below meth c H locs k n Q (F0 m pc ls ((r.map (mj_v ad)).toList)))
    (hr : va_Run p lc e M.2.2.2.2.1 s m args below meth c H locs k n mc ms (F0 m pc ls st0) (rest.map (mj_v ad)) (mj_Q r (mj_B dC dI cy ad h (va_A (mj_w cy ad h) H.size) r h') (va_A (mj_w cy ad h) H.size) a) (va_A (mj_w cy ad h) H.size)) : W p lc e M.2.2.2.2.1 s m args below meth c H locs k n Q (F0 m pc ls st0) := by
  obtain ⟨hK, hA, hR, hP, hD, hS, hch⟩ := I
  have hAA : ∀ q, va_A (mj_w cy ad h) H.size q → A q := by
    intro q hq
    rcases hq with ⟨k2, e2, hq⟩ | hq
    · exact hD.2 k2 _ hq
    · exact hA q (Nat.le_trans hS.1 hq)
  have fin : ∀ (ad' : Nat → Nat) (t : State) (H1 : Heap) (locs1 : List Loc), t.heap = H1 → mj_B dC dI cy ad h (va_A (mj_w cy ad h) H.size) r h' ad' t → va_S A s.heap H1 locs1 →
      W p lc e M.2.2.2.2.1 s m args below meth c H1 locs1 (k + mc) (n + ms) Q (F0 m (pc + 3) ls ((r.toList ++ rest).map (mj_v ad'))) := by
    intro ad' t H1 locs1 ht hB hS1
    obtain ⟨b1, b2, b3, b4, b5, b6⟩ := hB
    rw [ht] at b5
    refine kk p lc e s m args below meth c H1 locs1 ls A Q dC dI cy ad' ad0 n0 CX ⟨hK, hA, hR.ag b1, b5, b6.weaken (fun _ q _ hq => hAA q.1 hq), hS1, b3⟩ (by rw [mj_l_ag b1 hcl]; exact hl) (fun q hq => mj_cv_mono b2 (hcl q hq)) (fun v hv => ?_) (hag.tr b1 hn) (Nat.le_trans hn b2) hz hret
    rcases List.mem_append.mp hv with h1 | h1
    · exact b4 v (Option.mem_toList.mp h1)
    · exact mj_cv_mono b2 (hcs v h1)
  have er : ∀ ad', mj_ag h.length ad ad' → (r.toList ++ rest).map (mj_v ad') = (r.map (mj_v ad')).toList ++ rest.map (mj_v ad) := by
    intro ad' hg
    rw [List.map_append, mj_s_ag hg hcs]
    cases r <;> rfl
  match r, hr, fin, er with
  | none, hr, fin, er =>
    refine va_callv (a := a) hr hS (fun q _ h => hAA q h) hAA (fun u t H1 locs1 ht hvm _ hB hz1 hk1 hS1 => ?_)
    have := fin u t H1 locs1 ht hB hS1
    rw [er u hB.1] at this
    exact this
  | some (.int x), hr, fin, er =>
    refine va_calli (a := a) hr hS (fun q _ h => hAA q h) hAA (fun y u t H1 locs1 ht hvm hy hB hz1 hk1 hS1 => ?_)
    have := fin u t H1 locs1 ht hB hS1
    rw [er u hB.1] at this
    subst hy
    exact this
  | some (.long x), hr, fin, er =>
    refine va_calll (a := a) hr hS (fun q _ h => hAA q h) hAA (fun y u t H1 locs1 ht hvm hy hB hz1 hk1 hS1 => ?_)
    have := fin u t H1 locs1 ht hB hS1
    rw [er u hB.1] at this
    subst hy
    exact this
  | some (.ref x), hr, fin, er =>
    refine va_callr (a := a) hr hS (fun q _ h => hAA q h) hAA (fun u ra t H1 locs1 ht hvm _ hB hz1 hk1 hS1 => ?_)
    have := fin u t H1 locs1 ht hB.2 hS1
    rw [er u hB.2.1] at this
    rw [hB.1]
    exact this
  | some (.float x), hr, fin, er =>
    intro T hT X
    obtain ⟨v, st₀, t, T', L, h0, X', hL, e1, e2, hq, st⟩ := hr T hT X
    exact hq.elim
  | some (.double x), hr, fin, er =>
    intro T hT X
    obtain ⟨v, st₀, t, T', L, h0, X', hL, e1, e2, hq, st⟩ := hr T hT X
    exact hq.elim
  | some .null, hr, fin, er =>
    intro T hT X
    obtain ⟨v, st₀, t, T', L, h0, X', hL, e1, e2, hq, st⟩ := hr T hT X
    exact hq.elim
  | some (.retAddr x), hr, fin, er =>
    intro T hT X
    obtain ⟨v, st₀, t, T', L, h0, X', hL, e1, e2, hq, st⟩ := hr T hT X
    exact hq.elim
theorem mj_pre_at {dC : Nat → ClassId} {dI : Nat → Nat → Nat} {cy : Nat → ClassId} {A : Nat → Prop} {s U : State} {ad : Nat → Nat} {h : mj_H} {H : Heap} {locs : List Loc} (I : mj_I dC dI cy A s ad h H locs) (hN : ∀ w ∈ mj_N, va_Nw w s) (hU : U.heap = H) (hW : s.WarmedH U.vm) : mj_Pre dC dI cy ad h H.size U := by
  obtain ⟨hK, hA, hR, hP, hD, hS, hch⟩ := I
  have hAA : ∀ q, va_A (mj_w cy ad h) H.size q → A q := by
    intro q hq
    rcases hq with ⟨k2, e2, hq⟩ | hq
    · exact hD.2 k2 _ hq
    · exact hA q (Nat.le_trans hS.1 hq)
  refine ⟨by rw [hU], by rw [hU]; exact hP, hK.moved hW.alike, hD.weaken (fun _ _ _ _ => trivial), hch, ?_, mj_N.warm hW hN⟩
  exact hR.warm hW (fun a h1 h2 => by rw [hU]; exact hS.2.1 a h1 h2) hAA
theorem mj_blind {dC : Nat → ClassId} {dI : Nat → Nat → Nat} {cy : Nat → ClassId} {ad : Nat → Nat} {h : mj_H} {sz : Nat} {av : List Value} : FrameBlind (va_Pc av (mj_Pre dC dI cy ad h sz)) := by
  intro a U g mk q
  obtain ⟨q0, q1, q2, q3, q4, q5, q6, q7⟩ := q
  exact ⟨q0, q1, q2, q3.moved (Vm.Alike.refl U.vm), q4, q5, mj_R.same (s := U) (U := U.calling g mk a) q6 rfl, mj_N.same (s := U) (U := U.calling g mk a) rfl q7⟩
/-- the rooms fit -/
def mj_rm (R : Room) (M' : mj_M) : Prop := M'.2.2.2.2.1.frames + 1 ≤ R.frames ∧ 8 + (M'.2.2.1 + 11) + M'.2.2.2.2.1.locals ≤ R.locals
/-- what the tables say of a call -/
def mj_LB (M' : mj_M) (n : Nat) : Prop := Jvm.Cond.code M'.1 M'.2.1 M'.2.2.1 M'.2.2.2.1 ∈ mj_G ∧ Jvm.Cond.initialized M'.1.cls ∈ mj_G ∧ (M'.1.cls ≠ "java/lang/invoke/MethodHandle" ∧ M'.1.cls ≠ "java/lang/invoke/VarHandle" ∧ (parseMethodDescriptor M'.1.desc).map (fun d => d.parameters.length) = some n)
def mj_LL (own : String) (idx : Nat) (M' : mj_M) : Prop := Jvm.Cond.methodLink own idx M'.1 ∈ mj_G ∨ ∃ host, Jvm.Cond.methodLinkNest own idx M'.1 host ∈ mj_N
def mj_ob (h : mj_H) (b ci : Nat) : Bool := match h[b]? with
  | some (.inr q) => q.1 == ci
  | _ => false
theorem mj_ob_at {h : mj_H} {b ci : Nat} (e : mj_ob h b ci = true) : ∃ fs : List Value, h[b]? = some (.inr (ci, fs)) := by
  unfold mj_ob at e
  split at e
  next q hq => exact ⟨q.2, by rw [hq, ← (beq_iff_eq.mp e)]⟩
  next => cases e
theorem mj_cat (ad : Nat → Nat) (st : List Value) : ((st.map (mj_v ad)).map fun v => v.category).sum = (st.map fun v => v.category).sum := by
  rw [List.map_map]
  congr 1
  exact List.map_congr_left fun v _ => mj_v_cat ad v
theorem mj_callV {M : mj_M} {Fin : mj_F} {pc : Nat} {l : List (Nat × Value)} {st rest : List Value} {h h' : mj_H} {k n : Nat} {idx b ci np : Nat} {T : u_T} {N : Nat} {r : Option Value} (M' : mj_M) (as : List Value) (a : Nat) (ha : M.2.2.2.2.2[a]? = some (pc, .invokevirtual idx, 3)) (hL : mj_LL M.1.cls idx M') (hB : mj_LB M' np) (hi : Jvm.Cond.instanceMethod M'.1 ∈ mj_G ∧ Jvm.Cond.selects M'.1.cls M'.1 M'.1 ∈ mj_G) (hm : mj_rm M.2.2.2.2.1 M') (hci : vwCl[ci]? = some (M'.1.cls, T, N)) (hob : mj_ob h b ci = true) (hnp : as.length = np) (hst : st = as.reverse ++ .ref b :: rest) (hcat : (rest.map fun v => v.category).sum ≤ 8) (hk : k + M'.2.2.2.2.1.cells ≤ M.2.2.2.2.1.cells ∧ n + M'.2.2.2.2.1.slots ≤ M.2.2.2.2.1.slots) (hM : mj_Met M' (.ref b :: as) h r h')
    (kk : mj_W M Fin (pc + 3) l (r.toList ++ rest) h' (k + M'.2.2.2.2.1.cells) (n + M'.2.2.2.2.1.slots)) : mj_W M Fin pc l st h k n := by
  intro p lc e s m args below meth c H locs ls A Q dC dI cy ad ad0 n0 CX I hl hcl hcs hag hn hz hret
  have CX' := CX
  obtain ⟨hx, hb, hml, hr, hown, hts, hlk, hnm, hN, hT⟩ := CX
  subst hst
  have hca : ∀ v ∈ Value.ref b :: as, mj_cv h.length v := by
    intro v hv
    rcases List.mem_cons.mp hv with rfl | hv
    · exact hcs _ (List.mem_append_right _ List.mem_cons_self)
    · exact hcs _ (List.mem_append_left _ (List.mem_reverse.mpr hv))
  have hcr : ∀ v ∈ rest, mj_cv h.length v := fun v hv => hcs _ (List.mem_append_right _ (List.mem_cons_of_mem _ hv))
  have hMt := hM lc dC dI cy ad H.size hca
  have hrecv : ∃ cellB : Cell, H[ad b]? = some cellB ∧ cellB.vm.isStatics = false ∧ s.vm.findClass M'.1.cls = some cellB.cls := by
    obtain ⟨fs, hq⟩ := mj_ob_at hob
    exact va_recv I.1 I.2.2.2.1 (q0 := b) hci (mj_w_get cy ad hq)
  have hp : PreV s H M'.1.cls (ad b) (va_Pc ((Value.ref b :: as).map (mj_v ad)) (mj_Pre dC dI cy ad h H.size)) (as.map (mj_v ad)) := ⟨mj_blind, hrecv, fun U hU hW => ⟨rfl, mj_pre_at I hN hU hW⟩⟩
  have hstk : ((as.reverse ++ Value.ref b :: rest).map (mj_v ad)) = (as.map (mj_v ad)).reverse ++ .ref (ad b) :: rest.map (mj_v ad) := by
    rw [List.map_append, List.map_reverse]; rfl
  have hGW := mj_ws_good hB.1
  have hd := mj_dec hT ha
  rw [hstk]
  rcases hL with hL | ⟨host, hL⟩
  · exact mj_after kk CX' I hl hcl hcr hag hn hz hret (va_runV (As := as.map (mj_v ad)) (rest := rest.map (mj_v ad)) (nL := M.2.2.1) (Ts := mj_G) (own := M.1.cls) ⟨hx, hb, hml, hown, hts⟩ hMt ⟨callB_of np hts hGW rfl rfl rfl (hts _ hB.2.1) (hts _ hL) hB.2.2 hm, hts _ hi.1, hts _ hi.2⟩ hp rfl (by rw [List.length_map]; exact hnp) hl.1 rfl (by rw [mj_cat]; exact Nat.le_trans (by simp) (Nat.le_trans (Nat.le_of_eq (Nat.zero_add _)) hcat)) hd hk)
  · exact mj_after kk CX' I hl hcl hcr hag hn hz hret (va_runVN (As := as.map (mj_v ad)) (rest := rest.map (mj_v ad)) (nL := M.2.2.1) (Ts := mj_G) (own := M.1.cls) ⟨hx, hb, hml, hown, hts⟩ hMt ⟨va_cnB np hts hGW rfl rfl rfl (hN _ hL) (hts _ hB.2.1) hB.2.2 hm, hts _ hi.1, hts _ hi.2⟩ hp rfl (by rw [List.length_map]; exact hnp) hl.1 rfl (by rw [mj_cat]; exact Nat.le_trans (by simp) (Nat.le_trans (Nat.le_of_eq (Nat.zero_add _)) hcat)) hd hk)
theorem mj_callS {M : mj_M} {Fin : mj_F} {pc : Nat} {l : List (Nat × Value)} {st rest : List Value} {h h' : mj_H} {k n : Nat} {idx np : Nat} {r : Option Value} (M' : mj_M) (as : List Value) (a : Nat) (ha : M.2.2.2.2.2[a]? = some (pc, .invokestatic idx, 3)) (hL : mj_LL M.1.cls idx M') (hB : mj_LB M' np) (hi : Jvm.Cond.static M'.1 ∈ mj_G) (hm : mj_rm M.2.2.2.2.1 M') (hnp : as.length = np) (hst : st = as.reverse ++ rest) (hcat : (rest.map fun v => v.category).sum ≤ 8) (hk : k + M'.2.2.2.2.1.cells ≤ M.2.2.2.2.1.cells ∧ n + M'.2.2.2.2.1.slots ≤ M.2.2.2.2.1.slots) (hM : mj_Met M' as h r h')
    (kk : mj_W M Fin (pc + 3) l (r.toList ++ rest) h' (k + M'.2.2.2.2.1.cells) (n + M'.2.2.2.2.1.slots)) : mj_W M Fin pc l st h k n := by
  intro p lc e s m args below meth c H locs ls A Q dC dI cy ad ad0 n0 CX I hl hcl hcs hag hn hz hret
  have CX' := CX
  obtain ⟨hx, hb, hml, hr, hown, hts, hlk, hnm, hN, hT⟩ := CX
  subst hst
  have hca : ∀ v ∈ as, mj_cv h.length v := fun v hv => hcs _ (List.mem_append_left _ (List.mem_reverse.mpr hv))
  have hcr : ∀ v ∈ rest, mj_cv h.length v := fun v hv => hcs _ (List.mem_append_right _ hv)
  have hMt := hM lc dC dI cy ad H.size hca
  have hp : PreS s H (va_Pc (as.map (mj_v ad)) (mj_Pre dC dI cy ad h H.size)) (as.map (mj_v ad)) := ⟨mj_blind, fun U hU hW => ⟨rfl, mj_pre_at I hN hU hW⟩⟩
  have hstk : ((as.reverse ++ rest).map (mj_v ad)) = (as.map (mj_v ad)).reverse ++ rest.map (mj_v ad) := by
    rw [List.map_append, List.map_reverse]
  have hGW := mj_ws_good hB.1
  have hd := mj_dec hT ha
  rw [hstk]
  rcases hL with hL | ⟨host, hL⟩
  · exact mj_after kk CX' I hl hcl hcr hag hn hz hret (va_runS (As := as.map (mj_v ad)) (rest := rest.map (mj_v ad)) (nL := M.2.2.1) (Ts := mj_G) (own := M.1.cls) ⟨hx, hb, hml, hown, hts⟩ hMt ⟨callB_of np hts hGW rfl rfl rfl (hts _ hB.2.1) (hts _ hL) hB.2.2 hm, hts _ hi⟩ hp rfl (by rw [List.length_map]; exact hnp) hl.1 rfl (by rw [mj_cat]; exact Nat.le_trans (by simp) (Nat.le_trans (Nat.le_of_eq (Nat.zero_add _)) hcat)) hd hk)
  · exact mj_after kk CX' I hl hcl hcr hag hn hz hret (va_runSN (As := as.map (mj_v ad)) (rest := rest.map (mj_v ad)) (nL := M.2.2.1) (Ts := mj_G) (own := M.1.cls) ⟨hx, hb, hml, hown, hts⟩ hMt ⟨va_cnB np hts hGW rfl rfl rfl (hN _ hL) (hts _ hB.2.1) hB.2.2 hm, hts _ hi, trivial⟩ hp rfl (by rw [List.length_map]; exact hnp) hl.1 rfl (by rw [mj_cat]; exact Nat.le_trans (by simp) (Nat.le_trans (Nat.le_of_eq (Nat.zero_add _)) hcat)) hd hk)
theorem mj_callI {M : mj_M} {Fin : mj_F} {pc : Nat} {l : List (Nat × Value)} {st rest : List Value} {h h' : mj_H} {k n : Nat} {idx b np : Nat} (M' : mj_M) (as : List Value) (a : Nat) (ha : M.2.2.2.2.2[a]? = some (pc, .invokespecial idx, 3)) (hL : mj_LL M.1.cls idx M') (hB : mj_LB M' np) (hi : M'.1.name = "<init>" ∧ M'.2.2.2.1 = none ∧ Jvm.Cond.instanceMethod M'.1 ∈ mj_G) (hm : mj_rm M.2.2.2.2.1 M') (hnp : as.length = np) (hst : st = as.reverse ++ .ref b :: rest) (hcat : (rest.map fun v => v.category).sum ≤ 8) (hk : k + M'.2.2.2.2.1.cells ≤ M.2.2.2.2.1.cells ∧ n + M'.2.2.2.2.1.slots ≤ M.2.2.2.2.1.slots) (hM : mj_Met M' (.ref b :: as) h none h')
    (kk : mj_W M Fin (pc + 3) l rest h' (k + M'.2.2.2.2.1.cells) (n + M'.2.2.2.2.1.slots)) : mj_W M Fin pc l st h k n := by
  intro p lc e s m args below meth c H locs ls A Q dC dI cy ad ad0 n0 CX I hl hcl hcs hag hn hz hret
  have CX' := CX
  obtain ⟨hx, hb, hml, hr, hown, hts, hlk, hnm, hN, hT⟩ := CX
  subst hst
  have hca : ∀ v ∈ Value.ref b :: as, mj_cv h.length v := by
    intro v hv
    rcases List.mem_cons.mp hv with rfl | hv
    · exact hcs _ (List.mem_append_right _ List.mem_cons_self)
    · exact hcs _ (List.mem_append_left _ (List.mem_reverse.mpr hv))
  have hcr : ∀ v ∈ rest, mj_cv h.length v := fun v hv => hcs _ (List.mem_append_right _ (List.mem_cons_of_mem _ hv))
  have hMt := hM lc dC dI cy ad H.size hca
  have hp : PreS s H (va_Pc ((Value.ref b :: as).map (mj_v ad)) (mj_Pre dC dI cy ad h H.size)) (.ref (ad b) :: as.map (mj_v ad)) := ⟨mj_blind, fun U hU hW => ⟨rfl, mj_pre_at I hN hU hW⟩⟩
  have hstk : ((as.reverse ++ Value.ref b :: rest).map (mj_v ad)) = (as.map (mj_v ad)).reverse ++ .ref (ad b) :: rest.map (mj_v ad) := by
    rw [List.map_append, List.map_reverse]; rfl
  have hcode : Jvm.Cond.code M'.1 M'.2.1 M'.2.2.1 none ∈ mj_G := by rw [← hi.2.1]; exact hB.1
  have hGW : GoodIn mj_G (mj_ws M') := mj_ws_good hB.1
  have hws : mj_ws M' = Jvm.Cond.code M'.1 M'.2.1 M'.2.2.1 none :: mj_G := by unfold mj_ws; rw [hi.2.1]
  have hd := mj_dec hT ha
  rw [hstk]
  rcases hL with hL | ⟨host, hL⟩
  · exact mj_after (r := none) kk CX' I hl hcl hcr hag hn hz hret (va_runI (As := as.map (mj_v ad)) (rest := rest.map (mj_v ad)) (nL := M.2.2.1) (Ts := mj_G) (own := M.1.cls) ⟨hx, hb, hml, hown, hts⟩ hMt ⟨callB_of np hts hGW hws rfl rfl (hts _ hB.2.1) (hts _ hL) hB.2.2 hm, hi.1, hts _ hi.2.2⟩ hp rfl (by rw [List.length_map]; exact hnp) hl.1 rfl (by rw [mj_cat]; exact Nat.le_trans (by simp) (Nat.le_trans (Nat.le_of_eq (Nat.zero_add _)) hcat)) hd hk)
  · exact mj_after (r := none) kk CX' I hl hcl hcr hag hn hz hret (va_runIN (As := as.map (mj_v ad)) (rest := rest.map (mj_v ad)) (nL := M.2.2.1) (Ts := mj_G) (own := M.1.cls) ⟨hx, hb, hml, hown, hts⟩ hMt ⟨va_cnB np hts hGW hws rfl rfl (hN _ hL) (hts _ hB.2.1) hB.2.2 hm, hi.1, hts _ hi.2.2⟩ hp rfl (by rw [List.length_map]; exact hnp) hl.1 rfl (by rw [mj_cat]; exact Nat.le_trans (by simp) (Nat.le_trans (Nat.le_of_eq (Nat.zero_add _)) hcat)) hd hk)
/-- Object's own constructor -/
theorem mj_obj {M : mj_M} {Fin : mj_F} {pc : Nat} {l : List (Nat × Value)} {st : List Value} {h : mj_H} {k n : Nat} {idx b : Nat} (a : Nat) (ha : M.2.2.2.2.2[a]? = some (pc, .invokespecial idx, 3)) (hw : Jvm.Cond.methodLink M.1.cls idx Lib.objectInit ∈ mj_G ∧ Jvm.Cond.instanceMethod Lib.objectInit ∈ mj_G ∧ Jvm.Cond.code Lib.objectInit ⟨#[0xb1]⟩ 1 none ∈ mj_G) (hm : 1 ≤ M.2.2.2.2.1.frames ∧ (st.map fun v => v.category).sum + 12 ≤ M.2.2.2.2.1.locals) (kk : mj_W M Fin (pc + 3) l st h k n) : mj_W M Fin pc l (.ref b :: st) h k n := by
  intro p lc e s m args below meth c H locs ls A Q dC dI cy ad ad0 n0 CX I hl hcl hcs hag hn hz hret
  have CX' := CX
  obtain ⟨hx, hb, hml, hr, hown, hts, hlk, hnm, hN, hT⟩ := CX
  have hd := mj_dec hT ha
  refine W.objInit hx hb hown (hts _ hw.1) (hts _ hw.2.1) (hts _ hw.2.2) rfl (by rw [hml]; exact hl.1) rfl hd hm.1 (by rw [mj_cat]; exact Nat.le_trans (by simp) hm.2) ?_
  exact W.eq (g2 := F0 m (pc + 3) ls (st.map (mj_v ad))) rfl (kk p lc e s m args below meth c H locs ls A Q dC dI cy ad ad0 n0 CX' I hl hcl (mj_tl hcs) hag hn hz hret)
end
section
/-! helpers of the decompiled functions -/
theorem mj_bd {α β : Type} {x : Option α} {f : α → Option β} {b : β} (h : x.bind f = some b) : ∃ a, x = some a ∧ f a = some b := Option.bind_eq_some_iff.mp h
theorem mj_gd {α : Type} {c : Bool} {a : Option α} {x : α} (h : (if c = true then a else none) = some x) : c = true ∧ a = some x := by
  by_cases hc : c = true
  · rw [if_pos hc] at h; exact ⟨hc, h⟩
  · rw [if_neg hc] at h; cases h
theorem mj_gp {α : Type} {c : Prop} [Decidable c] {a : Option α} {x : α} (h : (if c then a else none) = some x) : c ∧ a = some x := by
  by_cases hc : c
  · rw [if_pos hc] at h; exact ⟨hc, h⟩
  · rw [if_neg hc] at h; cases h
theorem mj_g0 {α : Type} {c : Prop} [Decidable c] {a : Option α} {x : α} (h : (if c then none else a) = some x) : ¬ c ∧ a = some x := by
  by_cases hc : c
  · rw [if_pos hc] at h; cases h
  · rw [if_neg hc] at h; exact ⟨hc, h⟩
def mj_fix {S R : Type} (F : (S → Option R) → S → Option R) : Nat → S → Option R
  | 0, _ => none
  | n + 1, s => F (mj_fix F n) s
theorem mj_fix_ind {S R : Type} {F : (S → Option R) → S → Option R} {P : S → R → Prop} (hs : ∀ K : S → Option R, (∀ s r, K s = some r → P s r) → ∀ s r, F K s = some r → P s r) : ∀ (n : Nat) (s : S) (r : R), mj_fix F n s = some r → P s r
  | 0, _, _, h => by cases h
  | n + 1, s, r, h => hs (mj_fix F n) (mj_fix_ind hs n) s r h
def mj_FI (p : Int32 × mj_H) : mj_F := (fun a b => a = some (.int p.1) ∧ b = p.2, fun _ _ _ => True)
def mj_FJ (p : Int64 × mj_H) : mj_F := (fun a b => a = some (.long p.1) ∧ b = p.2, fun _ _ _ => True)
def mj_FR (p : Nat × mj_H) : mj_F := (fun a b => a = some (.ref p.1) ∧ b = p.2, fun _ _ _ => True)
def mj_FV (p : mj_H) : mj_F := (fun a b => a = none ∧ b = p, fun _ _ _ => True)
theorem mj_bool {x : Int32} (h : x = 0 ∨ x = 1) : narrow .boolean (.int x) = .int x := by
  rcases h with rfl | rfl <;> rfl
def mj_mk (h : mj_H) (c : mj_C) : Option (Nat × mj_H) := if h.length < 1000 then some (h.length, h ++ [c]) else none
theorem mj_mk_at {h : mj_H} {c : mj_C} {p : Nat × mj_H} (e : mj_mk h c = some p) : h.length < 1000 ∧ p = (h.length, h ++ [c]) := by
  unfold mj_mk at e
  split at e
  next hl => cases e; exact ⟨hl, rfl⟩
  next => cases e
theorem mj_newP {M : mj_M} {Fin : mj_F} {pc : Nat} {l : List (Nat × Value)} {st : List Value} {h : mj_H} {k n : Nat} {idx ci N : Nat} {fs : List Value} {p : Nat × mj_H} (a : Nat) (ha : M.2.2.2.2.2[a]? = some (pc, .new idx, 3)) (hf : mj_NW M.1.cls idx ci N fs) (h0 : ∀ v ∈ fs, mj_0 v) (e : mj_mk h (.inr (ci, fs)) = some p) (hk : k + 1 ≤ M.2.2.2.2.1.cells) (hn0 : n + N ≤ M.2.2.2.2.1.slots) (kk : mj_W M Fin (pc + 3) l (.ref p.1 :: st) p.2 (k + 1) (n + N)) : mj_W M Fin pc l st h k n := by
  obtain ⟨hl, rfl⟩ := mj_mk_at e
  exact mj_new a ha hf h0 hl hk hn0 kk
theorem mj_newIP {M : mj_M} {Fin : mj_F} {pc : Nat} {l : List (Nat × Value)} {st : List Value} {h : mj_H} {k n : Nat} {z : Int32} {p : Nat × mj_H} (N : Nat) (a : Nat) (ha : M.2.2.2.2.2[a]? = some (pc, .newarray .int, 2)) (hz : z = Int32.ofNat N) (hN : N < 65536) (hw : Jvm.Cond.arrayClass .int ∈ mj_G) (e : mj_mk h (.inl (0, N, .inl (fun _ => (0 : Int32)))) = some p) (hk : k + 1 ≤ M.2.2.2.2.1.cells) (hn0 : n + N ≤ M.2.2.2.2.1.slots) (kk : mj_W M Fin (pc + 2) l (.ref p.1 :: st) p.2 (k + 1) (n + N)) : mj_W M Fin pc l (.int z :: st) h k n := by
  obtain ⟨hl, rfl⟩ := mj_mk_at e
  exact mj_newI N a ha hz hN hw hl hk hn0 kk
theorem mj_newJP {M : mj_M} {Fin : mj_F} {pc : Nat} {l : List (Nat × Value)} {st : List Value} {h : mj_H} {k n : Nat} {z : Int32} {p : Nat × mj_H} (N : Nat) (a : Nat) (ha : M.2.2.2.2.2[a]? = some (pc, .newarray .long, 2)) (hz : z = Int32.ofNat N) (hN : N < 65536) (hw : Jvm.Cond.arrayClass .long ∈ mj_G) (e : mj_mk h (.inl (1, N, .inr (.inl (fun _ => (0 : Int64))))) = some p) (hk : k + 1 ≤ M.2.2.2.2.1.cells) (hn0 : n + N ≤ M.2.2.2.2.1.slots) (kk : mj_W M Fin (pc + 2) l (.ref p.1 :: st) p.2 (k + 1) (n + N)) : mj_W M Fin pc l (.int z :: st) h k n := by
  obtain ⟨hl, rfl⟩ := mj_mk_at e
  exact mj_newJ N a ha hz hN hw hl hk hn0 kk
theorem mj_newZP {M : mj_M} {Fin : mj_F} {pc : Nat} {l : List (Nat × Value)} {st : List Value} {h : mj_H} {k n : Nat} {z : Int32} {p : Nat × mj_H} (N : Nat) (a : Nat) (ha : M.2.2.2.2.2[a]? = some (pc, .newarray .boolean, 2)) (hz : z = Int32.ofNat N) (hN : N < 65536) (hw : Jvm.Cond.arrayClass .boolean ∈ mj_G) (e : mj_mk h (.inl (2, N, .inl (fun _ => (0 : Int32)))) = some p) (hk : k + 1 ≤ M.2.2.2.2.1.cells) (hn0 : n + N ≤ M.2.2.2.2.1.slots) (kk : mj_W M Fin (pc + 2) l (.ref p.1 :: st) p.2 (k + 1) (n + N)) : mj_W M Fin pc l (.int z :: st) h k n := by
  obtain ⟨hl, rfl⟩ := mj_mk_at e
  exact mj_newZ N a ha hz hN hw hl hk hn0 kk
/-- fewer locals, in any order -/
theorem mj_locs {M : mj_M} {Fin : mj_F} {pc : Nat} {l l' : List (Nat × Value)} {st : List Value} {h : mj_H} {k n : Nat} (ks : List Nat) (e : lv_pick l ks = l') (kk : mj_W M Fin pc l' st h k n) : mj_W M Fin pc l st h k n := by
  intro p lc e0 s m args below meth c H locs ls A Q dC dI cy ad ad0 n0 CX I hl hcl hcs hag hn hzz hret
  have hm : ∀ q ∈ l', q ∈ l := by
    intro q hq
    rw [← e] at hq
    obtain ⟨i, -, hi⟩ := List.mem_filterMap.mp hq
    exact List.mem_of_getElem? hi
  refine kk p lc e0 s m args below meth c H locs ls A Q dC dI cy ad ad0 n0 CX I ⟨hl.1, hl.2.1, fun q hq => ?_⟩ (fun q hq => hcl q (hm q hq)) hcs hag hn hzz hret
  obtain ⟨q0, h1, rfl⟩ := List.mem_map.mp hq
  exact hl.2.2 _ (List.mem_map.mpr ⟨q0, hm q0 h1, rfl⟩)
/-! System.arraycopy -/
def mj_cok (sp dp n : Int32) (n0 n1 : Nat) : Bool := decide (0 ≤ sp.toInt) && decide (0 ≤ dp.toInt) && decide (0 ≤ n.toInt) && decide (sp.toInt + n.toInt ≤ n0) && decide (dp.toInt + n.toInt ≤ n1)
def mj_cpI (h : mj_H) (b0 : Nat) (sp : Int32) (b1 : Nat) (dp n : Int32) : Option mj_H := match h[b0]? with
  | some (.inl (0, n0, .inl f)) => (match h[b1]? with
    | some (.inl (0, n1, .inl g)) => if mj_cok sp dp n n0 n1 then some (h.set b1 (.inl (0, n1, .inl (va_cpy f g sp.toNatClampNeg dp.toNatClampNeg n.toNatClampNeg)))) else none
    | _ => none)
  | _ => none
def mj_cpJ (h : mj_H) (b0 : Nat) (sp : Int32) (b1 : Nat) (dp n : Int32) : Option mj_H := match h[b0]? with
  | some (.inl (1, n0, .inr (.inl f))) => (match h[b1]? with
    | some (.inl (1, n1, .inr (.inl g))) => if mj_cok sp dp n n0 n1 then some (h.set b1 (.inl (1, n1, .inr (.inl (va_cpy f g sp.toNatClampNeg dp.toNatClampNeg n.toNatClampNeg))))) else none
    | _ => none)
  | _ => none
theorem mj_cok_of {sp dp n : Int32} {n0 n1 : Nat} (h : mj_cok sp dp n n0 n1 = true) : ¬ sp < 0 ∧ ¬ dp < 0 ∧ ¬ n < 0 ∧ sp.toNatClampNeg + n.toNatClampNeg ≤ n0 ∧ dp.toNatClampNeg + n.toNatClampNeg ≤ n1 := by
  simp only [mj_cok, Bool.and_eq_true, decide_eq_true_eq] at h
  obtain ⟨⟨⟨⟨h1, h2⟩, h3⟩, h4⟩, h5⟩ := h
  have e : ∀ z : Int32, z.toNatClampNeg = z.toInt.toNat := fun _ => rfl
  have lt0 : ∀ z : Int32, 0 ≤ z.toInt → ¬ z < 0 := fun z hz q => by
    have := Int32.lt_iff_toInt_lt.mp q
    rw [Int32.toInt_zero] at this
    omega
  refine ⟨lt0 _ h1, lt0 _ h2, lt0 _ h3, ?_, ?_⟩ <;> rw [e, e] <;> omega
def mj_cpW (own : String) (idx : Nat) : Prop := Jvm.Cond.methodLink own idx arraycopyName ∈ mj_G ∧ Jvm.Cond.native arraycopyName ∈ mj_G ∧ Jvm.Cond.static arraycopyName ∈ mj_G ∧ Jvm.Cond.initialized "java/lang/System" ∈ mj_G
theorem mj_cpI_W {M : mj_M} {Fin : mj_F} {pc : Nat} {l : List (Nat × Value)} {st : List Value} {h h' : mj_H} {k n : Nat} {idx b0 b1 : Nat} {sp dp nn : Int32} (a : Nat) (ha : M.2.2.2.2.2[a]? = some (pc, .invokestatic idx, 3)) (hw : mj_cpW M.1.cls idx) (hm : 1 ≤ M.2.2.2.2.1.frames ∧ (st.map fun v => v.category).sum + (nativeFrameWords "java/lang/System" "arraycopy" 5 + 11) ≤ M.2.2.2.2.1.locals) (hv : mj_cpI h b0 sp b1 dp nn = some h') (kk : mj_W M Fin (pc + 3) l st h' k n) : mj_W M Fin pc l (.int nn :: .int dp :: .ref b1 :: .int sp :: .ref b0 :: st) h k n := by
  intro p lc e s m args below meth c H locs ls A Q dC dI cy ad ad0 n0 CX I hl hcl hcs hag hn hzz hret
  have CX' := CX
  obtain ⟨hx, hb, hml, hr, hown, hts, hlk, hnm, hN, hT⟩ := CX
  obtain ⟨hK, hA, hR, hP, hD, hS, hch⟩ := I
  obtain ⟨w1, w2, w3, w4⟩ := hw
  unfold mj_cpI at hv
  split at hv
  next nn0 f hq0 =>
    split at hv
    next nn1 g hq1 =>
      split at hv
      next hok =>
        cases hv
        obtain ⟨z1, z2, z3, z4, z5⟩ := mj_cok_of hok
        have hch' := mj_ch_set hch b1 (c := .inl (0, nn1, .inl (va_cpy f g sp.toNatClampNeg dp.toNatClampNeg nn.toNatClampNeg))) trivial
        have hlen : (h.set b1 (.inl (0, nn1, .inl (va_cpy f g sp.toNatClampNeg dp.toNatClampNeg nn.toNatClampNeg)))).length = h.length := List.length_set
        have hset := mj_w_set cy ad h b1 (.inl (0, nn1, .inl (va_cpy f g sp.toNatClampNeg dp.toNatClampNeg nn.toNatClampNeg)))
        have hcs' : ∀ v ∈ st, mj_cv h.length v := fun v hv => hcs v (List.mem_cons_of_mem _ (List.mem_cons_of_mem _ (List.mem_cons_of_mem _ (List.mem_cons_of_mem _ (List.mem_cons_of_mem _ hv)))))
        exact va_copyi hx hb (hml.trans hl.1.symm) hown (hts _ w1) (hts _ w2) (hts _ w3) (hts _ w4) hK hP hD hS b0 b1 0 0 (mj_w_get cy ad hq0) (mj_w_get cy ad hq1) rfl rfl rfl z1 z2 z3 z4 z5 (fun _ _ => rfl) hm.1 (by rw [mj_cat]; exact hm.2) (mj_dec hT ha) (fun H1 locs1 hP1 hD1 hS1 => kk p lc e s m args below meth c H1 locs1 ls A Q dC dI cy ad ad0 n0 CX' ⟨hK, hA, hR, hset ▸ hP1, hset ▸ hD1, hS1, hch'⟩ hl (by rw [hlen]; exact hcl) (by rw [hlen]; exact hcs') hag (by rw [hlen]; exact hn) hzz hret)
      next => cases hv
    next => cases hv
  next => cases hv
theorem mj_cpJ_W {M : mj_M} {Fin : mj_F} {pc : Nat} {l : List (Nat × Value)} {st : List Value} {h h' : mj_H} {k n : Nat} {idx b0 b1 : Nat} {sp dp nn : Int32} (a : Nat) (ha : M.2.2.2.2.2[a]? = some (pc, .invokestatic idx, 3)) (hw : mj_cpW M.1.cls idx) (hm : 1 ≤ M.2.2.2.2.1.frames ∧ (st.map fun v => v.category).sum + (nativeFrameWords "java/lang/System" "arraycopy" 5 + 11) ≤ M.2.2.2.2.1.locals) (hv : mj_cpJ h b0 sp b1 dp nn = some h') (kk : mj_W M Fin (pc + 3) l st h' k n) : mj_W M Fin pc l (.int nn :: .int dp :: .ref b1 :: .int sp :: .ref b0 :: st) h k n := by
  intro p lc e s m args below meth c H locs ls A Q dC dI cy ad ad0 n0 CX I hl hcl hcs hag hn hzz hret
  have CX' := CX
  obtain ⟨hx, hb, hml, hr, hown, hts, hlk, hnm, hN, hT⟩ := CX
  obtain ⟨hK, hA, hR, hP, hD, hS, hch⟩ := I
  obtain ⟨w1, w2, w3, w4⟩ := hw
  unfold mj_cpJ at hv
  split at hv
  next nn0 f hq0 =>
    split at hv
    next nn1 g hq1 =>
      split at hv
      next hok =>
        cases hv
        obtain ⟨z1, z2, z3, z4, z5⟩ := mj_cok_of hok
        have hch' := mj_ch_set hch b1 (c := .inl (1, nn1, .inr (.inl (va_cpy f g sp.toNatClampNeg dp.toNatClampNeg nn.toNatClampNeg)))) trivial
        have hlen : (h.set b1 (.inl (1, nn1, .inr (.inl (va_cpy f g sp.toNatClampNeg dp.toNatClampNeg nn.toNatClampNeg))))).length = h.length := List.length_set
        have hset := mj_w_set cy ad h b1 (.inl (1, nn1, .inr (.inl (va_cpy f g sp.toNatClampNeg dp.toNatClampNeg nn.toNatClampNeg))))
        have hcs' : ∀ v ∈ st, mj_cv h.length v := fun v hv => hcs v (List.mem_cons_of_mem _ (List.mem_cons_of_mem _ (List.mem_cons_of_mem _ (List.mem_cons_of_mem _ (List.mem_cons_of_mem _ hv)))))
        exact va_copyl hx hb (hml.trans hl.1.symm) hown (hts _ w1) (hts _ w2) (hts _ w3) (hts _ w4) hK hP hD hS b0 b1 1 1 (mj_w_get cy ad hq0) (mj_w_get cy ad hq1) rfl rfl rfl z1 z2 z3 z4 z5 (fun _ _ => rfl) hm.1 (by rw [mj_cat]; exact hm.2) (mj_dec hT ha) (fun H1 locs1 hP1 hD1 hS1 => kk p lc e s m args below meth c H1 locs1 ls A Q dC dI cy ad ad0 n0 CX' ⟨hK, hA, hR, hset ▸ hP1, hset ▸ hD1, hS1, hch'⟩ hl (by rw [hlen]; exact hcl) (by rw [hlen]; exact hcs') hag (by rw [hlen]; exact hn) hzz hret)
      next => cases hv
    next => cases hv
  next => cases hv
end
