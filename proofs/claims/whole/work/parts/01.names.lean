-- ===== PART A: goes FIRST, ahead of the names: the tables' words, and 'selects' of the private methods out of them =====
/-- a private method of a class that the tables say can be made, by its rows of tables_1 -/
def lw_okq (q : MethodName × Nat) : Prop := (q.1.cls ≠ "java/lang/invoke/MethodHandle" ∧ q.1.cls ≠ "java/lang/invoke/VarHandle") ∧ Cond.instantiable q.1.cls q.2 ∈ tables_1 ∧ Cond.privateMethod q.1 ∈ tables_1 ∧ Cond.instanceMethod q.1 ∈ tables_1
theorem lw_p0 : lw_okq (⟨"SeatOn", "isSeat", "(I)Z"⟩, 14) := ⟨⟨by decide +kernel, by decide +kernel⟩, List.mem_of_getElem? (i := 19) (by decide +kernel), List.mem_of_getElem? (i := 280) (by decide +kernel), List.mem_of_getElem? (i := 281) (by decide +kernel)⟩
theorem lw_p1 : lw_okq (⟨"SeatOn", "isPerson", "(I)Z"⟩, 14) := ⟨⟨by decide +kernel, by decide +kernel⟩, List.mem_of_getElem? (i := 19) (by decide +kernel), List.mem_of_getElem? (i := 296) (by decide +kernel), List.mem_of_getElem? (i := 297) (by decide +kernel)⟩
theorem lw_p2 : lw_okq (⟨"SeatOn", "isMatter", "(I)Z"⟩, 14) := ⟨⟨by decide +kernel, by decide +kernel⟩, List.mem_of_getElem? (i := 19) (by decide +kernel), List.mem_of_getElem? (i := 321) (by decide +kernel), List.mem_of_getElem? (i := 322) (by decide +kernel)⟩
theorem lw_p3 : lw_okq (⟨"SeatOn$Reader", "passClause", "(LSeatOn$House;)Z"⟩, 3) := ⟨⟨by decide +kernel, by decide +kernel⟩, List.mem_of_getElem? (i := 127) (by decide +kernel), List.mem_of_getElem? (i := 345) (by decide +kernel), List.mem_of_getElem? (i := 346) (by decide +kernel)⟩
theorem lw_p4 : lw_okq (⟨"SeatOn$Reader", "passKeyword", "()I"⟩, 3) := ⟨⟨by decide +kernel, by decide +kernel⟩, List.mem_of_getElem? (i := 127) (by decide +kernel), List.mem_of_getElem? (i := 349) (by decide +kernel), List.mem_of_getElem? (i := 350) (by decide +kernel)⟩
theorem lw_p5 : lw_okq (⟨"SeatOn$Reader", "passSign", "(I)Z"⟩, 3) := ⟨⟨by decide +kernel, by decide +kernel⟩, List.mem_of_getElem? (i := 127) (by decide +kernel), List.mem_of_getElem? (i := 353) (by decide +kernel), List.mem_of_getElem? (i := 354) (by decide +kernel)⟩
theorem lw_p6 : lw_okq (⟨"SeatOn$Reader", "passWord", "(Ljava/lang/String;)Z"⟩, 3) := ⟨⟨by decide +kernel, by decide +kernel⟩, List.mem_of_getElem? (i := 127) (by decide +kernel), List.mem_of_getElem? (i := 358) (by decide +kernel), List.mem_of_getElem? (i := 359) (by decide +kernel)⟩
theorem lw_p7 : lw_okq (⟨"SeatOn$Reader", "passNumber", "()I"⟩, 3) := ⟨⟨by decide +kernel, by decide +kernel⟩, List.mem_of_getElem? (i := 127) (by decide +kernel), List.mem_of_getElem? (i := 412) (by decide +kernel), List.mem_of_getElem? (i := 413) (by decide +kernel)⟩
theorem lw_p8 : lw_okq (⟨"SeatOn$Reader", "passEither", "(LSeatOn$House;I)Z"⟩, 3) := ⟨⟨by decide +kernel, by decide +kernel⟩, List.mem_of_getElem? (i := 127) (by decide +kernel), List.mem_of_getElem? (i := 416) (by decide +kernel), List.mem_of_getElem? (i := 417) (by decide +kernel)⟩
theorem lw_p9 : lw_okq (⟨"SeatOn$Reader", "passBoth", "(LSeatOn$House;I)Z"⟩, 3) := ⟨⟨by decide +kernel, by decide +kernel⟩, List.mem_of_getElem? (i := 127) (by decide +kernel), List.mem_of_getElem? (i := 420) (by decide +kernel), List.mem_of_getElem? (i := 421) (by decide +kernel)⟩
theorem lw_p10 : lw_okq (⟨"SeatOn$Reader", "passPart", "(LSeatOn$House;I)Z"⟩, 3) := ⟨⟨by decide +kernel, by decide +kernel⟩, List.mem_of_getElem? (i := 127) (by decide +kernel), List.mem_of_getElem? (i := 424) (by decide +kernel), List.mem_of_getElem? (i := 425) (by decide +kernel)⟩
theorem lw_p11 : lw_okq (⟨"SeatOn$Reader", "passNot", "(LSeatOn$House;I)Z"⟩, 3) := ⟨⟨by decide +kernel, by decide +kernel⟩, List.mem_of_getElem? (i := 127) (by decide +kernel), List.mem_of_getElem? (i := 428) (by decide +kernel), List.mem_of_getElem? (i := 429) (by decide +kernel)⟩
theorem lw_p12 : lw_okq (⟨"SeatOn$Reader", "passTest", "(LSeatOn$House;)Z"⟩, 3) := ⟨⟨by decide +kernel, by decide +kernel⟩, List.mem_of_getElem? (i := 127) (by decide +kernel), List.mem_of_getElem? (i := 436) (by decide +kernel), List.mem_of_getElem? (i := 437) (by decide +kernel)⟩
theorem lw_p13 : lw_okq (⟨"SeatOn$Reader", "passOneOf", "(Ljava/lang/String;)I"⟩, 3) := ⟨⟨by decide +kernel, by decide +kernel⟩, List.mem_of_getElem? (i := 127) (by decide +kernel), List.mem_of_getElem? (i := 441) (by decide +kernel), List.mem_of_getElem? (i := 442) (by decide +kernel)⟩
theorem lw_p14 : lw_okq (⟨"SeatOn", "toldOfSeat", "(II)I"⟩, 14) := ⟨⟨by decide +kernel, by decide +kernel⟩, List.mem_of_getElem? (i := 19) (by decide +kernel), List.mem_of_getElem? (i := 464) (by decide +kernel), List.mem_of_getElem? (i := 465) (by decide +kernel)⟩
theorem lw_p15 : lw_okq (⟨"SeatOn$Wheel", "answerOfKind", "(II)I"⟩, 16) := ⟨⟨by decide +kernel, by decide +kernel⟩, List.mem_of_getElem? (i := 27) (by decide +kernel), List.mem_of_getElem? (i := 494) (by decide +kernel), List.mem_of_getElem? (i := 495) (by decide +kernel)⟩
def lw_privs_1 : List (MethodName × Nat) := [(⟨"SeatOn", "isSeat", "(I)Z"⟩, 14), (⟨"SeatOn", "isPerson", "(I)Z"⟩, 14), (⟨"SeatOn", "isMatter", "(I)Z"⟩, 14), (⟨"SeatOn$Reader", "passClause", "(LSeatOn$House;)Z"⟩, 3), (⟨"SeatOn$Reader", "passKeyword", "()I"⟩, 3), (⟨"SeatOn$Reader", "passSign", "(I)Z"⟩, 3), (⟨"SeatOn$Reader", "passWord", "(Ljava/lang/String;)Z"⟩, 3), (⟨"SeatOn$Reader", "passNumber", "()I"⟩, 3), (⟨"SeatOn$Reader", "passEither", "(LSeatOn$House;I)Z"⟩, 3), (⟨"SeatOn$Reader", "passBoth", "(LSeatOn$House;I)Z"⟩, 3), (⟨"SeatOn$Reader", "passPart", "(LSeatOn$House;I)Z"⟩, 3), (⟨"SeatOn$Reader", "passNot", "(LSeatOn$House;I)Z"⟩, 3), (⟨"SeatOn$Reader", "passTest", "(LSeatOn$House;)Z"⟩, 3), (⟨"SeatOn$Reader", "passOneOf", "(Ljava/lang/String;)I"⟩, 3), (⟨"SeatOn", "toldOfSeat", "(II)I"⟩, 14), (⟨"SeatOn$Wheel", "answerOfKind", "(II)I"⟩, 16)]
theorem lw_r1 : ∀ q ∈ lw_privs_1, lw_okq q := List.forall_mem_cons.mpr ⟨lw_p0, List.forall_mem_cons.mpr ⟨lw_p1, List.forall_mem_cons.mpr ⟨lw_p2, List.forall_mem_cons.mpr ⟨lw_p3, List.forall_mem_cons.mpr ⟨lw_p4, List.forall_mem_cons.mpr ⟨lw_p5, List.forall_mem_cons.mpr ⟨lw_p6, List.forall_mem_cons.mpr ⟨lw_p7, List.forall_mem_cons.mpr ⟨lw_p8, List.forall_mem_cons.mpr ⟨lw_p9, List.forall_mem_cons.mpr ⟨lw_p10, List.forall_mem_cons.mpr ⟨lw_p11, List.forall_mem_cons.mpr ⟨lw_p12, List.forall_mem_cons.mpr ⟨lw_p13, List.forall_mem_cons.mpr ⟨lw_p14, List.forall_mem_cons.mpr ⟨lw_p15, fun _ h => absurd h List.not_mem_nil⟩⟩⟩⟩⟩⟩⟩⟩⟩⟩⟩⟩⟩⟩⟩⟩
theorem lw_p16 : lw_okq (⟨"SeatOn$Wheel", "heardBy", "(II)I"⟩, 16) := ⟨⟨by decide +kernel, by decide +kernel⟩, List.mem_of_getElem? (i := 27) (by decide +kernel), List.mem_of_getElem? (i := 498) (by decide +kernel), List.mem_of_getElem? (i := 499) (by decide +kernel)⟩
theorem lw_p17 : lw_okq (⟨"SeatOn$Wheel", "isVetoed", "()Z"⟩, 16) := ⟨⟨by decide +kernel, by decide +kernel⟩, List.mem_of_getElem? (i := 27) (by decide +kernel), List.mem_of_getElem? (i := 524) (by decide +kernel), List.mem_of_getElem? (i := 525) (by decide +kernel)⟩
theorem lw_p18 : lw_okq (⟨"SeatOn$Wheel", "goesByTie", "()I"⟩, 16) := ⟨⟨by decide +kernel, by decide +kernel⟩, List.mem_of_getElem? (i := 27) (by decide +kernel), List.mem_of_getElem? (i := 532) (by decide +kernel), List.mem_of_getElem? (i := 533) (by decide +kernel)⟩
theorem lw_p19 : lw_okq (⟨"SeatOn", "ask", "()V"⟩, 14) := ⟨⟨by decide +kernel, by decide +kernel⟩, List.mem_of_getElem? (i := 19) (by decide +kernel), List.mem_of_getElem? (i := 545) (by decide +kernel), List.mem_of_getElem? (i := 546) (by decide +kernel)⟩
theorem lw_p20 : lw_okq (⟨"SeatOn", "goesBehind", "(II)I"⟩, 14) := ⟨⟨by decide +kernel, by decide +kernel⟩, List.mem_of_getElem? (i := 19) (by decide +kernel), List.mem_of_getElem? (i := 556) (by decide +kernel), List.mem_of_getElem? (i := 557) (by decide +kernel)⟩
theorem lw_p21 : lw_okq (⟨"SeatOn", "areOpen", "(I)Z"⟩, 14) := ⟨⟨by decide +kernel, by decide +kernel⟩, List.mem_of_getElem? (i := 19) (by decide +kernel), List.mem_of_getElem? (i := 570) (by decide +kernel), List.mem_of_getElem? (i := 571) (by decide +kernel)⟩
theorem lw_p22 : lw_okq (⟨"SeatOn", "lookAhead", "(I)V"⟩, 14) := ⟨⟨by decide +kernel, by decide +kernel⟩, List.mem_of_getElem? (i := 19) (by decide +kernel), List.mem_of_getElem? (i := 574) (by decide +kernel), List.mem_of_getElem? (i := 575) (by decide +kernel)⟩
theorem lw_p23 : lw_okq (⟨"SeatOn$Agenda", "mostWith", "(II)I"⟩, 3) := ⟨⟨by decide +kernel, by decide +kernel⟩, List.mem_of_getElem? (i := 144) (by decide +kernel), List.mem_of_getElem? (i := 593) (by decide +kernel), List.mem_of_getElem? (i := 594) (by decide +kernel)⟩
theorem lw_p24 : lw_okq (⟨"SeatOn$Agenda", "worthFrom", "(III)I"⟩, 3) := ⟨⟨by decide +kernel, by decide +kernel⟩, List.mem_of_getElem? (i := 144) (by decide +kernel), List.mem_of_getElem? (i := 597) (by decide +kernel), List.mem_of_getElem? (i := 598) (by decide +kernel)⟩
theorem lw_p25 : lw_okq (⟨"SeatOn$Agenda", "firstOf", "(II)I"⟩, 3) := ⟨⟨by decide +kernel, by decide +kernel⟩, List.mem_of_getElem? (i := 144) (by decide +kernel), List.mem_of_getElem? (i := 612) (by decide +kernel), List.mem_of_getElem? (i := 613) (by decide +kernel)⟩
theorem lw_p26 : lw_okq (⟨"SeatOn", "leadOfOthers", "(II)I"⟩, 14) := ⟨⟨by decide +kernel, by decide +kernel⟩, List.mem_of_getElem? (i := 19) (by decide +kernel), List.mem_of_getElem? (i := 632) (by decide +kernel), List.mem_of_getElem? (i := 633) (by decide +kernel)⟩
theorem lw_p27 : lw_okq (⟨"SeatOn", "leadWithMore", "(II)I"⟩, 14) := ⟨⟨by decide +kernel, by decide +kernel⟩, List.mem_of_getElem? (i := 19) (by decide +kernel), List.mem_of_getElem? (i := 662) (by decide +kernel), List.mem_of_getElem? (i := 663) (by decide +kernel)⟩
theorem lw_p28 : lw_okq (⟨"SeatOn$Seen", "fits", "(III)Z"⟩, 3) := ⟨⟨by decide +kernel, by decide +kernel⟩, List.mem_of_getElem? (i := 96) (by decide +kernel), List.mem_of_getElem? (i := 683) (by decide +kernel), List.mem_of_getElem? (i := 684) (by decide +kernel)⟩
theorem lw_p29 : lw_okq (⟨"SeatOn$Acts", "perform", "(IIII)I"⟩, 5) := ⟨⟨by decide +kernel, by decide +kernel⟩, List.mem_of_getElem? (i := 160) (by decide +kernel), List.mem_of_getElem? (i := 777) (by decide +kernel), List.mem_of_getElem? (i := 778) (by decide +kernel)⟩
theorem lw_p30 : lw_okq (⟨"SeatOn$Acts", "runBody", "(IIII)I"⟩, 5) := ⟨⟨by decide +kernel, by decide +kernel⟩, List.mem_of_getElem? (i := 160) (by decide +kernel), List.mem_of_getElem? (i := 788) (by decide +kernel), List.mem_of_getElem? (i := 789) (by decide +kernel)⟩
theorem lw_p31 : lw_okq (⟨"SeatOn$Acts", "note", "(I)V"⟩, 5) := ⟨⟨by decide +kernel, by decide +kernel⟩, List.mem_of_getElem? (i := 160) (by decide +kernel), List.mem_of_getElem? (i := 792) (by decide +kernel), List.mem_of_getElem? (i := 793) (by decide +kernel)⟩
def lw_privs_2 : List (MethodName × Nat) := [(⟨"SeatOn$Wheel", "heardBy", "(II)I"⟩, 16), (⟨"SeatOn$Wheel", "isVetoed", "()Z"⟩, 16), (⟨"SeatOn$Wheel", "goesByTie", "()I"⟩, 16), (⟨"SeatOn", "ask", "()V"⟩, 14), (⟨"SeatOn", "goesBehind", "(II)I"⟩, 14), (⟨"SeatOn", "areOpen", "(I)Z"⟩, 14), (⟨"SeatOn", "lookAhead", "(I)V"⟩, 14), (⟨"SeatOn$Agenda", "mostWith", "(II)I"⟩, 3), (⟨"SeatOn$Agenda", "worthFrom", "(III)I"⟩, 3), (⟨"SeatOn$Agenda", "firstOf", "(II)I"⟩, 3), (⟨"SeatOn", "leadOfOthers", "(II)I"⟩, 14), (⟨"SeatOn", "leadWithMore", "(II)I"⟩, 14), (⟨"SeatOn$Seen", "fits", "(III)Z"⟩, 3), (⟨"SeatOn$Acts", "perform", "(IIII)I"⟩, 5), (⟨"SeatOn$Acts", "runBody", "(IIII)I"⟩, 5), (⟨"SeatOn$Acts", "note", "(I)V"⟩, 5)]
theorem lw_r2 : ∀ q ∈ lw_privs_2, lw_okq q := List.forall_mem_cons.mpr ⟨lw_p16, List.forall_mem_cons.mpr ⟨lw_p17, List.forall_mem_cons.mpr ⟨lw_p18, List.forall_mem_cons.mpr ⟨lw_p19, List.forall_mem_cons.mpr ⟨lw_p20, List.forall_mem_cons.mpr ⟨lw_p21, List.forall_mem_cons.mpr ⟨lw_p22, List.forall_mem_cons.mpr ⟨lw_p23, List.forall_mem_cons.mpr ⟨lw_p24, List.forall_mem_cons.mpr ⟨lw_p25, List.forall_mem_cons.mpr ⟨lw_p26, List.forall_mem_cons.mpr ⟨lw_p27, List.forall_mem_cons.mpr ⟨lw_p28, List.forall_mem_cons.mpr ⟨lw_p29, List.forall_mem_cons.mpr ⟨lw_p30, List.forall_mem_cons.mpr ⟨lw_p31, fun _ h => absurd h List.not_mem_nil⟩⟩⟩⟩⟩⟩⟩⟩⟩⟩⟩⟩⟩⟩⟩⟩
theorem lw_p32 : lw_okq (⟨"SeatOnModel", "in", "(III)Z"⟩, 70) := ⟨⟨by decide +kernel, by decide +kernel⟩, List.mem_of_getElem? (i := 852) (by decide +kernel), List.mem_of_getElem? (i := 1074) (by decide +kernel), List.mem_of_getElem? (i := 1075) (by decide +kernel)⟩
theorem lw_p33 : lw_okq (⟨"SeatOnModel", "isSeat", "(I)Z"⟩, 70) := ⟨⟨by decide +kernel, by decide +kernel⟩, List.mem_of_getElem? (i := 852) (by decide +kernel), List.mem_of_getElem? (i := 1082) (by decide +kernel), List.mem_of_getElem? (i := 1083) (by decide +kernel)⟩
theorem lw_p34 : lw_okq (⟨"SeatOnModel", "isPerson", "(I)Z"⟩, 70) := ⟨⟨by decide +kernel, by decide +kernel⟩, List.mem_of_getElem? (i := 852) (by decide +kernel), List.mem_of_getElem? (i := 1094) (by decide +kernel), List.mem_of_getElem? (i := 1095) (by decide +kernel)⟩
theorem lw_p35 : lw_okq (⟨"SeatOnModel", "seatOf", "(I)I"⟩, 70) := ⟨⟨by decide +kernel, by decide +kernel⟩, List.mem_of_getElem? (i := 852) (by decide +kernel), List.mem_of_getElem? (i := 1098) (by decide +kernel), List.mem_of_getElem? (i := 1099) (by decide +kernel)⟩
theorem lw_p36 : lw_okq (⟨"SeatOnModel", "whoIn", "(I)I"⟩, 70) := ⟨⟨by decide +kernel, by decide +kernel⟩, List.mem_of_getElem? (i := 852) (by decide +kernel), List.mem_of_getElem? (i := 1106) (by decide +kernel), List.mem_of_getElem? (i := 1107) (by decide +kernel)⟩
theorem lw_p37 : lw_okq (⟨"SeatOnModel", "isMatter", "(I)Z"⟩, 70) := ⟨⟨by decide +kernel, by decide +kernel⟩, List.mem_of_getElem? (i := 852) (by decide +kernel), List.mem_of_getElem? (i := 1118) (by decide +kernel), List.mem_of_getElem? (i := 1119) (by decide +kernel)⟩
theorem lw_p38 : lw_okq (⟨"SeatOnModel", "goesText", "(I)Z"⟩, 70) := ⟨⟨by decide +kernel, by decide +kernel⟩, List.mem_of_getElem? (i := 852) (by decide +kernel), List.mem_of_getElem? (i := 1130) (by decide +kernel), List.mem_of_getElem? (i := 1131) (by decide +kernel)⟩
theorem lw_p39 : lw_okq (⟨"SeatOnModel", "takesClause", "(I)Z"⟩, 70) := ⟨⟨by decide +kernel, by decide +kernel⟩, List.mem_of_getElem? (i := 852) (by decide +kernel), List.mem_of_getElem? (i := 1134) (by decide +kernel), List.mem_of_getElem? (i := 1135) (by decide +kernel)⟩
theorem lw_p40 : lw_okq (⟨"SeatOnModel", "takesHead", "(I)Z"⟩, 70) := ⟨⟨by decide +kernel, by decide +kernel⟩, List.mem_of_getElem? (i := 852) (by decide +kernel), List.mem_of_getElem? (i := 1138) (by decide +kernel), List.mem_of_getElem? (i := 1139) (by decide +kernel)⟩
theorem lw_p41 : lw_okq (⟨"SeatOnModel", "second", "()I"⟩, 70) := ⟨⟨by decide +kernel, by decide +kernel⟩, List.mem_of_getElem? (i := 852) (by decide +kernel), List.mem_of_getElem? (i := 1142) (by decide +kernel), List.mem_of_getElem? (i := 1143) (by decide +kernel)⟩
theorem lw_p42 : lw_okq (⟨"SeatOnModel", "next", "()I"⟩, 70) := ⟨⟨by decide +kernel, by decide +kernel⟩, List.mem_of_getElem? (i := 852) (by decide +kernel), List.mem_of_getElem? (i := 1146) (by decide +kernel), List.mem_of_getElem? (i := 1147) (by decide +kernel)⟩
theorem lw_p43 : lw_okq (⟨"SeatOnModel", "takesWord", "(II)Z"⟩, 70) := ⟨⟨by decide +kernel, by decide +kernel⟩, List.mem_of_getElem? (i := 852) (by decide +kernel), List.mem_of_getElem? (i := 1150) (by decide +kernel), List.mem_of_getElem? (i := 1151) (by decide +kernel)⟩
theorem lw_p44 : lw_okq (⟨"SeatOnModel", "takes", "(I)Z"⟩, 70) := ⟨⟨by decide +kernel, by decide +kernel⟩, List.mem_of_getElem? (i := 852) (by decide +kernel), List.mem_of_getElem? (i := 1154) (by decide +kernel), List.mem_of_getElem? (i := 1155) (by decide +kernel)⟩
theorem lw_p45 : lw_okq (⟨"SeatOnModel", "takesNumber", "()Z"⟩, 70) := ⟨⟨by decide +kernel, by decide +kernel⟩, List.mem_of_getElem? (i := 852) (by decide +kernel), List.mem_of_getElem? (i := 1158) (by decide +kernel), List.mem_of_getElem? (i := 1159) (by decide +kernel)⟩
theorem lw_p46 : lw_okq (⟨"SeatOnModel", "isDigit", "()Z"⟩, 70) := ⟨⟨by decide +kernel, by decide +kernel⟩, List.mem_of_getElem? (i := 852) (by decide +kernel), List.mem_of_getElem? (i := 1162) (by decide +kernel), List.mem_of_getElem? (i := 1163) (by decide +kernel)⟩
theorem lw_p47 : lw_okq (⟨"SeatOnModel", "takesE", "(I)Z"⟩, 70) := ⟨⟨by decide +kernel, by decide +kernel⟩, List.mem_of_getElem? (i := 852) (by decide +kernel), List.mem_of_getElem? (i := 1166) (by decide +kernel), List.mem_of_getElem? (i := 1167) (by decide +kernel)⟩
def lw_privs_3 : List (MethodName × Nat) := [(⟨"SeatOnModel", "in", "(III)Z"⟩, 70), (⟨"SeatOnModel", "isSeat", "(I)Z"⟩, 70), (⟨"SeatOnModel", "isPerson", "(I)Z"⟩, 70), (⟨"SeatOnModel", "seatOf", "(I)I"⟩, 70), (⟨"SeatOnModel", "whoIn", "(I)I"⟩, 70), (⟨"SeatOnModel", "isMatter", "(I)Z"⟩, 70), (⟨"SeatOnModel", "goesText", "(I)Z"⟩, 70), (⟨"SeatOnModel", "takesClause", "(I)Z"⟩, 70), (⟨"SeatOnModel", "takesHead", "(I)Z"⟩, 70), (⟨"SeatOnModel", "second", "()I"⟩, 70), (⟨"SeatOnModel", "next", "()I"⟩, 70), (⟨"SeatOnModel", "takesWord", "(II)Z"⟩, 70), (⟨"SeatOnModel", "takes", "(I)Z"⟩, 70), (⟨"SeatOnModel", "takesNumber", "()Z"⟩, 70), (⟨"SeatOnModel", "isDigit", "()Z"⟩, 70), (⟨"SeatOnModel", "takesE", "(I)Z"⟩, 70)]
theorem lw_r3 : ∀ q ∈ lw_privs_3, lw_okq q := List.forall_mem_cons.mpr ⟨lw_p32, List.forall_mem_cons.mpr ⟨lw_p33, List.forall_mem_cons.mpr ⟨lw_p34, List.forall_mem_cons.mpr ⟨lw_p35, List.forall_mem_cons.mpr ⟨lw_p36, List.forall_mem_cons.mpr ⟨lw_p37, List.forall_mem_cons.mpr ⟨lw_p38, List.forall_mem_cons.mpr ⟨lw_p39, List.forall_mem_cons.mpr ⟨lw_p40, List.forall_mem_cons.mpr ⟨lw_p41, List.forall_mem_cons.mpr ⟨lw_p42, List.forall_mem_cons.mpr ⟨lw_p43, List.forall_mem_cons.mpr ⟨lw_p44, List.forall_mem_cons.mpr ⟨lw_p45, List.forall_mem_cons.mpr ⟨lw_p46, List.forall_mem_cons.mpr ⟨lw_p47, fun _ h => absurd h List.not_mem_nil⟩⟩⟩⟩⟩⟩⟩⟩⟩⟩⟩⟩⟩⟩⟩⟩
theorem lw_p48 : lw_okq (⟨"SeatOnModel", "takesTest", "()Z"⟩, 70) := ⟨⟨by decide +kernel, by decide +kernel⟩, List.mem_of_getElem? (i := 852) (by decide +kernel), List.mem_of_getElem? (i := 1170) (by decide +kernel), List.mem_of_getElem? (i := 1171) (by decide +kernel)⟩
theorem lw_p49 : lw_okq (⟨"SeatOnModel", "place", "(I)I"⟩, 70) := ⟨⟨by decide +kernel, by decide +kernel⟩, List.mem_of_getElem? (i := 852) (by decide +kernel), List.mem_of_getElem? (i := 1174) (by decide +kernel), List.mem_of_getElem? (i := 1175) (by decide +kernel)⟩
theorem lw_p50 : lw_okq (⟨"SeatOnModel", "put", "(I)V"⟩, 70) := ⟨⟨by decide +kernel, by decide +kernel⟩, List.mem_of_getElem? (i := 852) (by decide +kernel), List.mem_of_getElem? (i := 1178) (by decide +kernel), List.mem_of_getElem? (i := 1179) (by decide +kernel)⟩
theorem lw_p51 : lw_okq (⟨"SeatOnModel", "whole", "()V"⟩, 70) := ⟨⟨by decide +kernel, by decide +kernel⟩, List.mem_of_getElem? (i := 852) (by decide +kernel), List.mem_of_getElem? (i := 1182) (by decide +kernel), List.mem_of_getElem? (i := 1183) (by decide +kernel)⟩
theorem lw_p52 : lw_okq (⟨"SeatOnModel", "settle", "(I)V"⟩, 70) := ⟨⟨by decide +kernel, by decide +kernel⟩, List.mem_of_getElem? (i := 852) (by decide +kernel), List.mem_of_getElem? (i := 1186) (by decide +kernel), List.mem_of_getElem? (i := 1187) (by decide +kernel)⟩
theorem lw_p53 : lw_okq (⟨"SeatOnModel", "tieNow", "()I"⟩, 70) := ⟨⟨by decide +kernel, by decide +kernel⟩, List.mem_of_getElem? (i := 852) (by decide +kernel), List.mem_of_getElem? (i := 1194) (by decide +kernel), List.mem_of_getElem? (i := 1195) (by decide +kernel)⟩
theorem lw_p54 : lw_okq (⟨"SeatOnModel", "begin", "()I"⟩, 70) := ⟨⟨by decide +kernel, by decide +kernel⟩, List.mem_of_getElem? (i := 852) (by decide +kernel), List.mem_of_getElem? (i := 1198) (by decide +kernel), List.mem_of_getElem? (i := 1199) (by decide +kernel)⟩
theorem lw_p55 : lw_okq (⟨"SeatOnModel", "behind", "()I"⟩, 70) := ⟨⟨by decide +kernel, by decide +kernel⟩, List.mem_of_getElem? (i := 852) (by decide +kernel), List.mem_of_getElem? (i := 1202) (by decide +kernel), List.mem_of_getElem? (i := 1203) (by decide +kernel)⟩
theorem lw_p56 : lw_okq (⟨"SeatOnModel", "likeOf", "(II)I"⟩, 70) := ⟨⟨by decide +kernel, by decide +kernel⟩, List.mem_of_getElem? (i := 852) (by decide +kernel), List.mem_of_getElem? (i := 1210) (by decide +kernel), List.mem_of_getElem? (i := 1211) (by decide +kernel)⟩
theorem lw_p57 : lw_okq (⟨"SeatOnModel", "holds", "(III)Z"⟩, 70) := ⟨⟨by decide +kernel, by decide +kernel⟩, List.mem_of_getElem? (i := 852) (by decide +kernel), List.mem_of_getElem? (i := 1214) (by decide +kernel), List.mem_of_getElem? (i := 1215) (by decide +kernel)⟩
theorem lw_p58 : lw_okq (⟨"SeatOnModel", "factOf", "(III)I"⟩, 70) := ⟨⟨by decide +kernel, by decide +kernel⟩, List.mem_of_getElem? (i := 852) (by decide +kernel), List.mem_of_getElem? (i := 1218) (by decide +kernel), List.mem_of_getElem? (i := 1219) (by decide +kernel)⟩
theorem lw_p59 : lw_okq (⟨"SeatOnModel", "saysOf", "(II)I"⟩, 70) := ⟨⟨by decide +kernel, by decide +kernel⟩, List.mem_of_getElem? (i := 852) (by decide +kernel), List.mem_of_getElem? (i := 1226) (by decide +kernel), List.mem_of_getElem? (i := 1227) (by decide +kernel)⟩
theorem lw_p60 : lw_okq (⟨"SeatOnModel", "plain", "(II)I"⟩, 70) := ⟨⟨by decide +kernel, by decide +kernel⟩, List.mem_of_getElem? (i := 852) (by decide +kernel), List.mem_of_getElem? (i := 1230) (by decide +kernel), List.mem_of_getElem? (i := 1231) (by decide +kernel)⟩
theorem lw_p61 : lw_okq (⟨"SeatOnModel", "idly", "(II)I"⟩, 70) := ⟨⟨by decide +kernel, by decide +kernel⟩, List.mem_of_getElem? (i := 852) (by decide +kernel), List.mem_of_getElem? (i := 1234) (by decide +kernel), List.mem_of_getElem? (i := 1235) (by decide +kernel)⟩
theorem lw_p62 : lw_okq (⟨"SeatOnModel", "away", "(II)I"⟩, 70) := ⟨⟨by decide +kernel, by decide +kernel⟩, List.mem_of_getElem? (i := 852) (by decide +kernel), List.mem_of_getElem? (i := 1238) (by decide +kernel), List.mem_of_getElem? (i := 1239) (by decide +kernel)⟩
theorem lw_p63 : lw_okq (⟨"SeatOnModel", "sided", "(II)I"⟩, 70) := ⟨⟨by decide +kernel, by decide +kernel⟩, List.mem_of_getElem? (i := 852) (by decide +kernel), List.mem_of_getElem? (i := 1242) (by decide +kernel), List.mem_of_getElem? (i := 1243) (by decide +kernel)⟩
def lw_privs_4 : List (MethodName × Nat) := [(⟨"SeatOnModel", "takesTest", "()Z"⟩, 70), (⟨"SeatOnModel", "place", "(I)I"⟩, 70), (⟨"SeatOnModel", "put", "(I)V"⟩, 70), (⟨"SeatOnModel", "whole", "()V"⟩, 70), (⟨"SeatOnModel", "settle", "(I)V"⟩, 70), (⟨"SeatOnModel", "tieNow", "()I"⟩, 70), (⟨"SeatOnModel", "begin", "()I"⟩, 70), (⟨"SeatOnModel", "behind", "()I"⟩, 70), (⟨"SeatOnModel", "likeOf", "(II)I"⟩, 70), (⟨"SeatOnModel", "holds", "(III)Z"⟩, 70), (⟨"SeatOnModel", "factOf", "(III)I"⟩, 70), (⟨"SeatOnModel", "saysOf", "(II)I"⟩, 70), (⟨"SeatOnModel", "plain", "(II)I"⟩, 70), (⟨"SeatOnModel", "idly", "(II)I"⟩, 70), (⟨"SeatOnModel", "away", "(II)I"⟩, 70), (⟨"SeatOnModel", "sided", "(II)I"⟩, 70)]
theorem lw_r4 : ∀ q ∈ lw_privs_4, lw_okq q := List.forall_mem_cons.mpr ⟨lw_p48, List.forall_mem_cons.mpr ⟨lw_p49, List.forall_mem_cons.mpr ⟨lw_p50, List.forall_mem_cons.mpr ⟨lw_p51, List.forall_mem_cons.mpr ⟨lw_p52, List.forall_mem_cons.mpr ⟨lw_p53, List.forall_mem_cons.mpr ⟨lw_p54, List.forall_mem_cons.mpr ⟨lw_p55, List.forall_mem_cons.mpr ⟨lw_p56, List.forall_mem_cons.mpr ⟨lw_p57, List.forall_mem_cons.mpr ⟨lw_p58, List.forall_mem_cons.mpr ⟨lw_p59, List.forall_mem_cons.mpr ⟨lw_p60, List.forall_mem_cons.mpr ⟨lw_p61, List.forall_mem_cons.mpr ⟨lw_p62, List.forall_mem_cons.mpr ⟨lw_p63, fun _ h => absurd h List.not_mem_nil⟩⟩⟩⟩⟩⟩⟩⟩⟩⟩⟩⟩⟩⟩⟩⟩
theorem lw_p64 : lw_okq (⟨"SeatOnModel", "goes", "(I)I"⟩, 70) := ⟨⟨by decide +kernel, by decide +kernel⟩, List.mem_of_getElem? (i := 852) (by decide +kernel), List.mem_of_getElem? (i := 1250) (by decide +kernel), List.mem_of_getElem? (i := 1251) (by decide +kernel)⟩
theorem lw_p65 : lw_okq (⟨"SeatOnModel", "laySaid", "(I)V"⟩, 70) := ⟨⟨by decide +kernel, by decide +kernel⟩, List.mem_of_getElem? (i := 852) (by decide +kernel), List.mem_of_getElem? (i := 1254) (by decide +kernel), List.mem_of_getElem? (i := 1255) (by decide +kernel)⟩
theorem lw_p66 : lw_okq (⟨"SeatOnModel", "goesBy", "(I)I"⟩, 70) := ⟨⟨by decide +kernel, by decide +kernel⟩, List.mem_of_getElem? (i := 852) (by decide +kernel), List.mem_of_getElem? (i := 1258) (by decide +kernel), List.mem_of_getElem? (i := 1259) (by decide +kernel)⟩
theorem lw_p67 : lw_okq (⟨"SeatOnModel", "votesOf", "(I)I"⟩, 70) := ⟨⟨by decide +kernel, by decide +kernel⟩, List.mem_of_getElem? (i := 852) (by decide +kernel), List.mem_of_getElem? (i := 1262) (by decide +kernel), List.mem_of_getElem? (i := 1263) (by decide +kernel)⟩
theorem lw_p68 : lw_okq (⟨"SeatOnModel", "wouldBy", "(II)I"⟩, 70) := ⟨⟨by decide +kernel, by decide +kernel⟩, List.mem_of_getElem? (i := 852) (by decide +kernel), List.mem_of_getElem? (i := 1274) (by decide +kernel), List.mem_of_getElem? (i := 1275) (by decide +kernel)⟩
theorem lw_p69 : lw_okq (⟨"SeatOnModel", "has", "(II)Z"⟩, 70) := ⟨⟨by decide +kernel, by decide +kernel⟩, List.mem_of_getElem? (i := 852) (by decide +kernel), List.mem_of_getElem? (i := 1286) (by decide +kernel), List.mem_of_getElem? (i := 1287) (by decide +kernel)⟩
theorem lw_p70 : lw_okq (⟨"SeatOnModel", "ones", "(I)I"⟩, 70) := ⟨⟨by decide +kernel, by decide +kernel⟩, List.mem_of_getElem? (i := 852) (by decide +kernel), List.mem_of_getElem? (i := 1290) (by decide +kernel), List.mem_of_getElem? (i := 1291) (by decide +kernel)⟩
theorem lw_p71 : lw_okq (⟨"SeatOnModel", "layOrder", "(II)Z"⟩, 70) := ⟨⟨by decide +kernel, by decide +kernel⟩, List.mem_of_getElem? (i := 852) (by decide +kernel), List.mem_of_getElem? (i := 1294) (by decide +kernel), List.mem_of_getElem? (i := 1295) (by decide +kernel)⟩
theorem lw_p72 : lw_okq (⟨"SeatOnModel", "worthOfOrder", "(I)I"⟩, 70) := ⟨⟨by decide +kernel, by decide +kernel⟩, List.mem_of_getElem? (i := 852) (by decide +kernel), List.mem_of_getElem? (i := 1298) (by decide +kernel), List.mem_of_getElem? (i := 1299) (by decide +kernel)⟩
theorem lw_p73 : lw_okq (⟨"SeatOnModel", "goesIf", "(III)I"⟩, 70) := ⟨⟨by decide +kernel, by decide +kernel⟩, List.mem_of_getElem? (i := 852) (by decide +kernel), List.mem_of_getElem? (i := 1306) (by decide +kernel), List.mem_of_getElem? (i := 1307) (by decide +kernel)⟩
theorem lw_p74 : lw_okq (⟨"SeatOnModel", "lowest", "(JJI)J"⟩, 70) := ⟨⟨by decide +kernel, by decide +kernel⟩, List.mem_of_getElem? (i := 852) (by decide +kernel), List.mem_of_getElem? (i := 1319) (by decide +kernel), List.mem_of_getElem? (i := 1320) (by decide +kernel)⟩
theorem lw_p75 : lw_okq (⟨"SeatOnModel", "divisor", "(JJ)J"⟩, 70) := ⟨⟨by decide +kernel, by decide +kernel⟩, List.mem_of_getElem? (i := 852) (by decide +kernel), List.mem_of_getElem? (i := 1323) (by decide +kernel), List.mem_of_getElem? (i := 1324) (by decide +kernel)⟩
theorem lw_p76 : lw_okq (⟨"SeatOnModel", "forsOff", "(I)I"⟩, 70) := ⟨⟨by decide +kernel, by decide +kernel⟩, List.mem_of_getElem? (i := 852) (by decide +kernel), List.mem_of_getElem? (i := 1343) (by decide +kernel), List.mem_of_getElem? (i := 1344) (by decide +kernel)⟩
theorem lw_p77 : lw_okq (⟨"SeatOnModel", "manyStood", "(I)I"⟩, 70) := ⟨⟨by decide +kernel, by decide +kernel⟩, List.mem_of_getElem? (i := 852) (by decide +kernel), List.mem_of_getElem? (i := 1355) (by decide +kernel), List.mem_of_getElem? (i := 1356) (by decide +kernel)⟩
theorem lw_p78 : lw_okq (⟨"SeatOnModel", "couldBe", "(II)Z"⟩, 70) := ⟨⟨by decide +kernel, by decide +kernel⟩, List.mem_of_getElem? (i := 852) (by decide +kernel), List.mem_of_getElem? (i := 1359) (by decide +kernel), List.mem_of_getElem? (i := 1360) (by decide +kernel)⟩
theorem lw_p79 : lw_okq (⟨"SeatOnModel", "goesSo", "(II)Z"⟩, 70) := ⟨⟨by decide +kernel, by decide +kernel⟩, List.mem_of_getElem? (i := 852) (by decide +kernel), List.mem_of_getElem? (i := 1379) (by decide +kernel), List.mem_of_getElem? (i := 1380) (by decide +kernel)⟩
def lw_privs_5 : List (MethodName × Nat) := [(⟨"SeatOnModel", "goes", "(I)I"⟩, 70), (⟨"SeatOnModel", "laySaid", "(I)V"⟩, 70), (⟨"SeatOnModel", "goesBy", "(I)I"⟩, 70), (⟨"SeatOnModel", "votesOf", "(I)I"⟩, 70), (⟨"SeatOnModel", "wouldBy", "(II)I"⟩, 70), (⟨"SeatOnModel", "has", "(II)Z"⟩, 70), (⟨"SeatOnModel", "ones", "(I)I"⟩, 70), (⟨"SeatOnModel", "layOrder", "(II)Z"⟩, 70), (⟨"SeatOnModel", "worthOfOrder", "(I)I"⟩, 70), (⟨"SeatOnModel", "goesIf", "(III)I"⟩, 70), (⟨"SeatOnModel", "lowest", "(JJI)J"⟩, 70), (⟨"SeatOnModel", "divisor", "(JJ)J"⟩, 70), (⟨"SeatOnModel", "forsOff", "(I)I"⟩, 70), (⟨"SeatOnModel", "manyStood", "(I)I"⟩, 70), (⟨"SeatOnModel", "couldBe", "(II)Z"⟩, 70), (⟨"SeatOnModel", "goesSo", "(II)Z"⟩, 70)]
theorem lw_r5 : ∀ q ∈ lw_privs_5, lw_okq q := List.forall_mem_cons.mpr ⟨lw_p64, List.forall_mem_cons.mpr ⟨lw_p65, List.forall_mem_cons.mpr ⟨lw_p66, List.forall_mem_cons.mpr ⟨lw_p67, List.forall_mem_cons.mpr ⟨lw_p68, List.forall_mem_cons.mpr ⟨lw_p69, List.forall_mem_cons.mpr ⟨lw_p70, List.forall_mem_cons.mpr ⟨lw_p71, List.forall_mem_cons.mpr ⟨lw_p72, List.forall_mem_cons.mpr ⟨lw_p73, List.forall_mem_cons.mpr ⟨lw_p74, List.forall_mem_cons.mpr ⟨lw_p75, List.forall_mem_cons.mpr ⟨lw_p76, List.forall_mem_cons.mpr ⟨lw_p77, List.forall_mem_cons.mpr ⟨lw_p78, List.forall_mem_cons.mpr ⟨lw_p79, fun _ h => absurd h List.not_mem_nil⟩⟩⟩⟩⟩⟩⟩⟩⟩⟩⟩⟩⟩⟩⟩⟩
theorem lw_p80 : lw_okq (⟨"SeatOnModel", "isTape", "(I)Z"⟩, 70) := ⟨⟨by decide +kernel, by decide +kernel⟩, List.mem_of_getElem? (i := 852) (by decide +kernel), List.mem_of_getElem? (i := 1387) (by decide +kernel), List.mem_of_getElem? (i := 1388) (by decide +kernel)⟩
theorem lw_p81 : lw_okq (⟨"SeatOnModel", "risesAct", "(II)I"⟩, 70) := ⟨⟨by decide +kernel, by decide +kernel⟩, List.mem_of_getElem? (i := 852) (by decide +kernel), List.mem_of_getElem? (i := 1403) (by decide +kernel), List.mem_of_getElem? (i := 1404) (by decide +kernel)⟩
theorem lw_p82 : lw_okq (⟨"SeatOnModel", "body", "(I)V"⟩, 70) := ⟨⟨by decide +kernel, by decide +kernel⟩, List.mem_of_getElem? (i := 852) (by decide +kernel), List.mem_of_getElem? (i := 1407) (by decide +kernel), List.mem_of_getElem? (i := 1408) (by decide +kernel)⟩
theorem lw_p83 : lw_okq (⟨"SeatOnModel", "voiceRises", "(II)I"⟩, 70) := ⟨⟨by decide +kernel, by decide +kernel⟩, List.mem_of_getElem? (i := 852) (by decide +kernel), List.mem_of_getElem? (i := 1411) (by decide +kernel), List.mem_of_getElem? (i := 1412) (by decide +kernel)⟩
theorem lw_p84 : lw_okq (⟨"SeatOnModel", "sitsAct", "(II)I"⟩, 70) := ⟨⟨by decide +kernel, by decide +kernel⟩, List.mem_of_getElem? (i := 852) (by decide +kernel), List.mem_of_getElem? (i := 1415) (by decide +kernel), List.mem_of_getElem? (i := 1416) (by decide +kernel)⟩
theorem lw_p85 : lw_okq (⟨"SeatOnModel", "firmSits", "(II)I"⟩, 70) := ⟨⟨by decide +kernel, by decide +kernel⟩, List.mem_of_getElem? (i := 852) (by decide +kernel), List.mem_of_getElem? (i := 1419) (by decide +kernel), List.mem_of_getElem? (i := 1420) (by decide +kernel)⟩
theorem lw_p86 : lw_okq (⟨"SeatOnModel", "voiceSits", "(II)I"⟩, 70) := ⟨⟨by decide +kernel, by decide +kernel⟩, List.mem_of_getElem? (i := 852) (by decide +kernel), List.mem_of_getElem? (i := 1423) (by decide +kernel), List.mem_of_getElem? (i := 1424) (by decide +kernel)⟩
theorem lw_p87 : lw_okq (⟨"SeatOnModel", "tellsAct", "(II)I"⟩, 70) := ⟨⟨by decide +kernel, by decide +kernel⟩, List.mem_of_getElem? (i := 852) (by decide +kernel), List.mem_of_getElem? (i := 1427) (by decide +kernel), List.mem_of_getElem? (i := 1428) (by decide +kernel)⟩
theorem lw_p88 : lw_okq (⟨"SeatOnModel", "voiceTells", "(II)I"⟩, 70) := ⟨⟨by decide +kernel, by decide +kernel⟩, List.mem_of_getElem? (i := 852) (by decide +kernel), List.mem_of_getElem? (i := 1431) (by decide +kernel), List.mem_of_getElem? (i := 1432) (by decide +kernel)⟩
theorem lw_p89 : lw_okq (⟨"SeatOnModel", "narrow", "(IJ)J"⟩, 70) := ⟨⟨by decide +kernel, by decide +kernel⟩, List.mem_of_getElem? (i := 852) (by decide +kernel), List.mem_of_getElem? (i := 1455) (by decide +kernel), List.mem_of_getElem? (i := 1456) (by decide +kernel)⟩
def lw_privs_6 : List (MethodName × Nat) := [(⟨"SeatOnModel", "isTape", "(I)Z"⟩, 70), (⟨"SeatOnModel", "risesAct", "(II)I"⟩, 70), (⟨"SeatOnModel", "body", "(I)V"⟩, 70), (⟨"SeatOnModel", "voiceRises", "(II)I"⟩, 70), (⟨"SeatOnModel", "sitsAct", "(II)I"⟩, 70), (⟨"SeatOnModel", "firmSits", "(II)I"⟩, 70), (⟨"SeatOnModel", "voiceSits", "(II)I"⟩, 70), (⟨"SeatOnModel", "tellsAct", "(II)I"⟩, 70), (⟨"SeatOnModel", "voiceTells", "(II)I"⟩, 70), (⟨"SeatOnModel", "narrow", "(IJ)J"⟩, 70)]
theorem lw_r6 : ∀ q ∈ lw_privs_6, lw_okq q := List.forall_mem_cons.mpr ⟨lw_p80, List.forall_mem_cons.mpr ⟨lw_p81, List.forall_mem_cons.mpr ⟨lw_p82, List.forall_mem_cons.mpr ⟨lw_p83, List.forall_mem_cons.mpr ⟨lw_p84, List.forall_mem_cons.mpr ⟨lw_p85, List.forall_mem_cons.mpr ⟨lw_p86, List.forall_mem_cons.mpr ⟨lw_p87, List.forall_mem_cons.mpr ⟨lw_p88, List.forall_mem_cons.mpr ⟨lw_p89, fun _ h => absurd h List.not_mem_nil⟩⟩⟩⟩⟩⟩⟩⟩⟩⟩
def lw_privs : List (MethodName × Nat) := lw_privs_1 ++ (lw_privs_2 ++ (lw_privs_3 ++ (lw_privs_4 ++ (lw_privs_5 ++ (lw_privs_6)))))
def lw_tbl : List Cond := k2_sels lw_privs ++ tables_1
theorem lw_privs_ok : ∀ q ∈ lw_privs, lw_okq q := by
  show ∀ q ∈ lw_privs_1 ++ (lw_privs_2 ++ (lw_privs_3 ++ (lw_privs_4 ++ (lw_privs_5 ++ (lw_privs_6))))), lw_okq q
  exact List.forall_mem_append.mpr ⟨lw_r1, List.forall_mem_append.mpr ⟨lw_r2, List.forall_mem_append.mpr ⟨lw_r3, List.forall_mem_append.mpr ⟨lw_r4, List.forall_mem_append.mpr ⟨lw_r5, lw_r6⟩⟩⟩⟩⟩
/-! ===== BEGIN words of one list among another's, by their places ===== -/
theorem goodIn_r {big : List Cond} (ws : List Cond) (ps : List Nat) (hp : ws = ps.filterMap (fun i => big[i]?)) (h : ws.all goodWord = true) : GoodIn big ws := by
  intro w hw
  have h1 := List.all_eq_true.mp h w hw
  rw [hp] at hw
  obtain ⟨i, -, hi⟩ := List.mem_filterMap.mp hw
  have hm : w ∈ big := by first | exact List.mem_of_getElem? hi | exact List.getElem?_mem hi
  exact ⟨hm, good_of_word h1⟩
theorem goodIn_app {big a b : List Cond} (ha : GoodIn big a) (hb : GoodIn big b) : GoodIn big (a ++ b) := fun w h => (List.mem_append.mp h).elim (ha w) (hb w)
theorem goodIn_ca {big a b : List Cond} {c : Cond} (ha : GoodIn big (c :: a)) (hb : GoodIn big b) : GoodIn big (c :: (a ++ b)) := fun w h => (List.mem_cons.mp h).elim (fun e => ha w (List.mem_cons.mpr (Or.inl e))) (fun h => (List.mem_append.mp h).elim (fun h => ha w (List.mem_cons.mpr (Or.inr h))) (hb w))
theorem goodIn_sub {big ws : List Cond} (hm : ∀ w ∈ ws, w ∈ big) (h : ws.all goodWord = true) : GoodIn big ws := fun w hw => ⟨hm w hw, good_of_word (List.all_eq_true.mp h w hw)⟩
/-! ===== END ===== -/

/-! ===== BEGIN printed: names, fields, word lists, decode rows ===== -/
def RX0 : String := "SeatOn$Acts"
def TX0 : u_T := fun k => match k with
  | 0 => ("SeatOn$Acts", "ran", "I", false)
  | 1 => ("SeatOn$Acts", "trace", "[I", true)
  | 2 => ("SeatOn$Acts", "person", "I", false)
  | 3 => ("SeatOn$Acts", "kind", "I", false)
  | _ => ("SeatOn$Acts", "v", "I", false)
def tyX0 : Nat → FieldType := fun k => match k with
  | 0 => .int
  | 1 => .array .int
  | 2 => .int
  | 3 => .int
  | _ => .int
abbrev wsX00 : List Cond := u_ws RX0 TX0 5
theorem nmX0 : ∀ a, a < 5 → ∀ b, b < 5 → a ≠ b → (TX0 a).2.1 ≠ (TX0 b).2.1 := by decide +kernel
theorem tyX0_ok : ∀ k, k < 5 → parseFieldDescriptor (TX0 k).2.2.1 = some (tyX0 k) := by decide +kernel
abbrev cX0_init : ByteArray := prog_2_method_1_code
def yX0_init : MethodName := ⟨RX0, "<init>", "()V"⟩
abbrev cX0_begin : ByteArray := prog_2_method_2_code
def yX0_begin : MethodName := ⟨RX0, "begin", "(IIIII)I"⟩
abbrev cX0_perform : ByteArray := prog_2_method_3_code
def yX0_perform : MethodName := ⟨RX0, "perform", "(IIII)I"⟩
abbrev cX0_runBody : ByteArray := prog_2_method_4_code
def yX0_runBody : MethodName := ⟨RX0, "runBody", "(IIII)I"⟩
abbrev cX0_holderOf : ByteArray := prog_2_method_5_code
def yX0_holderOf : MethodName := ⟨RX0, "holderOf", "(II)I"⟩
abbrev cX0_note : ByteArray := prog_2_method_6_code
def yX0_note : MethodName := ⟨RX0, "note", "(I)V"⟩
def RX1 : String := "SeatOn$Agenda"
def TX1 : u_T := fun k => match k with
  | 0 => ("SeatOn$Agenda", "gains", "[I", true)
  | 1 => ("SeatOn$Agenda", "passes", "[I", true)
  | _ => ("SeatOn$Agenda", "mosts", "[I", true)
def tyX1 : Nat → FieldType := fun k => match k with
  | 0 => .array .int
  | 1 => .array .int
  | _ => .array .int
abbrev wsX10 : List Cond := u_ws RX1 TX1 3
theorem nmX1 : ∀ a, a < 3 → ∀ b, b < 3 → a ≠ b → (TX1 a).2.1 ≠ (TX1 b).2.1 := by decide +kernel
theorem tyX1_ok : ∀ k, k < 3 → parseFieldDescriptor (TX1 k).2.2.1 = some (tyX1 k) := by decide +kernel
abbrev cX1_init : ByteArray := prog_3_method_1_code
def yX1_init : MethodName := ⟨RX1, "<init>", "()V"⟩
abbrev cX1_put : ByteArray := prog_3_method_2_code
def yX1_put : MethodName := ⟨RX1, "put", "(IIII)V"⟩
abbrev cX1_weigh : ByteArray := prog_3_method_3_code
def yX1_weigh : MethodName := ⟨RX1, "weigh", "(I)V"⟩
abbrev cX1_mostWith : ByteArray := prog_3_method_4_code
def yX1_mostWith : MethodName := ⟨RX1, "mostWith", "(II)I"⟩
abbrev cX1_worthFrom : ByteArray := prog_3_method_5_code
def yX1_worthFrom : MethodName := ⟨RX1, "worthFrom", "(III)I"⟩
abbrev cX1_mostOf : ByteArray := prog_3_method_6_code
def yX1_mostOf : MethodName := ⟨RX1, "mostOf", "(I)I"⟩
abbrev cX1_pick : ByteArray := prog_3_method_7_code
def yX1_pick : MethodName := ⟨RX1, "pick", "(II)I"⟩
abbrev cX1_firstOf : ByteArray := prog_3_method_8_code
def yX1_firstOf : MethodName := ⟨RX1, "firstOf", "(II)I"⟩
def RX2 : String := "SeatOn$Book"
def TX2 : u_T := fun k => match k with
  | 0 => ("SeatOn$Book", "rows", "I", false)
  | _ => ("SeatOn$Book", "told", "[I", true)
def tyX2 : Nat → FieldType := fun k => match k with
  | 0 => .int
  | _ => .array .int
abbrev wsX20 : List Cond := u_ws RX2 TX2 2
theorem nmX2 : ∀ a, a < 2 → ∀ b, b < 2 → a ≠ b → (TX2 a).2.1 ≠ (TX2 b).2.1 := by decide +kernel
theorem tyX2_ok : ∀ k, k < 2 → parseFieldDescriptor (TX2 k).2.2.1 = some (tyX2 k) := by decide +kernel
abbrev cX2_init : ByteArray := prog_4_method_1_code
def yX2_init : MethodName := ⟨RX2, "<init>", "()V"⟩
abbrev cX2_becomeAs : ByteArray := prog_4_method_2_code
def yX2_becomeAs : MethodName := ⟨RX2, "becomeAs", "(LSeatOn$Book;)V"⟩
abbrev cX2_add : ByteArray := prog_4_method_3_code
def yX2_add : MethodName := ⟨RX2, "add", "(I)Z"⟩
abbrev cX2_matterOf : ByteArray := prog_4_method_4_code
def yX2_matterOf : MethodName := ⟨RX2, "matterOf", "(I)I"⟩
abbrev cX2_howOf : ByteArray := prog_4_method_5_code
def yX2_howOf : MethodName := ⟨RX2, "howOf", "(I)I"⟩
def RX3 : String := "SeatOn$House"
def TX3 : u_T := fun k => match k with
  | 0 => ("SeatOn$House", "tie", "I", false)
  | 1 => ("SeatOn$House", "clauses", "I", false)
  | 2 => ("SeatOn$House", "weights", "[I", true)
  | 3 => ("SeatOn$House", "ends", "[I", true)
  | 4 => ("SeatOn$House", "steps", "I", false)
  | _ => ("SeatOn$House", "code", "[I", true)
def tyX3 : Nat → FieldType := fun k => match k with
  | 0 => .int
  | 1 => .int
  | 2 => .array .int
  | 3 => .array .int
  | 4 => .int
  | _ => .array .int
abbrev wsX30 : List Cond := u_ws RX3 TX3 6
theorem nmX3 : ∀ a, a < 6 → ∀ b, b < 6 → a ≠ b → (TX3 a).2.1 ≠ (TX3 b).2.1 := by decide +kernel
theorem tyX3_ok : ∀ k, k < 6 → parseFieldDescriptor (TX3 k).2.2.1 = some (tyX3 k) := by decide +kernel
abbrev cX3_init : ByteArray := prog_5_method_1_code
def yX3_init : MethodName := ⟨RX3, "<init>", "()V"⟩
abbrev cX3_clear : ByteArray := prog_5_method_2_code
def yX3_clear : MethodName := ⟨RX3, "clear", "()V"⟩
abbrev cX3_addTest : ByteArray := prog_5_method_3_code
def yX3_addTest : MethodName := ⟨RX3, "addTest", "(III)V"⟩
abbrev cX3_addStep : ByteArray := prog_5_method_4_code
def yX3_addStep : MethodName := ⟨RX3, "addStep", "(I)V"⟩
abbrev cX3_endClause : ByteArray := prog_5_method_5_code
def yX3_endClause : MethodName := ⟨RX3, "endClause", "(I)V"⟩
abbrev cX3_weigh : ByteArray := prog_5_method_6_code
def yX3_weigh : MethodName := ⟨RX3, "weigh", "([I)I"⟩
abbrev cX3_joined : ByteArray := prog_5_method_7_code
def yX3_joined : MethodName := ⟨RX3, "joined", "(II)I"⟩
abbrev cX3_meets : ByteArray := prog_5_method_8_code
def yX3_meets : MethodName := ⟨RX3, "meets", "(I[I)Z"⟩
def RX4 : String := "SeatOn$Reader"
def TX4 : u_T := fun k => match k with
  | 0 => ("SeatOn$Reader", "length", "I", false)
  | 1 => ("SeatOn$Reader", "text", "[I", true)
  | _ => ("SeatOn$Reader", "place", "I", false)
def tyX4 : Nat → FieldType := fun k => match k with
  | 0 => .int
  | 1 => .array .int
  | _ => .int
abbrev wsX40 : List Cond := u_ws RX4 TX4 3
theorem nmX4 : ∀ a, a < 3 → ∀ b, b < 3 → a ≠ b → (TX4 a).2.1 ≠ (TX4 b).2.1 := by decide +kernel
theorem tyX4_ok : ∀ k, k < 3 → parseFieldDescriptor (TX4 k).2.2.1 = some (tyX4 k) := by decide +kernel
abbrev cX4_init : ByteArray := prog_6_method_1_code
def yX4_init : MethodName := ⟨RX4, "<init>", "()V"⟩
abbrev cX4_add : ByteArray := prog_6_method_2_code
def yX4_add : MethodName := ⟨RX4, "add", "(I)Z"⟩
abbrev cX4_parse : ByteArray := prog_6_method_3_code
def yX4_parse : MethodName := ⟨RX4, "parse", "(LSeatOn$House;)I"⟩
abbrev cX4_passSign : ByteArray := prog_6_method_4_code
def yX4_passSign : MethodName := ⟨RX4, "passSign", "(I)Z"⟩
abbrev cX4_passWord : ByteArray := prog_6_method_5_code
def yX4_passWord : MethodName := ⟨RX4, "passWord", "(Ljava/lang/String;)Z"⟩
abbrev cX4_passClause : ByteArray := prog_6_method_6_code
def yX4_passClause : MethodName := ⟨RX4, "passClause", "(LSeatOn$House;)Z"⟩
abbrev cX4_passKeyword : ByteArray := prog_6_method_7_code
def yX4_passKeyword : MethodName := ⟨RX4, "passKeyword", "()I"⟩
abbrev cX4_passNumber : ByteArray := prog_6_method_8_code
def yX4_passNumber : MethodName := ⟨RX4, "passNumber", "()I"⟩
abbrev cX4_passOneOf : ByteArray := prog_6_method_9_code
def yX4_passOneOf : MethodName := ⟨RX4, "passOneOf", "(Ljava/lang/String;)I"⟩
abbrev cX4_passEither : ByteArray := prog_6_method_10_code
def yX4_passEither : MethodName := ⟨RX4, "passEither", "(LSeatOn$House;I)Z"⟩
abbrev cX4_passBoth : ByteArray := prog_6_method_11_code
def yX4_passBoth : MethodName := ⟨RX4, "passBoth", "(LSeatOn$House;I)Z"⟩
abbrev cX4_passPart : ByteArray := prog_6_method_12_code
def yX4_passPart : MethodName := ⟨RX4, "passPart", "(LSeatOn$House;I)Z"⟩
abbrev cX4_passNot : ByteArray := prog_6_method_13_code
def yX4_passNot : MethodName := ⟨RX4, "passNot", "(LSeatOn$House;I)Z"⟩
abbrev cX4_passTest : ByteArray := prog_6_method_14_code
def yX4_passTest : MethodName := ⟨RX4, "passTest", "(LSeatOn$House;)Z"⟩
def RX5 : String := "SeatOn$Seen"
def TX5 : u_T := fun k => match k with
  | 0 => ("SeatOn$Seen", "rows", "I", false)
  | 1 => ("SeatOn$Seen", "people", "[I", true)
  | _ => ("SeatOn$Seen", "places", "[I", true)
def tyX5 : Nat → FieldType := fun k => match k with
  | 0 => .int
  | 1 => .array .int
  | _ => .array .int
abbrev wsX50 : List Cond := u_ws RX5 TX5 3
theorem nmX5 : ∀ a, a < 3 → ∀ b, b < 3 → a ≠ b → (TX5 a).2.1 ≠ (TX5 b).2.1 := by decide +kernel
theorem tyX5_ok : ∀ k, k < 3 → parseFieldDescriptor (TX5 k).2.2.1 = some (tyX5 k) := by decide +kernel
abbrev cX5_init : ByteArray := prog_7_method_1_code
def yX5_init : MethodName := ⟨RX5, "<init>", "()V"⟩
abbrev cX5_becomeAs : ByteArray := prog_7_method_2_code
def yX5_becomeAs : MethodName := ⟨RX5, "becomeAs", "(LSeatOn$Seen;)V"⟩
abbrev cX5_add : ByteArray := prog_7_method_3_code
def yX5_add : MethodName := ⟨RX5, "add", "(II)Z"⟩
abbrev cX5_turns : ByteArray := prog_7_method_4_code
def yX5_turns : MethodName := ⟨RX5, "turns", "(I)I"⟩
abbrev cX5_firstTurn : ByteArray := prog_7_method_5_code
def yX5_firstTurn : MethodName := ⟨RX5, "firstTurn", "(II)I"⟩
abbrev cX5_falseRow : ByteArray := prog_7_method_6_code
def yX5_falseRow : MethodName := ⟨RX5, "falseRow", "(I)I"⟩
abbrev cX5_fits : ByteArray := prog_7_method_7_code
def yX5_fits : MethodName := ⟨RX5, "fits", "(III)Z"⟩
def RX6 : String := "SeatOn$Tapes"
def TX6 : u_T := fun k => match k with
  | 0 => ("SeatOn$Tapes", "sorts", "[I", true)
  | 1 => ("SeatOn$Tapes", "lengths", "[I", true)
  | _ => ("SeatOn$Tapes", "items", "[J", true)
def tyX6 : Nat → FieldType := fun k => match k with
  | 0 => .array .int
  | 1 => .array .int
  | _ => .array .long
abbrev wsX60 : List Cond := u_ws RX6 TX6 3
theorem nmX6 : ∀ a, a < 3 → ∀ b, b < 3 → a ≠ b → (TX6 a).2.1 ≠ (TX6 b).2.1 := by decide +kernel
theorem tyX6_ok : ∀ k, k < 3 → parseFieldDescriptor (TX6 k).2.2.1 = some (tyX6 k) := by decide +kernel
abbrev cX6_init : ByteArray := prog_8_method_1_code
def yX6_init : MethodName := ⟨RX6, "<init>", "()V"⟩
abbrev cX6_isTape : ByteArray := prog_8_method_2_code
def yX6_isTape : MethodName := ⟨RX6, "isTape", "(I)Z"⟩
abbrev cX6_holds : ByteArray := prog_8_method_3_code
def yX6_holds : MethodName := ⟨RX6, "holds", "(I)Z"⟩
abbrev cX6_hasPlace : ByteArray := prog_8_method_4_code
def yX6_hasPlace : MethodName := ⟨RX6, "hasPlace", "(IJ)Z"⟩
abbrev cX6_hasPlaces : ByteArray := prog_8_method_5_code
def yX6_hasPlaces : MethodName := ⟨RX6, "hasPlaces", "(III)Z"⟩
abbrev cX6_empty : ByteArray := prog_8_method_6_code
def yX6_empty : MethodName := ⟨RX6, "empty", "(I)V"⟩
abbrev cX6_lay : ByteArray := prog_8_method_7_code
def yX6_lay : MethodName := ⟨RX6, "lay", "(III)V"⟩
abbrev cX6_get : ByteArray := prog_8_method_8_code
def yX6_get : MethodName := ⟨RX6, "get", "(II)J"⟩
abbrev cX6_set : ByteArray := prog_8_method_9_code
def yX6_set : MethodName := ⟨RX6, "set", "(IIJ)V"⟩
abbrev cX6_move : ByteArray := prog_8_method_10_code
def yX6_move : MethodName := ⟨RX6, "move", "(IIIII)V"⟩
abbrev cX6_cut : ByteArray := prog_8_method_11_code
def yX6_cut : MethodName := ⟨RX6, "cut", "(IJ)J"⟩
def RX7 : String := "SeatOn$Wheel"
def TX7 : u_T := fun k => match k with
  | 0 => ("SeatOn$Wheel", "seats", "I", false)
  | 1 => ("SeatOn$Wheel", "votes", "[I", true)
  | 2 => ("SeatOn$Wheel", "vetoes", "[I", true)
  | 3 => ("SeatOn$Wheel", "breakers", "[I", true)
  | 4 => ("SeatOn$Wheel", "people", "I", false)
  | 5 => ("SeatOn$Wheel", "kinds", "[I", true)
  | 6 => ("SeatOn$Wheel", "numbers", "[I", true)
  | 7 => ("SeatOn$Wheel", "matters", "I", false)
  | 8 => ("SeatOn$Wheel", "asks", "[I", true)
  | 9 => ("SeatOn$Wheel", "worths", "[I", true)
  | 10 => ("SeatOn$Wheel", "bys", "[I", true)
  | 11 => ("SeatOn$Wheel", "carried", "[I", true)
  | 12 => ("SeatOn$Wheel", "turn", "I", false)
  | 13 => ("SeatOn$Wheel", "holding", "LSeatOn$House;", false)
  | 14 => ("SeatOn$Wheel", "said", "[I", true)
  | _ => ("SeatOn$Wheel", "facts", "[I", true)
def tyX7 : Nat → FieldType := fun k => match k with
  | 0 => .int
  | 1 => .array .int
  | 2 => .array .int
  | 3 => .array .int
  | 4 => .int
  | 5 => .array .int
  | 6 => .array .int
  | 7 => .int
  | 8 => .array .int
  | 9 => .array .int
  | 10 => .array .int
  | 11 => .array .int
  | 12 => .int
  | 13 => .object "SeatOn$House"
  | 14 => .array .int
  | _ => .array .int
abbrev wsX70 : List Cond := u_ws RX7 TX7 16
theorem nmX7 : ∀ a, a < 16 → ∀ b, b < 16 → a ≠ b → (TX7 a).2.1 ≠ (TX7 b).2.1 := by decide +kernel
theorem tyX7_ok : ∀ k, k < 16 → parseFieldDescriptor (TX7 k).2.2.1 = some (tyX7 k) := by decide +kernel
abbrev cX7_init : ByteArray := prog_9_method_1_code
def yX7_init : MethodName := ⟨RX7, "<init>", "()V"⟩
abbrev cX7_becomeAs : ByteArray := prog_9_method_2_code
def yX7_becomeAs : MethodName := ⟨RX7, "becomeAs", "(LSeatOn$Wheel;)V"⟩
abbrev cX7_rowOfSeats : ByteArray := prog_9_method_3_code
def yX7_rowOfSeats : MethodName := ⟨RX7, "rowOfSeats", "(I)[I"⟩
abbrev cX7_seatOf : ByteArray := prog_9_method_4_code
def yX7_seatOf : MethodName := ⟨RX7, "seatOf", "(I)I"⟩
abbrev cX7_sitter : ByteArray := prog_9_method_5_code
def yX7_sitter : MethodName := ⟨RX7, "sitter", "(I)I"⟩
abbrev cX7_tie : ByteArray := prog_9_method_6_code
def yX7_tie : MethodName := ⟨RX7, "tie", "()I"⟩
abbrev cX7_liking : ByteArray := prog_9_method_7_code
def yX7_liking : MethodName := ⟨RX7, "liking", "(II)I"⟩
abbrev cX7_answer : ByteArray := prog_9_method_8_code
def yX7_answer : MethodName := ⟨RX7, "answer", "(II)I"⟩
abbrev cX7_answerOfKind : ByteArray := prog_9_method_9_code
def yX7_answerOfKind : MethodName := ⟨RX7, "answerOfKind", "(II)I"⟩
abbrev cX7_heardBy : ByteArray := prog_9_method_10_code
def yX7_heardBy : MethodName := ⟨RX7, "heardBy", "(II)I"⟩
abbrev cX7_signOf : ByteArray := prog_9_method_11_code
def yX7_signOf : MethodName := ⟨RX7, "signOf", "(I)I"⟩
abbrev cX7_hear : ByteArray := prog_9_method_12_code
def yX7_hear : MethodName := ⟨RX7, "hear", "(I)V"⟩
abbrev cX7_silent : ByteArray := prog_9_method_13_code
def yX7_silent : MethodName := ⟨RX7, "silent", "()I"⟩
abbrev cX7_breakSilence : ByteArray := prog_9_method_14_code
def yX7_breakSilence : MethodName := ⟨RX7, "breakSilence", "(II)V"⟩
abbrev cX7_votesOfWhoSay : ByteArray := prog_9_method_15_code
def yX7_votesOfWhoSay : MethodName := ⟨RX7, "votesOfWhoSay", "(I)I"⟩
abbrev cX7_goes : ByteArray := prog_9_method_16_code
def yX7_goes : MethodName := ⟨RX7, "goes", "(I)I"⟩
abbrev cX7_isVetoed : ByteArray := prog_9_method_17_code
def yX7_isVetoed : MethodName := ⟨RX7, "isVetoed", "()Z"⟩
abbrev cX7_goesByTie : ByteArray := prog_9_method_18_code
def yX7_goesByTie : MethodName := ⟨RX7, "goesByTie", "()I"⟩
abbrev cX7_decide : ByteArray := prog_9_method_19_code
def yX7_decide : MethodName := ⟨RX7, "decide", "(I)I"⟩
abbrev cX7_resign : ByteArray := prog_9_method_20_code
def yX7_resign : MethodName := ⟨RX7, "resign", "(I)V"⟩
def RX8 : String := "SeatOn"
def TX8 : u_T := fun k => match k with
  | 0 => ("SeatOn", "now", "LSeatOn$Wheel;", true)
  | 1 => ("SeatOn", "kept", "LSeatOn$Wheel;", true)
  | 2 => ("SeatOn", "asked", "LSeatOn$Wheel;", true)
  | 3 => ("SeatOn", "seen", "LSeatOn$Seen;", true)
  | 4 => ("SeatOn", "keptSeen", "LSeatOn$Seen;", true)
  | 5 => ("SeatOn", "notes", "LSeatOn$Book;", true)
  | 6 => ("SeatOn", "keptNotes", "LSeatOn$Book;", true)
  | 7 => ("SeatOn", "reader", "LSeatOn$Reader;", true)
  | 8 => ("SeatOn", "agenda", "LSeatOn$Agenda;", true)
  | 9 => ("SeatOn", "acts", "LSeatOn$Acts;", true)
  | 10 => ("SeatOn", "tapes", "LSeatOn$Tapes;", true)
  | 11 => ("SeatOn", "spare", "LSeatOn$House;", false)
  | 12 => ("SeatOn", "houses", "I", false)
  | _ => ("SeatOn", "hasImage", "Z", false)
def tyX8 : Nat → FieldType := fun k => match k with
  | 0 => .object "SeatOn$Wheel"
  | 1 => .object "SeatOn$Wheel"
  | 2 => .object "SeatOn$Wheel"
  | 3 => .object "SeatOn$Seen"
  | 4 => .object "SeatOn$Seen"
  | 5 => .object "SeatOn$Book"
  | 6 => .object "SeatOn$Book"
  | 7 => .object "SeatOn$Reader"
  | 8 => .object "SeatOn$Agenda"
  | 9 => .object "SeatOn$Acts"
  | 10 => .object "SeatOn$Tapes"
  | 11 => .object "SeatOn$House"
  | 12 => .int
  | _ => .boolean
abbrev wsX80 : List Cond := u_ws RX8 TX8 14
theorem nmX8 : ∀ a, a < 14 → ∀ b, b < 14 → a ≠ b → (TX8 a).2.1 ≠ (TX8 b).2.1 := by decide +kernel
theorem tyX8_ok : ∀ k, k < 14 → parseFieldDescriptor (TX8 k).2.2.1 = some (tyX8 k) := by decide +kernel
abbrev cX8_init : ByteArray := prog_1_method_1_code
def yX8_init : MethodName := ⟨RX8, "<init>", "()V"⟩
abbrev cX8_seats : ByteArray := prog_1_method_2_code
def yX8_seats : MethodName := ⟨RX8, "seats", "(I)I"⟩
abbrev cX8_seat : ByteArray := prog_1_method_3_code
def yX8_seat : MethodName := ⟨RX8, "seat", "(III)I"⟩
abbrev cX8_person : ByteArray := prog_1_method_4_code
def yX8_person : MethodName := ⟨RX8, "person", "(II)I"⟩
abbrev cX8_of : ByteArray := prog_1_method_5_code
def yX8_of : MethodName := ⟨RX8, "of", "(II)I"⟩
abbrev cX8_who : ByteArray := prog_1_method_6_code
def yX8_who : MethodName := ⟨RX8, "who", "(I)I"⟩
abbrev cX8_matter : ByteArray := prog_1_method_7_code
def yX8_matter : MethodName := ⟨RX8, "matter", "(III)I"⟩
abbrev cX8_at : ByteArray := prog_1_method_8_code
def yX8_at : MethodName := ⟨RX8, "at", "(II)I"⟩
abbrev cX8_feed : ByteArray := prog_1_method_9_code
def yX8_feed : MethodName := ⟨RX8, "feed", "(I)I"⟩
abbrev cX8_house : ByteArray := prog_1_method_10_code
def yX8_house : MethodName := ⟨RX8, "house", "()I"⟩
abbrev cX8_told : ByteArray := prog_1_method_11_code
def yX8_told : MethodName := ⟨RX8, "told", "(I)I"⟩
abbrev cX8_toldOfSeat : ByteArray := prog_1_method_12_code
def yX8_toldOfSeat : MethodName := ⟨RX8, "toldOfSeat", "(II)I"⟩
abbrev cX8_like : ByteArray := prog_1_method_13_code
def yX8_like : MethodName := ⟨RX8, "like", "(II)I"⟩
abbrev cX8_says : ByteArray := prog_1_method_14_code
def yX8_says : MethodName := ⟨RX8, "says", "(II)I"⟩
abbrev cX8_vote : ByteArray := prog_1_method_15_code
def yX8_vote : MethodName := ⟨RX8, "vote", "(I)I"⟩
abbrev cX8_idle : ByteArray := prog_1_method_16_code
def yX8_idle : MethodName := ⟨RX8, "idle", "(I)I"⟩
abbrev cX8_would : ByteArray := prog_1_method_17_code
def yX8_would : MethodName := ⟨RX8, "would", "(II)I"⟩
abbrev cX8_soon : ByteArray := prog_1_method_18_code
def yX8_soon : MethodName := ⟨RX8, "soon", "(I)I"⟩
abbrev cX8_order : ByteArray := prog_1_method_19_code
def yX8_order : MethodName := ⟨RX8, "order", "(II)I"⟩
abbrev cX8_areOpen : ByteArray := prog_1_method_20_code
def yX8_areOpen : MethodName := ⟨RX8, "areOpen", "(I)Z"⟩
abbrev cX8_lookAhead : ByteArray := prog_1_method_21_code
def yX8_lookAhead : MethodName := ⟨RX8, "lookAhead", "(I)V"⟩
abbrev cX8_hold : ByteArray := prog_1_method_22_code
def yX8_hold : MethodName := ⟨RX8, "hold", "(II)I"⟩
abbrev cX8_decides : ByteArray := prog_1_method_23_code
def yX8_decides : MethodName := ⟨RX8, "decides", "(II)I"⟩
abbrev cX8_power : ByteArray := prog_1_method_24_code
def yX8_power : MethodName := ⟨RX8, "power", "(II)J"⟩
abbrev cX8_leadOfOthers : ByteArray := prog_1_method_25_code
def yX8_leadOfOthers : MethodName := ⟨RX8, "leadOfOthers", "(II)I"⟩
abbrev cX8_meet : ByteArray := prog_1_method_26_code
def yX8_meet : MethodName := ⟨RX8, "meet", "(IIII)I"⟩
abbrev cX8_wheels : ByteArray := prog_1_method_27_code
def yX8_wheels : MethodName := ⟨RX8, "wheels", "(IIII)I"⟩
abbrev cX8_up : ByteArray := prog_1_method_28_code
def yX8_up : MethodName := ⟨RX8, "up", "(II)I"⟩
abbrev cX8_bestSeat : ByteArray := prog_1_method_29_code
def yX8_bestSeat : MethodName := ⟨RX8, "bestSeat", "(I)I"⟩
abbrev cX8_leadWithMore : ByteArray := prog_1_method_30_code
def yX8_leadWithMore : MethodName := ⟨RX8, "leadWithMore", "(II)I"⟩
abbrev cX8_see : ByteArray := prog_1_method_31_code
def yX8_see : MethodName := ⟨RX8, "see", "(II)I"⟩
abbrev cX8_stood : ByteArray := prog_1_method_32_code
def yX8_stood : MethodName := ⟨RX8, "stood", "(I)I"⟩
abbrev cX8_odds : ByteArray := prog_1_method_33_code
def yX8_odds : MethodName := ⟨RX8, "odds", "(II)J"⟩
abbrev cX8_mean : ByteArray := prog_1_method_34_code
def yX8_mean : MethodName := ⟨RX8, "mean", "(II)J"⟩
abbrev cX8_book : ByteArray := prog_1_method_35_code
def yX8_book : MethodName := ⟨RX8, "book", "(I)I"⟩
abbrev cX8_looked : ByteArray := prog_1_method_36_code
def yX8_looked : MethodName := ⟨RX8, "looked", "()I"⟩
abbrev cX8_judge : ByteArray := prog_1_method_37_code
def yX8_judge : MethodName := ⟨RX8, "judge", "(II)I"⟩
abbrev cX8_image : ByteArray := prog_1_method_38_code
def yX8_image : MethodName := ⟨RX8, "image", "()I"⟩
abbrev cX8_undo : ByteArray := prog_1_method_39_code
def yX8_undo : MethodName := ⟨RX8, "undo", "()I"⟩
abbrev cX8_act : ByteArray := prog_1_method_40_code
def yX8_act : MethodName := ⟨RX8, "act", "(III)I"⟩
abbrev cX8_trace : ByteArray := prog_1_method_41_code
def yX8_trace : MethodName := ⟨RX8, "trace", "(I)I"⟩
abbrev cX8_taken : ByteArray := prog_1_method_42_code
def yX8_taken : MethodName := ⟨RX8, "taken", "(II)I"⟩
abbrev cX8_isUnder : ByteArray := prog_1_method_43_code
def yX8_isUnder : MethodName := ⟨RX8, "isUnder", "(II)Z"⟩
abbrev cX8_count : ByteArray := prog_1_method_44_code
def yX8_count : MethodName := ⟨RX8, "count", "(I)I"⟩
abbrev cX8_tape : ByteArray := prog_1_method_45_code
def yX8_tape : MethodName := ⟨RX8, "tape", "(III)I"⟩
abbrev cX8_item : ByteArray := prog_1_method_46_code
def yX8_item : MethodName := ⟨RX8, "item", "(IIJ)I"⟩
abbrev cX8_read : ByteArray := prog_1_method_47_code
def yX8_read : MethodName := ⟨RX8, "read", "(II)J"⟩
abbrev cX8_shift : ByteArray := prog_1_method_48_code
def yX8_shift : MethodName := ⟨RX8, "shift", "(IIIII)I"⟩
abbrev cX8_isSeat : ByteArray := prog_1_method_49_code
def yX8_isSeat : MethodName := ⟨RX8, "isSeat", "(I)Z"⟩
abbrev cX8_isPerson : ByteArray := prog_1_method_50_code
def yX8_isPerson : MethodName := ⟨RX8, "isPerson", "(I)Z"⟩
abbrev cX8_isMatter : ByteArray := prog_1_method_51_code
def yX8_isMatter : MethodName := ⟨RX8, "isMatter", "(I)Z"⟩
abbrev cX8_isPart : ByteArray := prog_1_method_52_code
def yX8_isPart : MethodName := ⟨RX8, "isPart", "(I)Z"⟩
abbrev cX8_ask : ByteArray := prog_1_method_53_code
def yX8_ask : MethodName := ⟨RX8, "ask", "()V"⟩
abbrev cX8_goesBehind : ByteArray := prog_1_method_54_code
def yX8_goesBehind : MethodName := ⟨RX8, "goesBehind", "(II)I"⟩
abbrev cX8_inLowestTerms : ByteArray := prog_1_method_55_code
def yX8_inLowestTerms : MethodName := ⟨RX8, "inLowestTerms", "(III)J"⟩
abbrev cX8_greatestDivisor : ByteArray := prog_1_method_56_code
def yX8_greatestDivisor : MethodName := ⟨RX8, "greatestDivisor", "(II)I"⟩
def RX9 : String := "SeatOnModel"
def TX9 : u_T := fun k => match k with
  | 0 => ("SeatOnModel", "size", "I", false)
  | 1 => ("SeatOnModel", "people", "I", false)
  | 2 => ("SeatOnModel", "matters", "I", false)
  | 3 => ("SeatOnModel", "turn", "I", false)
  | 4 => ("SeatOnModel", "votes", "[I", true)
  | 5 => ("SeatOnModel", "veto", "[I", true)
  | 6 => ("SeatOnModel", "breaks", "[I", true)
  | 7 => ("SeatOnModel", "kind", "[I", true)
  | 8 => ("SeatOnModel", "v", "[I", true)
  | 9 => ("SeatOnModel", "asks", "[I", true)
  | 10 => ("SeatOnModel", "worth", "[I", true)
  | 11 => ("SeatOnModel", "by", "[I", true)
  | 12 => ("SeatOnModel", "carried", "[Z", true)
  | 13 => ("SeatOnModel", "houses", "I", false)
  | 14 => ("SeatOnModel", "the", "I", false)
  | 15 => ("SeatOnModel", "fed", "I", false)
  | 16 => ("SeatOnModel", "at", "I", false)
  | 17 => ("SeatOnModel", "digits", "I", false)
  | 18 => ("SeatOnModel", "text", "[I", true)
  | 19 => ("SeatOnModel", "clauses", "[I", true)
  | 20 => ("SeatOnModel", "word", "[I", true)
  | 21 => ("SeatOnModel", "number", "[I", true)
  | 22 => ("SeatOnModel", "from", "[I", true)
  | 23 => ("SeatOnModel", "to", "[I", true)
  | 24 => ("SeatOnModel", "sign", "[I", true)
  | 25 => ("SeatOnModel", "waits", "[I", true)
  | 26 => ("SeatOnModel", "signs", "I", false)
  | 27 => ("SeatOnModel", "waiting", "I", false)
  | 28 => ("SeatOnModel", "open", "I", false)
  | 29 => ("SeatOnModel", "letters", "[I", true)
  | 30 => ("SeatOnModel", "pile", "[Z", true)
  | 31 => ("SeatOnModel", "said", "[I", true)
  | 32 => ("SeatOnModel", "order", "[I", true)
  | 33 => ("SeatOnModel", "bestOrder", "[I", true)
  | 34 => ("SeatOnModel", "keptKind", "[I", true)
  | 35 => ("SeatOnModel", "keptV", "[I", true)
  | 36 => ("SeatOnModel", "keptBy", "[I", true)
  | 37 => ("SeatOnModel", "seen", "I", false)
  | 38 => ("SeatOnModel", "seenWho", "[I", true)
  | 39 => ("SeatOnModel", "seenSeat", "[I", true)
  | 40 => ("SeatOnModel", "mute", "[I", true)
  | 41 => ("SeatOnModel", "books", "I", false)
  | 42 => ("SeatOnModel", "book", "[I", true)
  | 43 => ("SeatOnModel", "keptCarried", "[Z", true)
  | 44 => ("SeatOnModel", "hasImage", "Z", false)
  | 45 => ("SeatOnModel", "imageThe", "I", false)
  | 46 => ("SeatOnModel", "imageSize", "I", false)
  | 47 => ("SeatOnModel", "imagePeople", "I", false)
  | 48 => ("SeatOnModel", "imageMatters", "I", false)
  | 49 => ("SeatOnModel", "imageTurn", "I", false)
  | 50 => ("SeatOnModel", "imageSeen", "I", false)
  | 51 => ("SeatOnModel", "imageBooks", "I", false)
  | 52 => ("SeatOnModel", "imageVotes", "[I", true)
  | 53 => ("SeatOnModel", "imageVeto", "[I", true)
  | 54 => ("SeatOnModel", "imageBreaks", "[I", true)
  | 55 => ("SeatOnModel", "imageKind", "[I", true)
  | 56 => ("SeatOnModel", "imageV", "[I", true)
  | 57 => ("SeatOnModel", "imageAsks", "[I", true)
  | 58 => ("SeatOnModel", "imageWorth", "[I", true)
  | 59 => ("SeatOnModel", "imageBy", "[I", true)
  | 60 => ("SeatOnModel", "imageWho", "[I", true)
  | 61 => ("SeatOnModel", "imageSeat", "[I", true)
  | 62 => ("SeatOnModel", "imageBook", "[I", true)
  | 63 => ("SeatOnModel", "imageCarried", "[Z", true)
  | 64 => ("SeatOnModel", "ran", "I", false)
  | 65 => ("SeatOnModel", "bodies", "[I", true)
  | 66 => ("SeatOnModel", "sort", "[I", true)
  | 67 => ("SeatOnModel", "length", "[I", true)
  | 68 => ("SeatOnModel", "item", "[J", true)
  | _ => ("SeatOnModel", "aside", "[J", true)
def tyX9 : Nat → FieldType := fun k => match k with
  | 0 => .int
  | 1 => .int
  | 2 => .int
  | 3 => .int
  | 4 => .array .int
  | 5 => .array .int
  | 6 => .array .int
  | 7 => .array .int
  | 8 => .array .int
  | 9 => .array .int
  | 10 => .array .int
  | 11 => .array .int
  | 12 => .array .boolean
  | 13 => .int
  | 14 => .int
  | 15 => .int
  | 16 => .int
  | 17 => .int
  | 18 => .array .int
  | 19 => .array .int
  | 20 => .array .int
  | 21 => .array .int
  | 22 => .array .int
  | 23 => .array .int
  | 24 => .array .int
  | 25 => .array .int
  | 26 => .int
  | 27 => .int
  | 28 => .int
  | 29 => .array .int
  | 30 => .array .boolean
  | 31 => .array .int
  | 32 => .array .int
  | 33 => .array .int
  | 34 => .array .int
  | 35 => .array .int
  | 36 => .array .int
  | 37 => .int
  | 38 => .array .int
  | 39 => .array .int
  | 40 => .array .int
  | 41 => .int
  | 42 => .array .int
  | 43 => .array .boolean
  | 44 => .boolean
  | 45 => .int
  | 46 => .int
  | 47 => .int
  | 48 => .int
  | 49 => .int
  | 50 => .int
  | 51 => .int
  | 52 => .array .int
  | 53 => .array .int
  | 54 => .array .int
  | 55 => .array .int
  | 56 => .array .int
  | 57 => .array .int
  | 58 => .array .int
  | 59 => .array .int
  | 60 => .array .int
  | 61 => .array .int
  | 62 => .array .int
  | 63 => .array .boolean
  | 64 => .int
  | 65 => .array .int
  | 66 => .array .int
  | 67 => .array .int
  | 68 => .array .long
  | _ => .array .long
abbrev wsX90 : List Cond := u_ws RX9 TX9 70
theorem nmX9 : ∀ a, a < 70 → ∀ b, b < 70 → a ≠ b → (TX9 a).2.1 ≠ (TX9 b).2.1 := by decide +kernel
theorem tyX9_ok : ∀ k, k < 70 → parseFieldDescriptor (TX9 k).2.2.1 = some (tyX9 k) := by decide +kernel
abbrev cX9_init : ByteArray := prog_11_method_1_code
def yX9_init : MethodName := ⟨RX9, "<init>", "()V"⟩
abbrev cX9_in : ByteArray := prog_11_method_2_code
def yX9_in : MethodName := ⟨RX9, "in", "(III)Z"⟩
abbrev cX9_has : ByteArray := prog_11_method_3_code
def yX9_has : MethodName := ⟨RX9, "has", "(II)Z"⟩
abbrev cX9_isSeat : ByteArray := prog_11_method_4_code
def yX9_isSeat : MethodName := ⟨RX9, "isSeat", "(I)Z"⟩
abbrev cX9_isPerson : ByteArray := prog_11_method_5_code
def yX9_isPerson : MethodName := ⟨RX9, "isPerson", "(I)Z"⟩
abbrev cX9_isMatter : ByteArray := prog_11_method_6_code
def yX9_isMatter : MethodName := ⟨RX9, "isMatter", "(I)Z"⟩
abbrev cX9_seatOf : ByteArray := prog_11_method_7_code
def yX9_seatOf : MethodName := ⟨RX9, "seatOf", "(I)I"⟩
abbrev cX9_whoIn : ByteArray := prog_11_method_8_code
def yX9_whoIn : MethodName := ⟨RX9, "whoIn", "(I)I"⟩
abbrev cX9_seats : ByteArray := prog_11_method_9_code
def yX9_seats : MethodName := ⟨RX9, "seats", "(I)I"⟩
abbrev cX9_seat : ByteArray := prog_11_method_10_code
def yX9_seat : MethodName := ⟨RX9, "seat", "(III)I"⟩
abbrev cX9_person : ByteArray := prog_11_method_11_code
def yX9_person : MethodName := ⟨RX9, "person", "(II)I"⟩
abbrev cX9_of : ByteArray := prog_11_method_12_code
def yX9_of : MethodName := ⟨RX9, "of", "(II)I"⟩
abbrev cX9_who : ByteArray := prog_11_method_13_code
def yX9_who : MethodName := ⟨RX9, "who", "(I)I"⟩
abbrev cX9_matter : ByteArray := prog_11_method_14_code
def yX9_matter : MethodName := ⟨RX9, "matter", "(III)I"⟩
abbrev cX9_at : ByteArray := prog_11_method_15_code
def yX9_at : MethodName := ⟨RX9, "at", "(II)I"⟩
abbrev cX9_feed : ByteArray := prog_11_method_16_code
def yX9_feed : MethodName := ⟨RX9, "feed", "(I)I"⟩
abbrev cX9_next : ByteArray := prog_11_method_17_code
def yX9_next : MethodName := ⟨RX9, "next", "()I"⟩
abbrev cX9_second : ByteArray := prog_11_method_18_code
def yX9_second : MethodName := ⟨RX9, "second", "()I"⟩
abbrev cX9_takes : ByteArray := prog_11_method_19_code
def yX9_takes : MethodName := ⟨RX9, "takes", "(I)Z"⟩
abbrev cX9_takesWord : ByteArray := prog_11_method_20_code
def yX9_takesWord : MethodName := ⟨RX9, "takesWord", "(II)Z"⟩
abbrev cX9_isDigit : ByteArray := prog_11_method_21_code
def yX9_isDigit : MethodName := ⟨RX9, "isDigit", "()Z"⟩
abbrev cX9_takesNumber : ByteArray := prog_11_method_22_code
def yX9_takesNumber : MethodName := ⟨RX9, "takesNumber", "()Z"⟩
abbrev cX9_put : ByteArray := prog_11_method_23_code
def yX9_put : MethodName := ⟨RX9, "put", "(I)V"⟩
abbrev cX9_whole : ByteArray := prog_11_method_24_code
def yX9_whole : MethodName := ⟨RX9, "whole", "()V"⟩
abbrev cX9_settle : ByteArray := prog_11_method_25_code
def yX9_settle : MethodName := ⟨RX9, "settle", "(I)V"⟩
abbrev cX9_place : ByteArray := prog_11_method_26_code
def yX9_place : MethodName := ⟨RX9, "place", "(I)I"⟩
abbrev cX9_takesTest : ByteArray := prog_11_method_27_code
def yX9_takesTest : MethodName := ⟨RX9, "takesTest", "()Z"⟩
abbrev cX9_takesE : ByteArray := prog_11_method_28_code
def yX9_takesE : MethodName := ⟨RX9, "takesE", "(I)Z"⟩
abbrev cX9_takesHead : ByteArray := prog_11_method_29_code
def yX9_takesHead : MethodName := ⟨RX9, "takesHead", "(I)Z"⟩
abbrev cX9_takesClause : ByteArray := prog_11_method_30_code
def yX9_takesClause : MethodName := ⟨RX9, "takesClause", "(I)Z"⟩
abbrev cX9_goesText : ByteArray := prog_11_method_31_code
def yX9_goesText : MethodName := ⟨RX9, "goesText", "(I)Z"⟩
abbrev cX9_house : ByteArray := prog_11_method_32_code
def yX9_house : MethodName := ⟨RX9, "house", "()I"⟩
abbrev cX9_begin : ByteArray := prog_11_method_33_code
def yX9_begin : MethodName := ⟨RX9, "begin", "()I"⟩
abbrev cX9_behind : ByteArray := prog_11_method_34_code
def yX9_behind : MethodName := ⟨RX9, "behind", "()I"⟩
abbrev cX9_tieNow : ByteArray := prog_11_method_35_code
def yX9_tieNow : MethodName := ⟨RX9, "tieNow", "()I"⟩
abbrev cX9_factOf : ByteArray := prog_11_method_36_code
def yX9_factOf : MethodName := ⟨RX9, "factOf", "(III)I"⟩
abbrev cX9_holds : ByteArray := prog_11_method_37_code
def yX9_holds : MethodName := ⟨RX9, "holds", "(III)Z"⟩
abbrev cX9_likeOf : ByteArray := prog_11_method_38_code
def yX9_likeOf : MethodName := ⟨RX9, "likeOf", "(II)I"⟩
abbrev cX9_told : ByteArray := prog_11_method_39_code
def yX9_told : MethodName := ⟨RX9, "told", "(I)I"⟩
abbrev cX9_plain : ByteArray := prog_11_method_40_code
def yX9_plain : MethodName := ⟨RX9, "plain", "(II)I"⟩
abbrev cX9_idly : ByteArray := prog_11_method_41_code
def yX9_idly : MethodName := ⟨RX9, "idly", "(II)I"⟩
abbrev cX9_sided : ByteArray := prog_11_method_42_code
def yX9_sided : MethodName := ⟨RX9, "sided", "(II)I"⟩
abbrev cX9_away : ByteArray := prog_11_method_43_code
def yX9_away : MethodName := ⟨RX9, "away", "(II)I"⟩
abbrev cX9_saysOf : ByteArray := prog_11_method_44_code
def yX9_saysOf : MethodName := ⟨RX9, "saysOf", "(II)I"⟩
abbrev cX9_like : ByteArray := prog_11_method_45_code
def yX9_like : MethodName := ⟨RX9, "like", "(II)I"⟩
abbrev cX9_says : ByteArray := prog_11_method_46_code
def yX9_says : MethodName := ⟨RX9, "says", "(II)I"⟩
abbrev cX9_laySaid : ByteArray := prog_11_method_47_code
def yX9_laySaid : MethodName := ⟨RX9, "laySaid", "(I)V"⟩
abbrev cX9_votesOf : ByteArray := prog_11_method_48_code
def yX9_votesOf : MethodName := ⟨RX9, "votesOf", "(I)I"⟩
abbrev cX9_goesBy : ByteArray := prog_11_method_49_code
def yX9_goesBy : MethodName := ⟨RX9, "goesBy", "(I)I"⟩
abbrev cX9_goes : ByteArray := prog_11_method_50_code
def yX9_goes : MethodName := ⟨RX9, "goes", "(I)I"⟩
abbrev cX9_vote : ByteArray := prog_11_method_51_code
def yX9_vote : MethodName := ⟨RX9, "vote", "(I)I"⟩
abbrev cX9_idle : ByteArray := prog_11_method_52_code
def yX9_idle : MethodName := ⟨RX9, "idle", "(I)I"⟩
abbrev cX9_wouldBy : ByteArray := prog_11_method_53_code
def yX9_wouldBy : MethodName := ⟨RX9, "wouldBy", "(II)I"⟩
abbrev cX9_would : ByteArray := prog_11_method_54_code
def yX9_would : MethodName := ⟨RX9, "would", "(II)I"⟩
abbrev cX9_soon : ByteArray := prog_11_method_55_code
def yX9_soon : MethodName := ⟨RX9, "soon", "(I)I"⟩
abbrev cX9_ones : ByteArray := prog_11_method_56_code
def yX9_ones : MethodName := ⟨RX9, "ones", "(I)I"⟩
abbrev cX9_layOrder : ByteArray := prog_11_method_57_code
def yX9_layOrder : MethodName := ⟨RX9, "layOrder", "(II)Z"⟩
abbrev cX9_worthOfOrder : ByteArray := prog_11_method_58_code
def yX9_worthOfOrder : MethodName := ⟨RX9, "worthOfOrder", "(I)I"⟩
abbrev cX9_order : ByteArray := prog_11_method_59_code
def yX9_order : MethodName := ⟨RX9, "order", "(II)I"⟩
abbrev cX9_goesIf : ByteArray := prog_11_method_60_code
def yX9_goesIf : MethodName := ⟨RX9, "goesIf", "(III)I"⟩
abbrev cX9_hold : ByteArray := prog_11_method_61_code
def yX9_hold : MethodName := ⟨RX9, "hold", "(II)I"⟩
abbrev cX9_decides : ByteArray := prog_11_method_62_code
def yX9_decides : MethodName := ⟨RX9, "decides", "(II)I"⟩
abbrev cX9_divisor : ByteArray := prog_11_method_63_code
def yX9_divisor : MethodName := ⟨RX9, "divisor", "(JJ)J"⟩
abbrev cX9_lowest : ByteArray := prog_11_method_64_code
def yX9_lowest : MethodName := ⟨RX9, "lowest", "(JJI)J"⟩
abbrev cX9_power : ByteArray := prog_11_method_65_code
def yX9_power : MethodName := ⟨RX9, "power", "(II)J"⟩
abbrev cX9_meet : ByteArray := prog_11_method_66_code
def yX9_meet : MethodName := ⟨RX9, "meet", "(IIII)I"⟩
abbrev cX9_wheels : ByteArray := prog_11_method_67_code
def yX9_wheels : MethodName := ⟨RX9, "wheels", "(IIII)I"⟩
abbrev cX9_up : ByteArray := prog_11_method_68_code
def yX9_up : MethodName := ⟨RX9, "up", "(II)I"⟩
abbrev cX9_forsOff : ByteArray := prog_11_method_69_code
def yX9_forsOff : MethodName := ⟨RX9, "forsOff", "(I)I"⟩
abbrev cX9_bestSeat : ByteArray := prog_11_method_70_code
def yX9_bestSeat : MethodName := ⟨RX9, "bestSeat", "(I)I"⟩
abbrev cX9_see : ByteArray := prog_11_method_71_code
def yX9_see : MethodName := ⟨RX9, "see", "(II)I"⟩
abbrev cX9_couldBe : ByteArray := prog_11_method_72_code
def yX9_couldBe : MethodName := ⟨RX9, "couldBe", "(II)Z"⟩
abbrev cX9_manyStood : ByteArray := prog_11_method_73_code
def yX9_manyStood : MethodName := ⟨RX9, "manyStood", "(I)I"⟩
abbrev cX9_stood : ByteArray := prog_11_method_74_code
def yX9_stood : MethodName := ⟨RX9, "stood", "(I)I"⟩
abbrev cX9_odds : ByteArray := prog_11_method_75_code
def yX9_odds : MethodName := ⟨RX9, "odds", "(II)J"⟩
abbrev cX9_mean : ByteArray := prog_11_method_76_code
def yX9_mean : MethodName := ⟨RX9, "mean", "(II)J"⟩
abbrev cX9_book : ByteArray := prog_11_method_77_code
def yX9_book : MethodName := ⟨RX9, "book", "(I)I"⟩
abbrev cX9_goesSo : ByteArray := prog_11_method_78_code
def yX9_goesSo : MethodName := ⟨RX9, "goesSo", "(II)Z"⟩
abbrev cX9_looked : ByteArray := prog_11_method_79_code
def yX9_looked : MethodName := ⟨RX9, "looked", "()I"⟩
abbrev cX9_judge : ByteArray := prog_11_method_80_code
def yX9_judge : MethodName := ⟨RX9, "judge", "(II)I"⟩
abbrev cX9_image : ByteArray := prog_11_method_81_code
def yX9_image : MethodName := ⟨RX9, "image", "()I"⟩
abbrev cX9_undo : ByteArray := prog_11_method_82_code
def yX9_undo : MethodName := ⟨RX9, "undo", "()I"⟩
abbrev cX9_body : ByteArray := prog_11_method_83_code
def yX9_body : MethodName := ⟨RX9, "body", "(I)V"⟩
abbrev cX9_voiceRises : ByteArray := prog_11_method_84_code
def yX9_voiceRises : MethodName := ⟨RX9, "voiceRises", "(II)I"⟩
abbrev cX9_risesAct : ByteArray := prog_11_method_85_code
def yX9_risesAct : MethodName := ⟨RX9, "risesAct", "(II)I"⟩
abbrev cX9_voiceSits : ByteArray := prog_11_method_86_code
def yX9_voiceSits : MethodName := ⟨RX9, "voiceSits", "(II)I"⟩
abbrev cX9_firmSits : ByteArray := prog_11_method_87_code
def yX9_firmSits : MethodName := ⟨RX9, "firmSits", "(II)I"⟩
abbrev cX9_sitsAct : ByteArray := prog_11_method_88_code
def yX9_sitsAct : MethodName := ⟨RX9, "sitsAct", "(II)I"⟩
abbrev cX9_voiceTells : ByteArray := prog_11_method_89_code
def yX9_voiceTells : MethodName := ⟨RX9, "voiceTells", "(II)I"⟩
abbrev cX9_tellsAct : ByteArray := prog_11_method_90_code
def yX9_tellsAct : MethodName := ⟨RX9, "tellsAct", "(II)I"⟩
abbrev cX9_act : ByteArray := prog_11_method_91_code
def yX9_act : MethodName := ⟨RX9, "act", "(III)I"⟩
abbrev cX9_trace : ByteArray := prog_11_method_92_code
def yX9_trace : MethodName := ⟨RX9, "trace", "(I)I"⟩
abbrev cX9_taken : ByteArray := prog_11_method_93_code
def yX9_taken : MethodName := ⟨RX9, "taken", "(II)I"⟩
abbrev cX9_count : ByteArray := prog_11_method_94_code
def yX9_count : MethodName := ⟨RX9, "count", "(I)I"⟩
abbrev cX9_isTape : ByteArray := prog_11_method_95_code
def yX9_isTape : MethodName := ⟨RX9, "isTape", "(I)Z"⟩
abbrev cX9_tape : ByteArray := prog_11_method_96_code
def yX9_tape : MethodName := ⟨RX9, "tape", "(III)I"⟩
abbrev cX9_narrow : ByteArray := prog_11_method_97_code
def yX9_narrow : MethodName := ⟨RX9, "narrow", "(IJ)J"⟩
abbrev cX9_item : ByteArray := prog_11_method_98_code
def yX9_item : MethodName := ⟨RX9, "item", "(IIJ)I"⟩
abbrev cX9_read : ByteArray := prog_11_method_99_code
def yX9_read : MethodName := ⟨RX9, "read", "(II)J"⟩
abbrev cX9_shift : ByteArray := prog_11_method_100_code
def yX9_shift : MethodName := ⟨RX9, "shift", "(IIIII)I"⟩
def RJ6 : String := "java/lang/Integer"
def TJ6 : u_T := fun k => match k with
  | _ => ("", "", "", false)
def tyJ6 : Nat → FieldType := fun k => match k with
  | _ => .int
abbrev wsJ60 : List Cond := u_ws RJ6 TJ6 0
theorem nmJ6 : ∀ a, a < 0 → ∀ b, b < 0 → a ≠ b → (TJ6 a).2.1 ≠ (TJ6 b).2.1 := by decide +kernel
theorem tyJ6_ok : ∀ k, k < 0 → parseFieldDescriptor (TJ6 k).2.2.1 = some (tyJ6 k) := by decide +kernel
abbrev cJ6_bitCount_0f7a4 : ByteArray := prog_12_method_49_code
def yJ6_bitCount_0f7a4 : MethodName := ⟨RJ6, "bitCount", "(I)I"⟩
def RJ9 : String := "java/lang/Math"
def TJ9 : u_T := fun k => match k with
  | _ => ("", "", "", false)
def tyJ9 : Nat → FieldType := fun k => match k with
  | _ => .int
abbrev wsJ90 : List Cond := u_ws RJ9 TJ9 0
theorem nmJ9 : ∀ a, a < 0 → ∀ b, b < 0 → a ≠ b → (TJ9 a).2.1 ≠ (TJ9 b).2.1 := by decide +kernel
theorem tyJ9_ok : ∀ k, k < 0 → parseFieldDescriptor (TJ9 k).2.2.1 = some (tyJ9 k) := by decide +kernel
abbrev cJ9_max_7cf53 : ByteArray := prog_13_method_65_code
def yJ9_max_7cf53 : MethodName := ⟨RJ9, "max", "(II)I"⟩
def RJ0 : String := "java/lang/String"
def TJ0 : u_T := fun k => match k with
  | _ => ("", "", "", false)
def tyJ0 : Nat → FieldType := fun k => match k with
  | _ => .int
abbrev wsJ00 : List Cond := u_ws RJ0 TJ0 0
theorem nmJ0 : ∀ a, a < 0 → ∀ b, b < 0 → a ≠ b → (TJ0 a).2.1 ≠ (TJ0 b).2.1 := by decide +kernel
theorem tyJ0_ok : ∀ k, k < 0 → parseFieldDescriptor (TJ0 k).2.2.1 = some (tyJ0 k) := by decide +kernel
abbrev cJ0_length_8abf5 : ByteArray := prog_14_method_54_code
def yJ0_length_8abf5 : MethodName := ⟨RJ0, "length", "()I"⟩
abbrev cJ0_charAt_5068e : ByteArray := prog_14_method_56_code
def yJ0_charAt_5068e : MethodName := ⟨RJ0, "charAt", "(I)C"⟩
abbrev cJ0_coder_7d493 : ByteArray := prog_14_method_152_code
def yJ0_coder_7d493 : MethodName := ⟨RJ0, "coder", "()B"⟩
abbrev cJ0_isLatin1_aae02 : ByteArray := prog_14_method_154_code
def yJ0_isLatin1_aae02 : MethodName := ⟨RJ0, "isLatin1", "()Z"⟩
abbrev cJ0_checkIndex_df160 : ByteArray := prog_14_method_155_code
def yJ0_checkIndex_df160 : MethodName := ⟨RJ0, "checkIndex", "(II)V"⟩
def RJ1 : String := "java/lang/StringLatin1"
def TJ1 : u_T := fun k => match k with
  | _ => ("", "", "", false)
def tyJ1 : Nat → FieldType := fun k => match k with
  | _ => .int
abbrev wsJ10 : List Cond := u_ws RJ1 TJ1 0
theorem nmJ1 : ∀ a, a < 0 → ∀ b, b < 0 → a ≠ b → (TJ1 a).2.1 ≠ (TJ1 b).2.1 := by decide +kernel
theorem tyJ1_ok : ∀ k, k < 0 → parseFieldDescriptor (TJ1 k).2.2.1 = some (tyJ1 k) := by decide +kernel
abbrev cJ1_charAt_3b067 : ByteArray := prog_15_method_2_code
def yJ1_charAt_3b067 : MethodName := ⟨RJ1, "charAt", "([BI)C"⟩
def RJ2 : String := "java/lang/StringUTF16"
def TJ2 : u_T := fun k => match k with
  | _ => ("", "", "", false)
def tyJ2 : Nat → FieldType := fun k => match k with
  | _ => .int
abbrev wsJ20 : List Cond := u_ws RJ2 TJ2 0
theorem nmJ2 : ∀ a, a < 0 → ∀ b, b < 0 → a ≠ b → (TJ2 a).2.1 ≠ (TJ2 b).2.1 := by decide +kernel
theorem tyJ2_ok : ∀ k, k < 0 → parseFieldDescriptor (TJ2 k).2.2.1 = some (tyJ2 k) := by decide +kernel
abbrev cJ2_getChar_3b067 : ByteArray := prog_16_method_5_code
def yJ2_getChar_3b067 : MethodName := ⟨RJ2, "getChar", "([BI)C"⟩
abbrev cJ2_length_9d52b : ByteArray := prog_16_method_6_code
def yJ2_length_9d52b : MethodName := ⟨RJ2, "length", "([B)I"⟩
abbrev cJ2_charAt_3b067 : ByteArray := prog_16_method_83_code
def yJ2_charAt_3b067 : MethodName := ⟨RJ2, "charAt", "([BI)C"⟩
abbrev cJ2_checkIndex_2214a : ByteArray := prog_16_method_91_code
def yJ2_checkIndex_2214a : MethodName := ⟨RJ2, "checkIndex", "(I[B)V"⟩
def RJ10 : String := "java/lang/System"
def TJ10 : u_T := fun k => match k with
  | _ => ("", "", "", false)
def tyJ10 : Nat → FieldType := fun k => match k with
  | _ => .int
abbrev wsJ100 : List Cond := u_ws RJ10 TJ10 0
theorem nmJ10 : ∀ a, a < 0 → ∀ b, b < 0 → a ≠ b → (TJ10 a).2.1 ≠ (TJ10 b).2.1 := by decide +kernel
theorem tyJ10_ok : ∀ k, k < 0 → parseFieldDescriptor (TJ10 k).2.2.1 = some (tyJ10 k) := by decide +kernel
def RJ3 : String := "jdk/internal/util/Preconditions"
def TJ3 : u_T := fun k => match k with
  | _ => ("", "", "", false)
def tyJ3 : Nat → FieldType := fun k => match k with
  | _ => .int
abbrev wsJ30 : List Cond := u_ws RJ3 TJ3 0
theorem nmJ3 : ∀ a, a < 0 → ∀ b, b < 0 → a ≠ b → (TJ3 a).2.1 ≠ (TJ3 b).2.1 := by decide +kernel
theorem tyJ3_ok : ∀ k, k < 0 → parseFieldDescriptor (TJ3 k).2.2.1 = some (tyJ3 k) := by decide +kernel
abbrev cJ3_checkIndex_8e157 : ByteArray := prog_18_method_11_code
def yJ3_checkIndex_8e157 : MethodName := ⟨RJ3, "checkIndex", "(IILjava/util/function/BiFunction;)I"⟩
def RL : String := "SeatOnLaw"
abbrev cL_law : ByteArray := code
def yL_law : MethodName := ⟨RL, "law", "([I)Z"⟩
