section
-- ===== PART A: goes FIRST, ahead of the names: the tables' words, and 'selects' of the private methods out of them =====
/-- a private method of a class that the tables say can be made, by its rows of tables_1 -/
def lw_okq (q : MethodName × Nat) : Prop := (q.1.cls ≠ "java/lang/invoke/MethodHandle" ∧ q.1.cls ≠ "java/lang/invoke/VarHandle") ∧ Cond.instantiable q.1.cls q.2 ∈ tables_1 ∧ Cond.privateMethod q.1 ∈ tables_1 ∧ Cond.instanceMethod q.1 ∈ tables_1
theorem lw_p0 : lw_okq (⟨"BoardCords$Moment", "letFall", "()V"⟩, 6) := ⟨⟨by decide +kernel, by decide +kernel⟩, List.mem_of_getElem? (i := 126) (by decide +kernel), List.mem_of_getElem? (i := 265) (by decide +kernel), List.mem_of_getElem? (i := 266) (by decide +kernel)⟩
theorem lw_p1 : lw_okq (⟨"BoardCords$Reader", "skipBlanks", "()V"⟩, 7) := ⟨⟨by decide +kernel, by decide +kernel⟩, List.mem_of_getElem? (i := 95) (by decide +kernel), List.mem_of_getElem? (i := 326) (by decide +kernel), List.mem_of_getElem? (i := 327) (by decide +kernel)⟩
theorem lw_p2 : lw_okq (⟨"BoardCords$Reader", "readItem", "()V"⟩, 7) := ⟨⟨by decide +kernel, by decide +kernel⟩, List.mem_of_getElem? (i := 95) (by decide +kernel), List.mem_of_getElem? (i := 330) (by decide +kernel), List.mem_of_getElem? (i := 331) (by decide +kernel)⟩
theorem lw_p3 : lw_okq (⟨"BoardCords$Reader", "letterHere", "()I"⟩, 7) := ⟨⟨by decide +kernel, by decide +kernel⟩, List.mem_of_getElem? (i := 95) (by decide +kernel), List.mem_of_getElem? (i := 334) (by decide +kernel), List.mem_of_getElem? (i := 335) (by decide +kernel)⟩
theorem lw_p4 : lw_okq (⟨"BoardCords$Reader", "readLines", "()V"⟩, 7) := ⟨⟨by decide +kernel, by decide +kernel⟩, List.mem_of_getElem? (i := 95) (by decide +kernel), List.mem_of_getElem? (i := 338) (by decide +kernel), List.mem_of_getElem? (i := 339) (by decide +kernel)⟩
theorem lw_p5 : lw_okq (⟨"BoardCords$Reader", "readNumber", "(III)I"⟩, 7) := ⟨⟨by decide +kernel, by decide +kernel⟩, List.mem_of_getElem? (i := 95) (by decide +kernel), List.mem_of_getElem? (i := 342) (by decide +kernel), List.mem_of_getElem? (i := 343) (by decide +kernel)⟩
theorem lw_p6 : lw_okq (⟨"BoardCords$Reader", "failAt", "(I)V"⟩, 7) := ⟨⟨by decide +kernel, by decide +kernel⟩, List.mem_of_getElem? (i := 95) (by decide +kernel), List.mem_of_getElem? (i := 349) (by decide +kernel), List.mem_of_getElem? (i := 350) (by decide +kernel)⟩
theorem lw_p7 : lw_okq (⟨"BoardCords$Reader", "readCords", "()V"⟩, 7) := ⟨⟨by decide +kernel, by decide +kernel⟩, List.mem_of_getElem? (i := 95) (by decide +kernel), List.mem_of_getElem? (i := 353) (by decide +kernel), List.mem_of_getElem? (i := 354) (by decide +kernel)⟩
theorem lw_p8 : lw_okq (⟨"BoardCords$Reader", "readHole", "()V"⟩, 7) := ⟨⟨by decide +kernel, by decide +kernel⟩, List.mem_of_getElem? (i := 95) (by decide +kernel), List.mem_of_getElem? (i := 357) (by decide +kernel), List.mem_of_getElem? (i := 358) (by decide +kernel)⟩
theorem lw_p9 : lw_okq (⟨"BoardCords$Reader", "readCall", "()V"⟩, 7) := ⟨⟨by decide +kernel, by decide +kernel⟩, List.mem_of_getElem? (i := 95) (by decide +kernel), List.mem_of_getElem? (i := 365) (by decide +kernel), List.mem_of_getElem? (i := 366) (by decide +kernel)⟩
theorem lw_p10 : lw_okq (⟨"BoardCords$Reader", "readEnd", "()V"⟩, 7) := ⟨⟨by decide +kernel, by decide +kernel⟩, List.mem_of_getElem? (i := 95) (by decide +kernel), List.mem_of_getElem? (i := 369) (by decide +kernel), List.mem_of_getElem? (i := 370) (by decide +kernel)⟩
theorem lw_p11 : lw_okq (⟨"BoardCords", "freeCords", "()I"⟩, 12) := ⟨⟨by decide +kernel, by decide +kernel⟩, List.mem_of_getElem? (i := 14) (by decide +kernel), List.mem_of_getElem? (i := 410) (by decide +kernel), List.mem_of_getElem? (i := 411) (by decide +kernel)⟩
theorem lw_p12 : lw_okq (⟨"BoardCords$Moment", "cross", "(II)Z"⟩, 6) := ⟨⟨by decide +kernel, by decide +kernel⟩, List.mem_of_getElem? (i := 126) (by decide +kernel), List.mem_of_getElem? (i := 428) (by decide +kernel), List.mem_of_getElem? (i := 429) (by decide +kernel)⟩
theorem lw_p13 : lw_okq (⟨"BoardCords$Moment", "isBetween", "(II)Z"⟩, 6) := ⟨⟨by decide +kernel, by decide +kernel⟩, List.mem_of_getElem? (i := 126) (by decide +kernel), List.mem_of_getElem? (i := 436) (by decide +kernel), List.mem_of_getElem? (i := 437) (by decide +kernel)⟩
theorem lw_p14 : lw_okq (⟨"BoardCords$Moment", "hasRoom", "(III)Z"⟩, 6) := ⟨⟨by decide +kernel, by decide +kernel⟩, List.mem_of_getElem? (i := 126) (by decide +kernel), List.mem_of_getElem? (i := 471) (by decide +kernel), List.mem_of_getElem? (i := 472) (by decide +kernel)⟩
theorem lw_p15 : lw_okq (⟨"BoardCords$Moment", "linesFree", "(II)Z"⟩, 6) := ⟨⟨by decide +kernel, by decide +kernel⟩, List.mem_of_getElem? (i := 126) (by decide +kernel), List.mem_of_getElem? (i := 475) (by decide +kernel), List.mem_of_getElem? (i := 476) (by decide +kernel)⟩
def lw_privs_1 : List (MethodName × Nat) := [(⟨"BoardCords$Moment", "letFall", "()V"⟩, 6), (⟨"BoardCords$Reader", "skipBlanks", "()V"⟩, 7), (⟨"BoardCords$Reader", "readItem", "()V"⟩, 7), (⟨"BoardCords$Reader", "letterHere", "()I"⟩, 7), (⟨"BoardCords$Reader", "readLines", "()V"⟩, 7), (⟨"BoardCords$Reader", "readNumber", "(III)I"⟩, 7), (⟨"BoardCords$Reader", "failAt", "(I)V"⟩, 7), (⟨"BoardCords$Reader", "readCords", "()V"⟩, 7), (⟨"BoardCords$Reader", "readHole", "()V"⟩, 7), (⟨"BoardCords$Reader", "readCall", "()V"⟩, 7), (⟨"BoardCords$Reader", "readEnd", "()V"⟩, 7), (⟨"BoardCords", "freeCords", "()I"⟩, 12), (⟨"BoardCords$Moment", "cross", "(II)Z"⟩, 6), (⟨"BoardCords$Moment", "isBetween", "(II)Z"⟩, 6), (⟨"BoardCords$Moment", "hasRoom", "(III)Z"⟩, 6), (⟨"BoardCords$Moment", "linesFree", "(II)Z"⟩, 6)]
theorem lw_r1 : ∀ q ∈ lw_privs_1, lw_okq q := List.forall_mem_cons.mpr ⟨lw_p0, List.forall_mem_cons.mpr ⟨lw_p1, List.forall_mem_cons.mpr ⟨lw_p2, List.forall_mem_cons.mpr ⟨lw_p3, List.forall_mem_cons.mpr ⟨lw_p4, List.forall_mem_cons.mpr ⟨lw_p5, List.forall_mem_cons.mpr ⟨lw_p6, List.forall_mem_cons.mpr ⟨lw_p7, List.forall_mem_cons.mpr ⟨lw_p8, List.forall_mem_cons.mpr ⟨lw_p9, List.forall_mem_cons.mpr ⟨lw_p10, List.forall_mem_cons.mpr ⟨lw_p11, List.forall_mem_cons.mpr ⟨lw_p12, List.forall_mem_cons.mpr ⟨lw_p13, List.forall_mem_cons.mpr ⟨lw_p14, List.forall_mem_cons.mpr ⟨lw_p15, fun _ h => absurd h List.not_mem_nil⟩⟩⟩⟩⟩⟩⟩⟩⟩⟩⟩⟩⟩⟩⟩⟩
theorem lw_p16 : lw_okq (⟨"BoardCords$Day", "sort", "(I)V"⟩, 5) := ⟨⟨by decide +kernel, by decide +kernel⟩, List.mem_of_getElem? (i := 175) (by decide +kernel), List.mem_of_getElem? (i := 525) (by decide +kernel), List.mem_of_getElem? (i := 526) (by decide +kernel)⟩
theorem lw_p17 : lw_okq (⟨"BoardCords$Day", "key", "(II)I"⟩, 5) := ⟨⟨by decide +kernel, by decide +kernel⟩, List.mem_of_getElem? (i := 175) (by decide +kernel), List.mem_of_getElem? (i := 529) (by decide +kernel), List.mem_of_getElem? (i := 530) (by decide +kernel)⟩
theorem lw_p18 : lw_okq (⟨"BoardCords$Day", "plugAll", "(I)V"⟩, 5) := ⟨⟨by decide +kernel, by decide +kernel⟩, List.mem_of_getElem? (i := 175) (by decide +kernel), List.mem_of_getElem? (i := 534) (by decide +kernel), List.mem_of_getElem? (i := 535) (by decide +kernel)⟩
theorem lw_p19 : lw_okq (⟨"BoardCords$Moment", "sumOf", "([II)I"⟩, 6) := ⟨⟨by decide +kernel, by decide +kernel⟩, List.mem_of_getElem? (i := 126) (by decide +kernel), List.mem_of_getElem? (i := 552) (by decide +kernel), List.mem_of_getElem? (i := 553) (by decide +kernel)⟩
theorem lw_p20 : lw_okq (⟨"BoardCords$RowSearch", "prepare", "(LBoardCords$Moment;)V"⟩, 8) := ⟨⟨by decide +kernel, by decide +kernel⟩, List.mem_of_getElem? (i := 203) (by decide +kernel), List.mem_of_getElem? (i := 568) (by decide +kernel), List.mem_of_getElem? (i := 569) (by decide +kernel)⟩
theorem lw_p21 : lw_okq (⟨"BoardCords$RowSearch", "waitsFor", "(I)I"⟩, 8) := ⟨⟨by decide +kernel, by decide +kernel⟩, List.mem_of_getElem? (i := 203) (by decide +kernel), List.mem_of_getElem? (i := 573) (by decide +kernel), List.mem_of_getElem? (i := 574) (by decide +kernel)⟩
theorem lw_p22 : lw_okq (⟨"BoardCords$RowSearch", "plugAlong", "(I)I"⟩, 8) := ⟨⟨by decide +kernel, by decide +kernel⟩, List.mem_of_getElem? (i := 203) (by decide +kernel), List.mem_of_getElem? (i := 578) (by decide +kernel), List.mem_of_getElem? (i := 579) (by decide +kernel)⟩
theorem lw_p23 : lw_okq (⟨"BoardCords$RowSearch", "nextEnd", "(I)I"⟩, 8) := ⟨⟨by decide +kernel, by decide +kernel⟩, List.mem_of_getElem? (i := 203) (by decide +kernel), List.mem_of_getElem? (i := 582) (by decide +kernel), List.mem_of_getElem? (i := 583) (by decide +kernel)⟩
theorem lw_p24 : lw_okq (⟨"BoardCords$Moment", "cutsLess", "(II)Z"⟩, 6) := ⟨⟨by decide +kernel, by decide +kernel⟩, List.mem_of_getElem? (i := 126) (by decide +kernel), List.mem_of_getElem? (i := 597) (by decide +kernel), List.mem_of_getElem? (i := 598) (by decide +kernel)⟩
theorem lw_p25 : lw_okq (⟨"BoardCords$Moment", "leftOf", "(I)I"⟩, 6) := ⟨⟨by decide +kernel, by decide +kernel⟩, List.mem_of_getElem? (i := 126) (by decide +kernel), List.mem_of_getElem? (i := 601) (by decide +kernel), List.mem_of_getElem? (i := 602) (by decide +kernel)⟩
theorem lw_p26 : lw_okq (⟨"BoardCords", "tenthsFree", "(III)I"⟩, 12) := ⟨⟨by decide +kernel, by decide +kernel⟩, List.mem_of_getElem? (i := 14) (by decide +kernel), List.mem_of_getElem? (i := 658) (by decide +kernel), List.mem_of_getElem? (i := 659) (by decide +kernel)⟩
theorem lw_p27 : lw_okq (⟨"BoardCords", "asCall", "(I)I"⟩, 12) := ⟨⟨by decide +kernel, by decide +kernel⟩, List.mem_of_getElem? (i := 14) (by decide +kernel), List.mem_of_getElem? (i := 670) (by decide +kernel), List.mem_of_getElem? (i := 671) (by decide +kernel)⟩
theorem lw_p28 : lw_okq (⟨"BoardCords", "asDoctor", "(I)I"⟩, 12) := ⟨⟨by decide +kernel, by decide +kernel⟩, List.mem_of_getElem? (i := 14) (by decide +kernel), List.mem_of_getElem? (i := 674) (by decide +kernel), List.mem_of_getElem? (i := 675) (by decide +kernel)⟩
theorem lw_p29 : lw_okq (⟨"BoardCords", "asGossip", "(I)I"⟩, 12) := ⟨⟨by decide +kernel, by decide +kernel⟩, List.mem_of_getElem? (i := 14) (by decide +kernel), List.mem_of_getElem? (i := 679) (by decide +kernel), List.mem_of_getElem? (i := 680) (by decide +kernel)⟩
theorem lw_p30 : lw_okq (⟨"BoardCords", "asFire", "(I)I"⟩, 12) := ⟨⟨by decide +kernel, by decide +kernel⟩, List.mem_of_getElem? (i := 14) (by decide +kernel), List.mem_of_getElem? (i := 684) (by decide +kernel), List.mem_of_getElem? (i := 685) (by decide +kernel)⟩
theorem lw_p31 : lw_okq (⟨"BoardCords", "asWife", "(I)I"⟩, 12) := ⟨⟨by decide +kernel, by decide +kernel⟩, List.mem_of_getElem? (i := 14) (by decide +kernel), List.mem_of_getElem? (i := 689) (by decide +kernel), List.mem_of_getElem? (i := 690) (by decide +kernel)⟩
def lw_privs_2 : List (MethodName × Nat) := [(⟨"BoardCords$Day", "sort", "(I)V"⟩, 5), (⟨"BoardCords$Day", "key", "(II)I"⟩, 5), (⟨"BoardCords$Day", "plugAll", "(I)V"⟩, 5), (⟨"BoardCords$Moment", "sumOf", "([II)I"⟩, 6), (⟨"BoardCords$RowSearch", "prepare", "(LBoardCords$Moment;)V"⟩, 8), (⟨"BoardCords$RowSearch", "waitsFor", "(I)I"⟩, 8), (⟨"BoardCords$RowSearch", "plugAlong", "(I)I"⟩, 8), (⟨"BoardCords$RowSearch", "nextEnd", "(I)I"⟩, 8), (⟨"BoardCords$Moment", "cutsLess", "(II)Z"⟩, 6), (⟨"BoardCords$Moment", "leftOf", "(I)I"⟩, 6), (⟨"BoardCords", "tenthsFree", "(III)I"⟩, 12), (⟨"BoardCords", "asCall", "(I)I"⟩, 12), (⟨"BoardCords", "asDoctor", "(I)I"⟩, 12), (⟨"BoardCords", "asGossip", "(I)I"⟩, 12), (⟨"BoardCords", "asFire", "(I)I"⟩, 12), (⟨"BoardCords", "asWife", "(I)I"⟩, 12)]
theorem lw_r2 : ∀ q ∈ lw_privs_2, lw_okq q := List.forall_mem_cons.mpr ⟨lw_p16, List.forall_mem_cons.mpr ⟨lw_p17, List.forall_mem_cons.mpr ⟨lw_p18, List.forall_mem_cons.mpr ⟨lw_p19, List.forall_mem_cons.mpr ⟨lw_p20, List.forall_mem_cons.mpr ⟨lw_p21, List.forall_mem_cons.mpr ⟨lw_p22, List.forall_mem_cons.mpr ⟨lw_p23, List.forall_mem_cons.mpr ⟨lw_p24, List.forall_mem_cons.mpr ⟨lw_p25, List.forall_mem_cons.mpr ⟨lw_p26, List.forall_mem_cons.mpr ⟨lw_p27, List.forall_mem_cons.mpr ⟨lw_p28, List.forall_mem_cons.mpr ⟨lw_p29, List.forall_mem_cons.mpr ⟨lw_p30, List.forall_mem_cons.mpr ⟨lw_p31, fun _ h => absurd h List.not_mem_nil⟩⟩⟩⟩⟩⟩⟩⟩⟩⟩⟩⟩⟩⟩⟩⟩
theorem lw_p32 : lw_okq (⟨"BoardCords", "asWrong", "(I)I"⟩, 12) := ⟨⟨by decide +kernel, by decide +kernel⟩, List.mem_of_getElem? (i := 14) (by decide +kernel), List.mem_of_getElem? (i := 694) (by decide +kernel), List.mem_of_getElem? (i := 695) (by decide +kernel)⟩
theorem lw_p33 : lw_okq (⟨"BoardCordsModel", "begin", "()V"⟩, 29) := ⟨⟨by decide +kernel, by decide +kernel⟩, List.mem_of_getElem? (i := 721) (by decide +kernel), List.mem_of_getElem? (i := 727) (by decide +kernel), List.mem_of_getElem? (i := 728) (by decide +kernel)⟩
theorem lw_p34 : lw_okq (⟨"BoardCordsModel", "isRead", "()Z"⟩, 29) := ⟨⟨by decide +kernel, by decide +kernel⟩, List.mem_of_getElem? (i := 721) (by decide +kernel), List.mem_of_getElem? (i := 833) (by decide +kernel), List.mem_of_getElem? (i := 834) (by decide +kernel)⟩
theorem lw_p35 : lw_okq (⟨"BoardCordsModel", "nextToken", "()V"⟩, 29) := ⟨⟨by decide +kernel, by decide +kernel⟩, List.mem_of_getElem? (i := 721) (by decide +kernel), List.mem_of_getElem? (i := 837) (by decide +kernel), List.mem_of_getElem? (i := 838) (by decide +kernel)⟩
theorem lw_p36 : lw_okq (⟨"BoardCordsModel", "isItem", "()Z"⟩, 29) := ⟨⟨by decide +kernel, by decide +kernel⟩, List.mem_of_getElem? (i := 721) (by decide +kernel), List.mem_of_getElem? (i := 841) (by decide +kernel), List.mem_of_getElem? (i := 842) (by decide +kernel)⟩
theorem lw_p37 : lw_okq (⟨"BoardCordsModel", "isNumber", "(II)Z"⟩, 29) := ⟨⟨by decide +kernel, by decide +kernel⟩, List.mem_of_getElem? (i := 721) (by decide +kernel), List.mem_of_getElem? (i := 845) (by decide +kernel), List.mem_of_getElem? (i := 846) (by decide +kernel)⟩
theorem lw_p38 : lw_okq (⟨"BoardCordsModel", "isEnd", "()Z"⟩, 29) := ⟨⟨by decide +kernel, by decide +kernel⟩, List.mem_of_getElem? (i := 721) (by decide +kernel), List.mem_of_getElem? (i := 849) (by decide +kernel), List.mem_of_getElem? (i := 850) (by decide +kernel)⟩
theorem lw_p39 : lw_okq (⟨"BoardCordsModel", "isHole", "()Z"⟩, 29) := ⟨⟨by decide +kernel, by decide +kernel⟩, List.mem_of_getElem? (i := 721) (by decide +kernel), List.mem_of_getElem? (i := 853) (by decide +kernel), List.mem_of_getElem? (i := 854) (by decide +kernel)⟩
theorem lw_p40 : lw_okq (⟨"BoardCordsModel", "isCallItem", "()Z"⟩, 29) := ⟨⟨by decide +kernel, by decide +kernel⟩, List.mem_of_getElem? (i := 721) (by decide +kernel), List.mem_of_getElem? (i := 857) (by decide +kernel), List.mem_of_getElem? (i := 858) (by decide +kernel)⟩
theorem lw_p41 : lw_okq (⟨"BoardCordsModel", "isLine", "(I)Z"⟩, 29) := ⟨⟨by decide +kernel, by decide +kernel⟩, List.mem_of_getElem? (i := 721) (by decide +kernel), List.mem_of_getElem? (i := 865) (by decide +kernel), List.mem_of_getElem? (i := 866) (by decide +kernel)⟩
theorem lw_p42 : lw_okq (⟨"BoardCordsModel", "holeOf", "(I)I"⟩, 29) := ⟨⟨by decide +kernel, by decide +kernel⟩, List.mem_of_getElem? (i := 721) (by decide +kernel), List.mem_of_getElem? (i := 869) (by decide +kernel), List.mem_of_getElem? (i := 870) (by decide +kernel)⟩
theorem lw_p43 : lw_okq (⟨"BoardCordsModel", "talkerOn", "([II)I"⟩, 29) := ⟨⟨by decide +kernel, by decide +kernel⟩, List.mem_of_getElem? (i := 721) (by decide +kernel), List.mem_of_getElem? (i := 873) (by decide +kernel), List.mem_of_getElem? (i := 874) (by decide +kernel)⟩
theorem lw_p44 : lw_okq (⟨"BoardCordsModel", "isOn", "(II)Z"⟩, 29) := ⟨⟨by decide +kernel, by decide +kernel⟩, List.mem_of_getElem? (i := 721) (by decide +kernel), List.mem_of_getElem? (i := 877) (by decide +kernel), List.mem_of_getElem? (i := 878) (by decide +kernel)⟩
theorem lw_p45 : lw_okq (⟨"BoardCordsModel", "fromOf", "(I)I"⟩, 29) := ⟨⟨by decide +kernel, by decide +kernel⟩, List.mem_of_getElem? (i := 721) (by decide +kernel), List.mem_of_getElem? (i := 881) (by decide +kernel), List.mem_of_getElem? (i := 882) (by decide +kernel)⟩
theorem lw_p46 : lw_okq (⟨"BoardCordsModel", "toOf", "(I)I"⟩, 29) := ⟨⟨by decide +kernel, by decide +kernel⟩, List.mem_of_getElem? (i := 721) (by decide +kernel), List.mem_of_getElem? (i := 885) (by decide +kernel), List.mem_of_getElem? (i := 886) (by decide +kernel)⟩
theorem lw_p47 : lw_okq (⟨"BoardCordsModel", "isCall", "(I)Z"⟩, 29) := ⟨⟨by decide +kernel, by decide +kernel⟩, List.mem_of_getElem? (i := 721) (by decide +kernel), List.mem_of_getElem? (i := 893) (by decide +kernel), List.mem_of_getElem? (i := 894) (by decide +kernel)⟩
def lw_privs_3 : List (MethodName × Nat) := [(⟨"BoardCords", "asWrong", "(I)I"⟩, 12), (⟨"BoardCordsModel", "begin", "()V"⟩, 29), (⟨"BoardCordsModel", "isRead", "()Z"⟩, 29), (⟨"BoardCordsModel", "nextToken", "()V"⟩, 29), (⟨"BoardCordsModel", "isItem", "()Z"⟩, 29), (⟨"BoardCordsModel", "isNumber", "(II)Z"⟩, 29), (⟨"BoardCordsModel", "isEnd", "()Z"⟩, 29), (⟨"BoardCordsModel", "isHole", "()Z"⟩, 29), (⟨"BoardCordsModel", "isCallItem", "()Z"⟩, 29), (⟨"BoardCordsModel", "isLine", "(I)Z"⟩, 29), (⟨"BoardCordsModel", "holeOf", "(I)I"⟩, 29), (⟨"BoardCordsModel", "talkerOn", "([II)I"⟩, 29), (⟨"BoardCordsModel", "isOn", "(II)Z"⟩, 29), (⟨"BoardCordsModel", "fromOf", "(I)I"⟩, 29), (⟨"BoardCordsModel", "toOf", "(I)I"⟩, 29), (⟨"BoardCordsModel", "isCall", "(I)Z"⟩, 29)]
theorem lw_r3 : ∀ q ∈ lw_privs_3, lw_okq q := List.forall_mem_cons.mpr ⟨lw_p32, List.forall_mem_cons.mpr ⟨lw_p33, List.forall_mem_cons.mpr ⟨lw_p34, List.forall_mem_cons.mpr ⟨lw_p35, List.forall_mem_cons.mpr ⟨lw_p36, List.forall_mem_cons.mpr ⟨lw_p37, List.forall_mem_cons.mpr ⟨lw_p38, List.forall_mem_cons.mpr ⟨lw_p39, List.forall_mem_cons.mpr ⟨lw_p40, List.forall_mem_cons.mpr ⟨lw_p41, List.forall_mem_cons.mpr ⟨lw_p42, List.forall_mem_cons.mpr ⟨lw_p43, List.forall_mem_cons.mpr ⟨lw_p44, List.forall_mem_cons.mpr ⟨lw_p45, List.forall_mem_cons.mpr ⟨lw_p46, List.forall_mem_cons.mpr ⟨lw_p47, fun _ h => absurd h List.not_mem_nil⟩⟩⟩⟩⟩⟩⟩⟩⟩⟩⟩⟩⟩⟩⟩⟩
theorem lw_p48 : lw_okq (⟨"BoardCordsModel", "setOf", "([II)I"⟩, 29) := ⟨⟨by decide +kernel, by decide +kernel⟩, List.mem_of_getElem? (i := 721) (by decide +kernel), List.mem_of_getElem? (i := 901) (by decide +kernel), List.mem_of_getElem? (i := 902) (by decide +kernel)⟩
theorem lw_p49 : lw_okq (⟨"BoardCordsModel", "freeCords", "([II)I"⟩, 29) := ⟨⟨by decide +kernel, by decide +kernel⟩, List.mem_of_getElem? (i := 721) (by decide +kernel), List.mem_of_getElem? (i := 905) (by decide +kernel), List.mem_of_getElem? (i := 906) (by decide +kernel)⟩
theorem lw_p50 : lw_okq (⟨"BoardCordsModel", "crossed", "()I"⟩, 29) := ⟨⟨by decide +kernel, by decide +kernel⟩, List.mem_of_getElem? (i := 721) (by decide +kernel), List.mem_of_getElem? (i := 912) (by decide +kernel), List.mem_of_getElem? (i := 913) (by decide +kernel)⟩
theorem lw_p51 : lw_okq (⟨"BoardCordsModel", "cross", "(II)Z"⟩, 29) := ⟨⟨by decide +kernel, by decide +kernel⟩, List.mem_of_getElem? (i := 721) (by decide +kernel), List.mem_of_getElem? (i := 916) (by decide +kernel), List.mem_of_getElem? (i := 917) (by decide +kernel)⟩
theorem lw_p52 : lw_okq (⟨"BoardCordsModel", "note", "()V"⟩, 29) := ⟨⟨by decide +kernel, by decide +kernel⟩, List.mem_of_getElem? (i := 721) (by decide +kernel), List.mem_of_getElem? (i := 927) (by decide +kernel), List.mem_of_getElem? (i := 928) (by decide +kernel)⟩
theorem lw_p53 : lw_okq (⟨"BoardCordsModel", "pass", "([I)V"⟩, 29) := ⟨⟨by decide +kernel, by decide +kernel⟩, List.mem_of_getElem? (i := 721) (by decide +kernel), List.mem_of_getElem? (i := 934) (by decide +kernel), List.mem_of_getElem? (i := 935) (by decide +kernel)⟩
theorem lw_p54 : lw_okq (⟨"BoardCordsModel", "canPlug", "([III)Z"⟩, 29) := ⟨⟨by decide +kernel, by decide +kernel⟩, List.mem_of_getElem? (i := 721) (by decide +kernel), List.mem_of_getElem? (i := 942) (by decide +kernel), List.mem_of_getElem? (i := 943) (by decide +kernel)⟩
theorem lw_p55 : lw_okq (⟨"BoardCordsModel", "areFree", "([II)Z"⟩, 29) := ⟨⟨by decide +kernel, by decide +kernel⟩, List.mem_of_getElem? (i := 721) (by decide +kernel), List.mem_of_getElem? (i := 946) (by decide +kernel), List.mem_of_getElem? (i := 947) (by decide +kernel)⟩
theorem lw_p56 : lw_okq (⟨"BoardCordsModel", "plug", "([II)V"⟩, 29) := ⟨⟨by decide +kernel, by decide +kernel⟩, List.mem_of_getElem? (i := 721) (by decide +kernel), List.mem_of_getElem? (i := 950) (by decide +kernel), List.mem_of_getElem? (i := 951) (by decide +kernel)⟩
theorem lw_p57 : lw_okq (⟨"BoardCordsModel", "layOrder", "(I)V"⟩, 29) := ⟨⟨by decide +kernel, by decide +kernel⟩, List.mem_of_getElem? (i := 721) (by decide +kernel), List.mem_of_getElem? (i := 970) (by decide +kernel), List.mem_of_getElem? (i := 971) (by decide +kernel)⟩
theorem lw_p58 : lw_okq (⟨"BoardCordsModel", "isAhead", "(III)Z"⟩, 29) := ⟨⟨by decide +kernel, by decide +kernel⟩, List.mem_of_getElem? (i := 721) (by decide +kernel), List.mem_of_getElem? (i := 974) (by decide +kernel), List.mem_of_getElem? (i := 975) (by decide +kernel)⟩
theorem lw_p59 : lw_okq (⟨"BoardCordsModel", "plugAll", "([III)V"⟩, 29) := ⟨⟨by decide +kernel, by decide +kernel⟩, List.mem_of_getElem? (i := 721) (by decide +kernel), List.mem_of_getElem? (i := 978) (by decide +kernel), List.mem_of_getElem? (i := 979) (by decide +kernel)⟩
theorem lw_p60 : lw_okq (⟨"BoardCordsModel", "isEnough", "(I)Z"⟩, 29) := ⟨⟨by decide +kernel, by decide +kernel⟩, List.mem_of_getElem? (i := 721) (by decide +kernel), List.mem_of_getElem? (i := 989) (by decide +kernel), List.mem_of_getElem? (i := 990) (by decide +kernel)⟩
theorem lw_p61 : lw_okq (⟨"BoardCordsModel", "waitedBy", "(I)I"⟩, 29) := ⟨⟨by decide +kernel, by decide +kernel⟩, List.mem_of_getElem? (i := 721) (by decide +kernel), List.mem_of_getElem? (i := 997) (by decide +kernel), List.mem_of_getElem? (i := 998) (by decide +kernel)⟩
theorem lw_p62 : lw_okq (⟨"BoardCordsModel", "nextRow", "([II)Z"⟩, 29) := ⟨⟨by decide +kernel, by decide +kernel⟩, List.mem_of_getElem? (i := 721) (by decide +kernel), List.mem_of_getElem? (i := 1001) (by decide +kernel), List.mem_of_getElem? (i := 1002) (by decide +kernel)⟩
theorem lw_p63 : lw_okq (⟨"BoardCordsModel", "longBy", "([II)I"⟩, 29) := ⟨⟨by decide +kernel, by decide +kernel⟩, List.mem_of_getElem? (i := 721) (by decide +kernel), List.mem_of_getElem? (i := 1013) (by decide +kernel), List.mem_of_getElem? (i := 1014) (by decide +kernel)⟩
def lw_privs_4 : List (MethodName × Nat) := [(⟨"BoardCordsModel", "setOf", "([II)I"⟩, 29), (⟨"BoardCordsModel", "freeCords", "([II)I"⟩, 29), (⟨"BoardCordsModel", "crossed", "()I"⟩, 29), (⟨"BoardCordsModel", "cross", "(II)Z"⟩, 29), (⟨"BoardCordsModel", "note", "()V"⟩, 29), (⟨"BoardCordsModel", "pass", "([I)V"⟩, 29), (⟨"BoardCordsModel", "canPlug", "([III)Z"⟩, 29), (⟨"BoardCordsModel", "areFree", "([II)Z"⟩, 29), (⟨"BoardCordsModel", "plug", "([II)V"⟩, 29), (⟨"BoardCordsModel", "layOrder", "(I)V"⟩, 29), (⟨"BoardCordsModel", "isAhead", "(III)Z"⟩, 29), (⟨"BoardCordsModel", "plugAll", "([III)V"⟩, 29), (⟨"BoardCordsModel", "isEnough", "(I)Z"⟩, 29), (⟨"BoardCordsModel", "waitedBy", "(I)I"⟩, 29), (⟨"BoardCordsModel", "nextRow", "([II)Z"⟩, 29), (⟨"BoardCordsModel", "longBy", "([II)I"⟩, 29)]
theorem lw_r4 : ∀ q ∈ lw_privs_4, lw_okq q := List.forall_mem_cons.mpr ⟨lw_p48, List.forall_mem_cons.mpr ⟨lw_p49, List.forall_mem_cons.mpr ⟨lw_p50, List.forall_mem_cons.mpr ⟨lw_p51, List.forall_mem_cons.mpr ⟨lw_p52, List.forall_mem_cons.mpr ⟨lw_p53, List.forall_mem_cons.mpr ⟨lw_p54, List.forall_mem_cons.mpr ⟨lw_p55, List.forall_mem_cons.mpr ⟨lw_p56, List.forall_mem_cons.mpr ⟨lw_p57, List.forall_mem_cons.mpr ⟨lw_p58, List.forall_mem_cons.mpr ⟨lw_p59, List.forall_mem_cons.mpr ⟨lw_p60, List.forall_mem_cons.mpr ⟨lw_p61, List.forall_mem_cons.mpr ⟨lw_p62, List.forall_mem_cons.mpr ⟨lw_p63, fun _ h => absurd h List.not_mem_nil⟩⟩⟩⟩⟩⟩⟩⟩⟩⟩⟩⟩⟩⟩⟩⟩
theorem lw_p64 : lw_okq (⟨"BoardCordsModel", "rankOf", "(I)I"⟩, 29) := ⟨⟨by decide +kernel, by decide +kernel⟩, List.mem_of_getElem? (i := 721) (by decide +kernel), List.mem_of_getElem? (i := 1046) (by decide +kernel), List.mem_of_getElem? (i := 1047) (by decide +kernel)⟩
theorem lw_p65 : lw_okq (⟨"BoardCordsModel", "doctorOf", "(I)I"⟩, 29) := ⟨⟨by decide +kernel, by decide +kernel⟩, List.mem_of_getElem? (i := 721) (by decide +kernel), List.mem_of_getElem? (i := 1050) (by decide +kernel), List.mem_of_getElem? (i := 1051) (by decide +kernel)⟩
theorem lw_p66 : lw_okq (⟨"BoardCordsModel", "gossipOf", "(I)I"⟩, 29) := ⟨⟨by decide +kernel, by decide +kernel⟩, List.mem_of_getElem? (i := 721) (by decide +kernel), List.mem_of_getElem? (i := 1055) (by decide +kernel), List.mem_of_getElem? (i := 1056) (by decide +kernel)⟩
def lw_privs_5 : List (MethodName × Nat) := [(⟨"BoardCordsModel", "rankOf", "(I)I"⟩, 29), (⟨"BoardCordsModel", "doctorOf", "(I)I"⟩, 29), (⟨"BoardCordsModel", "gossipOf", "(I)I"⟩, 29)]
theorem lw_r5 : ∀ q ∈ lw_privs_5, lw_okq q := List.forall_mem_cons.mpr ⟨lw_p64, List.forall_mem_cons.mpr ⟨lw_p65, List.forall_mem_cons.mpr ⟨lw_p66, fun _ h => absurd h List.not_mem_nil⟩⟩⟩
def lw_privs : List (MethodName × Nat) := lw_privs_1 ++ (lw_privs_2 ++ (lw_privs_3 ++ (lw_privs_4 ++ (lw_privs_5))))
def lw_tbl : List Cond := k2_sels lw_privs ++ tables_1
theorem lw_privs_ok : ∀ q ∈ lw_privs, lw_okq q := by
  show ∀ q ∈ lw_privs_1 ++ (lw_privs_2 ++ (lw_privs_3 ++ (lw_privs_4 ++ (lw_privs_5)))), lw_okq q
  exact List.forall_mem_append.mpr ⟨lw_r1, List.forall_mem_append.mpr ⟨lw_r2, List.forall_mem_append.mpr ⟨lw_r3, List.forall_mem_append.mpr ⟨lw_r4, lw_r5⟩⟩⟩⟩
-- ===== end of PART A; then your names; then what follows =====
end
section
/-! ===== BEGIN printed: names, fields, word lists, decode rows ===== -/
def RX0 : String := "BoardCords$Day"
def TX0 : u_T := fun k => match k with
  | 0 => ("BoardCords$Day", "told", "LBoardCords$Told;", true)
  | 1 => ("BoardCords$Day", "trial", "LBoardCords$Moment;", true)
  | 2 => ("BoardCords$Day", "order", "[I", true)
  | 3 => ("BoardCords$Day", "firstDone", "I", false)
  | _ => ("BoardCords$Day", "lacksCord", "Z", false)
def tyX0 : Nat → FieldType := fun k => match k with
  | 0 => .object "BoardCords$Told"
  | 1 => .object "BoardCords$Moment"
  | 2 => .array .int
  | 3 => .int
  | _ => .boolean
abbrev wsX00 : List Cond := u_ws RX0 TX0 5
theorem nmX0 : ∀ a, a < 5 → ∀ b, b < 5 → a ≠ b → (TX0 a).2.1 ≠ (TX0 b).2.1 := by decide +kernel
theorem tyX0_ok : ∀ k, k < 5 → parseFieldDescriptor (TX0 k).2.2.1 = some (tyX0 k) := by decide +kernel
abbrev cX0_init : ByteArray := prog_2_method_1_code
def yX0_init : MethodName := ⟨RX0, "<init>", "(LBoardCords$Told;)V"⟩
abbrev cX0_go : ByteArray := prog_2_method_2_code
def yX0_go : MethodName := ⟨RX0, "go", "(LBoardCords$Moment;III)V"⟩
abbrev cX0_sort : ByteArray := prog_2_method_3_code
def yX0_sort : MethodName := ⟨RX0, "sort", "(I)V"⟩
abbrev cX0_key : ByteArray := prog_2_method_4_code
def yX0_key : MethodName := ⟨RX0, "key", "(II)I"⟩
abbrev cX0_plugAll : ByteArray := prog_2_method_5_code
def yX0_plugAll : MethodName := ⟨RX0, "plugAll", "(I)V"⟩
abbrev cX0_lowest : ByteArray := prog_2_method_6_code
def yX0_lowest : MethodName := ⟨RX0, "lowest", "(I)I"⟩
def RX1 : String := "BoardCords$HoleSearch"
def TX1 : u_T := fun k => match k with
  | 0 => ("BoardCords$HoleSearch", "told", "LBoardCords$Told;", true)
  | 1 => ("BoardCords$HoleSearch", "row", "[I", true)
  | 2 => ("BoardCords$HoleSearch", "best", "[I", true)
  | _ => ("BoardCords$HoleSearch", "least", "I", false)
def tyX1 : Nat → FieldType := fun k => match k with
  | 0 => .object "BoardCords$Told"
  | 1 => .array .int
  | 2 => .array .int
  | _ => .int
abbrev wsX10 : List Cond := u_ws RX1 TX1 4
theorem nmX1 : ∀ a, a < 4 → ∀ b, b < 4 → a ≠ b → (TX1 a).2.1 ≠ (TX1 b).2.1 := by decide +kernel
theorem tyX1_ok : ∀ k, k < 4 → parseFieldDescriptor (TX1 k).2.2.1 = some (tyX1 k) := by decide +kernel
abbrev cX1_init : ByteArray := prog_3_method_1_code
def yX1_init : MethodName := ⟨RX1, "<init>", "(LBoardCords$Told;)V"⟩
abbrev cX1_inAll : ByteArray := prog_3_method_2_code
def yX1_inAll : MethodName := ⟨RX1, "inAll", "([I)I"⟩
abbrev cX1_bestExchange : ByteArray := prog_3_method_3_code
def yX1_bestExchange : MethodName := ⟨RX1, "bestExchange", "([I)I"⟩
abbrev cX1_find : ByteArray := prog_3_method_4_code
def yX1_find : MethodName := ⟨RX1, "find", "()V"⟩
def RX2 : String := "BoardCords$Moment"
def TX2 : u_T := fun k => match k with
  | 0 => ("BoardCords$Moment", "told", "LBoardCords$Told;", true)
  | 1 => ("BoardCords$Moment", "minute", "I", false)
  | 2 => ("BoardCords$Moment", "hole", "[I", true)
  | 3 => ("BoardCords$Moment", "how", "[I", true)
  | 4 => ("BoardCords$Moment", "left", "[I", true)
  | _ => ("BoardCords$Moment", "waited", "[I", true)
def tyX2 : Nat → FieldType := fun k => match k with
  | 0 => .object "BoardCords$Told"
  | 1 => .int
  | 2 => .array .int
  | 3 => .array .int
  | 4 => .array .int
  | _ => .array .int
abbrev wsX20 : List Cond := u_ws RX2 TX2 6
theorem nmX2 : ∀ a, a < 6 → ∀ b, b < 6 → a ≠ b → (TX2 a).2.1 ≠ (TX2 b).2.1 := by decide +kernel
theorem tyX2_ok : ∀ k, k < 6 → parseFieldDescriptor (TX2 k).2.2.1 = some (tyX2 k) := by decide +kernel
abbrev cX2_init : ByteArray := prog_4_method_1_code
def yX2_init : MethodName := ⟨RX2, "<init>", "(LBoardCords$Told;)V"⟩
abbrev cX2_begin : ByteArray := prog_4_method_2_code
def yX2_begin : MethodName := ⟨RX2, "begin", "()V"⟩
abbrev cX2_letFall : ByteArray := prog_4_method_3_code
def yX2_letFall : MethodName := ⟨RX2, "letFall", "()V"⟩
abbrev cX2_those : ByteArray := prog_4_method_4_code
def yX2_those : MethodName := ⟨RX2, "those", "(I)I"⟩
abbrev cX2_engagedBy : ByteArray := prog_4_method_5_code
def yX2_engagedBy : MethodName := ⟨RX2, "engagedBy", "(I)I"⟩
abbrev cX2_linesFree : ByteArray := prog_4_method_6_code
def yX2_linesFree : MethodName := ⟨RX2, "linesFree", "(II)Z"⟩
abbrev cX2_hasRoom : ByteArray := prog_4_method_7_code
def yX2_hasRoom : MethodName := ⟨RX2, "hasRoom", "(III)Z"⟩
abbrev cX2_canBePlugged : ByteArray := prog_4_method_8_code
def yX2_canBePlugged : MethodName := ⟨RX2, "canBePlugged", "(II)Z"⟩
abbrev cX2_lacksCord : ByteArray := prog_4_method_9_code
def yX2_lacksCord : MethodName := ⟨RX2, "lacksCord", "(I)Z"⟩
abbrev cX2_plug : ByteArray := prog_4_method_10_code
def yX2_plug : MethodName := ⟨RX2, "plug", "(I)V"⟩
abbrev cX2_pull : ByteArray := prog_4_method_11_code
def yX2_pull : MethodName := ⟨RX2, "pull", "(I)V"⟩
abbrev cX2_passMinute : ByteArray := prog_4_method_12_code
def yX2_passMinute : MethodName := ⟨RX2, "passMinute", "()V"⟩
abbrev cX2_waitedOf : ByteArray := prog_4_method_13_code
def yX2_waitedOf : MethodName := ⟨RX2, "waitedOf", "(I)I"⟩
abbrev cX2_leftOf : ByteArray := prog_4_method_14_code
def yX2_leftOf : MethodName := ⟨RX2, "leftOf", "(I)I"⟩
abbrev cX2_sumOf : ByteArray := prog_4_method_15_code
def yX2_sumOf : MethodName := ⟨RX2, "sumOf", "([II)I"⟩
abbrev cX2_leastCut : ByteArray := prog_4_method_16_code
def yX2_leastCut : MethodName := ⟨RX2, "leastCut", "(I)I"⟩
abbrev cX2_cutsLess : ByteArray := prog_4_method_17_code
def yX2_cutsLess : MethodName := ⟨RX2, "cutsLess", "(II)Z"⟩
abbrev cX2_cross : ByteArray := prog_4_method_18_code
def yX2_cross : MethodName := ⟨RX2, "cross", "(II)Z"⟩
abbrev cX2_isBetween : ByteArray := prog_4_method_19_code
def yX2_isBetween : MethodName := ⟨RX2, "isBetween", "(II)Z"⟩
abbrev cX2_crossedBy : ByteArray := prog_4_method_20_code
def yX2_crossedBy : MethodName := ⟨RX2, "crossedBy", "(I)I"⟩
abbrev cX2_crossings : ByteArray := prog_4_method_21_code
def yX2_crossings : MethodName := ⟨RX2, "crossings", "()I"⟩
abbrev cX2_save : ByteArray := prog_4_method_22_code
def yX2_save : MethodName := ⟨RX2, "save", "([II)V"⟩
abbrev cX2_load : ByteArray := prog_4_method_23_code
def yX2_load : MethodName := ⟨RX2, "load", "([II)V"⟩
abbrev cX2_become : ByteArray := prog_4_method_24_code
def yX2_become : MethodName := ⟨RX2, "become", "(LBoardCords$Moment;)V"⟩
def RX3 : String := "BoardCords$Past"
def TX3 : u_T := fun k => match k with
  | 0 => ("BoardCords$Past", "cells", "[I", true)
  | 1 => ("BoardCords$Past", "next", "I", false)
  | _ => ("BoardCords$Past", "known", "I", false)
def tyX3 : Nat → FieldType := fun k => match k with
  | 0 => .array .int
  | 1 => .int
  | _ => .int
abbrev wsX30 : List Cond := u_ws RX3 TX3 3
theorem nmX3 : ∀ a, a < 3 → ∀ b, b < 3 → a ≠ b → (TX3 a).2.1 ≠ (TX3 b).2.1 := by decide +kernel
theorem tyX3_ok : ∀ k, k < 3 → parseFieldDescriptor (TX3 k).2.2.1 = some (tyX3 k) := by decide +kernel
abbrev cX3_init : ByteArray := prog_5_method_1_code
def yX3_init : MethodName := ⟨RX3, "<init>", "()V"⟩
abbrev cX3_add : ByteArray := prog_5_method_2_code
def yX3_add : MethodName := ⟨RX3, "add", "(LBoardCords$Moment;)V"⟩
abbrev cX3_takeBack : ByteArray := prog_5_method_3_code
def yX3_takeBack : MethodName := ⟨RX3, "takeBack", "(LBoardCords$Moment;)V"⟩
abbrev cX3_forget : ByteArray := prog_5_method_4_code
def yX3_forget : MethodName := ⟨RX3, "forget", "()V"⟩
def RX4 : String := "BoardCords$Reader"
def TX4 : u_T := fun k => match k with
  | 0 => ("BoardCords$Reader", "draft", "LBoardCords$Told;", true)
  | 1 => ("BoardCords$Reader", "text", "[I", true)
  | 2 => ("BoardCords$Reader", "length", "I", false)
  | 3 => ("BoardCords$Reader", "place", "I", false)
  | 4 => ("BoardCords$Reader", "fault", "I", false)
  | 5 => ("BoardCords$Reader", "items", "I", false)
  | _ => ("BoardCords$Reader", "cordsTold", "Z", false)
def tyX4 : Nat → FieldType := fun k => match k with
  | 0 => .object "BoardCords$Told"
  | 1 => .array .int
  | 2 => .int
  | 3 => .int
  | 4 => .int
  | 5 => .int
  | _ => .boolean
abbrev wsX40 : List Cond := u_ws RX4 TX4 7
theorem nmX4 : ∀ a, a < 7 → ∀ b, b < 7 → a ≠ b → (TX4 a).2.1 ≠ (TX4 b).2.1 := by decide +kernel
theorem tyX4_ok : ∀ k, k < 7 → parseFieldDescriptor (TX4 k).2.2.1 = some (tyX4 k) := by decide +kernel
abbrev cX4_init : ByteArray := prog_6_method_1_code
def yX4_init : MethodName := ⟨RX4, "<init>", "([I)V"⟩
abbrev cX4_read : ByteArray := prog_6_method_2_code
def yX4_read : MethodName := ⟨RX4, "read", "(I)I"⟩
abbrev cX4_readItem : ByteArray := prog_6_method_3_code
def yX4_readItem : MethodName := ⟨RX4, "readItem", "()V"⟩
abbrev cX4_readLines : ByteArray := prog_6_method_4_code
def yX4_readLines : MethodName := ⟨RX4, "readLines", "()V"⟩
abbrev cX4_readCords : ByteArray := prog_6_method_5_code
def yX4_readCords : MethodName := ⟨RX4, "readCords", "()V"⟩
abbrev cX4_readHole : ByteArray := prog_6_method_6_code
def yX4_readHole : MethodName := ⟨RX4, "readHole", "()V"⟩
abbrev cX4_readCall : ByteArray := prog_6_method_7_code
def yX4_readCall : MethodName := ⟨RX4, "readCall", "()V"⟩
abbrev cX4_readNumber : ByteArray := prog_6_method_8_code
def yX4_readNumber : MethodName := ⟨RX4, "readNumber", "(III)I"⟩
abbrev cX4_readEnd : ByteArray := prog_6_method_9_code
def yX4_readEnd : MethodName := ⟨RX4, "readEnd", "()V"⟩
abbrev cX4_skipBlanks : ByteArray := prog_6_method_10_code
def yX4_skipBlanks : MethodName := ⟨RX4, "skipBlanks", "()V"⟩
abbrev cX4_letterHere : ByteArray := prog_6_method_11_code
def yX4_letterHere : MethodName := ⟨RX4, "letterHere", "()I"⟩
abbrev cX4_isDigit : ByteArray := prog_6_method_12_code
def yX4_isDigit : MethodName := ⟨RX4, "isDigit", "(I)Z"⟩
abbrev cX4_failAt : ByteArray := prog_6_method_13_code
def yX4_failAt : MethodName := ⟨RX4, "failAt", "(I)V"⟩
def RX5 : String := "BoardCords$RowSearch"
def TX5 : u_T := fun k => match k with
  | 0 => ("BoardCords$RowSearch", "told", "LBoardCords$Told;", true)
  | 1 => ("BoardCords$RowSearch", "row", "[I", true)
  | 2 => ("BoardCords$RowSearch", "best", "[I", true)
  | 3 => ("BoardCords$RowSearch", "size", "I", false)
  | 4 => ("BoardCords$RowSearch", "least", "I", false)
  | 5 => ("BoardCords$RowSearch", "lineBits", "[I", true)
  | 6 => ("BoardCords$RowSearch", "endAtFirst", "[I", true)
  | _ => ("BoardCords$RowSearch", "end", "[I", true)
def tyX5 : Nat → FieldType := fun k => match k with
  | 0 => .object "BoardCords$Told"
  | 1 => .array .int
  | 2 => .array .int
  | 3 => .int
  | 4 => .int
  | 5 => .array .int
  | 6 => .array .int
  | _ => .array .int
abbrev wsX50 : List Cond := u_ws RX5 TX5 8
theorem nmX5 : ∀ a, a < 8 → ∀ b, b < 8 → a ≠ b → (TX5 a).2.1 ≠ (TX5 b).2.1 := by decide +kernel
theorem tyX5_ok : ∀ k, k < 8 → parseFieldDescriptor (TX5 k).2.2.1 = some (tyX5 k) := by decide +kernel
abbrev cX5_init : ByteArray := prog_7_method_1_code
def yX5_init : MethodName := ⟨RX5, "<init>", "(LBoardCords$Told;)V"⟩
abbrev cX5_find : ByteArray := prog_7_method_2_code
def yX5_find : MethodName := ⟨RX5, "find", "(LBoardCords$Moment;)V"⟩
abbrev cX5_prepare : ByteArray := prog_7_method_3_code
def yX5_prepare : MethodName := ⟨RX5, "prepare", "(LBoardCords$Moment;)V"⟩
abbrev cX5_waitsFor : ByteArray := prog_7_method_4_code
def yX5_waitsFor : MethodName := ⟨RX5, "waitsFor", "(I)I"⟩
abbrev cX5_plugAlong : ByteArray := prog_7_method_5_code
def yX5_plugAlong : MethodName := ⟨RX5, "plugAlong", "(I)I"⟩
abbrev cX5_nextEnd : ByteArray := prog_7_method_6_code
def yX5_nextEnd : MethodName := ⟨RX5, "nextEnd", "(I)I"⟩
def RX6 : String := "BoardCords$Told"
def TX6 : u_T := fun k => match k with
  | 0 => ("BoardCords$Told", "lines", "I", false)
  | 1 => ("BoardCords$Told", "cords", "I", false)
  | 2 => ("BoardCords$Told", "calls", "I", false)
  | 3 => ("BoardCords$Told", "hole", "[I", true)
  | 4 => ("BoardCords$Told", "fall", "[I", true)
  | 5 => ("BoardCords$Told", "from", "[I", true)
  | 6 => ("BoardCords$Told", "to", "[I", true)
  | 7 => ("BoardCords$Told", "length", "[I", true)
  | _ => ("BoardCords$Told", "rank", "[I", true)
def tyX6 : Nat → FieldType := fun k => match k with
  | 0 => .int
  | 1 => .int
  | 2 => .int
  | 3 => .array .int
  | 4 => .array .int
  | 5 => .array .int
  | 6 => .array .int
  | 7 => .array .int
  | _ => .array .int
abbrev wsX60 : List Cond := u_ws RX6 TX6 9
theorem nmX6 : ∀ a, a < 9 → ∀ b, b < 9 → a ≠ b → (TX6 a).2.1 ≠ (TX6 b).2.1 := by decide +kernel
theorem tyX6_ok : ∀ k, k < 9 → parseFieldDescriptor (TX6 k).2.2.1 = some (tyX6 k) := by decide +kernel
abbrev cX6_init : ByteArray := prog_8_method_1_code
def yX6_init : MethodName := ⟨RX6, "<init>", "()V"⟩
abbrev cX6_asAtFirst : ByteArray := prog_8_method_2_code
def yX6_asAtFirst : MethodName := ⟨RX6, "asAtFirst", "()V"⟩
abbrev cX6_hasLine : ByteArray := prog_8_method_3_code
def yX6_hasLine : MethodName := ⟨RX6, "hasLine", "(I)Z"⟩
abbrev cX6_hasCall : ByteArray := prog_8_method_4_code
def yX6_hasCall : MethodName := ⟨RX6, "hasCall", "(I)Z"⟩
abbrev cX6_giveHole : ByteArray := prog_8_method_5_code
def yX6_giveHole : MethodName := ⟨RX6, "giveHole", "(II)V"⟩
abbrev cX6_shareLine : ByteArray := prog_8_method_6_code
def yX6_shareLine : MethodName := ⟨RX6, "shareLine", "(II)Z"⟩
abbrev cX6_fallingAt : ByteArray := prog_8_method_7_code
def yX6_fallingAt : MethodName := ⟨RX6, "fallingAt", "(I)I"⟩
abbrev cX6_apart : ByteArray := prog_8_method_8_code
def yX6_apart : MethodName := ⟨RX6, "apart", "(I[I)I"⟩
abbrev cX6_become : ByteArray := prog_8_method_9_code
def yX6_become : MethodName := ⟨RX6, "become", "(LBoardCords$Told;)V"⟩
def RX7 : String := "BoardCords"
def TX7 : u_T := fun k => match k with
  | 0 => ("BoardCords", "text", "[I", true)
  | 1 => ("BoardCords", "told", "LBoardCords$Told;", true)
  | 2 => ("BoardCords", "reader", "LBoardCords$Reader;", true)
  | 3 => ("BoardCords", "present", "LBoardCords$Moment;", true)
  | 4 => ("BoardCords", "past", "LBoardCords$Past;", true)
  | 5 => ("BoardCords", "images", "[I", true)
  | 6 => ("BoardCords", "kept", "[Z", true)
  | 7 => ("BoardCords", "day", "LBoardCords$Day;", true)
  | 8 => ("BoardCords", "rows", "LBoardCords$RowSearch;", true)
  | 9 => ("BoardCords", "holes", "LBoardCords$HoleSearch;", true)
  | 10 => ("BoardCords", "letters", "I", false)
  | _ => ("BoardCords", "traced", "J", false)
def tyX7 : Nat → FieldType := fun k => match k with
  | 0 => .array .int
  | 1 => .object "BoardCords$Told"
  | 2 => .object "BoardCords$Reader"
  | 3 => .object "BoardCords$Moment"
  | 4 => .object "BoardCords$Past"
  | 5 => .array .int
  | 6 => .array .boolean
  | 7 => .object "BoardCords$Day"
  | 8 => .object "BoardCords$RowSearch"
  | 9 => .object "BoardCords$HoleSearch"
  | 10 => .int
  | _ => .long
abbrev wsX70 : List Cond := u_ws RX7 TX7 12
theorem nmX7 : ∀ a, a < 12 → ∀ b, b < 12 → a ≠ b → (TX7 a).2.1 ≠ (TX7 b).2.1 := by decide +kernel
theorem tyX7_ok : ∀ k, k < 12 → parseFieldDescriptor (TX7 k).2.2.1 = some (tyX7 k) := by decide +kernel
abbrev cX7_init : ByteArray := prog_1_method_1_code
def yX7_init : MethodName := ⟨RX7, "<init>", "()V"⟩
abbrev cX7_type : ByteArray := prog_1_method_2_code
def yX7_type : MethodName := ⟨RX7, "type", "(I)I"⟩
abbrev cX7_clear : ByteArray := prog_1_method_3_code
def yX7_clear : MethodName := ⟨RX7, "clear", "()I"⟩
abbrev cX7_board : ByteArray := prog_1_method_4_code
def yX7_board : MethodName := ⟨RX7, "board", "()I"⟩
abbrev cX7_line : ByteArray := prog_1_method_5_code
def yX7_line : MethodName := ⟨RX7, "line", "(II)I"⟩
abbrev cX7_call : ByteArray := prog_1_method_6_code
def yX7_call : MethodName := ⟨RX7, "call", "(II)I"⟩
abbrev cX7_now : ByteArray := prog_1_method_7_code
def yX7_now : MethodName := ⟨RX7, "now", "(I)I"⟩
abbrev cX7_freeCords : ByteArray := prog_1_method_8_code
def yX7_freeCords : MethodName := ⟨RX7, "freeCords", "()I"⟩
abbrev cX7_minute : ByteArray := prog_1_method_9_code
def yX7_minute : MethodName := ⟨RX7, "minute", "()I"⟩
abbrev cX7_plugs : ByteArray := prog_1_method_10_code
def yX7_plugs : MethodName := ⟨RX7, "plugs", "(I)I"⟩
abbrev cX7_pulls : ByteArray := prog_1_method_11_code
def yX7_pulls : MethodName := ⟨RX7, "pulls", "(I)I"⟩
abbrev cX7_swaps : ByteArray := prog_1_method_12_code
def yX7_swaps : MethodName := ⟨RX7, "swaps", "(II)I"⟩
abbrev cX7_undo : ByteArray := prog_1_method_13_code
def yX7_undo : MethodName := ⟨RX7, "undo", "()I"⟩
abbrev cX7_byRule : ByteArray := prog_1_method_14_code
def yX7_byRule : MethodName := ⟨RX7, "byRule", "(III)I"⟩
abbrev cX7_enough : ByteArray := prog_1_method_15_code
def yX7_enough : MethodName := ⟨RX7, "enough", "(I)I"⟩
abbrev cX7_isRule : ByteArray := prog_1_method_16_code
def yX7_isRule : MethodName := ⟨RX7, "isRule", "(I)Z"⟩
abbrev cX7_bestRow : ByteArray := prog_1_method_17_code
def yX7_bestRow : MethodName := ⟨RX7, "bestRow", "(I)I"⟩
abbrev cX7_cutFor : ByteArray := prog_1_method_18_code
def yX7_cutFor : MethodName := ⟨RX7, "cutFor", "(I)I"⟩
abbrev cX7_longCords : ByteArray := prog_1_method_19_code
def yX7_longCords : MethodName := ⟨RX7, "longCords", "()I"⟩
abbrev cX7_change : ByteArray := prog_1_method_20_code
def yX7_change : MethodName := ⟨RX7, "change", "()I"⟩
abbrev cX7_bestHoles : ByteArray := prog_1_method_21_code
def yX7_bestHoles : MethodName := ⟨RX7, "bestHoles", "(I)I"⟩
abbrev cX7_atOnce : ByteArray := prog_1_method_22_code
def yX7_atOnce : MethodName := ⟨RX7, "atOnce", "(I)I"⟩
abbrev cX7_under : ByteArray := prog_1_method_23_code
def yX7_under : MethodName := ⟨RX7, "under", "(I)I"⟩
abbrev cX7_odds : ByteArray := prog_1_method_24_code
def yX7_odds : MethodName := ⟨RX7, "odds", "(IIII)I"⟩
abbrev cX7_tenthsFree : ByteArray := prog_1_method_25_code
def yX7_tenthsFree : MethodName := ⟨RX7, "tenthsFree", "(III)I"⟩
abbrev cX7_commonDivisor : ByteArray := prog_1_method_26_code
def yX7_commonDivisor : MethodName := ⟨RX7, "commonDivisor", "(I)I"⟩
abbrev cX7_rate : ByteArray := prog_1_method_27_code
def yX7_rate : MethodName := ⟨RX7, "rate", "(II)I"⟩
abbrev cX7_asCall : ByteArray := prog_1_method_28_code
def yX7_asCall : MethodName := ⟨RX7, "asCall", "(I)I"⟩
abbrev cX7_asDoctor : ByteArray := prog_1_method_29_code
def yX7_asDoctor : MethodName := ⟨RX7, "asDoctor", "(I)I"⟩
abbrev cX7_asGossip : ByteArray := prog_1_method_30_code
def yX7_asGossip : MethodName := ⟨RX7, "asGossip", "(I)I"⟩
abbrev cX7_asFire : ByteArray := prog_1_method_31_code
def yX7_asFire : MethodName := ⟨RX7, "asFire", "(I)I"⟩
abbrev cX7_asWife : ByteArray := prog_1_method_32_code
def yX7_asWife : MethodName := ⟨RX7, "asWife", "(I)I"⟩
abbrev cX7_asWrong : ByteArray := prog_1_method_33_code
def yX7_asWrong : MethodName := ⟨RX7, "asWrong", "(I)I"⟩
abbrev cX7_keep : ByteArray := prog_1_method_34_code
def yX7_keep : MethodName := ⟨RX7, "keep", "(I)I"⟩
abbrev cX7_back : ByteArray := prog_1_method_35_code
def yX7_back : MethodName := ⟨RX7, "back", "(I)I"⟩
abbrev cX7_isImage : ByteArray := prog_1_method_36_code
def yX7_isImage : MethodName := ⟨RX7, "isImage", "(I)Z"⟩
abbrev cX7_count : ByteArray := prog_1_method_37_code
def yX7_count : MethodName := ⟨RX7, "count", "(I)I"⟩
abbrev cX7_trace : ByteArray := prog_1_method_38_code
def yX7_trace : MethodName := ⟨RX7, "trace", "()J"⟩
abbrev cX7_exchange : ByteArray := prog_1_method_39_code
def yX7_exchange : MethodName := ⟨RX7, "exchange", "([III)V"⟩
abbrev cX7_nextRow : ByteArray := prog_1_method_40_code
def yX7_nextRow : MethodName := ⟨RX7, "nextRow", "([II)Z"⟩
def RX8 : String := "BoardCordsModel"
def TX8 : u_T := fun k => match k with
  | 0 => ("BoardCordsModel", "letters", "I", false)
  | 1 => ("BoardCordsModel", "text", "[I", true)
  | 2 => ("BoardCordsModel", "position", "I", false)
  | 3 => ("BoardCordsModel", "tokenAt", "I", false)
  | 4 => ("BoardCordsModel", "token", "I", false)
  | 5 => ("BoardCordsModel", "number", "I", false)
  | 6 => ("BoardCordsModel", "items", "I", false)
  | 7 => ("BoardCordsModel", "readLines", "I", false)
  | 8 => ("BoardCordsModel", "readCords", "I", false)
  | 9 => ("BoardCordsModel", "hasCords", "Z", false)
  | 10 => ("BoardCordsModel", "readHole", "[I", true)
  | 11 => ("BoardCordsModel", "readCalls", "I", false)
  | 12 => ("BoardCordsModel", "readCall", "[I", true)
  | 13 => ("BoardCordsModel", "lines", "I", false)
  | 14 => ("BoardCordsModel", "cords", "I", false)
  | 15 => ("BoardCordsModel", "calls", "I", false)
  | 16 => ("BoardCordsModel", "call", "[I", true)
  | 17 => ("BoardCordsModel", "now", "[I", true)
  | 18 => ("BoardCordsModel", "tried", "[I", true)
  | 19 => ("BoardCordsModel", "image", "[I", true)
  | 20 => ("BoardCordsModel", "isKept", "[Z", true)
  | 21 => ("BoardCordsModel", "backOf", "[I", true)
  | 22 => ("BoardCordsModel", "backs", "I", false)
  | 23 => ("BoardCordsModel", "order", "[I", true)
  | 24 => ("BoardCordsModel", "row", "[I", true)
  | 25 => ("BoardCordsModel", "found", "[I", true)
  | 26 => ("BoardCordsModel", "foundMany", "I", false)
  | 27 => ("BoardCordsModel", "first", "I", false)
  | _ => ("BoardCordsModel", "trace", "J", false)
def tyX8 : Nat → FieldType := fun k => match k with
  | 0 => .int
  | 1 => .array .int
  | 2 => .int
  | 3 => .int
  | 4 => .int
  | 5 => .int
  | 6 => .int
  | 7 => .int
  | 8 => .int
  | 9 => .boolean
  | 10 => .array .int
  | 11 => .int
  | 12 => .array .int
  | 13 => .int
  | 14 => .int
  | 15 => .int
  | 16 => .array .int
  | 17 => .array .int
  | 18 => .array .int
  | 19 => .array .int
  | 20 => .array .boolean
  | 21 => .array .int
  | 22 => .int
  | 23 => .array .int
  | 24 => .array .int
  | 25 => .array .int
  | 26 => .int
  | 27 => .int
  | _ => .long
abbrev wsX80 : List Cond := u_ws RX8 TX8 29
theorem nmX8 : ∀ a, a < 29 → ∀ b, b < 29 → a ≠ b → (TX8 a).2.1 ≠ (TX8 b).2.1 := by decide +kernel
theorem tyX8_ok : ∀ k, k < 29 → parseFieldDescriptor (TX8 k).2.2.1 = some (tyX8 k) := by decide +kernel
abbrev cX8_init : ByteArray := prog_10_method_1_code
def yX8_init : MethodName := ⟨RX8, "<init>", "()V"⟩
abbrev cX8_in : ByteArray := prog_10_method_2_code
def yX8_in : MethodName := ⟨RX8, "in", "(III)Z"⟩
abbrev cX8_has : ByteArray := prog_10_method_3_code
def yX8_has : MethodName := ⟨RX8, "has", "(II)Z"⟩
abbrev cX8_begin : ByteArray := prog_10_method_4_code
def yX8_begin : MethodName := ⟨RX8, "begin", "()V"⟩
abbrev cX8_isLine : ByteArray := prog_10_method_5_code
def yX8_isLine : MethodName := ⟨RX8, "isLine", "(I)Z"⟩
abbrev cX8_isCall : ByteArray := prog_10_method_6_code
def yX8_isCall : MethodName := ⟨RX8, "isCall", "(I)Z"⟩
abbrev cX8_type : ByteArray := prog_10_method_7_code
def yX8_type : MethodName := ⟨RX8, "type", "(I)I"⟩
abbrev cX8_clear : ByteArray := prog_10_method_8_code
def yX8_clear : MethodName := ⟨RX8, "clear", "()I"⟩
abbrev cX8_nextToken : ByteArray := prog_10_method_9_code
def yX8_nextToken : MethodName := ⟨RX8, "nextToken", "()V"⟩
abbrev cX8_isNumber : ByteArray := prog_10_method_10_code
def yX8_isNumber : MethodName := ⟨RX8, "isNumber", "(II)Z"⟩
abbrev cX8_isEnd : ByteArray := prog_10_method_11_code
def yX8_isEnd : MethodName := ⟨RX8, "isEnd", "()Z"⟩
abbrev cX8_isHole : ByteArray := prog_10_method_12_code
def yX8_isHole : MethodName := ⟨RX8, "isHole", "()Z"⟩
abbrev cX8_isCallItem : ByteArray := prog_10_method_13_code
def yX8_isCallItem : MethodName := ⟨RX8, "isCallItem", "()Z"⟩
abbrev cX8_isItem : ByteArray := prog_10_method_14_code
def yX8_isItem : MethodName := ⟨RX8, "isItem", "()Z"⟩
abbrev cX8_isRead : ByteArray := prog_10_method_15_code
def yX8_isRead : MethodName := ⟨RX8, "isRead", "()Z"⟩
abbrev cX8_board : ByteArray := prog_10_method_16_code
def yX8_board : MethodName := ⟨RX8, "board", "()I"⟩
abbrev cX8_fromOf : ByteArray := prog_10_method_17_code
def yX8_fromOf : MethodName := ⟨RX8, "fromOf", "(I)I"⟩
abbrev cX8_toOf : ByteArray := prog_10_method_18_code
def yX8_toOf : MethodName := ⟨RX8, "toOf", "(I)I"⟩
abbrev cX8_isOn : ByteArray := prog_10_method_19_code
def yX8_isOn : MethodName := ⟨RX8, "isOn", "(II)Z"⟩
abbrev cX8_talkerOn : ByteArray := prog_10_method_20_code
def yX8_talkerOn : MethodName := ⟨RX8, "talkerOn", "([II)I"⟩
abbrev cX8_setOf : ByteArray := prog_10_method_21_code
def yX8_setOf : MethodName := ⟨RX8, "setOf", "([II)I"⟩
abbrev cX8_bits : ByteArray := prog_10_method_22_code
def yX8_bits : MethodName := ⟨RX8, "bits", "(I)I"⟩
abbrev cX8_freeCords : ByteArray := prog_10_method_23_code
def yX8_freeCords : MethodName := ⟨RX8, "freeCords", "([II)I"⟩
abbrev cX8_areFree : ByteArray := prog_10_method_24_code
def yX8_areFree : MethodName := ⟨RX8, "areFree", "([II)Z"⟩
abbrev cX8_canPlug : ByteArray := prog_10_method_25_code
def yX8_canPlug : MethodName := ⟨RX8, "canPlug", "([III)Z"⟩
abbrev cX8_plug : ByteArray := prog_10_method_26_code
def yX8_plug : MethodName := ⟨RX8, "plug", "([II)V"⟩
abbrev cX8_isBetween : ByteArray := prog_10_method_27_code
def yX8_isBetween : MethodName := ⟨RX8, "isBetween", "(III)Z"⟩
abbrev cX8_holeOf : ByteArray := prog_10_method_28_code
def yX8_holeOf : MethodName := ⟨RX8, "holeOf", "(I)I"⟩
abbrev cX8_cross : ByteArray := prog_10_method_29_code
def yX8_cross : MethodName := ⟨RX8, "cross", "(II)Z"⟩
abbrev cX8_crossed : ByteArray := prog_10_method_30_code
def yX8_crossed : MethodName := ⟨RX8, "crossed", "()I"⟩
abbrev cX8_line : ByteArray := prog_10_method_31_code
def yX8_line : MethodName := ⟨RX8, "line", "(II)I"⟩
abbrev cX8_call : ByteArray := prog_10_method_32_code
def yX8_call : MethodName := ⟨RX8, "call", "(II)I"⟩
abbrev cX8_now : ByteArray := prog_10_method_33_code
def yX8_now : MethodName := ⟨RX8, "now", "(I)I"⟩
abbrev cX8_copy : ByteArray := prog_10_method_34_code
def yX8_copy : MethodName := ⟨RX8, "copy", "([II[II)V"⟩
abbrev cX8_note : ByteArray := prog_10_method_35_code
def yX8_note : MethodName := ⟨RX8, "note", "()V"⟩
abbrev cX8_pass : ByteArray := prog_10_method_36_code
def yX8_pass : MethodName := ⟨RX8, "pass", "([I)V"⟩
abbrev cX8_minute : ByteArray := prog_10_method_37_code
def yX8_minute : MethodName := ⟨RX8, "minute", "()I"⟩
abbrev cX8_plugs : ByteArray := prog_10_method_38_code
def yX8_plugs : MethodName := ⟨RX8, "plugs", "(I)I"⟩
abbrev cX8_pulls : ByteArray := prog_10_method_39_code
def yX8_pulls : MethodName := ⟨RX8, "pulls", "(I)I"⟩
abbrev cX8_swaps : ByteArray := prog_10_method_40_code
def yX8_swaps : MethodName := ⟨RX8, "swaps", "(II)I"⟩
abbrev cX8_undo : ByteArray := prog_10_method_41_code
def yX8_undo : MethodName := ⟨RX8, "undo", "()I"⟩
abbrev cX8_isAhead : ByteArray := prog_10_method_42_code
def yX8_isAhead : MethodName := ⟨RX8, "isAhead", "(III)Z"⟩
abbrev cX8_layOrder : ByteArray := prog_10_method_43_code
def yX8_layOrder : MethodName := ⟨RX8, "layOrder", "(I)V"⟩
abbrev cX8_plugAll : ByteArray := prog_10_method_44_code
def yX8_plugAll : MethodName := ⟨RX8, "plugAll", "([III)V"⟩
abbrev cX8_byRule : ByteArray := prog_10_method_45_code
def yX8_byRule : MethodName := ⟨RX8, "byRule", "(III)I"⟩
abbrev cX8_isEnough : ByteArray := prog_10_method_46_code
def yX8_isEnough : MethodName := ⟨RX8, "isEnough", "(I)Z"⟩
abbrev cX8_enough : ByteArray := prog_10_method_47_code
def yX8_enough : MethodName := ⟨RX8, "enough", "(I)I"⟩
abbrev cX8_waitedBy : ByteArray := prog_10_method_48_code
def yX8_waitedBy : MethodName := ⟨RX8, "waitedBy", "(I)I"⟩
abbrev cX8_nextRow : ByteArray := prog_10_method_49_code
def yX8_nextRow : MethodName := ⟨RX8, "nextRow", "([II)Z"⟩
abbrev cX8_bestRow : ByteArray := prog_10_method_50_code
def yX8_bestRow : MethodName := ⟨RX8, "bestRow", "(I)I"⟩
abbrev cX8_cutFor : ByteArray := prog_10_method_51_code
def yX8_cutFor : MethodName := ⟨RX8, "cutFor", "(I)I"⟩
abbrev cX8_distance : ByteArray := prog_10_method_52_code
def yX8_distance : MethodName := ⟨RX8, "distance", "(II)I"⟩
abbrev cX8_longBy : ByteArray := prog_10_method_53_code
def yX8_longBy : MethodName := ⟨RX8, "longBy", "([II)I"⟩
abbrev cX8_longCords : ByteArray := prog_10_method_54_code
def yX8_longCords : MethodName := ⟨RX8, "longCords", "()I"⟩
abbrev cX8_change : ByteArray := prog_10_method_55_code
def yX8_change : MethodName := ⟨RX8, "change", "()I"⟩
abbrev cX8_bestHoles : ByteArray := prog_10_method_56_code
def yX8_bestHoles : MethodName := ⟨RX8, "bestHoles", "(I)I"⟩
abbrev cX8_atOnce : ByteArray := prog_10_method_57_code
def yX8_atOnce : MethodName := ⟨RX8, "atOnce", "(I)I"⟩
abbrev cX8_under : ByteArray := prog_10_method_58_code
def yX8_under : MethodName := ⟨RX8, "under", "(I)I"⟩
abbrev cX8_odds : ByteArray := prog_10_method_59_code
def yX8_odds : MethodName := ⟨RX8, "odds", "(IIII)I"⟩
abbrev cX8_rankOf : ByteArray := prog_10_method_60_code
def yX8_rankOf : MethodName := ⟨RX8, "rankOf", "(I)I"⟩
abbrev cX8_doctorOf : ByteArray := prog_10_method_61_code
def yX8_doctorOf : MethodName := ⟨RX8, "doctorOf", "(I)I"⟩
abbrev cX8_gossipOf : ByteArray := prog_10_method_62_code
def yX8_gossipOf : MethodName := ⟨RX8, "gossipOf", "(I)I"⟩
abbrev cX8_rate : ByteArray := prog_10_method_63_code
def yX8_rate : MethodName := ⟨RX8, "rate", "(II)I"⟩
abbrev cX8_keep : ByteArray := prog_10_method_64_code
def yX8_keep : MethodName := ⟨RX8, "keep", "(I)I"⟩
abbrev cX8_back : ByteArray := prog_10_method_65_code
def yX8_back : MethodName := ⟨RX8, "back", "(I)I"⟩
abbrev cX8_count : ByteArray := prog_10_method_66_code
def yX8_count : MethodName := ⟨RX8, "count", "(I)I"⟩
abbrev cX8_trace : ByteArray := prog_10_method_67_code
def yX8_trace : MethodName := ⟨RX8, "trace", "()J"⟩
def RJ6 : String := "java/lang/Integer"
def TJ6 : u_T := fun k => match k with
  | _ => ("", "", "", false)
def tyJ6 : Nat → FieldType := fun k => match k with
  | _ => .int
abbrev wsJ60 : List Cond := u_ws RJ6 TJ6 0
theorem nmJ6 : ∀ a, a < 0 → ∀ b, b < 0 → a ≠ b → (TJ6 a).2.1 ≠ (TJ6 b).2.1 := by decide +kernel
theorem tyJ6_ok : ∀ k, k < 0 → parseFieldDescriptor (TJ6 k).2.2.1 = some (tyJ6 k) := by decide +kernel
abbrev cJ6_bitCount_0f7a4 : ByteArray := prog_11_method_49_code
def yJ6_bitCount_0f7a4 : MethodName := ⟨RJ6, "bitCount", "(I)I"⟩
def RJ9 : String := "java/lang/Math"
def TJ9 : u_T := fun k => match k with
  | _ => ("", "", "", false)
def tyJ9 : Nat → FieldType := fun k => match k with
  | _ => .int
abbrev wsJ90 : List Cond := u_ws RJ9 TJ9 0
theorem nmJ9 : ∀ a, a < 0 → ∀ b, b < 0 → a ≠ b → (TJ9 a).2.1 ≠ (TJ9 b).2.1 := by decide +kernel
theorem tyJ9_ok : ∀ k, k < 0 → parseFieldDescriptor (TJ9 k).2.2.1 = some (tyJ9 k) := by decide +kernel
abbrev cJ9_abs_0f7a4 : ByteArray := prog_12_method_59_code
def yJ9_abs_0f7a4 : MethodName := ⟨RJ9, "abs", "(I)I"⟩
abbrev cJ9_max_7cf53 : ByteArray := prog_12_method_65_code
def yJ9_max_7cf53 : MethodName := ⟨RJ9, "max", "(II)I"⟩
abbrev cJ9_min_7cf53 : ByteArray := prog_12_method_69_code
def yJ9_min_7cf53 : MethodName := ⟨RJ9, "min", "(II)I"⟩
def RJ10 : String := "java/lang/System"
def TJ10 : u_T := fun k => match k with
  | _ => ("", "", "", false)
def tyJ10 : Nat → FieldType := fun k => match k with
  | _ => .int
abbrev wsJ100 : List Cond := u_ws RJ10 TJ10 0
theorem nmJ10 : ∀ a, a < 0 → ∀ b, b < 0 → a ≠ b → (TJ10 a).2.1 ≠ (TJ10 b).2.1 := by decide +kernel
theorem tyJ10_ok : ∀ k, k < 0 → parseFieldDescriptor (TJ10 k).2.2.1 = some (tyJ10 k) := by decide +kernel
def RL : String := "BoardCordsLaw"
abbrev cL_law : ByteArray := code
def yL_law : MethodName := ⟨RL, "law", "([I)Z"⟩
abbrev vwCl : List vw_C := [(RX0, TX0, 5), (RX1, TX1, 4), (RX2, TX2, 6), (RX3, TX3, 3), (RX4, TX4, 7), (RX5, TX5, 8), (RX6, TX6, 9), (RX7, TX7, 12), (RX8, TX8, 29)]
end
section
theorem dX0_init_0 : decode cX0_init 0 = .ok (.aload_n 0, 1) := by decide +kernel
theorem dX0_init_1 : decode cX0_init 1 = .ok (.invokespecial 3, 3) := by decide +kernel
theorem dX0_init_4 : decode cX0_init 4 = .ok (.aload_n 0, 1) := by decide +kernel
theorem dX0_init_5 : decode cX0_init 5 = .ok (.bipush 7, 2) := by decide +kernel
theorem dX0_init_7 : decode cX0_init 7 = .ok (.newarray .int, 2) := by decide +kernel
theorem dX0_init_9 : decode cX0_init 9 = .ok (.putfield 9, 3) := by decide +kernel
theorem dX0_init_12 : decode cX0_init 12 = .ok (.aload_n 0, 1) := by decide +kernel
theorem dX0_init_13 : decode cX0_init 13 = .ok (.bipush (-9), 2) := by decide +kernel
theorem dX0_init_15 : decode cX0_init 15 = .ok (.putfield 15, 3) := by decide +kernel
theorem dX0_init_18 : decode cX0_init 18 = .ok (.aload_n 0, 1) := by decide +kernel
theorem dX0_init_19 : decode cX0_init 19 = .ok (.aload_n 1, 1) := by decide +kernel
theorem dX0_init_20 : decode cX0_init 20 = .ok (.putfield 19, 3) := by decide +kernel
theorem dX0_init_23 : decode cX0_init 23 = .ok (.aload_n 0, 1) := by decide +kernel
theorem dX0_init_24 : decode cX0_init 24 = .ok (.new 23, 3) := by decide +kernel
theorem dX0_init_27 : decode cX0_init 27 = .ok (.dup, 1) := by decide +kernel
theorem dX0_init_28 : decode cX0_init 28 = .ok (.aload_n 1, 1) := by decide +kernel
theorem dX0_init_29 : decode cX0_init 29 = .ok (.invokespecial 25, 3) := by decide +kernel
theorem dX0_init_32 : decode cX0_init 32 = .ok (.putfield 28, 3) := by decide +kernel
theorem dX0_init_35 : decode cX0_init 35 = .ok (.return_, 1) := by decide +kernel
theorem dX0_go_0 : decode cX0_go 0 = .ok (.aload_n 0, 1) := by decide +kernel
theorem dX0_go_1 : decode cX0_go 1 = .ok (.getfield 28, 3) := by decide +kernel
theorem dX0_go_4 : decode cX0_go 4 = .ok (.aload_n 1, 1) := by decide +kernel
theorem dX0_go_5 : decode cX0_go 5 = .ok (.invokevirtual 32, 3) := by decide +kernel
theorem dX0_go_8 : decode cX0_go 8 = .ok (.aload_n 0, 1) := by decide +kernel
theorem dX0_go_9 : decode cX0_go 9 = .ok (.iload_n 2, 1) := by decide +kernel
theorem dX0_go_10 : decode cX0_go 10 = .ok (.invokevirtual 36, 3) := by decide +kernel
theorem dX0_go_13 : decode cX0_go 13 = .ok (.aload_n 0, 1) := by decide +kernel
theorem dX0_go_14 : decode cX0_go 14 = .ok (.bipush (-9), 2) := by decide +kernel
theorem dX0_go_16 : decode cX0_go 16 = .ok (.putfield 15, 3) := by decide +kernel
theorem dX0_go_19 : decode cX0_go 19 = .ok (.aload_n 0, 1) := by decide +kernel
theorem dX0_go_20 : decode cX0_go 20 = .ok (.iconst 0, 1) := by decide +kernel
theorem dX0_go_21 : decode cX0_go 21 = .ok (.putfield 40, 3) := by decide +kernel
theorem dX0_go_24 : decode cX0_go 24 = .ok (.aload_n 1, 1) := by decide +kernel
theorem dX0_go_25 : decode cX0_go 25 = .ok (.iconst 3, 1) := by decide +kernel
theorem dX0_go_26 : decode cX0_go 26 = .ok (.invokevirtual 44, 3) := by decide +kernel
theorem dX0_go_29 : decode cX0_go 29 = .ok (.istore 5, 2) := by decide +kernel
theorem dX0_go_31 : decode cX0_go 31 = .ok (.iconst 0, 1) := by decide +kernel
theorem dX0_go_32 : decode cX0_go 32 = .ok (.istore 6, 2) := by decide +kernel
theorem dX0_go_34 : decode cX0_go 34 = .ok (.iload 6, 2) := by decide +kernel
theorem dX0_go_36 : decode cX0_go 36 = .ok (.iload_n 3, 1) := by decide +kernel
theorem dX0_go_37 : decode cX0_go 37 = .ok (.if_icmp .ge 69, 3) := by decide +kernel
theorem dX0_go_40 : decode cX0_go 40 = .ok (.aload_n 0, 1) := by decide +kernel
theorem dX0_go_41 : decode cX0_go 41 = .ok (.iload 4, 2) := by decide +kernel
theorem dX0_go_43 : decode cX0_go 43 = .ok (.invokevirtual 48, 3) := by decide +kernel
theorem dX0_go_46 : decode cX0_go 46 = .ok (.aload_n 0, 1) := by decide +kernel
theorem dX0_go_47 : decode cX0_go 47 = .ok (.dup, 1) := by decide +kernel
theorem dX0_go_48 : decode cX0_go 48 = .ok (.getfield 40, 3) := by decide +kernel
theorem dX0_go_51 : decode cX0_go 51 = .ok (.aload_n 0, 1) := by decide +kernel
theorem dX0_go_52 : decode cX0_go 52 = .ok (.getfield 28, 3) := by decide +kernel
theorem dX0_go_55 : decode cX0_go 55 = .ok (.iload 4, 2) := by decide +kernel
theorem dX0_go_57 : decode cX0_go 57 = .ok (.invokevirtual 51, 3) := by decide +kernel
theorem dX0_go_60 : decode cX0_go 60 = .ok (.ior, 1) := by decide +kernel
theorem dX0_go_61 : decode cX0_go 61 = .ok (.putfield 40, 3) := by decide +kernel
theorem dX0_go_64 : decode cX0_go 64 = .ok (.aload_n 0, 1) := by decide +kernel
theorem dX0_go_65 : decode cX0_go 65 = .ok (.getfield 28, 3) := by decide +kernel
theorem dX0_go_68 : decode cX0_go 68 = .ok (.invokevirtual 54, 3) := by decide +kernel
theorem dX0_go_71 : decode cX0_go 71 = .ok (.aload_n 0, 1) := by decide +kernel
theorem dX0_go_72 : decode cX0_go 72 = .ok (.getfield 15, 3) := by decide +kernel
theorem dX0_go_75 : decode cX0_go 75 = .ok (.bipush (-9), 2) := by decide +kernel
theorem dX0_go_77 : decode cX0_go 77 = .ok (.if_icmp .ne 23, 3) := by decide +kernel
theorem dX0_go_80 : decode cX0_go 80 = .ok (.aload_n 0, 1) := by decide +kernel
theorem dX0_go_81 : decode cX0_go 81 = .ok (.aload_n 0, 1) := by decide +kernel
theorem dX0_go_82 : decode cX0_go 82 = .ok (.getfield 28, 3) := by decide +kernel
theorem dX0_go_85 : decode cX0_go 85 = .ok (.iconst 3, 1) := by decide +kernel
theorem dX0_go_86 : decode cX0_go 86 = .ok (.invokevirtual 44, 3) := by decide +kernel
theorem dX0_go_89 : decode cX0_go 89 = .ok (.iload 5, 2) := by decide +kernel
theorem dX0_go_91 : decode cX0_go 91 = .ok (.iconst (-1), 1) := by decide +kernel
theorem dX0_go_92 : decode cX0_go 92 = .ok (.ixor, 1) := by decide +kernel
theorem dX0_go_93 : decode cX0_go 93 = .ok (.iand, 1) := by decide +kernel
theorem dX0_go_94 : decode cX0_go 94 = .ok (.invokestatic 57, 3) := by decide +kernel
theorem dX0_go_97 : decode cX0_go 97 = .ok (.putfield 15, 3) := by decide +kernel
theorem dX0_go_100 : decode cX0_go 100 = .ok (.iinc 6 1, 3) := by decide +kernel
theorem dX0_go_103 : decode cX0_go 103 = .ok (.goto (-69), 3) := by decide +kernel
theorem dX0_go_106 : decode cX0_go 106 = .ok (.return_, 1) := by decide +kernel
theorem dX0_sort_0 : decode cX0_sort 0 = .ok (.iconst 0, 1) := by decide +kernel
theorem dX0_sort_1 : decode cX0_sort 1 = .ok (.istore_n 2, 1) := by decide +kernel
theorem dX0_sort_2 : decode cX0_sort 2 = .ok (.iload_n 2, 1) := by decide +kernel
theorem dX0_sort_3 : decode cX0_sort 3 = .ok (.aload_n 0, 1) := by decide +kernel
theorem dX0_sort_4 : decode cX0_sort 4 = .ok (.getfield 19, 3) := by decide +kernel
theorem dX0_sort_7 : decode cX0_sort 7 = .ok (.getfield 60, 3) := by decide +kernel
theorem dX0_sort_10 : decode cX0_sort 10 = .ok (.if_icmp .ge 64, 3) := by decide +kernel
theorem dX0_sort_13 : decode cX0_sort 13 = .ok (.iload_n 2, 1) := by decide +kernel
theorem dX0_sort_14 : decode cX0_sort 14 = .ok (.istore_n 3, 1) := by decide +kernel
theorem dX0_sort_15 : decode cX0_sort 15 = .ok (.iload_n 3, 1) := by decide +kernel
theorem dX0_sort_16 : decode cX0_sort 16 = .ok (.ifCond .le 45, 3) := by decide +kernel
theorem dX0_sort_19 : decode cX0_sort 19 = .ok (.aload_n 0, 1) := by decide +kernel
theorem dX0_sort_20 : decode cX0_sort 20 = .ok (.iload_n 2, 1) := by decide +kernel
theorem dX0_sort_21 : decode cX0_sort 21 = .ok (.iload_n 1, 1) := by decide +kernel
theorem dX0_sort_22 : decode cX0_sort 22 = .ok (.invokevirtual 65, 3) := by decide +kernel
theorem dX0_sort_25 : decode cX0_sort 25 = .ok (.aload_n 0, 1) := by decide +kernel
theorem dX0_sort_26 : decode cX0_sort 26 = .ok (.aload_n 0, 1) := by decide +kernel
theorem dX0_sort_27 : decode cX0_sort 27 = .ok (.getfield 9, 3) := by decide +kernel
theorem dX0_sort_30 : decode cX0_sort 30 = .ok (.iload_n 3, 1) := by decide +kernel
theorem dX0_sort_31 : decode cX0_sort 31 = .ok (.iconst 1, 1) := by decide +kernel
theorem dX0_sort_32 : decode cX0_sort 32 = .ok (.isub, 1) := by decide +kernel
theorem dX0_sort_33 : decode cX0_sort 33 = .ok (.iaload, 1) := by decide +kernel
theorem dX0_sort_34 : decode cX0_sort 34 = .ok (.iload_n 1, 1) := by decide +kernel
theorem dX0_sort_35 : decode cX0_sort 35 = .ok (.invokevirtual 65, 3) := by decide +kernel
theorem dX0_sort_38 : decode cX0_sort 38 = .ok (.if_icmp .ge 23, 3) := by decide +kernel
theorem dX0_sort_41 : decode cX0_sort 41 = .ok (.aload_n 0, 1) := by decide +kernel
theorem dX0_sort_42 : decode cX0_sort 42 = .ok (.getfield 9, 3) := by decide +kernel
theorem dX0_sort_45 : decode cX0_sort 45 = .ok (.iload_n 3, 1) := by decide +kernel
theorem dX0_sort_46 : decode cX0_sort 46 = .ok (.aload_n 0, 1) := by decide +kernel
theorem dX0_sort_47 : decode cX0_sort 47 = .ok (.getfield 9, 3) := by decide +kernel
theorem dX0_sort_50 : decode cX0_sort 50 = .ok (.iload_n 3, 1) := by decide +kernel
theorem dX0_sort_51 : decode cX0_sort 51 = .ok (.iconst 1, 1) := by decide +kernel
theorem dX0_sort_52 : decode cX0_sort 52 = .ok (.isub, 1) := by decide +kernel
theorem dX0_sort_53 : decode cX0_sort 53 = .ok (.iaload, 1) := by decide +kernel
theorem dX0_sort_54 : decode cX0_sort 54 = .ok (.iastore, 1) := by decide +kernel
theorem dX0_sort_55 : decode cX0_sort 55 = .ok (.iinc 3 (-1), 3) := by decide +kernel
theorem dX0_sort_58 : decode cX0_sort 58 = .ok (.goto (-43), 3) := by decide +kernel
theorem dX0_sort_61 : decode cX0_sort 61 = .ok (.aload_n 0, 1) := by decide +kernel
theorem dX0_sort_62 : decode cX0_sort 62 = .ok (.getfield 9, 3) := by decide +kernel
theorem dX0_sort_65 : decode cX0_sort 65 = .ok (.iload_n 3, 1) := by decide +kernel
theorem dX0_sort_66 : decode cX0_sort 66 = .ok (.iload_n 2, 1) := by decide +kernel
theorem dX0_sort_67 : decode cX0_sort 67 = .ok (.iastore, 1) := by decide +kernel
theorem dX0_sort_68 : decode cX0_sort 68 = .ok (.iinc 2 1, 3) := by decide +kernel
theorem dX0_sort_71 : decode cX0_sort 71 = .ok (.goto (-69), 3) := by decide +kernel
theorem dX0_sort_74 : decode cX0_sort 74 = .ok (.return_, 1) := by decide +kernel
theorem dX0_key_0 : decode cX0_key 0 = .ok (.iload_n 2, 1) := by decide +kernel
theorem dX0_key_1 : decode cX0_key 1 = .ok (.lookupswitch 48 #[(0, 27), (1, 37)], 27) := by decide +kernel
theorem dX0_key_28 : decode cX0_key 28 = .ok (.aload_n 0, 1) := by decide +kernel
theorem dX0_key_29 : decode cX0_key 29 = .ok (.getfield 19, 3) := by decide +kernel
theorem dX0_key_32 : decode cX0_key 32 = .ok (.getfield 69, 3) := by decide +kernel
theorem dX0_key_35 : decode cX0_key 35 = .ok (.iload_n 1, 1) := by decide +kernel
theorem dX0_key_36 : decode cX0_key 36 = .ok (.iaload, 1) := by decide +kernel
theorem dX0_key_37 : decode cX0_key 37 = .ok (.ireturn, 1) := by decide +kernel
theorem dX0_key_38 : decode cX0_key 38 = .ok (.aload_n 0, 1) := by decide +kernel
theorem dX0_key_39 : decode cX0_key 39 = .ok (.getfield 19, 3) := by decide +kernel
theorem dX0_key_42 : decode cX0_key 42 = .ok (.getfield 72, 3) := by decide +kernel
theorem dX0_key_45 : decode cX0_key 45 = .ok (.iload_n 1, 1) := by decide +kernel
theorem dX0_key_46 : decode cX0_key 46 = .ok (.iaload, 1) := by decide +kernel
theorem dX0_key_47 : decode cX0_key 47 = .ok (.ineg, 1) := by decide +kernel
theorem dX0_key_48 : decode cX0_key 48 = .ok (.ireturn, 1) := by decide +kernel
theorem dX0_key_49 : decode cX0_key 49 = .ok (.aload_n 0, 1) := by decide +kernel
theorem dX0_key_50 : decode cX0_key 50 = .ok (.getfield 19, 3) := by decide +kernel
theorem dX0_key_53 : decode cX0_key 53 = .ok (.getfield 75, 3) := by decide +kernel
theorem dX0_key_56 : decode cX0_key 56 = .ok (.iload_n 1, 1) := by decide +kernel
theorem dX0_key_57 : decode cX0_key 57 = .ok (.iaload, 1) := by decide +kernel
theorem dX0_key_58 : decode cX0_key 58 = .ok (.ireturn, 1) := by decide +kernel
theorem dX0_plugAll_0 : decode cX0_plugAll 0 = .ok (.iconst 0, 1) := by decide +kernel
theorem dX0_plugAll_1 : decode cX0_plugAll 1 = .ok (.istore_n 2, 1) := by decide +kernel
theorem dX0_plugAll_2 : decode cX0_plugAll 2 = .ok (.iload_n 2, 1) := by decide +kernel
theorem dX0_plugAll_3 : decode cX0_plugAll 3 = .ok (.aload_n 0, 1) := by decide +kernel
theorem dX0_plugAll_4 : decode cX0_plugAll 4 = .ok (.getfield 19, 3) := by decide +kernel
theorem dX0_plugAll_7 : decode cX0_plugAll 7 = .ok (.getfield 60, 3) := by decide +kernel
theorem dX0_plugAll_10 : decode cX0_plugAll 10 = .ok (.if_icmp .ge 39, 3) := by decide +kernel
theorem dX0_plugAll_13 : decode cX0_plugAll 13 = .ok (.aload_n 0, 1) := by decide +kernel
theorem dX0_plugAll_14 : decode cX0_plugAll 14 = .ok (.getfield 28, 3) := by decide +kernel
theorem dX0_plugAll_17 : decode cX0_plugAll 17 = .ok (.aload_n 0, 1) := by decide +kernel
theorem dX0_plugAll_18 : decode cX0_plugAll 18 = .ok (.getfield 9, 3) := by decide +kernel
theorem dX0_plugAll_21 : decode cX0_plugAll 21 = .ok (.iload_n 2, 1) := by decide +kernel
theorem dX0_plugAll_22 : decode cX0_plugAll 22 = .ok (.iaload, 1) := by decide +kernel
theorem dX0_plugAll_23 : decode cX0_plugAll 23 = .ok (.iload_n 1, 1) := by decide +kernel
theorem dX0_plugAll_24 : decode cX0_plugAll 24 = .ok (.invokevirtual 78, 3) := by decide +kernel
theorem dX0_plugAll_27 : decode cX0_plugAll 27 = .ok (.ifCond .eq 16, 3) := by decide +kernel
theorem dX0_plugAll_30 : decode cX0_plugAll 30 = .ok (.aload_n 0, 1) := by decide +kernel
theorem dX0_plugAll_31 : decode cX0_plugAll 31 = .ok (.getfield 28, 3) := by decide +kernel
theorem dX0_plugAll_34 : decode cX0_plugAll 34 = .ok (.aload_n 0, 1) := by decide +kernel
theorem dX0_plugAll_35 : decode cX0_plugAll 35 = .ok (.getfield 9, 3) := by decide +kernel
theorem dX0_plugAll_38 : decode cX0_plugAll 38 = .ok (.iload_n 2, 1) := by decide +kernel
theorem dX0_plugAll_39 : decode cX0_plugAll 39 = .ok (.iaload, 1) := by decide +kernel
theorem dX0_plugAll_40 : decode cX0_plugAll 40 = .ok (.invokevirtual 82, 3) := by decide +kernel
theorem dX0_plugAll_43 : decode cX0_plugAll 43 = .ok (.iinc 2 1, 3) := by decide +kernel
theorem dX0_plugAll_46 : decode cX0_plugAll 46 = .ok (.goto (-44), 3) := by decide +kernel
theorem dX0_plugAll_49 : decode cX0_plugAll 49 = .ok (.return_, 1) := by decide +kernel
theorem dX0_lowest_0 : decode cX0_lowest 0 = .ok (.iconst 0, 1) := by decide +kernel
theorem dX0_lowest_1 : decode cX0_lowest 1 = .ok (.istore_n 1, 1) := by decide +kernel
theorem dX0_lowest_2 : decode cX0_lowest 2 = .ok (.iload_n 1, 1) := by decide +kernel
theorem dX0_lowest_3 : decode cX0_lowest 3 = .ok (.bipush 7, 2) := by decide +kernel
theorem dX0_lowest_5 : decode cX0_lowest 5 = .ok (.if_icmp .ge 20, 3) := by decide +kernel
theorem dX0_lowest_8 : decode cX0_lowest 8 = .ok (.iload_n 0, 1) := by decide +kernel
theorem dX0_lowest_9 : decode cX0_lowest 9 = .ok (.iload_n 1, 1) := by decide +kernel
theorem dX0_lowest_10 : decode cX0_lowest 10 = .ok (.ishr, 1) := by decide +kernel
theorem dX0_lowest_11 : decode cX0_lowest 11 = .ok (.iconst 1, 1) := by decide +kernel
theorem dX0_lowest_12 : decode cX0_lowest 12 = .ok (.iand, 1) := by decide +kernel
theorem dX0_lowest_13 : decode cX0_lowest 13 = .ok (.iconst 1, 1) := by decide +kernel
theorem dX0_lowest_14 : decode cX0_lowest 14 = .ok (.if_icmp .ne 5, 3) := by decide +kernel
theorem dX0_lowest_17 : decode cX0_lowest 17 = .ok (.iload_n 1, 1) := by decide +kernel
theorem dX0_lowest_18 : decode cX0_lowest 18 = .ok (.ireturn, 1) := by decide +kernel
theorem dX0_lowest_19 : decode cX0_lowest 19 = .ok (.iinc 1 1, 3) := by decide +kernel
theorem dX0_lowest_22 : decode cX0_lowest 22 = .ok (.goto (-20), 3) := by decide +kernel
theorem dX0_lowest_25 : decode cX0_lowest 25 = .ok (.bipush (-9), 2) := by decide +kernel
theorem dX0_lowest_27 : decode cX0_lowest 27 = .ok (.ireturn, 1) := by decide +kernel
theorem dX1_init_0 : decode cX1_init 0 = .ok (.aload_n 0, 1) := by decide +kernel
theorem dX1_init_1 : decode cX1_init 1 = .ok (.invokespecial 3, 3) := by decide +kernel
theorem dX1_init_4 : decode cX1_init 4 = .ok (.aload_n 0, 1) := by decide +kernel
theorem dX1_init_5 : decode cX1_init 5 = .ok (.bipush 6, 2) := by decide +kernel
theorem dX1_init_7 : decode cX1_init 7 = .ok (.newarray .int, 2) := by decide +kernel
theorem dX1_init_9 : decode cX1_init 9 = .ok (.putfield 9, 3) := by decide +kernel
theorem dX1_init_12 : decode cX1_init 12 = .ok (.aload_n 0, 1) := by decide +kernel
theorem dX1_init_13 : decode cX1_init 13 = .ok (.bipush 6, 2) := by decide +kernel
theorem dX1_init_15 : decode cX1_init 15 = .ok (.newarray .int, 2) := by decide +kernel
theorem dX1_init_17 : decode cX1_init 17 = .ok (.putfield 15, 3) := by decide +kernel
theorem dX1_init_20 : decode cX1_init 20 = .ok (.aload_n 0, 1) := by decide +kernel
theorem dX1_init_21 : decode cX1_init 21 = .ok (.aload_n 1, 1) := by decide +kernel
theorem dX1_init_22 : decode cX1_init 22 = .ok (.putfield 18, 3) := by decide +kernel
theorem dX1_init_25 : decode cX1_init 25 = .ok (.return_, 1) := by decide +kernel
theorem dX1_inAll_0 : decode cX1_inAll 0 = .ok (.iconst 0, 1) := by decide +kernel
theorem dX1_inAll_1 : decode cX1_inAll 1 = .ok (.istore_n 2, 1) := by decide +kernel
theorem dX1_inAll_2 : decode cX1_inAll 2 = .ok (.iconst 0, 1) := by decide +kernel
theorem dX1_inAll_3 : decode cX1_inAll 3 = .ok (.istore_n 3, 1) := by decide +kernel
theorem dX1_inAll_4 : decode cX1_inAll 4 = .ok (.iload_n 3, 1) := by decide +kernel
theorem dX1_inAll_5 : decode cX1_inAll 5 = .ok (.aload_n 0, 1) := by decide +kernel
theorem dX1_inAll_6 : decode cX1_inAll 6 = .ok (.getfield 18, 3) := by decide +kernel
theorem dX1_inAll_9 : decode cX1_inAll 9 = .ok (.getfield 22, 3) := by decide +kernel
theorem dX1_inAll_12 : decode cX1_inAll 12 = .ok (.if_icmp .ge 21, 3) := by decide +kernel
theorem dX1_inAll_15 : decode cX1_inAll 15 = .ok (.iload_n 2, 1) := by decide +kernel
theorem dX1_inAll_16 : decode cX1_inAll 16 = .ok (.aload_n 0, 1) := by decide +kernel
theorem dX1_inAll_17 : decode cX1_inAll 17 = .ok (.getfield 18, 3) := by decide +kernel
theorem dX1_inAll_20 : decode cX1_inAll 20 = .ok (.iload_n 3, 1) := by decide +kernel
theorem dX1_inAll_21 : decode cX1_inAll 21 = .ok (.aload_n 1, 1) := by decide +kernel
theorem dX1_inAll_22 : decode cX1_inAll 22 = .ok (.invokevirtual 28, 3) := by decide +kernel
theorem dX1_inAll_25 : decode cX1_inAll 25 = .ok (.iadd, 1) := by decide +kernel
theorem dX1_inAll_26 : decode cX1_inAll 26 = .ok (.istore_n 2, 1) := by decide +kernel
theorem dX1_inAll_27 : decode cX1_inAll 27 = .ok (.iinc 3 1, 3) := by decide +kernel
theorem dX1_inAll_30 : decode cX1_inAll 30 = .ok (.goto (-26), 3) := by decide +kernel
theorem dX1_inAll_33 : decode cX1_inAll 33 = .ok (.iload_n 2, 1) := by decide +kernel
theorem dX1_inAll_34 : decode cX1_inAll 34 = .ok (.ireturn, 1) := by decide +kernel
theorem dX1_bestExchange_0 : decode cX1_bestExchange 0 = .ok (.aload_n 1, 1) := by decide +kernel
theorem dX1_bestExchange_1 : decode cX1_bestExchange 1 = .ok (.iconst 0, 1) := by decide +kernel
theorem dX1_bestExchange_2 : decode cX1_bestExchange 2 = .ok (.aload_n 0, 1) := by decide +kernel
theorem dX1_bestExchange_3 : decode cX1_bestExchange 3 = .ok (.getfield 9, 3) := by decide +kernel
theorem dX1_bestExchange_6 : decode cX1_bestExchange 6 = .ok (.iconst 0, 1) := by decide +kernel
theorem dX1_bestExchange_7 : decode cX1_bestExchange 7 = .ok (.bipush 6, 2) := by decide +kernel
theorem dX1_bestExchange_9 : decode cX1_bestExchange 9 = .ok (.invokestatic 32, 3) := by decide +kernel
theorem dX1_bestExchange_12 : decode cX1_bestExchange 12 = .ok (.aload_n 0, 1) := by decide +kernel
theorem dX1_bestExchange_13 : decode cX1_bestExchange 13 = .ok (.aload_n 0, 1) := by decide +kernel
theorem dX1_bestExchange_14 : decode cX1_bestExchange 14 = .ok (.getfield 9, 3) := by decide +kernel
theorem dX1_bestExchange_17 : decode cX1_bestExchange 17 = .ok (.invokevirtual 38, 3) := by decide +kernel
theorem dX1_bestExchange_20 : decode cX1_bestExchange 20 = .ok (.istore_n 2, 1) := by decide +kernel
theorem dX1_bestExchange_21 : decode cX1_bestExchange 21 = .ok (.bipush (-9), 2) := by decide +kernel
theorem dX1_bestExchange_23 : decode cX1_bestExchange 23 = .ok (.istore_n 3, 1) := by decide +kernel
theorem dX1_bestExchange_24 : decode cX1_bestExchange 24 = .ok (.iconst 0, 1) := by decide +kernel
theorem dX1_bestExchange_25 : decode cX1_bestExchange 25 = .ok (.istore 4, 2) := by decide +kernel
theorem dX1_bestExchange_27 : decode cX1_bestExchange 27 = .ok (.iload 4, 2) := by decide +kernel
theorem dX1_bestExchange_29 : decode cX1_bestExchange 29 = .ok (.aload_n 0, 1) := by decide +kernel
theorem dX1_bestExchange_30 : decode cX1_bestExchange 30 = .ok (.getfield 18, 3) := by decide +kernel
theorem dX1_bestExchange_33 : decode cX1_bestExchange 33 = .ok (.getfield 42, 3) := by decide +kernel
theorem dX1_bestExchange_36 : decode cX1_bestExchange 36 = .ok (.if_icmp .ge 83, 3) := by decide +kernel
theorem dX1_bestExchange_39 : decode cX1_bestExchange 39 = .ok (.iload 4, 2) := by decide +kernel
theorem dX1_bestExchange_41 : decode cX1_bestExchange 41 = .ok (.iconst 1, 1) := by decide +kernel
theorem dX1_bestExchange_42 : decode cX1_bestExchange 42 = .ok (.iadd, 1) := by decide +kernel
theorem dX1_bestExchange_43 : decode cX1_bestExchange 43 = .ok (.istore 5, 2) := by decide +kernel
theorem dX1_bestExchange_45 : decode cX1_bestExchange 45 = .ok (.iload 5, 2) := by decide +kernel
theorem dX1_bestExchange_47 : decode cX1_bestExchange 47 = .ok (.aload_n 0, 1) := by decide +kernel
theorem dX1_bestExchange_48 : decode cX1_bestExchange 48 = .ok (.getfield 18, 3) := by decide +kernel
theorem dX1_bestExchange_51 : decode cX1_bestExchange 51 = .ok (.getfield 42, 3) := by decide +kernel
theorem dX1_bestExchange_54 : decode cX1_bestExchange 54 = .ok (.if_icmp .ge 59, 3) := by decide +kernel
theorem dX1_bestExchange_57 : decode cX1_bestExchange 57 = .ok (.aload_n 0, 1) := by decide +kernel
theorem dX1_bestExchange_58 : decode cX1_bestExchange 58 = .ok (.getfield 9, 3) := by decide +kernel
theorem dX1_bestExchange_61 : decode cX1_bestExchange 61 = .ok (.iload 4, 2) := by decide +kernel
theorem dX1_bestExchange_63 : decode cX1_bestExchange 63 = .ok (.iload 5, 2) := by decide +kernel
theorem dX1_bestExchange_65 : decode cX1_bestExchange 65 = .ok (.invokestatic 45, 3) := by decide +kernel
theorem dX1_bestExchange_68 : decode cX1_bestExchange 68 = .ok (.aload_n 0, 1) := by decide +kernel
theorem dX1_bestExchange_69 : decode cX1_bestExchange 69 = .ok (.aload_n 0, 1) := by decide +kernel
theorem dX1_bestExchange_70 : decode cX1_bestExchange 70 = .ok (.getfield 9, 3) := by decide +kernel
theorem dX1_bestExchange_73 : decode cX1_bestExchange 73 = .ok (.invokevirtual 38, 3) := by decide +kernel
theorem dX1_bestExchange_76 : decode cX1_bestExchange 76 = .ok (.istore 6, 2) := by decide +kernel
theorem dX1_bestExchange_78 : decode cX1_bestExchange 78 = .ok (.aload_n 0, 1) := by decide +kernel
theorem dX1_bestExchange_79 : decode cX1_bestExchange 79 = .ok (.getfield 9, 3) := by decide +kernel
theorem dX1_bestExchange_82 : decode cX1_bestExchange 82 = .ok (.iload 4, 2) := by decide +kernel
theorem dX1_bestExchange_84 : decode cX1_bestExchange 84 = .ok (.iload 5, 2) := by decide +kernel
theorem dX1_bestExchange_86 : decode cX1_bestExchange 86 = .ok (.invokestatic 45, 3) := by decide +kernel
theorem dX1_bestExchange_89 : decode cX1_bestExchange 89 = .ok (.iload 6, 2) := by decide +kernel
theorem dX1_bestExchange_91 : decode cX1_bestExchange 91 = .ok (.iload_n 2, 1) := by decide +kernel
theorem dX1_bestExchange_92 : decode cX1_bestExchange 92 = .ok (.if_icmp .ge 15, 3) := by decide +kernel
theorem dX1_bestExchange_95 : decode cX1_bestExchange 95 = .ok (.iload 6, 2) := by decide +kernel
theorem dX1_bestExchange_97 : decode cX1_bestExchange 97 = .ok (.istore_n 2, 1) := by decide +kernel
theorem dX1_bestExchange_98 : decode cX1_bestExchange 98 = .ok (.bipush 10, 2) := by decide +kernel
theorem dX1_bestExchange_100 : decode cX1_bestExchange 100 = .ok (.iload 4, 2) := by decide +kernel
theorem dX1_bestExchange_102 : decode cX1_bestExchange 102 = .ok (.imul, 1) := by decide +kernel
theorem dX1_bestExchange_103 : decode cX1_bestExchange 103 = .ok (.iload 5, 2) := by decide +kernel
theorem dX1_bestExchange_105 : decode cX1_bestExchange 105 = .ok (.iadd, 1) := by decide +kernel
theorem dX1_bestExchange_106 : decode cX1_bestExchange 106 = .ok (.istore_n 3, 1) := by decide +kernel
theorem dX1_bestExchange_107 : decode cX1_bestExchange 107 = .ok (.iinc 5 1, 3) := by decide +kernel
theorem dX1_bestExchange_110 : decode cX1_bestExchange 110 = .ok (.goto (-65), 3) := by decide +kernel
theorem dX1_bestExchange_113 : decode cX1_bestExchange 113 = .ok (.iinc 4 1, 3) := by decide +kernel
theorem dX1_bestExchange_116 : decode cX1_bestExchange 116 = .ok (.goto (-89), 3) := by decide +kernel
theorem dX1_bestExchange_119 : decode cX1_bestExchange 119 = .ok (.iload_n 3, 1) := by decide +kernel
theorem dX1_bestExchange_120 : decode cX1_bestExchange 120 = .ok (.ireturn, 1) := by decide +kernel
theorem dX1_find_0 : decode cX1_find 0 = .ok (.iconst 0, 1) := by decide +kernel
theorem dX1_find_1 : decode cX1_find 1 = .ok (.istore_n 1, 1) := by decide +kernel
theorem dX1_find_2 : decode cX1_find 2 = .ok (.iload_n 1, 1) := by decide +kernel
theorem dX1_find_3 : decode cX1_find 3 = .ok (.aload_n 0, 1) := by decide +kernel
theorem dX1_find_4 : decode cX1_find 4 = .ok (.getfield 18, 3) := by decide +kernel
theorem dX1_find_7 : decode cX1_find 7 = .ok (.getfield 42, 3) := by decide +kernel
theorem dX1_find_10 : decode cX1_find 10 = .ok (.if_icmp .ge 16, 3) := by decide +kernel
theorem dX1_find_13 : decode cX1_find 13 = .ok (.aload_n 0, 1) := by decide +kernel
theorem dX1_find_14 : decode cX1_find 14 = .ok (.getfield 9, 3) := by decide +kernel
theorem dX1_find_17 : decode cX1_find 17 = .ok (.iload_n 1, 1) := by decide +kernel
theorem dX1_find_18 : decode cX1_find 18 = .ok (.iload_n 1, 1) := by decide +kernel
theorem dX1_find_19 : decode cX1_find 19 = .ok (.iastore, 1) := by decide +kernel
theorem dX1_find_20 : decode cX1_find 20 = .ok (.iinc 1 1, 3) := by decide +kernel
theorem dX1_find_23 : decode cX1_find 23 = .ok (.goto (-21), 3) := by decide +kernel
theorem dX1_find_26 : decode cX1_find 26 = .ok (.aload_n 0, 1) := by decide +kernel
theorem dX1_find_27 : decode cX1_find 27 = .ok (.ldc 51, 2) := by decide +kernel
theorem dX1_find_29 : decode cX1_find 29 = .ok (.putfield 52, 3) := by decide +kernel
theorem dX1_find_32 : decode cX1_find 32 = .ok (.iconst 0, 1) := by decide +kernel
theorem dX1_find_33 : decode cX1_find 33 = .ok (.istore_n 1, 1) := by decide +kernel
theorem dX1_find_34 : decode cX1_find 34 = .ok (.iload_n 1, 1) := by decide +kernel
theorem dX1_find_35 : decode cX1_find 35 = .ok (.sipush 720, 3) := by decide +kernel
theorem dX1_find_38 : decode cX1_find 38 = .ok (.if_icmp .ge 71, 3) := by decide +kernel
theorem dX1_find_41 : decode cX1_find 41 = .ok (.aload_n 0, 1) := by decide +kernel
theorem dX1_find_42 : decode cX1_find 42 = .ok (.aload_n 0, 1) := by decide +kernel
theorem dX1_find_43 : decode cX1_find 43 = .ok (.getfield 9, 3) := by decide +kernel
theorem dX1_find_46 : decode cX1_find 46 = .ok (.invokevirtual 38, 3) := by decide +kernel
theorem dX1_find_49 : decode cX1_find 49 = .ok (.istore_n 2, 1) := by decide +kernel
theorem dX1_find_50 : decode cX1_find 50 = .ok (.iload_n 2, 1) := by decide +kernel
theorem dX1_find_51 : decode cX1_find 51 = .ok (.aload_n 0, 1) := by decide +kernel
theorem dX1_find_52 : decode cX1_find 52 = .ok (.getfield 52, 3) := by decide +kernel
theorem dX1_find_55 : decode cX1_find 55 = .ok (.if_icmp .ge 28, 3) := by decide +kernel
theorem dX1_find_58 : decode cX1_find 58 = .ok (.aload_n 0, 1) := by decide +kernel
theorem dX1_find_59 : decode cX1_find 59 = .ok (.iload_n 2, 1) := by decide +kernel
theorem dX1_find_60 : decode cX1_find 60 = .ok (.putfield 52, 3) := by decide +kernel
theorem dX1_find_63 : decode cX1_find 63 = .ok (.aload_n 0, 1) := by decide +kernel
theorem dX1_find_64 : decode cX1_find 64 = .ok (.getfield 9, 3) := by decide +kernel
theorem dX1_find_67 : decode cX1_find 67 = .ok (.iconst 0, 1) := by decide +kernel
theorem dX1_find_68 : decode cX1_find 68 = .ok (.aload_n 0, 1) := by decide +kernel
theorem dX1_find_69 : decode cX1_find 69 = .ok (.getfield 15, 3) := by decide +kernel
theorem dX1_find_72 : decode cX1_find 72 = .ok (.iconst 0, 1) := by decide +kernel
theorem dX1_find_73 : decode cX1_find 73 = .ok (.aload_n 0, 1) := by decide +kernel
theorem dX1_find_74 : decode cX1_find 74 = .ok (.getfield 18, 3) := by decide +kernel
theorem dX1_find_77 : decode cX1_find 77 = .ok (.getfield 42, 3) := by decide +kernel
theorem dX1_find_80 : decode cX1_find 80 = .ok (.invokestatic 32, 3) := by decide +kernel
theorem dX1_find_83 : decode cX1_find 83 = .ok (.aload_n 0, 1) := by decide +kernel
theorem dX1_find_84 : decode cX1_find 84 = .ok (.getfield 9, 3) := by decide +kernel
theorem dX1_find_87 : decode cX1_find 87 = .ok (.aload_n 0, 1) := by decide +kernel
theorem dX1_find_88 : decode cX1_find 88 = .ok (.getfield 18, 3) := by decide +kernel
theorem dX1_find_91 : decode cX1_find 91 = .ok (.getfield 42, 3) := by decide +kernel
theorem dX1_find_94 : decode cX1_find 94 = .ok (.invokestatic 55, 3) := by decide +kernel
theorem dX1_find_97 : decode cX1_find 97 = .ok (.ifCond .ne 6, 3) := by decide +kernel
theorem dX1_find_100 : decode cX1_find 100 = .ok (.goto 9, 3) := by decide +kernel
theorem dX1_find_103 : decode cX1_find 103 = .ok (.iinc 1 1, 3) := by decide +kernel
theorem dX1_find_106 : decode cX1_find 106 = .ok (.goto (-72), 3) := by decide +kernel
theorem dX1_find_109 : decode cX1_find 109 = .ok (.return_, 1) := by decide +kernel
theorem dX2_init_0 : decode cX2_init 0 = .ok (.aload_n 0, 1) := by decide +kernel
theorem dX2_init_1 : decode cX2_init 1 = .ok (.invokespecial 3, 3) := by decide +kernel
theorem dX2_init_4 : decode cX2_init 4 = .ok (.aload_n 0, 1) := by decide +kernel
theorem dX2_init_5 : decode cX2_init 5 = .ok (.bipush 6, 2) := by decide +kernel
theorem dX2_init_7 : decode cX2_init 7 = .ok (.newarray .int, 2) := by decide +kernel
theorem dX2_init_9 : decode cX2_init 9 = .ok (.putfield 9, 3) := by decide +kernel
theorem dX2_init_12 : decode cX2_init 12 = .ok (.aload_n 0, 1) := by decide +kernel
theorem dX2_init_13 : decode cX2_init 13 = .ok (.bipush 7, 2) := by decide +kernel
theorem dX2_init_15 : decode cX2_init 15 = .ok (.newarray .int, 2) := by decide +kernel
theorem dX2_init_17 : decode cX2_init 17 = .ok (.putfield 15, 3) := by decide +kernel
theorem dX2_init_20 : decode cX2_init 20 = .ok (.aload_n 0, 1) := by decide +kernel
theorem dX2_init_21 : decode cX2_init 21 = .ok (.bipush 7, 2) := by decide +kernel
theorem dX2_init_23 : decode cX2_init 23 = .ok (.newarray .int, 2) := by decide +kernel
theorem dX2_init_25 : decode cX2_init 25 = .ok (.putfield 18, 3) := by decide +kernel
theorem dX2_init_28 : decode cX2_init 28 = .ok (.aload_n 0, 1) := by decide +kernel
theorem dX2_init_29 : decode cX2_init 29 = .ok (.bipush 7, 2) := by decide +kernel
theorem dX2_init_31 : decode cX2_init 31 = .ok (.newarray .int, 2) := by decide +kernel
theorem dX2_init_33 : decode cX2_init 33 = .ok (.putfield 21, 3) := by decide +kernel
theorem dX2_init_36 : decode cX2_init 36 = .ok (.aload_n 0, 1) := by decide +kernel
theorem dX2_init_37 : decode cX2_init 37 = .ok (.aload_n 1, 1) := by decide +kernel
theorem dX2_init_38 : decode cX2_init 38 = .ok (.putfield 24, 3) := by decide +kernel
theorem dX2_init_41 : decode cX2_init 41 = .ok (.return_, 1) := by decide +kernel
theorem dX2_begin_0 : decode cX2_begin 0 = .ok (.aload_n 0, 1) := by decide +kernel
theorem dX2_begin_1 : decode cX2_begin 1 = .ok (.iconst 0, 1) := by decide +kernel
theorem dX2_begin_2 : decode cX2_begin 2 = .ok (.putfield 28, 3) := by decide +kernel
theorem dX2_begin_5 : decode cX2_begin 5 = .ok (.aload_n 0, 1) := by decide +kernel
theorem dX2_begin_6 : decode cX2_begin 6 = .ok (.getfield 24, 3) := by decide +kernel
theorem dX2_begin_9 : decode cX2_begin 9 = .ok (.getfield 32, 3) := by decide +kernel
theorem dX2_begin_12 : decode cX2_begin 12 = .ok (.iconst 0, 1) := by decide +kernel
theorem dX2_begin_13 : decode cX2_begin 13 = .ok (.aload_n 0, 1) := by decide +kernel
theorem dX2_begin_14 : decode cX2_begin 14 = .ok (.getfield 9, 3) := by decide +kernel
theorem dX2_begin_17 : decode cX2_begin 17 = .ok (.iconst 0, 1) := by decide +kernel
theorem dX2_begin_18 : decode cX2_begin 18 = .ok (.bipush 6, 2) := by decide +kernel
theorem dX2_begin_20 : decode cX2_begin 20 = .ok (.invokestatic 35, 3) := by decide +kernel
theorem dX2_begin_23 : decode cX2_begin 23 = .ok (.iconst 0, 1) := by decide +kernel
theorem dX2_begin_24 : decode cX2_begin 24 = .ok (.istore_n 1, 1) := by decide +kernel
theorem dX2_begin_25 : decode cX2_begin 25 = .ok (.iload_n 1, 1) := by decide +kernel
theorem dX2_begin_26 : decode cX2_begin 26 = .ok (.bipush 7, 2) := by decide +kernel
theorem dX2_begin_28 : decode cX2_begin 28 = .ok (.if_icmp .ge 30, 3) := by decide +kernel
theorem dX2_begin_31 : decode cX2_begin 31 = .ok (.aload_n 0, 1) := by decide +kernel
theorem dX2_begin_32 : decode cX2_begin 32 = .ok (.getfield 15, 3) := by decide +kernel
theorem dX2_begin_35 : decode cX2_begin 35 = .ok (.iload_n 1, 1) := by decide +kernel
theorem dX2_begin_36 : decode cX2_begin 36 = .ok (.iconst 0, 1) := by decide +kernel
theorem dX2_begin_37 : decode cX2_begin 37 = .ok (.iastore, 1) := by decide +kernel
theorem dX2_begin_38 : decode cX2_begin 38 = .ok (.aload_n 0, 1) := by decide +kernel
theorem dX2_begin_39 : decode cX2_begin 39 = .ok (.getfield 18, 3) := by decide +kernel
theorem dX2_begin_42 : decode cX2_begin 42 = .ok (.iload_n 1, 1) := by decide +kernel
theorem dX2_begin_43 : decode cX2_begin 43 = .ok (.iconst 0, 1) := by decide +kernel
theorem dX2_begin_44 : decode cX2_begin 44 = .ok (.iastore, 1) := by decide +kernel
theorem dX2_begin_45 : decode cX2_begin 45 = .ok (.aload_n 0, 1) := by decide +kernel
theorem dX2_begin_46 : decode cX2_begin 46 = .ok (.getfield 21, 3) := by decide +kernel
theorem dX2_begin_49 : decode cX2_begin 49 = .ok (.iload_n 1, 1) := by decide +kernel
theorem dX2_begin_50 : decode cX2_begin 50 = .ok (.iconst 0, 1) := by decide +kernel
theorem dX2_begin_51 : decode cX2_begin 51 = .ok (.iastore, 1) := by decide +kernel
theorem dX2_begin_52 : decode cX2_begin 52 = .ok (.iinc 1 1, 3) := by decide +kernel
theorem dX2_begin_55 : decode cX2_begin 55 = .ok (.goto (-30), 3) := by decide +kernel
theorem dX2_begin_58 : decode cX2_begin 58 = .ok (.aload_n 0, 1) := by decide +kernel
theorem dX2_begin_59 : decode cX2_begin 59 = .ok (.invokevirtual 41, 3) := by decide +kernel
theorem dX2_begin_62 : decode cX2_begin 62 = .ok (.return_, 1) := by decide +kernel
theorem dX2_letFall_0 : decode cX2_letFall 0 = .ok (.iconst 0, 1) := by decide +kernel
theorem dX2_letFall_1 : decode cX2_letFall 1 = .ok (.istore_n 1, 1) := by decide +kernel
theorem dX2_letFall_2 : decode cX2_letFall 2 = .ok (.iload_n 1, 1) := by decide +kernel
theorem dX2_letFall_3 : decode cX2_letFall 3 = .ok (.aload_n 0, 1) := by decide +kernel
theorem dX2_letFall_4 : decode cX2_letFall 4 = .ok (.getfield 24, 3) := by decide +kernel
theorem dX2_letFall_7 : decode cX2_letFall 7 = .ok (.getfield 44, 3) := by decide +kernel
theorem dX2_letFall_10 : decode cX2_letFall 10 = .ok (.if_icmp .ge 41, 3) := by decide +kernel
theorem dX2_letFall_13 : decode cX2_letFall 13 = .ok (.aload_n 0, 1) := by decide +kernel
theorem dX2_letFall_14 : decode cX2_letFall 14 = .ok (.getfield 15, 3) := by decide +kernel
theorem dX2_letFall_17 : decode cX2_letFall 17 = .ok (.iload_n 1, 1) := by decide +kernel
theorem dX2_letFall_18 : decode cX2_letFall 18 = .ok (.iaload, 1) := by decide +kernel
theorem dX2_letFall_19 : decode cX2_letFall 19 = .ok (.ifCond .ne 26, 3) := by decide +kernel
theorem dX2_letFall_22 : decode cX2_letFall 22 = .ok (.aload_n 0, 1) := by decide +kernel
theorem dX2_letFall_23 : decode cX2_letFall 23 = .ok (.getfield 24, 3) := by decide +kernel
theorem dX2_letFall_26 : decode cX2_letFall 26 = .ok (.getfield 47, 3) := by decide +kernel
theorem dX2_letFall_29 : decode cX2_letFall 29 = .ok (.iload_n 1, 1) := by decide +kernel
theorem dX2_letFall_30 : decode cX2_letFall 30 = .ok (.iaload, 1) := by decide +kernel
theorem dX2_letFall_31 : decode cX2_letFall 31 = .ok (.aload_n 0, 1) := by decide +kernel
theorem dX2_letFall_32 : decode cX2_letFall 32 = .ok (.getfield 28, 3) := by decide +kernel
theorem dX2_letFall_35 : decode cX2_letFall 35 = .ok (.if_icmp .ne 10, 3) := by decide +kernel
theorem dX2_letFall_38 : decode cX2_letFall 38 = .ok (.aload_n 0, 1) := by decide +kernel
theorem dX2_letFall_39 : decode cX2_letFall 39 = .ok (.getfield 15, 3) := by decide +kernel
theorem dX2_letFall_42 : decode cX2_letFall 42 = .ok (.iload_n 1, 1) := by decide +kernel
theorem dX2_letFall_43 : decode cX2_letFall 43 = .ok (.iconst 1, 1) := by decide +kernel
theorem dX2_letFall_44 : decode cX2_letFall 44 = .ok (.iastore, 1) := by decide +kernel
theorem dX2_letFall_45 : decode cX2_letFall 45 = .ok (.iinc 1 1, 3) := by decide +kernel
theorem dX2_letFall_48 : decode cX2_letFall 48 = .ok (.goto (-46), 3) := by decide +kernel
theorem dX2_letFall_51 : decode cX2_letFall 51 = .ok (.return_, 1) := by decide +kernel
theorem dX2_those_0 : decode cX2_those 0 = .ok (.iconst 0, 1) := by decide +kernel
theorem dX2_those_1 : decode cX2_those 1 = .ok (.istore_n 2, 1) := by decide +kernel
theorem dX2_those_2 : decode cX2_those 2 = .ok (.iconst 0, 1) := by decide +kernel
theorem dX2_those_3 : decode cX2_those 3 = .ok (.istore_n 3, 1) := by decide +kernel
theorem dX2_those_4 : decode cX2_those 4 = .ok (.iload_n 3, 1) := by decide +kernel
theorem dX2_those_5 : decode cX2_those 5 = .ok (.aload_n 0, 1) := by decide +kernel
theorem dX2_those_6 : decode cX2_those 6 = .ok (.getfield 24, 3) := by decide +kernel
theorem dX2_those_9 : decode cX2_those 9 = .ok (.getfield 44, 3) := by decide +kernel
theorem dX2_those_12 : decode cX2_those 12 = .ok (.if_icmp .ge 25, 3) := by decide +kernel
theorem dX2_those_15 : decode cX2_those 15 = .ok (.aload_n 0, 1) := by decide +kernel
theorem dX2_those_16 : decode cX2_those 16 = .ok (.getfield 15, 3) := by decide +kernel
theorem dX2_those_19 : decode cX2_those 19 = .ok (.iload_n 3, 1) := by decide +kernel
theorem dX2_those_20 : decode cX2_those 20 = .ok (.iaload, 1) := by decide +kernel
theorem dX2_those_21 : decode cX2_those 21 = .ok (.iload_n 1, 1) := by decide +kernel
theorem dX2_those_22 : decode cX2_those 22 = .ok (.if_icmp .ne 9, 3) := by decide +kernel
theorem dX2_those_25 : decode cX2_those 25 = .ok (.iload_n 2, 1) := by decide +kernel
theorem dX2_those_26 : decode cX2_those 26 = .ok (.iconst 1, 1) := by decide +kernel
theorem dX2_those_27 : decode cX2_those 27 = .ok (.iload_n 3, 1) := by decide +kernel
theorem dX2_those_28 : decode cX2_those 28 = .ok (.ishl, 1) := by decide +kernel
theorem dX2_those_29 : decode cX2_those 29 = .ok (.ior, 1) := by decide +kernel
theorem dX2_those_30 : decode cX2_those 30 = .ok (.istore_n 2, 1) := by decide +kernel
theorem dX2_those_31 : decode cX2_those 31 = .ok (.iinc 3 1, 3) := by decide +kernel
theorem dX2_those_34 : decode cX2_those 34 = .ok (.goto (-30), 3) := by decide +kernel
theorem dX2_those_37 : decode cX2_those 37 = .ok (.iload_n 2, 1) := by decide +kernel
theorem dX2_those_38 : decode cX2_those 38 = .ok (.ireturn, 1) := by decide +kernel
theorem dX2_engagedBy_0 : decode cX2_engagedBy 0 = .ok (.iconst 0, 1) := by decide +kernel
theorem dX2_engagedBy_1 : decode cX2_engagedBy 1 = .ok (.istore_n 2, 1) := by decide +kernel
theorem dX2_engagedBy_2 : decode cX2_engagedBy 2 = .ok (.iload_n 2, 1) := by decide +kernel
theorem dX2_engagedBy_3 : decode cX2_engagedBy 3 = .ok (.aload_n 0, 1) := by decide +kernel
theorem dX2_engagedBy_4 : decode cX2_engagedBy 4 = .ok (.getfield 24, 3) := by decide +kernel
theorem dX2_engagedBy_7 : decode cX2_engagedBy 7 = .ok (.getfield 44, 3) := by decide +kernel
theorem dX2_engagedBy_10 : decode cX2_engagedBy 10 = .ok (.if_icmp .ge 47, 3) := by decide +kernel
theorem dX2_engagedBy_13 : decode cX2_engagedBy 13 = .ok (.aload_n 0, 1) := by decide +kernel
theorem dX2_engagedBy_14 : decode cX2_engagedBy 14 = .ok (.getfield 15, 3) := by decide +kernel
theorem dX2_engagedBy_17 : decode cX2_engagedBy 17 = .ok (.iload_n 2, 1) := by decide +kernel
theorem dX2_engagedBy_18 : decode cX2_engagedBy 18 = .ok (.iaload, 1) := by decide +kernel
theorem dX2_engagedBy_19 : decode cX2_engagedBy 19 = .ok (.iconst 2, 1) := by decide +kernel
theorem dX2_engagedBy_20 : decode cX2_engagedBy 20 = .ok (.if_icmp .ne 31, 3) := by decide +kernel
theorem dX2_engagedBy_23 : decode cX2_engagedBy 23 = .ok (.aload_n 0, 1) := by decide +kernel
theorem dX2_engagedBy_24 : decode cX2_engagedBy 24 = .ok (.getfield 24, 3) := by decide +kernel
theorem dX2_engagedBy_27 : decode cX2_engagedBy 27 = .ok (.getfield 50, 3) := by decide +kernel
theorem dX2_engagedBy_30 : decode cX2_engagedBy 30 = .ok (.iload_n 2, 1) := by decide +kernel
theorem dX2_engagedBy_31 : decode cX2_engagedBy 31 = .ok (.iaload, 1) := by decide +kernel
theorem dX2_engagedBy_32 : decode cX2_engagedBy 32 = .ok (.iload_n 1, 1) := by decide +kernel
theorem dX2_engagedBy_33 : decode cX2_engagedBy 33 = .ok (.if_icmp .eq 16, 3) := by decide +kernel
theorem dX2_engagedBy_36 : decode cX2_engagedBy 36 = .ok (.aload_n 0, 1) := by decide +kernel
theorem dX2_engagedBy_37 : decode cX2_engagedBy 37 = .ok (.getfield 24, 3) := by decide +kernel
theorem dX2_engagedBy_40 : decode cX2_engagedBy 40 = .ok (.getfield 53, 3) := by decide +kernel
theorem dX2_engagedBy_43 : decode cX2_engagedBy 43 = .ok (.iload_n 2, 1) := by decide +kernel
theorem dX2_engagedBy_44 : decode cX2_engagedBy 44 = .ok (.iaload, 1) := by decide +kernel
theorem dX2_engagedBy_45 : decode cX2_engagedBy 45 = .ok (.iload_n 1, 1) := by decide +kernel
theorem dX2_engagedBy_46 : decode cX2_engagedBy 46 = .ok (.if_icmp .ne 5, 3) := by decide +kernel
theorem dX2_engagedBy_49 : decode cX2_engagedBy 49 = .ok (.iload_n 2, 1) := by decide +kernel
theorem dX2_engagedBy_50 : decode cX2_engagedBy 50 = .ok (.ireturn, 1) := by decide +kernel
theorem dX2_engagedBy_51 : decode cX2_engagedBy 51 = .ok (.iinc 2 1, 3) := by decide +kernel
theorem dX2_engagedBy_54 : decode cX2_engagedBy 54 = .ok (.goto (-52), 3) := by decide +kernel
theorem dX2_engagedBy_57 : decode cX2_engagedBy 57 = .ok (.bipush (-9), 2) := by decide +kernel
theorem dX2_engagedBy_59 : decode cX2_engagedBy 59 = .ok (.ireturn, 1) := by decide +kernel
theorem dX2_linesFree_0 : decode cX2_linesFree 0 = .ok (.iconst 0, 1) := by decide +kernel
theorem dX2_linesFree_1 : decode cX2_linesFree 1 = .ok (.istore_n 3, 1) := by decide +kernel
theorem dX2_linesFree_2 : decode cX2_linesFree 2 = .ok (.iload_n 3, 1) := by decide +kernel
theorem dX2_linesFree_3 : decode cX2_linesFree 3 = .ok (.aload_n 0, 1) := by decide +kernel
theorem dX2_linesFree_4 : decode cX2_linesFree 4 = .ok (.getfield 24, 3) := by decide +kernel
theorem dX2_linesFree_7 : decode cX2_linesFree 7 = .ok (.getfield 44, 3) := by decide +kernel
theorem dX2_linesFree_10 : decode cX2_linesFree 10 = .ok (.if_icmp .ge 32, 3) := by decide +kernel
theorem dX2_linesFree_13 : decode cX2_linesFree 13 = .ok (.iload_n 2, 1) := by decide +kernel
theorem dX2_linesFree_14 : decode cX2_linesFree 14 = .ok (.iload_n 3, 1) := by decide +kernel
theorem dX2_linesFree_15 : decode cX2_linesFree 15 = .ok (.ishr, 1) := by decide +kernel
theorem dX2_linesFree_16 : decode cX2_linesFree 16 = .ok (.iconst 1, 1) := by decide +kernel
theorem dX2_linesFree_17 : decode cX2_linesFree 17 = .ok (.iand, 1) := by decide +kernel
theorem dX2_linesFree_18 : decode cX2_linesFree 18 = .ok (.iconst 1, 1) := by decide +kernel
theorem dX2_linesFree_19 : decode cX2_linesFree 19 = .ok (.if_icmp .ne 17, 3) := by decide +kernel
theorem dX2_linesFree_22 : decode cX2_linesFree 22 = .ok (.aload_n 0, 1) := by decide +kernel
theorem dX2_linesFree_23 : decode cX2_linesFree 23 = .ok (.getfield 24, 3) := by decide +kernel
theorem dX2_linesFree_26 : decode cX2_linesFree 26 = .ok (.iload_n 1, 1) := by decide +kernel
theorem dX2_linesFree_27 : decode cX2_linesFree 27 = .ok (.iload_n 3, 1) := by decide +kernel
theorem dX2_linesFree_28 : decode cX2_linesFree 28 = .ok (.invokevirtual 56, 3) := by decide +kernel
theorem dX2_linesFree_31 : decode cX2_linesFree 31 = .ok (.ifCond .eq 5, 3) := by decide +kernel
theorem dX2_linesFree_34 : decode cX2_linesFree 34 = .ok (.iconst 0, 1) := by decide +kernel
theorem dX2_linesFree_35 : decode cX2_linesFree 35 = .ok (.ireturn, 1) := by decide +kernel
theorem dX2_linesFree_36 : decode cX2_linesFree 36 = .ok (.iinc 3 1, 3) := by decide +kernel
theorem dX2_linesFree_39 : decode cX2_linesFree 39 = .ok (.goto (-37), 3) := by decide +kernel
theorem dX2_linesFree_42 : decode cX2_linesFree 42 = .ok (.iconst 1, 1) := by decide +kernel
theorem dX2_linesFree_43 : decode cX2_linesFree 43 = .ok (.ireturn, 1) := by decide +kernel
theorem dX2_hasRoom_0 : decode cX2_hasRoom 0 = .ok (.iload_n 2, 1) := by decide +kernel
theorem dX2_hasRoom_1 : decode cX2_hasRoom 1 = .ok (.invokestatic 60, 3) := by decide +kernel
theorem dX2_hasRoom_4 : decode cX2_hasRoom 4 = .ok (.iload_n 3, 1) := by decide +kernel
theorem dX2_hasRoom_5 : decode cX2_hasRoom 5 = .ok (.if_icmp .ge 16, 3) := by decide +kernel
theorem dX2_hasRoom_8 : decode cX2_hasRoom 8 = .ok (.aload_n 0, 1) := by decide +kernel
theorem dX2_hasRoom_9 : decode cX2_hasRoom 9 = .ok (.iload_n 1, 1) := by decide +kernel
theorem dX2_hasRoom_10 : decode cX2_hasRoom 10 = .ok (.iload_n 2, 1) := by decide +kernel
theorem dX2_hasRoom_11 : decode cX2_hasRoom 11 = .ok (.invokevirtual 66, 3) := by decide +kernel
theorem dX2_hasRoom_14 : decode cX2_hasRoom 14 = .ok (.ifCond .eq 7, 3) := by decide +kernel
theorem dX2_hasRoom_17 : decode cX2_hasRoom 17 = .ok (.iconst 1, 1) := by decide +kernel
theorem dX2_hasRoom_18 : decode cX2_hasRoom 18 = .ok (.goto 4, 3) := by decide +kernel
theorem dX2_hasRoom_21 : decode cX2_hasRoom 21 = .ok (.iconst 0, 1) := by decide +kernel
theorem dX2_hasRoom_22 : decode cX2_hasRoom 22 = .ok (.ireturn, 1) := by decide +kernel
theorem dX2_canBePlugged_0 : decode cX2_canBePlugged 0 = .ok (.aload_n 0, 1) := by decide +kernel
theorem dX2_canBePlugged_1 : decode cX2_canBePlugged 1 = .ok (.getfield 15, 3) := by decide +kernel
theorem dX2_canBePlugged_4 : decode cX2_canBePlugged 4 = .ok (.iload_n 1, 1) := by decide +kernel
theorem dX2_canBePlugged_5 : decode cX2_canBePlugged 5 = .ok (.iaload, 1) := by decide +kernel
theorem dX2_canBePlugged_6 : decode cX2_canBePlugged 6 = .ok (.iconst 1, 1) := by decide +kernel
theorem dX2_canBePlugged_7 : decode cX2_canBePlugged 7 = .ok (.if_icmp .ne 21, 3) := by decide +kernel
theorem dX2_canBePlugged_10 : decode cX2_canBePlugged 10 = .ok (.aload_n 0, 1) := by decide +kernel
theorem dX2_canBePlugged_11 : decode cX2_canBePlugged 11 = .ok (.iload_n 1, 1) := by decide +kernel
theorem dX2_canBePlugged_12 : decode cX2_canBePlugged 12 = .ok (.aload_n 0, 1) := by decide +kernel
theorem dX2_canBePlugged_13 : decode cX2_canBePlugged 13 = .ok (.iconst 2, 1) := by decide +kernel
theorem dX2_canBePlugged_14 : decode cX2_canBePlugged 14 = .ok (.invokevirtual 69, 3) := by decide +kernel
theorem dX2_canBePlugged_17 : decode cX2_canBePlugged 17 = .ok (.iload_n 2, 1) := by decide +kernel
theorem dX2_canBePlugged_18 : decode cX2_canBePlugged 18 = .ok (.invokevirtual 72, 3) := by decide +kernel
theorem dX2_canBePlugged_21 : decode cX2_canBePlugged 21 = .ok (.ifCond .eq 7, 3) := by decide +kernel
theorem dX2_canBePlugged_24 : decode cX2_canBePlugged 24 = .ok (.iconst 1, 1) := by decide +kernel
theorem dX2_canBePlugged_25 : decode cX2_canBePlugged 25 = .ok (.goto 4, 3) := by decide +kernel
theorem dX2_canBePlugged_28 : decode cX2_canBePlugged 28 = .ok (.iconst 0, 1) := by decide +kernel
theorem dX2_canBePlugged_29 : decode cX2_canBePlugged 29 = .ok (.ireturn, 1) := by decide +kernel
theorem dX2_lacksCord_0 : decode cX2_lacksCord 0 = .ok (.aload_n 0, 1) := by decide +kernel
theorem dX2_lacksCord_1 : decode cX2_lacksCord 1 = .ok (.iconst 2, 1) := by decide +kernel
theorem dX2_lacksCord_2 : decode cX2_lacksCord 2 = .ok (.invokevirtual 69, 3) := by decide +kernel
theorem dX2_lacksCord_5 : decode cX2_lacksCord 5 = .ok (.istore_n 2, 1) := by decide +kernel
theorem dX2_lacksCord_6 : decode cX2_lacksCord 6 = .ok (.iload_n 2, 1) := by decide +kernel
theorem dX2_lacksCord_7 : decode cX2_lacksCord 7 = .ok (.invokestatic 60, 3) := by decide +kernel
theorem dX2_lacksCord_10 : decode cX2_lacksCord 10 = .ok (.iload_n 1, 1) := by decide +kernel
theorem dX2_lacksCord_11 : decode cX2_lacksCord 11 = .ok (.if_icmp .ge 5, 3) := by decide +kernel
theorem dX2_lacksCord_14 : decode cX2_lacksCord 14 = .ok (.iconst 0, 1) := by decide +kernel
theorem dX2_lacksCord_15 : decode cX2_lacksCord 15 = .ok (.ireturn, 1) := by decide +kernel
theorem dX2_lacksCord_16 : decode cX2_lacksCord 16 = .ok (.iconst 0, 1) := by decide +kernel
theorem dX2_lacksCord_17 : decode cX2_lacksCord 17 = .ok (.istore_n 3, 1) := by decide +kernel
theorem dX2_lacksCord_18 : decode cX2_lacksCord 18 = .ok (.iload_n 3, 1) := by decide +kernel
theorem dX2_lacksCord_19 : decode cX2_lacksCord 19 = .ok (.aload_n 0, 1) := by decide +kernel
theorem dX2_lacksCord_20 : decode cX2_lacksCord 20 = .ok (.getfield 24, 3) := by decide +kernel
theorem dX2_lacksCord_23 : decode cX2_lacksCord 23 = .ok (.getfield 44, 3) := by decide +kernel
theorem dX2_lacksCord_26 : decode cX2_lacksCord 26 = .ok (.if_icmp .ge 30, 3) := by decide +kernel
theorem dX2_lacksCord_29 : decode cX2_lacksCord 29 = .ok (.aload_n 0, 1) := by decide +kernel
theorem dX2_lacksCord_30 : decode cX2_lacksCord 30 = .ok (.getfield 15, 3) := by decide +kernel
theorem dX2_lacksCord_33 : decode cX2_lacksCord 33 = .ok (.iload_n 3, 1) := by decide +kernel
theorem dX2_lacksCord_34 : decode cX2_lacksCord 34 = .ok (.iaload, 1) := by decide +kernel
theorem dX2_lacksCord_35 : decode cX2_lacksCord 35 = .ok (.iconst 1, 1) := by decide +kernel
theorem dX2_lacksCord_36 : decode cX2_lacksCord 36 = .ok (.if_icmp .ne 14, 3) := by decide +kernel
theorem dX2_lacksCord_39 : decode cX2_lacksCord 39 = .ok (.aload_n 0, 1) := by decide +kernel
theorem dX2_lacksCord_40 : decode cX2_lacksCord 40 = .ok (.iload_n 3, 1) := by decide +kernel
theorem dX2_lacksCord_41 : decode cX2_lacksCord 41 = .ok (.iload_n 2, 1) := by decide +kernel
theorem dX2_lacksCord_42 : decode cX2_lacksCord 42 = .ok (.invokevirtual 66, 3) := by decide +kernel
theorem dX2_lacksCord_45 : decode cX2_lacksCord 45 = .ok (.ifCond .eq 5, 3) := by decide +kernel
theorem dX2_lacksCord_48 : decode cX2_lacksCord 48 = .ok (.iconst 1, 1) := by decide +kernel
theorem dX2_lacksCord_49 : decode cX2_lacksCord 49 = .ok (.ireturn, 1) := by decide +kernel
theorem dX2_lacksCord_50 : decode cX2_lacksCord 50 = .ok (.iinc 3 1, 3) := by decide +kernel
theorem dX2_lacksCord_53 : decode cX2_lacksCord 53 = .ok (.goto (-35), 3) := by decide +kernel
theorem dX2_lacksCord_56 : decode cX2_lacksCord 56 = .ok (.iconst 0, 1) := by decide +kernel
theorem dX2_lacksCord_57 : decode cX2_lacksCord 57 = .ok (.ireturn, 1) := by decide +kernel
theorem dX2_plug_0 : decode cX2_plug 0 = .ok (.aload_n 0, 1) := by decide +kernel
theorem dX2_plug_1 : decode cX2_plug 1 = .ok (.getfield 15, 3) := by decide +kernel
theorem dX2_plug_4 : decode cX2_plug 4 = .ok (.iload_n 1, 1) := by decide +kernel
theorem dX2_plug_5 : decode cX2_plug 5 = .ok (.iconst 2, 1) := by decide +kernel
theorem dX2_plug_6 : decode cX2_plug 6 = .ok (.iastore, 1) := by decide +kernel
theorem dX2_plug_7 : decode cX2_plug 7 = .ok (.aload_n 0, 1) := by decide +kernel
theorem dX2_plug_8 : decode cX2_plug 8 = .ok (.getfield 18, 3) := by decide +kernel
theorem dX2_plug_11 : decode cX2_plug 11 = .ok (.iload_n 1, 1) := by decide +kernel
theorem dX2_plug_12 : decode cX2_plug 12 = .ok (.aload_n 0, 1) := by decide +kernel
theorem dX2_plug_13 : decode cX2_plug 13 = .ok (.getfield 24, 3) := by decide +kernel
theorem dX2_plug_16 : decode cX2_plug 16 = .ok (.getfield 76, 3) := by decide +kernel
theorem dX2_plug_19 : decode cX2_plug 19 = .ok (.iload_n 1, 1) := by decide +kernel
theorem dX2_plug_20 : decode cX2_plug 20 = .ok (.iaload, 1) := by decide +kernel
theorem dX2_plug_21 : decode cX2_plug 21 = .ok (.iastore, 1) := by decide +kernel
theorem dX2_plug_22 : decode cX2_plug 22 = .ok (.return_, 1) := by decide +kernel
theorem dX2_pull_0 : decode cX2_pull 0 = .ok (.aload_n 0, 1) := by decide +kernel
theorem dX2_pull_1 : decode cX2_pull 1 = .ok (.getfield 15, 3) := by decide +kernel
theorem dX2_pull_4 : decode cX2_pull 4 = .ok (.iload_n 1, 1) := by decide +kernel
theorem dX2_pull_5 : decode cX2_pull 5 = .ok (.iconst 4, 1) := by decide +kernel
theorem dX2_pull_6 : decode cX2_pull 6 = .ok (.iastore, 1) := by decide +kernel
theorem dX2_pull_7 : decode cX2_pull 7 = .ok (.aload_n 0, 1) := by decide +kernel
theorem dX2_pull_8 : decode cX2_pull 8 = .ok (.getfield 18, 3) := by decide +kernel
theorem dX2_pull_11 : decode cX2_pull 11 = .ok (.iload_n 1, 1) := by decide +kernel
theorem dX2_pull_12 : decode cX2_pull 12 = .ok (.iconst 0, 1) := by decide +kernel
theorem dX2_pull_13 : decode cX2_pull 13 = .ok (.iastore, 1) := by decide +kernel
theorem dX2_pull_14 : decode cX2_pull 14 = .ok (.return_, 1) := by decide +kernel
theorem dX2_passMinute_0 : decode cX2_passMinute 0 = .ok (.iconst 0, 1) := by decide +kernel
theorem dX2_passMinute_1 : decode cX2_passMinute 1 = .ok (.istore_n 1, 1) := by decide +kernel
theorem dX2_passMinute_2 : decode cX2_passMinute 2 = .ok (.iload_n 1, 1) := by decide +kernel
theorem dX2_passMinute_3 : decode cX2_passMinute 3 = .ok (.aload_n 0, 1) := by decide +kernel
theorem dX2_passMinute_4 : decode cX2_passMinute 4 = .ok (.getfield 24, 3) := by decide +kernel
theorem dX2_passMinute_7 : decode cX2_passMinute 7 = .ok (.getfield 44, 3) := by decide +kernel
theorem dX2_passMinute_10 : decode cX2_passMinute 10 = .ok (.if_icmp .ge 68, 3) := by decide +kernel
theorem dX2_passMinute_13 : decode cX2_passMinute 13 = .ok (.aload_n 0, 1) := by decide +kernel
theorem dX2_passMinute_14 : decode cX2_passMinute 14 = .ok (.getfield 15, 3) := by decide +kernel
theorem dX2_passMinute_17 : decode cX2_passMinute 17 = .ok (.iload_n 1, 1) := by decide +kernel
theorem dX2_passMinute_18 : decode cX2_passMinute 18 = .ok (.iaload, 1) := by decide +kernel
theorem dX2_passMinute_19 : decode cX2_passMinute 19 = .ok (.iconst 2, 1) := by decide +kernel
theorem dX2_passMinute_20 : decode cX2_passMinute 20 = .ok (.if_icmp .ne 32, 3) := by decide +kernel
theorem dX2_passMinute_23 : decode cX2_passMinute 23 = .ok (.aload_n 0, 1) := by decide +kernel
theorem dX2_passMinute_24 : decode cX2_passMinute 24 = .ok (.getfield 18, 3) := by decide +kernel
theorem dX2_passMinute_27 : decode cX2_passMinute 27 = .ok (.iload_n 1, 1) := by decide +kernel
theorem dX2_passMinute_28 : decode cX2_passMinute 28 = .ok (.dup2, 1) := by decide +kernel
theorem dX2_passMinute_29 : decode cX2_passMinute 29 = .ok (.iaload, 1) := by decide +kernel
theorem dX2_passMinute_30 : decode cX2_passMinute 30 = .ok (.iconst 1, 1) := by decide +kernel
theorem dX2_passMinute_31 : decode cX2_passMinute 31 = .ok (.isub, 1) := by decide +kernel
theorem dX2_passMinute_32 : decode cX2_passMinute 32 = .ok (.iastore, 1) := by decide +kernel
theorem dX2_passMinute_33 : decode cX2_passMinute 33 = .ok (.aload_n 0, 1) := by decide +kernel
theorem dX2_passMinute_34 : decode cX2_passMinute 34 = .ok (.getfield 18, 3) := by decide +kernel
theorem dX2_passMinute_37 : decode cX2_passMinute 37 = .ok (.iload_n 1, 1) := by decide +kernel
theorem dX2_passMinute_38 : decode cX2_passMinute 38 = .ok (.iaload, 1) := by decide +kernel
theorem dX2_passMinute_39 : decode cX2_passMinute 39 = .ok (.ifCond .gt 33, 3) := by decide +kernel
theorem dX2_passMinute_42 : decode cX2_passMinute 42 = .ok (.aload_n 0, 1) := by decide +kernel
theorem dX2_passMinute_43 : decode cX2_passMinute 43 = .ok (.getfield 15, 3) := by decide +kernel
theorem dX2_passMinute_46 : decode cX2_passMinute 46 = .ok (.iload_n 1, 1) := by decide +kernel
theorem dX2_passMinute_47 : decode cX2_passMinute 47 = .ok (.iconst 3, 1) := by decide +kernel
theorem dX2_passMinute_48 : decode cX2_passMinute 48 = .ok (.iastore, 1) := by decide +kernel
theorem dX2_passMinute_49 : decode cX2_passMinute 49 = .ok (.goto 23, 3) := by decide +kernel
theorem dX2_passMinute_52 : decode cX2_passMinute 52 = .ok (.aload_n 0, 1) := by decide +kernel
theorem dX2_passMinute_53 : decode cX2_passMinute 53 = .ok (.getfield 15, 3) := by decide +kernel
theorem dX2_passMinute_56 : decode cX2_passMinute 56 = .ok (.iload_n 1, 1) := by decide +kernel
theorem dX2_passMinute_57 : decode cX2_passMinute 57 = .ok (.iaload, 1) := by decide +kernel
theorem dX2_passMinute_58 : decode cX2_passMinute 58 = .ok (.iconst 1, 1) := by decide +kernel
theorem dX2_passMinute_59 : decode cX2_passMinute 59 = .ok (.if_icmp .ne 13, 3) := by decide +kernel
theorem dX2_passMinute_62 : decode cX2_passMinute 62 = .ok (.aload_n 0, 1) := by decide +kernel
theorem dX2_passMinute_63 : decode cX2_passMinute 63 = .ok (.getfield 21, 3) := by decide +kernel
theorem dX2_passMinute_66 : decode cX2_passMinute 66 = .ok (.iload_n 1, 1) := by decide +kernel
theorem dX2_passMinute_67 : decode cX2_passMinute 67 = .ok (.dup2, 1) := by decide +kernel
theorem dX2_passMinute_68 : decode cX2_passMinute 68 = .ok (.iaload, 1) := by decide +kernel
theorem dX2_passMinute_69 : decode cX2_passMinute 69 = .ok (.iconst 1, 1) := by decide +kernel
theorem dX2_passMinute_70 : decode cX2_passMinute 70 = .ok (.iadd, 1) := by decide +kernel
theorem dX2_passMinute_71 : decode cX2_passMinute 71 = .ok (.iastore, 1) := by decide +kernel
theorem dX2_passMinute_72 : decode cX2_passMinute 72 = .ok (.iinc 1 1, 3) := by decide +kernel
theorem dX2_passMinute_75 : decode cX2_passMinute 75 = .ok (.goto (-73), 3) := by decide +kernel
theorem dX2_passMinute_78 : decode cX2_passMinute 78 = .ok (.aload_n 0, 1) := by decide +kernel
theorem dX2_passMinute_79 : decode cX2_passMinute 79 = .ok (.dup, 1) := by decide +kernel
theorem dX2_passMinute_80 : decode cX2_passMinute 80 = .ok (.getfield 28, 3) := by decide +kernel
theorem dX2_passMinute_83 : decode cX2_passMinute 83 = .ok (.iconst 1, 1) := by decide +kernel
theorem dX2_passMinute_84 : decode cX2_passMinute 84 = .ok (.iadd, 1) := by decide +kernel
theorem dX2_passMinute_85 : decode cX2_passMinute 85 = .ok (.putfield 28, 3) := by decide +kernel
theorem dX2_passMinute_88 : decode cX2_passMinute 88 = .ok (.aload_n 0, 1) := by decide +kernel
theorem dX2_passMinute_89 : decode cX2_passMinute 89 = .ok (.invokevirtual 41, 3) := by decide +kernel
theorem dX2_passMinute_92 : decode cX2_passMinute 92 = .ok (.return_, 1) := by decide +kernel
theorem dX2_waitedOf_0 : decode cX2_waitedOf 0 = .ok (.aload_n 0, 1) := by decide +kernel
theorem dX2_waitedOf_1 : decode cX2_waitedOf 1 = .ok (.aload_n 0, 1) := by decide +kernel
theorem dX2_waitedOf_2 : decode cX2_waitedOf 2 = .ok (.getfield 21, 3) := by decide +kernel
theorem dX2_waitedOf_5 : decode cX2_waitedOf 5 = .ok (.iload_n 1, 1) := by decide +kernel
theorem dX2_waitedOf_6 : decode cX2_waitedOf 6 = .ok (.invokevirtual 79, 3) := by decide +kernel
theorem dX2_waitedOf_9 : decode cX2_waitedOf 9 = .ok (.ireturn, 1) := by decide +kernel
theorem dX2_leftOf_0 : decode cX2_leftOf 0 = .ok (.aload_n 0, 1) := by decide +kernel
theorem dX2_leftOf_1 : decode cX2_leftOf 1 = .ok (.aload_n 0, 1) := by decide +kernel
theorem dX2_leftOf_2 : decode cX2_leftOf 2 = .ok (.getfield 18, 3) := by decide +kernel
theorem dX2_leftOf_5 : decode cX2_leftOf 5 = .ok (.iload_n 1, 1) := by decide +kernel
theorem dX2_leftOf_6 : decode cX2_leftOf 6 = .ok (.invokevirtual 79, 3) := by decide +kernel
theorem dX2_leftOf_9 : decode cX2_leftOf 9 = .ok (.ireturn, 1) := by decide +kernel
theorem dX2_sumOf_0 : decode cX2_sumOf 0 = .ok (.iconst 0, 1) := by decide +kernel
theorem dX2_sumOf_1 : decode cX2_sumOf 1 = .ok (.istore_n 3, 1) := by decide +kernel
theorem dX2_sumOf_2 : decode cX2_sumOf 2 = .ok (.iconst 0, 1) := by decide +kernel
theorem dX2_sumOf_3 : decode cX2_sumOf 3 = .ok (.istore 4, 2) := by decide +kernel
theorem dX2_sumOf_5 : decode cX2_sumOf 5 = .ok (.iload 4, 2) := by decide +kernel
theorem dX2_sumOf_7 : decode cX2_sumOf 7 = .ok (.aload_n 0, 1) := by decide +kernel
theorem dX2_sumOf_8 : decode cX2_sumOf 8 = .ok (.getfield 24, 3) := by decide +kernel
theorem dX2_sumOf_11 : decode cX2_sumOf 11 = .ok (.getfield 44, 3) := by decide +kernel
theorem dX2_sumOf_14 : decode cX2_sumOf 14 = .ok (.if_icmp .ge 26, 3) := by decide +kernel
theorem dX2_sumOf_17 : decode cX2_sumOf 17 = .ok (.iload_n 2, 1) := by decide +kernel
theorem dX2_sumOf_18 : decode cX2_sumOf 18 = .ok (.iload 4, 2) := by decide +kernel
theorem dX2_sumOf_20 : decode cX2_sumOf 20 = .ok (.ishr, 1) := by decide +kernel
theorem dX2_sumOf_21 : decode cX2_sumOf 21 = .ok (.iconst 1, 1) := by decide +kernel
theorem dX2_sumOf_22 : decode cX2_sumOf 22 = .ok (.iand, 1) := by decide +kernel
theorem dX2_sumOf_23 : decode cX2_sumOf 23 = .ok (.iconst 1, 1) := by decide +kernel
theorem dX2_sumOf_24 : decode cX2_sumOf 24 = .ok (.if_icmp .ne 10, 3) := by decide +kernel
theorem dX2_sumOf_27 : decode cX2_sumOf 27 = .ok (.iload_n 3, 1) := by decide +kernel
theorem dX2_sumOf_28 : decode cX2_sumOf 28 = .ok (.aload_n 1, 1) := by decide +kernel
theorem dX2_sumOf_29 : decode cX2_sumOf 29 = .ok (.iload 4, 2) := by decide +kernel
theorem dX2_sumOf_31 : decode cX2_sumOf 31 = .ok (.iaload, 1) := by decide +kernel
theorem dX2_sumOf_32 : decode cX2_sumOf 32 = .ok (.iadd, 1) := by decide +kernel
theorem dX2_sumOf_33 : decode cX2_sumOf 33 = .ok (.istore_n 3, 1) := by decide +kernel
theorem dX2_sumOf_34 : decode cX2_sumOf 34 = .ok (.iinc 4 1, 3) := by decide +kernel
theorem dX2_sumOf_37 : decode cX2_sumOf 37 = .ok (.goto (-32), 3) := by decide +kernel
theorem dX2_sumOf_40 : decode cX2_sumOf 40 = .ok (.iload_n 3, 1) := by decide +kernel
theorem dX2_sumOf_41 : decode cX2_sumOf 41 = .ok (.ireturn, 1) := by decide +kernel
theorem dX2_leastCut_0 : decode cX2_leastCut 0 = .ok (.aload_n 0, 1) := by decide +kernel
theorem dX2_leastCut_1 : decode cX2_leastCut 1 = .ok (.iconst 2, 1) := by decide +kernel
theorem dX2_leastCut_2 : decode cX2_leastCut 2 = .ok (.invokevirtual 69, 3) := by decide +kernel
theorem dX2_leastCut_5 : decode cX2_leastCut 5 = .ok (.istore_n 2, 1) := by decide +kernel
theorem dX2_leastCut_6 : decode cX2_leastCut 6 = .ok (.iload_n 2, 1) := by decide +kernel
theorem dX2_leastCut_7 : decode cX2_leastCut 7 = .ok (.istore_n 3, 1) := by decide +kernel
theorem dX2_leastCut_8 : decode cX2_leastCut 8 = .ok (.iconst 0, 1) := by decide +kernel
theorem dX2_leastCut_9 : decode cX2_leastCut 9 = .ok (.istore 4, 2) := by decide +kernel
theorem dX2_leastCut_11 : decode cX2_leastCut 11 = .ok (.iload 4, 2) := by decide +kernel
theorem dX2_leastCut_13 : decode cX2_leastCut 13 = .ok (.iload_n 2, 1) := by decide +kernel
theorem dX2_leastCut_14 : decode cX2_leastCut 14 = .ok (.if_icmp .ge 64, 3) := by decide +kernel
theorem dX2_leastCut_17 : decode cX2_leastCut 17 = .ok (.iload 4, 2) := by decide +kernel
theorem dX2_leastCut_19 : decode cX2_leastCut 19 = .ok (.iload_n 2, 1) := by decide +kernel
theorem dX2_leastCut_20 : decode cX2_leastCut 20 = .ok (.iand, 1) := by decide +kernel
theorem dX2_leastCut_21 : decode cX2_leastCut 21 = .ok (.iload 4, 2) := by decide +kernel
theorem dX2_leastCut_23 : decode cX2_leastCut 23 = .ok (.if_icmp .ne 7, 3) := by decide +kernel
theorem dX2_leastCut_26 : decode cX2_leastCut 26 = .ok (.iconst 1, 1) := by decide +kernel
theorem dX2_leastCut_27 : decode cX2_leastCut 27 = .ok (.goto 4, 3) := by decide +kernel
theorem dX2_leastCut_30 : decode cX2_leastCut 30 = .ok (.iconst 0, 1) := by decide +kernel
theorem dX2_leastCut_31 : decode cX2_leastCut 31 = .ok (.istore 5, 2) := by decide +kernel
theorem dX2_leastCut_33 : decode cX2_leastCut 33 = .ok (.iload 5, 2) := by decide +kernel
theorem dX2_leastCut_35 : decode cX2_leastCut 35 = .ok (.ifCond .eq 37, 3) := by decide +kernel
theorem dX2_leastCut_38 : decode cX2_leastCut 38 = .ok (.aload_n 0, 1) := by decide +kernel
theorem dX2_leastCut_39 : decode cX2_leastCut 39 = .ok (.iload_n 1, 1) := by decide +kernel
theorem dX2_leastCut_40 : decode cX2_leastCut 40 = .ok (.iload_n 2, 1) := by decide +kernel
theorem dX2_leastCut_41 : decode cX2_leastCut 41 = .ok (.iload 4, 2) := by decide +kernel
theorem dX2_leastCut_43 : decode cX2_leastCut 43 = .ok (.iconst (-1), 1) := by decide +kernel
theorem dX2_leastCut_44 : decode cX2_leastCut 44 = .ok (.ixor, 1) := by decide +kernel
theorem dX2_leastCut_45 : decode cX2_leastCut 45 = .ok (.iand, 1) := by decide +kernel
theorem dX2_leastCut_46 : decode cX2_leastCut 46 = .ok (.aload_n 0, 1) := by decide +kernel
theorem dX2_leastCut_47 : decode cX2_leastCut 47 = .ok (.getfield 24, 3) := by decide +kernel
theorem dX2_leastCut_50 : decode cX2_leastCut 50 = .ok (.getfield 83, 3) := by decide +kernel
theorem dX2_leastCut_53 : decode cX2_leastCut 53 = .ok (.invokevirtual 72, 3) := by decide +kernel
theorem dX2_leastCut_56 : decode cX2_leastCut 56 = .ok (.ifCond .eq 16, 3) := by decide +kernel
theorem dX2_leastCut_59 : decode cX2_leastCut 59 = .ok (.aload_n 0, 1) := by decide +kernel
theorem dX2_leastCut_60 : decode cX2_leastCut 60 = .ok (.iload 4, 2) := by decide +kernel
theorem dX2_leastCut_62 : decode cX2_leastCut 62 = .ok (.iload_n 3, 1) := by decide +kernel
theorem dX2_leastCut_63 : decode cX2_leastCut 63 = .ok (.invokevirtual 86, 3) := by decide +kernel
theorem dX2_leastCut_66 : decode cX2_leastCut 66 = .ok (.ifCond .eq 6, 3) := by decide +kernel
theorem dX2_leastCut_69 : decode cX2_leastCut 69 = .ok (.iload 4, 2) := by decide +kernel
theorem dX2_leastCut_71 : decode cX2_leastCut 71 = .ok (.istore_n 3, 1) := by decide +kernel
theorem dX2_leastCut_72 : decode cX2_leastCut 72 = .ok (.iinc 4 1, 3) := by decide +kernel
theorem dX2_leastCut_75 : decode cX2_leastCut 75 = .ok (.goto (-64), 3) := by decide +kernel
theorem dX2_leastCut_78 : decode cX2_leastCut 78 = .ok (.iload_n 3, 1) := by decide +kernel
theorem dX2_leastCut_79 : decode cX2_leastCut 79 = .ok (.ireturn, 1) := by decide +kernel
theorem dX2_cutsLess_0 : decode cX2_cutsLess 0 = .ok (.iload_n 2, 1) := by decide +kernel
theorem dX2_cutsLess_1 : decode cX2_cutsLess 1 = .ok (.invokestatic 60, 3) := by decide +kernel
theorem dX2_cutsLess_4 : decode cX2_cutsLess 4 = .ok (.iload_n 1, 1) := by decide +kernel
theorem dX2_cutsLess_5 : decode cX2_cutsLess 5 = .ok (.invokestatic 60, 3) := by decide +kernel
theorem dX2_cutsLess_8 : decode cX2_cutsLess 8 = .ok (.isub, 1) := by decide +kernel
theorem dX2_cutsLess_9 : decode cX2_cutsLess 9 = .ok (.istore_n 3, 1) := by decide +kernel
theorem dX2_cutsLess_10 : decode cX2_cutsLess 10 = .ok (.iload_n 3, 1) := by decide +kernel
theorem dX2_cutsLess_11 : decode cX2_cutsLess 11 = .ok (.ifCond .gt 20, 3) := by decide +kernel
theorem dX2_cutsLess_14 : decode cX2_cutsLess 14 = .ok (.iload_n 3, 1) := by decide +kernel
theorem dX2_cutsLess_15 : decode cX2_cutsLess 15 = .ok (.ifCond .ne 20, 3) := by decide +kernel
theorem dX2_cutsLess_18 : decode cX2_cutsLess 18 = .ok (.aload_n 0, 1) := by decide +kernel
theorem dX2_cutsLess_19 : decode cX2_cutsLess 19 = .ok (.iload_n 1, 1) := by decide +kernel
theorem dX2_cutsLess_20 : decode cX2_cutsLess 20 = .ok (.invokevirtual 89, 3) := by decide +kernel
theorem dX2_cutsLess_23 : decode cX2_cutsLess 23 = .ok (.aload_n 0, 1) := by decide +kernel
theorem dX2_cutsLess_24 : decode cX2_cutsLess 24 = .ok (.iload_n 2, 1) := by decide +kernel
theorem dX2_cutsLess_25 : decode cX2_cutsLess 25 = .ok (.invokevirtual 89, 3) := by decide +kernel
theorem dX2_cutsLess_28 : decode cX2_cutsLess 28 = .ok (.if_icmp .ge 7, 3) := by decide +kernel
theorem dX2_cutsLess_31 : decode cX2_cutsLess 31 = .ok (.iconst 1, 1) := by decide +kernel
theorem dX2_cutsLess_32 : decode cX2_cutsLess 32 = .ok (.goto 4, 3) := by decide +kernel
theorem dX2_cutsLess_35 : decode cX2_cutsLess 35 = .ok (.iconst 0, 1) := by decide +kernel
theorem dX2_cutsLess_36 : decode cX2_cutsLess 36 = .ok (.ireturn, 1) := by decide +kernel
theorem dX2_cross_0 : decode cX2_cross 0 = .ok (.aload_n 0, 1) := by decide +kernel
theorem dX2_cross_1 : decode cX2_cross 1 = .ok (.getfield 24, 3) := by decide +kernel
theorem dX2_cross_4 : decode cX2_cross 4 = .ok (.iload_n 1, 1) := by decide +kernel
theorem dX2_cross_5 : decode cX2_cross 5 = .ok (.iload_n 2, 1) := by decide +kernel
theorem dX2_cross_6 : decode cX2_cross 6 = .ok (.invokevirtual 56, 3) := by decide +kernel
theorem dX2_cross_9 : decode cX2_cross 9 = .ok (.ifCond .ne 48, 3) := by decide +kernel
theorem dX2_cross_12 : decode cX2_cross 12 = .ok (.aload_n 0, 1) := by decide +kernel
theorem dX2_cross_13 : decode cX2_cross 13 = .ok (.iload_n 1, 1) := by decide +kernel
theorem dX2_cross_14 : decode cX2_cross 14 = .ok (.aload_n 0, 1) := by decide +kernel
theorem dX2_cross_15 : decode cX2_cross 15 = .ok (.getfield 9, 3) := by decide +kernel
theorem dX2_cross_18 : decode cX2_cross 18 = .ok (.aload_n 0, 1) := by decide +kernel
theorem dX2_cross_19 : decode cX2_cross 19 = .ok (.getfield 24, 3) := by decide +kernel
theorem dX2_cross_22 : decode cX2_cross 22 = .ok (.getfield 50, 3) := by decide +kernel
theorem dX2_cross_25 : decode cX2_cross 25 = .ok (.iload_n 2, 1) := by decide +kernel
theorem dX2_cross_26 : decode cX2_cross 26 = .ok (.iaload, 1) := by decide +kernel
theorem dX2_cross_27 : decode cX2_cross 27 = .ok (.iaload, 1) := by decide +kernel
theorem dX2_cross_28 : decode cX2_cross 28 = .ok (.invokevirtual 92, 3) := by decide +kernel
theorem dX2_cross_31 : decode cX2_cross 31 = .ok (.aload_n 0, 1) := by decide +kernel
theorem dX2_cross_32 : decode cX2_cross 32 = .ok (.iload_n 1, 1) := by decide +kernel
theorem dX2_cross_33 : decode cX2_cross 33 = .ok (.aload_n 0, 1) := by decide +kernel
theorem dX2_cross_34 : decode cX2_cross 34 = .ok (.getfield 9, 3) := by decide +kernel
theorem dX2_cross_37 : decode cX2_cross 37 = .ok (.aload_n 0, 1) := by decide +kernel
theorem dX2_cross_38 : decode cX2_cross 38 = .ok (.getfield 24, 3) := by decide +kernel
theorem dX2_cross_41 : decode cX2_cross 41 = .ok (.getfield 53, 3) := by decide +kernel
theorem dX2_cross_44 : decode cX2_cross 44 = .ok (.iload_n 2, 1) := by decide +kernel
theorem dX2_cross_45 : decode cX2_cross 45 = .ok (.iaload, 1) := by decide +kernel
theorem dX2_cross_46 : decode cX2_cross 46 = .ok (.iaload, 1) := by decide +kernel
theorem dX2_cross_47 : decode cX2_cross 47 = .ok (.invokevirtual 92, 3) := by decide +kernel
theorem dX2_cross_50 : decode cX2_cross 50 = .ok (.if_icmp .eq 7, 3) := by decide +kernel
theorem dX2_cross_53 : decode cX2_cross 53 = .ok (.iconst 1, 1) := by decide +kernel
theorem dX2_cross_54 : decode cX2_cross 54 = .ok (.goto 4, 3) := by decide +kernel
theorem dX2_cross_57 : decode cX2_cross 57 = .ok (.iconst 0, 1) := by decide +kernel
theorem dX2_cross_58 : decode cX2_cross 58 = .ok (.ireturn, 1) := by decide +kernel
theorem dX2_isBetween_0 : decode cX2_isBetween 0 = .ok (.aload_n 0, 1) := by decide +kernel
theorem dX2_isBetween_1 : decode cX2_isBetween 1 = .ok (.getfield 9, 3) := by decide +kernel
theorem dX2_isBetween_4 : decode cX2_isBetween 4 = .ok (.aload_n 0, 1) := by decide +kernel
theorem dX2_isBetween_5 : decode cX2_isBetween 5 = .ok (.getfield 24, 3) := by decide +kernel
theorem dX2_isBetween_8 : decode cX2_isBetween 8 = .ok (.getfield 50, 3) := by decide +kernel
theorem dX2_isBetween_11 : decode cX2_isBetween 11 = .ok (.iload_n 1, 1) := by decide +kernel
theorem dX2_isBetween_12 : decode cX2_isBetween 12 = .ok (.iaload, 1) := by decide +kernel
theorem dX2_isBetween_13 : decode cX2_isBetween 13 = .ok (.iaload, 1) := by decide +kernel
theorem dX2_isBetween_14 : decode cX2_isBetween 14 = .ok (.istore_n 3, 1) := by decide +kernel
theorem dX2_isBetween_15 : decode cX2_isBetween 15 = .ok (.aload_n 0, 1) := by decide +kernel
theorem dX2_isBetween_16 : decode cX2_isBetween 16 = .ok (.getfield 9, 3) := by decide +kernel
theorem dX2_isBetween_19 : decode cX2_isBetween 19 = .ok (.aload_n 0, 1) := by decide +kernel
theorem dX2_isBetween_20 : decode cX2_isBetween 20 = .ok (.getfield 24, 3) := by decide +kernel
theorem dX2_isBetween_23 : decode cX2_isBetween 23 = .ok (.getfield 53, 3) := by decide +kernel
theorem dX2_isBetween_26 : decode cX2_isBetween 26 = .ok (.iload_n 1, 1) := by decide +kernel
theorem dX2_isBetween_27 : decode cX2_isBetween 27 = .ok (.iaload, 1) := by decide +kernel
theorem dX2_isBetween_28 : decode cX2_isBetween 28 = .ok (.iaload, 1) := by decide +kernel
theorem dX2_isBetween_29 : decode cX2_isBetween 29 = .ok (.istore 4, 2) := by decide +kernel
theorem dX2_isBetween_31 : decode cX2_isBetween 31 = .ok (.iload_n 3, 1) := by decide +kernel
theorem dX2_isBetween_32 : decode cX2_isBetween 32 = .ok (.iload 4, 2) := by decide +kernel
theorem dX2_isBetween_34 : decode cX2_isBetween 34 = .ok (.invokestatic 95, 3) := by decide +kernel
theorem dX2_isBetween_37 : decode cX2_isBetween 37 = .ok (.iload_n 2, 1) := by decide +kernel
theorem dX2_isBetween_38 : decode cX2_isBetween 38 = .ok (.if_icmp .ge 17, 3) := by decide +kernel
theorem dX2_isBetween_41 : decode cX2_isBetween 41 = .ok (.iload_n 2, 1) := by decide +kernel
theorem dX2_isBetween_42 : decode cX2_isBetween 42 = .ok (.iload_n 3, 1) := by decide +kernel
theorem dX2_isBetween_43 : decode cX2_isBetween 43 = .ok (.iload 4, 2) := by decide +kernel
theorem dX2_isBetween_45 : decode cX2_isBetween 45 = .ok (.invokestatic 101, 3) := by decide +kernel
theorem dX2_isBetween_48 : decode cX2_isBetween 48 = .ok (.if_icmp .ge 7, 3) := by decide +kernel
theorem dX2_isBetween_51 : decode cX2_isBetween 51 = .ok (.iconst 1, 1) := by decide +kernel
theorem dX2_isBetween_52 : decode cX2_isBetween 52 = .ok (.goto 4, 3) := by decide +kernel
theorem dX2_isBetween_55 : decode cX2_isBetween 55 = .ok (.iconst 0, 1) := by decide +kernel
theorem dX2_isBetween_56 : decode cX2_isBetween 56 = .ok (.ireturn, 1) := by decide +kernel
theorem dX2_crossedBy_0 : decode cX2_crossedBy 0 = .ok (.iconst 0, 1) := by decide +kernel
theorem dX2_crossedBy_1 : decode cX2_crossedBy 1 = .ok (.istore_n 2, 1) := by decide +kernel
theorem dX2_crossedBy_2 : decode cX2_crossedBy 2 = .ok (.iconst 0, 1) := by decide +kernel
theorem dX2_crossedBy_3 : decode cX2_crossedBy 3 = .ok (.istore_n 3, 1) := by decide +kernel
theorem dX2_crossedBy_4 : decode cX2_crossedBy 4 = .ok (.iload_n 3, 1) := by decide +kernel
theorem dX2_crossedBy_5 : decode cX2_crossedBy 5 = .ok (.aload_n 0, 1) := by decide +kernel
theorem dX2_crossedBy_6 : decode cX2_crossedBy 6 = .ok (.getfield 24, 3) := by decide +kernel
theorem dX2_crossedBy_9 : decode cX2_crossedBy 9 = .ok (.getfield 44, 3) := by decide +kernel
theorem dX2_crossedBy_12 : decode cX2_crossedBy 12 = .ok (.if_icmp .ge 34, 3) := by decide +kernel
theorem dX2_crossedBy_15 : decode cX2_crossedBy 15 = .ok (.aload_n 0, 1) := by decide +kernel
theorem dX2_crossedBy_16 : decode cX2_crossedBy 16 = .ok (.getfield 15, 3) := by decide +kernel
theorem dX2_crossedBy_19 : decode cX2_crossedBy 19 = .ok (.iload_n 3, 1) := by decide +kernel
theorem dX2_crossedBy_20 : decode cX2_crossedBy 20 = .ok (.iaload, 1) := by decide +kernel
theorem dX2_crossedBy_21 : decode cX2_crossedBy 21 = .ok (.iconst 2, 1) := by decide +kernel
theorem dX2_crossedBy_22 : decode cX2_crossedBy 22 = .ok (.if_icmp .ne 18, 3) := by decide +kernel
theorem dX2_crossedBy_25 : decode cX2_crossedBy 25 = .ok (.aload_n 0, 1) := by decide +kernel
theorem dX2_crossedBy_26 : decode cX2_crossedBy 26 = .ok (.iload_n 1, 1) := by decide +kernel
theorem dX2_crossedBy_27 : decode cX2_crossedBy 27 = .ok (.iload_n 3, 1) := by decide +kernel
theorem dX2_crossedBy_28 : decode cX2_crossedBy 28 = .ok (.invokevirtual 104, 3) := by decide +kernel
theorem dX2_crossedBy_31 : decode cX2_crossedBy 31 = .ok (.ifCond .eq 9, 3) := by decide +kernel
theorem dX2_crossedBy_34 : decode cX2_crossedBy 34 = .ok (.iload_n 2, 1) := by decide +kernel
theorem dX2_crossedBy_35 : decode cX2_crossedBy 35 = .ok (.iconst 1, 1) := by decide +kernel
theorem dX2_crossedBy_36 : decode cX2_crossedBy 36 = .ok (.iload_n 3, 1) := by decide +kernel
theorem dX2_crossedBy_37 : decode cX2_crossedBy 37 = .ok (.ishl, 1) := by decide +kernel
theorem dX2_crossedBy_38 : decode cX2_crossedBy 38 = .ok (.ior, 1) := by decide +kernel
theorem dX2_crossedBy_39 : decode cX2_crossedBy 39 = .ok (.istore_n 2, 1) := by decide +kernel
theorem dX2_crossedBy_40 : decode cX2_crossedBy 40 = .ok (.iinc 3 1, 3) := by decide +kernel
theorem dX2_crossedBy_43 : decode cX2_crossedBy 43 = .ok (.goto (-39), 3) := by decide +kernel
theorem dX2_crossedBy_46 : decode cX2_crossedBy 46 = .ok (.iload_n 2, 1) := by decide +kernel
theorem dX2_crossedBy_47 : decode cX2_crossedBy 47 = .ok (.ireturn, 1) := by decide +kernel
theorem dX2_crossings_0 : decode cX2_crossings 0 = .ok (.iconst 0, 1) := by decide +kernel
theorem dX2_crossings_1 : decode cX2_crossings 1 = .ok (.istore_n 1, 1) := by decide +kernel
theorem dX2_crossings_2 : decode cX2_crossings 2 = .ok (.iconst 0, 1) := by decide +kernel
theorem dX2_crossings_3 : decode cX2_crossings 3 = .ok (.istore_n 2, 1) := by decide +kernel
theorem dX2_crossings_4 : decode cX2_crossings 4 = .ok (.iload_n 2, 1) := by decide +kernel
theorem dX2_crossings_5 : decode cX2_crossings 5 = .ok (.aload_n 0, 1) := by decide +kernel
theorem dX2_crossings_6 : decode cX2_crossings 6 = .ok (.getfield 24, 3) := by decide +kernel
theorem dX2_crossings_9 : decode cX2_crossings 9 = .ok (.getfield 44, 3) := by decide +kernel
theorem dX2_crossings_12 : decode cX2_crossings 12 = .ok (.if_icmp .ge 30, 3) := by decide +kernel
theorem dX2_crossings_15 : decode cX2_crossings 15 = .ok (.aload_n 0, 1) := by decide +kernel
theorem dX2_crossings_16 : decode cX2_crossings 16 = .ok (.getfield 15, 3) := by decide +kernel
theorem dX2_crossings_19 : decode cX2_crossings 19 = .ok (.iload_n 2, 1) := by decide +kernel
theorem dX2_crossings_20 : decode cX2_crossings 20 = .ok (.iaload, 1) := by decide +kernel
theorem dX2_crossings_21 : decode cX2_crossings 21 = .ok (.iconst 2, 1) := by decide +kernel
theorem dX2_crossings_22 : decode cX2_crossings 22 = .ok (.if_icmp .ne 14, 3) := by decide +kernel
theorem dX2_crossings_25 : decode cX2_crossings 25 = .ok (.iload_n 1, 1) := by decide +kernel
theorem dX2_crossings_26 : decode cX2_crossings 26 = .ok (.aload_n 0, 1) := by decide +kernel
theorem dX2_crossings_27 : decode cX2_crossings 27 = .ok (.iload_n 2, 1) := by decide +kernel
theorem dX2_crossings_28 : decode cX2_crossings 28 = .ok (.invokevirtual 107, 3) := by decide +kernel
theorem dX2_crossings_31 : decode cX2_crossings 31 = .ok (.invokestatic 60, 3) := by decide +kernel
theorem dX2_crossings_34 : decode cX2_crossings 34 = .ok (.iadd, 1) := by decide +kernel
theorem dX2_crossings_35 : decode cX2_crossings 35 = .ok (.istore_n 1, 1) := by decide +kernel
theorem dX2_crossings_36 : decode cX2_crossings 36 = .ok (.iinc 2 1, 3) := by decide +kernel
theorem dX2_crossings_39 : decode cX2_crossings 39 = .ok (.goto (-35), 3) := by decide +kernel
theorem dX2_crossings_42 : decode cX2_crossings 42 = .ok (.iload_n 1, 1) := by decide +kernel
theorem dX2_crossings_43 : decode cX2_crossings 43 = .ok (.iconst 2, 1) := by decide +kernel
theorem dX2_crossings_44 : decode cX2_crossings 44 = .ok (.idiv, 1) := by decide +kernel
theorem dX2_crossings_45 : decode cX2_crossings 45 = .ok (.ireturn, 1) := by decide +kernel
theorem dX2_save_0 : decode cX2_save 0 = .ok (.aload_n 1, 1) := by decide +kernel
theorem dX2_save_1 : decode cX2_save 1 = .ok (.iload_n 2, 1) := by decide +kernel
theorem dX2_save_2 : decode cX2_save 2 = .ok (.aload_n 0, 1) := by decide +kernel
theorem dX2_save_3 : decode cX2_save 3 = .ok (.getfield 28, 3) := by decide +kernel
theorem dX2_save_6 : decode cX2_save 6 = .ok (.iastore, 1) := by decide +kernel
theorem dX2_save_7 : decode cX2_save 7 = .ok (.aload_n 0, 1) := by decide +kernel
theorem dX2_save_8 : decode cX2_save 8 = .ok (.getfield 9, 3) := by decide +kernel
theorem dX2_save_11 : decode cX2_save 11 = .ok (.iconst 0, 1) := by decide +kernel
theorem dX2_save_12 : decode cX2_save 12 = .ok (.aload_n 1, 1) := by decide +kernel
theorem dX2_save_13 : decode cX2_save 13 = .ok (.iload_n 2, 1) := by decide +kernel
theorem dX2_save_14 : decode cX2_save 14 = .ok (.iconst 1, 1) := by decide +kernel
theorem dX2_save_15 : decode cX2_save 15 = .ok (.iadd, 1) := by decide +kernel
theorem dX2_save_16 : decode cX2_save 16 = .ok (.bipush 6, 2) := by decide +kernel
theorem dX2_save_18 : decode cX2_save 18 = .ok (.invokestatic 35, 3) := by decide +kernel
theorem dX2_save_21 : decode cX2_save 21 = .ok (.iload_n 2, 1) := by decide +kernel
theorem dX2_save_22 : decode cX2_save 22 = .ok (.iconst 1, 1) := by decide +kernel
theorem dX2_save_23 : decode cX2_save 23 = .ok (.iadd, 1) := by decide +kernel
theorem dX2_save_24 : decode cX2_save 24 = .ok (.bipush 6, 2) := by decide +kernel
theorem dX2_save_26 : decode cX2_save 26 = .ok (.iadd, 1) := by decide +kernel
theorem dX2_save_27 : decode cX2_save 27 = .ok (.istore_n 3, 1) := by decide +kernel
theorem dX2_save_28 : decode cX2_save 28 = .ok (.aload_n 0, 1) := by decide +kernel
theorem dX2_save_29 : decode cX2_save 29 = .ok (.getfield 15, 3) := by decide +kernel
theorem dX2_save_32 : decode cX2_save 32 = .ok (.iconst 0, 1) := by decide +kernel
theorem dX2_save_33 : decode cX2_save 33 = .ok (.aload_n 1, 1) := by decide +kernel
theorem dX2_save_34 : decode cX2_save 34 = .ok (.iload_n 3, 1) := by decide +kernel
theorem dX2_save_35 : decode cX2_save 35 = .ok (.bipush 7, 2) := by decide +kernel
theorem dX2_save_37 : decode cX2_save 37 = .ok (.invokestatic 35, 3) := by decide +kernel
theorem dX2_save_40 : decode cX2_save 40 = .ok (.aload_n 0, 1) := by decide +kernel
theorem dX2_save_41 : decode cX2_save 41 = .ok (.getfield 18, 3) := by decide +kernel
theorem dX2_save_44 : decode cX2_save 44 = .ok (.iconst 0, 1) := by decide +kernel
theorem dX2_save_45 : decode cX2_save 45 = .ok (.aload_n 1, 1) := by decide +kernel
theorem dX2_save_46 : decode cX2_save 46 = .ok (.iload_n 3, 1) := by decide +kernel
theorem dX2_save_47 : decode cX2_save 47 = .ok (.bipush 7, 2) := by decide +kernel
theorem dX2_save_49 : decode cX2_save 49 = .ok (.iadd, 1) := by decide +kernel
theorem dX2_save_50 : decode cX2_save 50 = .ok (.bipush 7, 2) := by decide +kernel
theorem dX2_save_52 : decode cX2_save 52 = .ok (.invokestatic 35, 3) := by decide +kernel
theorem dX2_save_55 : decode cX2_save 55 = .ok (.aload_n 0, 1) := by decide +kernel
theorem dX2_save_56 : decode cX2_save 56 = .ok (.getfield 21, 3) := by decide +kernel
theorem dX2_save_59 : decode cX2_save 59 = .ok (.iconst 0, 1) := by decide +kernel
theorem dX2_save_60 : decode cX2_save 60 = .ok (.aload_n 1, 1) := by decide +kernel
theorem dX2_save_61 : decode cX2_save 61 = .ok (.iload_n 3, 1) := by decide +kernel
theorem dX2_save_62 : decode cX2_save 62 = .ok (.bipush 14, 2) := by decide +kernel
theorem dX2_save_64 : decode cX2_save 64 = .ok (.iadd, 1) := by decide +kernel
theorem dX2_save_65 : decode cX2_save 65 = .ok (.bipush 7, 2) := by decide +kernel
theorem dX2_save_67 : decode cX2_save 67 = .ok (.invokestatic 35, 3) := by decide +kernel
theorem dX2_save_70 : decode cX2_save 70 = .ok (.return_, 1) := by decide +kernel
theorem dX2_load_0 : decode cX2_load 0 = .ok (.aload_n 0, 1) := by decide +kernel
theorem dX2_load_1 : decode cX2_load 1 = .ok (.aload_n 1, 1) := by decide +kernel
theorem dX2_load_2 : decode cX2_load 2 = .ok (.iload_n 2, 1) := by decide +kernel
theorem dX2_load_3 : decode cX2_load 3 = .ok (.iaload, 1) := by decide +kernel
theorem dX2_load_4 : decode cX2_load 4 = .ok (.putfield 28, 3) := by decide +kernel
theorem dX2_load_7 : decode cX2_load 7 = .ok (.aload_n 1, 1) := by decide +kernel
theorem dX2_load_8 : decode cX2_load 8 = .ok (.iload_n 2, 1) := by decide +kernel
theorem dX2_load_9 : decode cX2_load 9 = .ok (.iconst 1, 1) := by decide +kernel
theorem dX2_load_10 : decode cX2_load 10 = .ok (.iadd, 1) := by decide +kernel
theorem dX2_load_11 : decode cX2_load 11 = .ok (.aload_n 0, 1) := by decide +kernel
theorem dX2_load_12 : decode cX2_load 12 = .ok (.getfield 9, 3) := by decide +kernel
theorem dX2_load_15 : decode cX2_load 15 = .ok (.iconst 0, 1) := by decide +kernel
theorem dX2_load_16 : decode cX2_load 16 = .ok (.bipush 6, 2) := by decide +kernel
theorem dX2_load_18 : decode cX2_load 18 = .ok (.invokestatic 35, 3) := by decide +kernel
theorem dX2_load_21 : decode cX2_load 21 = .ok (.iload_n 2, 1) := by decide +kernel
theorem dX2_load_22 : decode cX2_load 22 = .ok (.iconst 1, 1) := by decide +kernel
theorem dX2_load_23 : decode cX2_load 23 = .ok (.iadd, 1) := by decide +kernel
theorem dX2_load_24 : decode cX2_load 24 = .ok (.bipush 6, 2) := by decide +kernel
theorem dX2_load_26 : decode cX2_load 26 = .ok (.iadd, 1) := by decide +kernel
theorem dX2_load_27 : decode cX2_load 27 = .ok (.istore_n 3, 1) := by decide +kernel
theorem dX2_load_28 : decode cX2_load 28 = .ok (.aload_n 1, 1) := by decide +kernel
theorem dX2_load_29 : decode cX2_load 29 = .ok (.iload_n 3, 1) := by decide +kernel
theorem dX2_load_30 : decode cX2_load 30 = .ok (.aload_n 0, 1) := by decide +kernel
theorem dX2_load_31 : decode cX2_load 31 = .ok (.getfield 15, 3) := by decide +kernel
theorem dX2_load_34 : decode cX2_load 34 = .ok (.iconst 0, 1) := by decide +kernel
theorem dX2_load_35 : decode cX2_load 35 = .ok (.bipush 7, 2) := by decide +kernel
theorem dX2_load_37 : decode cX2_load 37 = .ok (.invokestatic 35, 3) := by decide +kernel
theorem dX2_load_40 : decode cX2_load 40 = .ok (.aload_n 1, 1) := by decide +kernel
theorem dX2_load_41 : decode cX2_load 41 = .ok (.iload_n 3, 1) := by decide +kernel
theorem dX2_load_42 : decode cX2_load 42 = .ok (.bipush 7, 2) := by decide +kernel
theorem dX2_load_44 : decode cX2_load 44 = .ok (.iadd, 1) := by decide +kernel
theorem dX2_load_45 : decode cX2_load 45 = .ok (.aload_n 0, 1) := by decide +kernel
theorem dX2_load_46 : decode cX2_load 46 = .ok (.getfield 18, 3) := by decide +kernel
theorem dX2_load_49 : decode cX2_load 49 = .ok (.iconst 0, 1) := by decide +kernel
theorem dX2_load_50 : decode cX2_load 50 = .ok (.bipush 7, 2) := by decide +kernel
theorem dX2_load_52 : decode cX2_load 52 = .ok (.invokestatic 35, 3) := by decide +kernel
theorem dX2_load_55 : decode cX2_load 55 = .ok (.aload_n 1, 1) := by decide +kernel
theorem dX2_load_56 : decode cX2_load 56 = .ok (.iload_n 3, 1) := by decide +kernel
theorem dX2_load_57 : decode cX2_load 57 = .ok (.bipush 14, 2) := by decide +kernel
theorem dX2_load_59 : decode cX2_load 59 = .ok (.iadd, 1) := by decide +kernel
theorem dX2_load_60 : decode cX2_load 60 = .ok (.aload_n 0, 1) := by decide +kernel
theorem dX2_load_61 : decode cX2_load 61 = .ok (.getfield 21, 3) := by decide +kernel
theorem dX2_load_64 : decode cX2_load 64 = .ok (.iconst 0, 1) := by decide +kernel
theorem dX2_load_65 : decode cX2_load 65 = .ok (.bipush 7, 2) := by decide +kernel
theorem dX2_load_67 : decode cX2_load 67 = .ok (.invokestatic 35, 3) := by decide +kernel
theorem dX2_load_70 : decode cX2_load 70 = .ok (.return_, 1) := by decide +kernel
theorem dX2_become_0 : decode cX2_become 0 = .ok (.aload_n 0, 1) := by decide +kernel
theorem dX2_become_1 : decode cX2_become 1 = .ok (.aload_n 1, 1) := by decide +kernel
theorem dX2_become_2 : decode cX2_become 2 = .ok (.getfield 28, 3) := by decide +kernel
theorem dX2_become_5 : decode cX2_become 5 = .ok (.putfield 28, 3) := by decide +kernel
theorem dX2_become_8 : decode cX2_become 8 = .ok (.aload_n 1, 1) := by decide +kernel
theorem dX2_become_9 : decode cX2_become 9 = .ok (.getfield 9, 3) := by decide +kernel
theorem dX2_become_12 : decode cX2_become 12 = .ok (.iconst 0, 1) := by decide +kernel
theorem dX2_become_13 : decode cX2_become 13 = .ok (.aload_n 0, 1) := by decide +kernel
theorem dX2_become_14 : decode cX2_become 14 = .ok (.getfield 9, 3) := by decide +kernel
theorem dX2_become_17 : decode cX2_become 17 = .ok (.iconst 0, 1) := by decide +kernel
theorem dX2_become_18 : decode cX2_become 18 = .ok (.bipush 6, 2) := by decide +kernel
theorem dX2_become_20 : decode cX2_become 20 = .ok (.invokestatic 35, 3) := by decide +kernel
theorem dX2_become_23 : decode cX2_become 23 = .ok (.aload_n 1, 1) := by decide +kernel
theorem dX2_become_24 : decode cX2_become 24 = .ok (.getfield 15, 3) := by decide +kernel
theorem dX2_become_27 : decode cX2_become 27 = .ok (.iconst 0, 1) := by decide +kernel
theorem dX2_become_28 : decode cX2_become 28 = .ok (.aload_n 0, 1) := by decide +kernel
theorem dX2_become_29 : decode cX2_become 29 = .ok (.getfield 15, 3) := by decide +kernel
theorem dX2_become_32 : decode cX2_become 32 = .ok (.iconst 0, 1) := by decide +kernel
theorem dX2_become_33 : decode cX2_become 33 = .ok (.bipush 7, 2) := by decide +kernel
theorem dX2_become_35 : decode cX2_become 35 = .ok (.invokestatic 35, 3) := by decide +kernel
theorem dX2_become_38 : decode cX2_become 38 = .ok (.aload_n 1, 1) := by decide +kernel
theorem dX2_become_39 : decode cX2_become 39 = .ok (.getfield 18, 3) := by decide +kernel
theorem dX2_become_42 : decode cX2_become 42 = .ok (.iconst 0, 1) := by decide +kernel
theorem dX2_become_43 : decode cX2_become 43 = .ok (.aload_n 0, 1) := by decide +kernel
theorem dX2_become_44 : decode cX2_become 44 = .ok (.getfield 18, 3) := by decide +kernel
theorem dX2_become_47 : decode cX2_become 47 = .ok (.iconst 0, 1) := by decide +kernel
theorem dX2_become_48 : decode cX2_become 48 = .ok (.bipush 7, 2) := by decide +kernel
theorem dX2_become_50 : decode cX2_become 50 = .ok (.invokestatic 35, 3) := by decide +kernel
theorem dX2_become_53 : decode cX2_become 53 = .ok (.aload_n 1, 1) := by decide +kernel
theorem dX2_become_54 : decode cX2_become 54 = .ok (.getfield 21, 3) := by decide +kernel
theorem dX2_become_57 : decode cX2_become 57 = .ok (.iconst 0, 1) := by decide +kernel
theorem dX2_become_58 : decode cX2_become 58 = .ok (.aload_n 0, 1) := by decide +kernel
theorem dX2_become_59 : decode cX2_become 59 = .ok (.getfield 21, 3) := by decide +kernel
theorem dX2_become_62 : decode cX2_become 62 = .ok (.iconst 0, 1) := by decide +kernel
theorem dX2_become_63 : decode cX2_become 63 = .ok (.bipush 7, 2) := by decide +kernel
theorem dX2_become_65 : decode cX2_become 65 = .ok (.invokestatic 35, 3) := by decide +kernel
theorem dX2_become_68 : decode cX2_become 68 = .ok (.return_, 1) := by decide +kernel
theorem dX3_init_0 : decode cX3_init 0 = .ok (.aload_n 0, 1) := by decide +kernel
theorem dX3_init_1 : decode cX3_init 1 = .ok (.invokespecial 1, 3) := by decide +kernel
theorem dX3_init_4 : decode cX3_init 4 = .ok (.aload_n 0, 1) := by decide +kernel
theorem dX3_init_5 : decode cX3_init 5 = .ok (.sipush 280, 3) := by decide +kernel
theorem dX3_init_8 : decode cX3_init 8 = .ok (.newarray .int, 2) := by decide +kernel
theorem dX3_init_10 : decode cX3_init 10 = .ok (.putfield 11, 3) := by decide +kernel
theorem dX3_init_13 : decode cX3_init 13 = .ok (.aload_n 0, 1) := by decide +kernel
theorem dX3_init_14 : decode cX3_init 14 = .ok (.iconst 0, 1) := by decide +kernel
theorem dX3_init_15 : decode cX3_init 15 = .ok (.putfield 15, 3) := by decide +kernel
theorem dX3_init_18 : decode cX3_init 18 = .ok (.aload_n 0, 1) := by decide +kernel
theorem dX3_init_19 : decode cX3_init 19 = .ok (.iconst 0, 1) := by decide +kernel
theorem dX3_init_20 : decode cX3_init 20 = .ok (.putfield 19, 3) := by decide +kernel
theorem dX3_init_23 : decode cX3_init 23 = .ok (.return_, 1) := by decide +kernel
theorem dX3_add_0 : decode cX3_add 0 = .ok (.aload_n 1, 1) := by decide +kernel
theorem dX3_add_1 : decode cX3_add 1 = .ok (.aload_n 0, 1) := by decide +kernel
theorem dX3_add_2 : decode cX3_add 2 = .ok (.getfield 11, 3) := by decide +kernel
theorem dX3_add_5 : decode cX3_add 5 = .ok (.aload_n 0, 1) := by decide +kernel
theorem dX3_add_6 : decode cX3_add 6 = .ok (.getfield 15, 3) := by decide +kernel
theorem dX3_add_9 : decode cX3_add 9 = .ok (.bipush 28, 2) := by decide +kernel
theorem dX3_add_11 : decode cX3_add 11 = .ok (.imul, 1) := by decide +kernel
theorem dX3_add_12 : decode cX3_add 12 = .ok (.invokevirtual 22, 3) := by decide +kernel
theorem dX3_add_15 : decode cX3_add 15 = .ok (.aload_n 0, 1) := by decide +kernel
theorem dX3_add_16 : decode cX3_add 16 = .ok (.aload_n 0, 1) := by decide +kernel
theorem dX3_add_17 : decode cX3_add 17 = .ok (.getfield 15, 3) := by decide +kernel
theorem dX3_add_20 : decode cX3_add 20 = .ok (.iconst 1, 1) := by decide +kernel
theorem dX3_add_21 : decode cX3_add 21 = .ok (.iadd, 1) := by decide +kernel
theorem dX3_add_22 : decode cX3_add 22 = .ok (.bipush 10, 2) := by decide +kernel
theorem dX3_add_24 : decode cX3_add 24 = .ok (.irem, 1) := by decide +kernel
theorem dX3_add_25 : decode cX3_add 25 = .ok (.putfield 15, 3) := by decide +kernel
theorem dX3_add_28 : decode cX3_add 28 = .ok (.aload_n 0, 1) := by decide +kernel
theorem dX3_add_29 : decode cX3_add 29 = .ok (.bipush 10, 2) := by decide +kernel
theorem dX3_add_31 : decode cX3_add 31 = .ok (.aload_n 0, 1) := by decide +kernel
theorem dX3_add_32 : decode cX3_add 32 = .ok (.getfield 19, 3) := by decide +kernel
theorem dX3_add_35 : decode cX3_add 35 = .ok (.iconst 1, 1) := by decide +kernel
theorem dX3_add_36 : decode cX3_add 36 = .ok (.iadd, 1) := by decide +kernel
theorem dX3_add_37 : decode cX3_add 37 = .ok (.invokestatic 26, 3) := by decide +kernel
theorem dX3_add_40 : decode cX3_add 40 = .ok (.putfield 19, 3) := by decide +kernel
theorem dX3_add_43 : decode cX3_add 43 = .ok (.return_, 1) := by decide +kernel
theorem dX3_takeBack_0 : decode cX3_takeBack 0 = .ok (.aload_n 0, 1) := by decide +kernel
theorem dX3_takeBack_1 : decode cX3_takeBack 1 = .ok (.aload_n 0, 1) := by decide +kernel
theorem dX3_takeBack_2 : decode cX3_takeBack 2 = .ok (.getfield 15, 3) := by decide +kernel
theorem dX3_takeBack_5 : decode cX3_takeBack 5 = .ok (.bipush 10, 2) := by decide +kernel
theorem dX3_takeBack_7 : decode cX3_takeBack 7 = .ok (.iadd, 1) := by decide +kernel
theorem dX3_takeBack_8 : decode cX3_takeBack 8 = .ok (.iconst 1, 1) := by decide +kernel
theorem dX3_takeBack_9 : decode cX3_takeBack 9 = .ok (.isub, 1) := by decide +kernel
theorem dX3_takeBack_10 : decode cX3_takeBack 10 = .ok (.bipush 10, 2) := by decide +kernel
theorem dX3_takeBack_12 : decode cX3_takeBack 12 = .ok (.irem, 1) := by decide +kernel
theorem dX3_takeBack_13 : decode cX3_takeBack 13 = .ok (.putfield 15, 3) := by decide +kernel
theorem dX3_takeBack_16 : decode cX3_takeBack 16 = .ok (.aload_n 0, 1) := by decide +kernel
theorem dX3_takeBack_17 : decode cX3_takeBack 17 = .ok (.dup, 1) := by decide +kernel
theorem dX3_takeBack_18 : decode cX3_takeBack 18 = .ok (.getfield 19, 3) := by decide +kernel
theorem dX3_takeBack_21 : decode cX3_takeBack 21 = .ok (.iconst 1, 1) := by decide +kernel
theorem dX3_takeBack_22 : decode cX3_takeBack 22 = .ok (.isub, 1) := by decide +kernel
theorem dX3_takeBack_23 : decode cX3_takeBack 23 = .ok (.putfield 19, 3) := by decide +kernel
theorem dX3_takeBack_26 : decode cX3_takeBack 26 = .ok (.aload_n 1, 1) := by decide +kernel
theorem dX3_takeBack_27 : decode cX3_takeBack 27 = .ok (.aload_n 0, 1) := by decide +kernel
theorem dX3_takeBack_28 : decode cX3_takeBack 28 = .ok (.getfield 11, 3) := by decide +kernel
theorem dX3_takeBack_31 : decode cX3_takeBack 31 = .ok (.aload_n 0, 1) := by decide +kernel
theorem dX3_takeBack_32 : decode cX3_takeBack 32 = .ok (.getfield 15, 3) := by decide +kernel
theorem dX3_takeBack_35 : decode cX3_takeBack 35 = .ok (.bipush 28, 2) := by decide +kernel
theorem dX3_takeBack_37 : decode cX3_takeBack 37 = .ok (.imul, 1) := by decide +kernel
theorem dX3_takeBack_38 : decode cX3_takeBack 38 = .ok (.invokevirtual 32, 3) := by decide +kernel
theorem dX3_takeBack_41 : decode cX3_takeBack 41 = .ok (.return_, 1) := by decide +kernel
theorem dX3_forget_0 : decode cX3_forget 0 = .ok (.aload_n 0, 1) := by decide +kernel
theorem dX3_forget_1 : decode cX3_forget 1 = .ok (.iconst 0, 1) := by decide +kernel
theorem dX3_forget_2 : decode cX3_forget 2 = .ok (.putfield 19, 3) := by decide +kernel
theorem dX3_forget_5 : decode cX3_forget 5 = .ok (.return_, 1) := by decide +kernel
theorem dX4_init_0 : decode cX4_init 0 = .ok (.aload_n 0, 1) := by decide +kernel
theorem dX4_init_1 : decode cX4_init 1 = .ok (.invokespecial 3, 3) := by decide +kernel
theorem dX4_init_4 : decode cX4_init 4 = .ok (.aload_n 0, 1) := by decide +kernel
theorem dX4_init_5 : decode cX4_init 5 = .ok (.new 9, 3) := by decide +kernel
theorem dX4_init_8 : decode cX4_init 8 = .ok (.dup, 1) := by decide +kernel
theorem dX4_init_9 : decode cX4_init 9 = .ok (.invokespecial 11, 3) := by decide +kernel
theorem dX4_init_12 : decode cX4_init 12 = .ok (.putfield 12, 3) := by decide +kernel
theorem dX4_init_15 : decode cX4_init 15 = .ok (.aload_n 0, 1) := by decide +kernel
theorem dX4_init_16 : decode cX4_init 16 = .ok (.aload_n 1, 1) := by decide +kernel
theorem dX4_init_17 : decode cX4_init 17 = .ok (.putfield 18, 3) := by decide +kernel
theorem dX4_init_20 : decode cX4_init 20 = .ok (.return_, 1) := by decide +kernel
theorem dX4_read_0 : decode cX4_read 0 = .ok (.aload_n 0, 1) := by decide +kernel
theorem dX4_read_1 : decode cX4_read 1 = .ok (.iload_n 1, 1) := by decide +kernel
theorem dX4_read_2 : decode cX4_read 2 = .ok (.aload_n 0, 1) := by decide +kernel
theorem dX4_read_3 : decode cX4_read 3 = .ok (.getfield 18, 3) := by decide +kernel
theorem dX4_read_6 : decode cX4_read 6 = .ok (.arraylength, 1) := by decide +kernel
theorem dX4_read_7 : decode cX4_read 7 = .ok (.invokestatic 22, 3) := by decide +kernel
theorem dX4_read_10 : decode cX4_read 10 = .ok (.putfield 28, 3) := by decide +kernel
theorem dX4_read_13 : decode cX4_read 13 = .ok (.aload_n 0, 1) := by decide +kernel
theorem dX4_read_14 : decode cX4_read 14 = .ok (.iconst 0, 1) := by decide +kernel
theorem dX4_read_15 : decode cX4_read 15 = .ok (.putfield 32, 3) := by decide +kernel
theorem dX4_read_18 : decode cX4_read 18 = .ok (.aload_n 0, 1) := by decide +kernel
theorem dX4_read_19 : decode cX4_read 19 = .ok (.iconst (-1), 1) := by decide +kernel
theorem dX4_read_20 : decode cX4_read 20 = .ok (.putfield 35, 3) := by decide +kernel
theorem dX4_read_23 : decode cX4_read 23 = .ok (.aload_n 0, 1) := by decide +kernel
theorem dX4_read_24 : decode cX4_read 24 = .ok (.iconst 0, 1) := by decide +kernel
theorem dX4_read_25 : decode cX4_read 25 = .ok (.putfield 38, 3) := by decide +kernel
theorem dX4_read_28 : decode cX4_read 28 = .ok (.aload_n 0, 1) := by decide +kernel
theorem dX4_read_29 : decode cX4_read 29 = .ok (.iconst 0, 1) := by decide +kernel
theorem dX4_read_30 : decode cX4_read 30 = .ok (.putfield 41, 3) := by decide +kernel
theorem dX4_read_33 : decode cX4_read 33 = .ok (.aload_n 0, 1) := by decide +kernel
theorem dX4_read_34 : decode cX4_read 34 = .ok (.getfield 12, 3) := by decide +kernel
theorem dX4_read_37 : decode cX4_read 37 = .ok (.invokevirtual 45, 3) := by decide +kernel
theorem dX4_read_40 : decode cX4_read 40 = .ok (.aload_n 0, 1) := by decide +kernel
theorem dX4_read_41 : decode cX4_read 41 = .ok (.invokevirtual 48, 3) := by decide +kernel
theorem dX4_read_44 : decode cX4_read 44 = .ok (.iconst 0, 1) := by decide +kernel
theorem dX4_read_45 : decode cX4_read 45 = .ok (.istore_n 2, 1) := by decide +kernel
theorem dX4_read_46 : decode cX4_read 46 = .ok (.iload_n 2, 1) := by decide +kernel
theorem dX4_read_47 : decode cX4_read 47 = .ok (.sipush 200, 3) := by decide +kernel
theorem dX4_read_50 : decode cX4_read 50 = .ok (.if_icmp .ge 46, 3) := by decide +kernel
theorem dX4_read_53 : decode cX4_read 53 = .ok (.aload_n 0, 1) := by decide +kernel
theorem dX4_read_54 : decode cX4_read 54 = .ok (.getfield 32, 3) := by decide +kernel
theorem dX4_read_57 : decode cX4_read 57 = .ok (.aload_n 0, 1) := by decide +kernel
theorem dX4_read_58 : decode cX4_read 58 = .ok (.getfield 28, 3) := by decide +kernel
theorem dX4_read_61 : decode cX4_read 61 = .ok (.if_icmp .ge 35, 3) := by decide +kernel
theorem dX4_read_64 : decode cX4_read 64 = .ok (.aload_n 0, 1) := by decide +kernel
theorem dX4_read_65 : decode cX4_read 65 = .ok (.getfield 35, 3) := by decide +kernel
theorem dX4_read_68 : decode cX4_read 68 = .ok (.iconst (-1), 1) := by decide +kernel
theorem dX4_read_69 : decode cX4_read 69 = .ok (.if_icmp .ne 27, 3) := by decide +kernel
theorem dX4_read_72 : decode cX4_read 72 = .ok (.aload_n 0, 1) := by decide +kernel
theorem dX4_read_73 : decode cX4_read 73 = .ok (.invokevirtual 51, 3) := by decide +kernel
theorem dX4_read_76 : decode cX4_read 76 = .ok (.aload_n 0, 1) := by decide +kernel
theorem dX4_read_77 : decode cX4_read 77 = .ok (.dup, 1) := by decide +kernel
theorem dX4_read_78 : decode cX4_read 78 = .ok (.getfield 38, 3) := by decide +kernel
theorem dX4_read_81 : decode cX4_read 81 = .ok (.iconst 1, 1) := by decide +kernel
theorem dX4_read_82 : decode cX4_read 82 = .ok (.iadd, 1) := by decide +kernel
theorem dX4_read_83 : decode cX4_read 83 = .ok (.putfield 38, 3) := by decide +kernel
theorem dX4_read_86 : decode cX4_read 86 = .ok (.aload_n 0, 1) := by decide +kernel
theorem dX4_read_87 : decode cX4_read 87 = .ok (.invokevirtual 48, 3) := by decide +kernel
theorem dX4_read_90 : decode cX4_read 90 = .ok (.iinc 2 1, 3) := by decide +kernel
theorem dX4_read_93 : decode cX4_read 93 = .ok (.goto (-47), 3) := by decide +kernel
theorem dX4_read_96 : decode cX4_read 96 = .ok (.aload_n 0, 1) := by decide +kernel
theorem dX4_read_97 : decode cX4_read 97 = .ok (.getfield 35, 3) := by decide +kernel
theorem dX4_read_100 : decode cX4_read 100 = .ok (.iconst (-1), 1) := by decide +kernel
theorem dX4_read_101 : decode cX4_read 101 = .ok (.if_icmp .ne 10, 3) := by decide +kernel
theorem dX4_read_104 : decode cX4_read 104 = .ok (.aload_n 0, 1) := by decide +kernel
theorem dX4_read_105 : decode cX4_read 105 = .ok (.getfield 38, 3) := by decide +kernel
theorem dX4_read_108 : decode cX4_read 108 = .ok (.goto 10, 3) := by decide +kernel
theorem dX4_read_111 : decode cX4_read 111 = .ok (.bipush (-10), 2) := by decide +kernel
theorem dX4_read_113 : decode cX4_read 113 = .ok (.aload_n 0, 1) := by decide +kernel
theorem dX4_read_114 : decode cX4_read 114 = .ok (.getfield 35, 3) := by decide +kernel
theorem dX4_read_117 : decode cX4_read 117 = .ok (.isub, 1) := by decide +kernel
theorem dX4_read_118 : decode cX4_read 118 = .ok (.ireturn, 1) := by decide +kernel
theorem dX4_readItem_0 : decode cX4_readItem 0 = .ok (.aload_n 0, 1) := by decide +kernel
theorem dX4_readItem_1 : decode cX4_readItem 1 = .ok (.getfield 32, 3) := by decide +kernel
theorem dX4_readItem_4 : decode cX4_readItem 4 = .ok (.istore_n 1, 1) := by decide +kernel
theorem dX4_readItem_5 : decode cX4_readItem 5 = .ok (.aload_n 0, 1) := by decide +kernel
theorem dX4_readItem_6 : decode cX4_readItem 6 = .ok (.invokevirtual 54, 3) := by decide +kernel
theorem dX4_readItem_9 : decode cX4_readItem 9 = .ok (.istore_n 2, 1) := by decide +kernel
theorem dX4_readItem_10 : decode cX4_readItem 10 = .ok (.aload_n 0, 1) := by decide +kernel
theorem dX4_readItem_11 : decode cX4_readItem 11 = .ok (.dup, 1) := by decide +kernel
theorem dX4_readItem_12 : decode cX4_readItem 12 = .ok (.getfield 32, 3) := by decide +kernel
theorem dX4_readItem_15 : decode cX4_readItem 15 = .ok (.iconst 1, 1) := by decide +kernel
theorem dX4_readItem_16 : decode cX4_readItem 16 = .ok (.iadd, 1) := by decide +kernel
theorem dX4_readItem_17 : decode cX4_readItem 17 = .ok (.putfield 32, 3) := by decide +kernel
theorem dX4_readItem_20 : decode cX4_readItem 20 = .ok (.iload_n 2, 1) := by decide +kernel
theorem dX4_readItem_21 : decode cX4_readItem 21 = .ok (.bipush 108, 2) := by decide +kernel
theorem dX4_readItem_23 : decode cX4_readItem 23 = .ok (.if_icmp .ne 17, 3) := by decide +kernel
theorem dX4_readItem_26 : decode cX4_readItem 26 = .ok (.aload_n 0, 1) := by decide +kernel
theorem dX4_readItem_27 : decode cX4_readItem 27 = .ok (.getfield 38, 3) := by decide +kernel
theorem dX4_readItem_30 : decode cX4_readItem 30 = .ok (.ifCond .ne 10, 3) := by decide +kernel
theorem dX4_readItem_33 : decode cX4_readItem 33 = .ok (.aload_n 0, 1) := by decide +kernel
theorem dX4_readItem_34 : decode cX4_readItem 34 = .ok (.invokevirtual 58, 3) := by decide +kernel
theorem dX4_readItem_37 : decode cX4_readItem 37 = .ok (.goto 66, 3) := by decide +kernel
theorem dX4_readItem_40 : decode cX4_readItem 40 = .ok (.iload_n 2, 1) := by decide +kernel
theorem dX4_readItem_41 : decode cX4_readItem 41 = .ok (.bipush 120, 2) := by decide +kernel
theorem dX4_readItem_43 : decode cX4_readItem 43 = .ok (.if_icmp .ne 17, 3) := by decide +kernel
theorem dX4_readItem_46 : decode cX4_readItem 46 = .ok (.aload_n 0, 1) := by decide +kernel
theorem dX4_readItem_47 : decode cX4_readItem 47 = .ok (.getfield 41, 3) := by decide +kernel
theorem dX4_readItem_50 : decode cX4_readItem 50 = .ok (.ifCond .ne 10, 3) := by decide +kernel
theorem dX4_readItem_53 : decode cX4_readItem 53 = .ok (.aload_n 0, 1) := by decide +kernel
theorem dX4_readItem_54 : decode cX4_readItem 54 = .ok (.invokevirtual 61, 3) := by decide +kernel
theorem dX4_readItem_57 : decode cX4_readItem 57 = .ok (.goto 46, 3) := by decide +kernel
theorem dX4_readItem_60 : decode cX4_readItem 60 = .ok (.iload_n 2, 1) := by decide +kernel
theorem dX4_readItem_61 : decode cX4_readItem 61 = .ok (.bipush 104, 2) := by decide +kernel
theorem dX4_readItem_63 : decode cX4_readItem 63 = .ok (.if_icmp .ne 10, 3) := by decide +kernel
theorem dX4_readItem_66 : decode cX4_readItem 66 = .ok (.aload_n 0, 1) := by decide +kernel
theorem dX4_readItem_67 : decode cX4_readItem 67 = .ok (.invokevirtual 64, 3) := by decide +kernel
theorem dX4_readItem_70 : decode cX4_readItem 70 = .ok (.goto 33, 3) := by decide +kernel
theorem dX4_readItem_73 : decode cX4_readItem 73 = .ok (.iload_n 2, 1) := by decide +kernel
theorem dX4_readItem_74 : decode cX4_readItem 74 = .ok (.bipush 99, 2) := by decide +kernel
theorem dX4_readItem_76 : decode cX4_readItem 76 = .ok (.if_icmp .ne 22, 3) := by decide +kernel
theorem dX4_readItem_79 : decode cX4_readItem 79 = .ok (.aload_n 0, 1) := by decide +kernel
theorem dX4_readItem_80 : decode cX4_readItem 80 = .ok (.getfield 12, 3) := by decide +kernel
theorem dX4_readItem_83 : decode cX4_readItem 83 = .ok (.getfield 67, 3) := by decide +kernel
theorem dX4_readItem_86 : decode cX4_readItem 86 = .ok (.bipush 7, 2) := by decide +kernel
theorem dX4_readItem_88 : decode cX4_readItem 88 = .ok (.if_icmp .ge 10, 3) := by decide +kernel
theorem dX4_readItem_91 : decode cX4_readItem 91 = .ok (.aload_n 0, 1) := by decide +kernel
theorem dX4_readItem_92 : decode cX4_readItem 92 = .ok (.invokevirtual 70, 3) := by decide +kernel
theorem dX4_readItem_95 : decode cX4_readItem 95 = .ok (.goto 8, 3) := by decide +kernel
theorem dX4_readItem_98 : decode cX4_readItem 98 = .ok (.aload_n 0, 1) := by decide +kernel
theorem dX4_readItem_99 : decode cX4_readItem 99 = .ok (.iload_n 1, 1) := by decide +kernel
theorem dX4_readItem_100 : decode cX4_readItem 100 = .ok (.invokevirtual 73, 3) := by decide +kernel
theorem dX4_readItem_103 : decode cX4_readItem 103 = .ok (.aload_n 0, 1) := by decide +kernel
theorem dX4_readItem_104 : decode cX4_readItem 104 = .ok (.invokevirtual 77, 3) := by decide +kernel
theorem dX4_readItem_107 : decode cX4_readItem 107 = .ok (.return_, 1) := by decide +kernel
theorem dX4_readLines_0 : decode cX4_readLines 0 = .ok (.aload_n 0, 1) := by decide +kernel
theorem dX4_readLines_1 : decode cX4_readLines 1 = .ok (.getfield 12, 3) := by decide +kernel
theorem dX4_readLines_4 : decode cX4_readLines 4 = .ok (.aload_n 0, 1) := by decide +kernel
theorem dX4_readLines_5 : decode cX4_readLines 5 = .ok (.iconst 2, 1) := by decide +kernel
theorem dX4_readLines_6 : decode cX4_readLines 6 = .ok (.bipush 6, 2) := by decide +kernel
theorem dX4_readLines_8 : decode cX4_readLines 8 = .ok (.bipush (-9), 2) := by decide +kernel
theorem dX4_readLines_10 : decode cX4_readLines 10 = .ok (.invokevirtual 80, 3) := by decide +kernel
theorem dX4_readLines_13 : decode cX4_readLines 13 = .ok (.putfield 84, 3) := by decide +kernel
theorem dX4_readLines_16 : decode cX4_readLines 16 = .ok (.return_, 1) := by decide +kernel
theorem dX4_readCords_0 : decode cX4_readCords 0 = .ok (.aload_n 0, 1) := by decide +kernel
theorem dX4_readCords_1 : decode cX4_readCords 1 = .ok (.getfield 12, 3) := by decide +kernel
theorem dX4_readCords_4 : decode cX4_readCords 4 = .ok (.aload_n 0, 1) := by decide +kernel
theorem dX4_readCords_5 : decode cX4_readCords 5 = .ok (.iconst 1, 1) := by decide +kernel
theorem dX4_readCords_6 : decode cX4_readCords 6 = .ok (.iconst 4, 1) := by decide +kernel
theorem dX4_readCords_7 : decode cX4_readCords 7 = .ok (.bipush (-9), 2) := by decide +kernel
theorem dX4_readCords_9 : decode cX4_readCords 9 = .ok (.invokevirtual 80, 3) := by decide +kernel
theorem dX4_readCords_12 : decode cX4_readCords 12 = .ok (.putfield 87, 3) := by decide +kernel
theorem dX4_readCords_15 : decode cX4_readCords 15 = .ok (.aload_n 0, 1) := by decide +kernel
theorem dX4_readCords_16 : decode cX4_readCords 16 = .ok (.iconst 1, 1) := by decide +kernel
theorem dX4_readCords_17 : decode cX4_readCords 17 = .ok (.putfield 41, 3) := by decide +kernel
theorem dX4_readCords_20 : decode cX4_readCords 20 = .ok (.return_, 1) := by decide +kernel
theorem dX4_readHole_0 : decode cX4_readHole 0 = .ok (.aload_n 0, 1) := by decide +kernel
theorem dX4_readHole_1 : decode cX4_readHole 1 = .ok (.iconst 0, 1) := by decide +kernel
theorem dX4_readHole_2 : decode cX4_readHole 2 = .ok (.aload_n 0, 1) := by decide +kernel
theorem dX4_readHole_3 : decode cX4_readHole 3 = .ok (.getfield 12, 3) := by decide +kernel
theorem dX4_readHole_6 : decode cX4_readHole 6 = .ok (.getfield 84, 3) := by decide +kernel
theorem dX4_readHole_9 : decode cX4_readHole 9 = .ok (.iconst 1, 1) := by decide +kernel
theorem dX4_readHole_10 : decode cX4_readHole 10 = .ok (.isub, 1) := by decide +kernel
theorem dX4_readHole_11 : decode cX4_readHole 11 = .ok (.bipush (-9), 2) := by decide +kernel
theorem dX4_readHole_13 : decode cX4_readHole 13 = .ok (.invokevirtual 80, 3) := by decide +kernel
theorem dX4_readHole_16 : decode cX4_readHole 16 = .ok (.istore_n 1, 1) := by decide +kernel
theorem dX4_readHole_17 : decode cX4_readHole 17 = .ok (.aload_n 0, 1) := by decide +kernel
theorem dX4_readHole_18 : decode cX4_readHole 18 = .ok (.iconst 0, 1) := by decide +kernel
theorem dX4_readHole_19 : decode cX4_readHole 19 = .ok (.aload_n 0, 1) := by decide +kernel
theorem dX4_readHole_20 : decode cX4_readHole 20 = .ok (.getfield 12, 3) := by decide +kernel
theorem dX4_readHole_23 : decode cX4_readHole 23 = .ok (.getfield 84, 3) := by decide +kernel
theorem dX4_readHole_26 : decode cX4_readHole 26 = .ok (.iconst 1, 1) := by decide +kernel
theorem dX4_readHole_27 : decode cX4_readHole 27 = .ok (.isub, 1) := by decide +kernel
theorem dX4_readHole_28 : decode cX4_readHole 28 = .ok (.bipush (-9), 2) := by decide +kernel
theorem dX4_readHole_30 : decode cX4_readHole 30 = .ok (.invokevirtual 80, 3) := by decide +kernel
theorem dX4_readHole_33 : decode cX4_readHole 33 = .ok (.istore_n 2, 1) := by decide +kernel
theorem dX4_readHole_34 : decode cX4_readHole 34 = .ok (.aload_n 0, 1) := by decide +kernel
theorem dX4_readHole_35 : decode cX4_readHole 35 = .ok (.getfield 35, 3) := by decide +kernel
theorem dX4_readHole_38 : decode cX4_readHole 38 = .ok (.iconst (-1), 1) := by decide +kernel
theorem dX4_readHole_39 : decode cX4_readHole 39 = .ok (.if_icmp .ne 12, 3) := by decide +kernel
theorem dX4_readHole_42 : decode cX4_readHole 42 = .ok (.aload_n 0, 1) := by decide +kernel
theorem dX4_readHole_43 : decode cX4_readHole 43 = .ok (.getfield 12, 3) := by decide +kernel
theorem dX4_readHole_46 : decode cX4_readHole 46 = .ok (.iload_n 1, 1) := by decide +kernel
theorem dX4_readHole_47 : decode cX4_readHole 47 = .ok (.iload_n 2, 1) := by decide +kernel
theorem dX4_readHole_48 : decode cX4_readHole 48 = .ok (.invokevirtual 90, 3) := by decide +kernel
theorem dX4_readHole_51 : decode cX4_readHole 51 = .ok (.return_, 1) := by decide +kernel
theorem dX4_readCall_0 : decode cX4_readCall 0 = .ok (.aload_n 0, 1) := by decide +kernel
theorem dX4_readCall_1 : decode cX4_readCall 1 = .ok (.getfield 12, 3) := by decide +kernel
theorem dX4_readCall_4 : decode cX4_readCall 4 = .ok (.getfield 67, 3) := by decide +kernel
theorem dX4_readCall_7 : decode cX4_readCall 7 = .ok (.istore_n 1, 1) := by decide +kernel
theorem dX4_readCall_8 : decode cX4_readCall 8 = .ok (.aload_n 0, 1) := by decide +kernel
theorem dX4_readCall_9 : decode cX4_readCall 9 = .ok (.getfield 12, 3) := by decide +kernel
theorem dX4_readCall_12 : decode cX4_readCall 12 = .ok (.getfield 94, 3) := by decide +kernel
theorem dX4_readCall_15 : decode cX4_readCall 15 = .ok (.iload_n 1, 1) := by decide +kernel
theorem dX4_readCall_16 : decode cX4_readCall 16 = .ok (.aload_n 0, 1) := by decide +kernel
theorem dX4_readCall_17 : decode cX4_readCall 17 = .ok (.iconst 0, 1) := by decide +kernel
theorem dX4_readCall_18 : decode cX4_readCall 18 = .ok (.bipush 40, 2) := by decide +kernel
theorem dX4_readCall_20 : decode cX4_readCall 20 = .ok (.bipush (-9), 2) := by decide +kernel
theorem dX4_readCall_22 : decode cX4_readCall 22 = .ok (.invokevirtual 80, 3) := by decide +kernel
theorem dX4_readCall_25 : decode cX4_readCall 25 = .ok (.iastore, 1) := by decide +kernel
theorem dX4_readCall_26 : decode cX4_readCall 26 = .ok (.aload_n 0, 1) := by decide +kernel
theorem dX4_readCall_27 : decode cX4_readCall 27 = .ok (.getfield 12, 3) := by decide +kernel
theorem dX4_readCall_30 : decode cX4_readCall 30 = .ok (.getfield 97, 3) := by decide +kernel
theorem dX4_readCall_33 : decode cX4_readCall 33 = .ok (.iload_n 1, 1) := by decide +kernel
theorem dX4_readCall_34 : decode cX4_readCall 34 = .ok (.aload_n 0, 1) := by decide +kernel
theorem dX4_readCall_35 : decode cX4_readCall 35 = .ok (.iconst 0, 1) := by decide +kernel
theorem dX4_readCall_36 : decode cX4_readCall 36 = .ok (.aload_n 0, 1) := by decide +kernel
theorem dX4_readCall_37 : decode cX4_readCall 37 = .ok (.getfield 12, 3) := by decide +kernel
theorem dX4_readCall_40 : decode cX4_readCall 40 = .ok (.getfield 84, 3) := by decide +kernel
theorem dX4_readCall_43 : decode cX4_readCall 43 = .ok (.iconst 1, 1) := by decide +kernel
theorem dX4_readCall_44 : decode cX4_readCall 44 = .ok (.isub, 1) := by decide +kernel
theorem dX4_readCall_45 : decode cX4_readCall 45 = .ok (.bipush (-9), 2) := by decide +kernel
theorem dX4_readCall_47 : decode cX4_readCall 47 = .ok (.invokevirtual 80, 3) := by decide +kernel
theorem dX4_readCall_50 : decode cX4_readCall 50 = .ok (.iastore, 1) := by decide +kernel
theorem dX4_readCall_51 : decode cX4_readCall 51 = .ok (.aload_n 0, 1) := by decide +kernel
theorem dX4_readCall_52 : decode cX4_readCall 52 = .ok (.getfield 12, 3) := by decide +kernel
theorem dX4_readCall_55 : decode cX4_readCall 55 = .ok (.getfield 100, 3) := by decide +kernel
theorem dX4_readCall_58 : decode cX4_readCall 58 = .ok (.iload_n 1, 1) := by decide +kernel
theorem dX4_readCall_59 : decode cX4_readCall 59 = .ok (.aload_n 0, 1) := by decide +kernel
theorem dX4_readCall_60 : decode cX4_readCall 60 = .ok (.iconst 0, 1) := by decide +kernel
theorem dX4_readCall_61 : decode cX4_readCall 61 = .ok (.aload_n 0, 1) := by decide +kernel
theorem dX4_readCall_62 : decode cX4_readCall 62 = .ok (.getfield 12, 3) := by decide +kernel
theorem dX4_readCall_65 : decode cX4_readCall 65 = .ok (.getfield 84, 3) := by decide +kernel
theorem dX4_readCall_68 : decode cX4_readCall 68 = .ok (.iconst 1, 1) := by decide +kernel
theorem dX4_readCall_69 : decode cX4_readCall 69 = .ok (.isub, 1) := by decide +kernel
theorem dX4_readCall_70 : decode cX4_readCall 70 = .ok (.aload_n 0, 1) := by decide +kernel
theorem dX4_readCall_71 : decode cX4_readCall 71 = .ok (.getfield 12, 3) := by decide +kernel
theorem dX4_readCall_74 : decode cX4_readCall 74 = .ok (.getfield 97, 3) := by decide +kernel
theorem dX4_readCall_77 : decode cX4_readCall 77 = .ok (.iload_n 1, 1) := by decide +kernel
theorem dX4_readCall_78 : decode cX4_readCall 78 = .ok (.iaload, 1) := by decide +kernel
theorem dX4_readCall_79 : decode cX4_readCall 79 = .ok (.invokevirtual 80, 3) := by decide +kernel
theorem dX4_readCall_82 : decode cX4_readCall 82 = .ok (.iastore, 1) := by decide +kernel
theorem dX4_readCall_83 : decode cX4_readCall 83 = .ok (.aload_n 0, 1) := by decide +kernel
theorem dX4_readCall_84 : decode cX4_readCall 84 = .ok (.getfield 12, 3) := by decide +kernel
theorem dX4_readCall_87 : decode cX4_readCall 87 = .ok (.getfield 103, 3) := by decide +kernel
theorem dX4_readCall_90 : decode cX4_readCall 90 = .ok (.iload_n 1, 1) := by decide +kernel
theorem dX4_readCall_91 : decode cX4_readCall 91 = .ok (.aload_n 0, 1) := by decide +kernel
theorem dX4_readCall_92 : decode cX4_readCall 92 = .ok (.iconst 1, 1) := by decide +kernel
theorem dX4_readCall_93 : decode cX4_readCall 93 = .ok (.bipush 20, 2) := by decide +kernel
theorem dX4_readCall_95 : decode cX4_readCall 95 = .ok (.bipush (-9), 2) := by decide +kernel
theorem dX4_readCall_97 : decode cX4_readCall 97 = .ok (.invokevirtual 80, 3) := by decide +kernel
theorem dX4_readCall_100 : decode cX4_readCall 100 = .ok (.iastore, 1) := by decide +kernel
theorem dX4_readCall_101 : decode cX4_readCall 101 = .ok (.aload_n 0, 1) := by decide +kernel
theorem dX4_readCall_102 : decode cX4_readCall 102 = .ok (.getfield 12, 3) := by decide +kernel
theorem dX4_readCall_105 : decode cX4_readCall 105 = .ok (.getfield 105, 3) := by decide +kernel
theorem dX4_readCall_108 : decode cX4_readCall 108 = .ok (.iload_n 1, 1) := by decide +kernel
theorem dX4_readCall_109 : decode cX4_readCall 109 = .ok (.aload_n 0, 1) := by decide +kernel
theorem dX4_readCall_110 : decode cX4_readCall 110 = .ok (.iconst 0, 1) := by decide +kernel
theorem dX4_readCall_111 : decode cX4_readCall 111 = .ok (.bipush 9, 2) := by decide +kernel
theorem dX4_readCall_113 : decode cX4_readCall 113 = .ok (.bipush (-9), 2) := by decide +kernel
theorem dX4_readCall_115 : decode cX4_readCall 115 = .ok (.invokevirtual 80, 3) := by decide +kernel
theorem dX4_readCall_118 : decode cX4_readCall 118 = .ok (.iastore, 1) := by decide +kernel
theorem dX4_readCall_119 : decode cX4_readCall 119 = .ok (.aload_n 0, 1) := by decide +kernel
theorem dX4_readCall_120 : decode cX4_readCall 120 = .ok (.getfield 12, 3) := by decide +kernel
theorem dX4_readCall_123 : decode cX4_readCall 123 = .ok (.iload_n 1, 1) := by decide +kernel
theorem dX4_readCall_124 : decode cX4_readCall 124 = .ok (.iconst 1, 1) := by decide +kernel
theorem dX4_readCall_125 : decode cX4_readCall 125 = .ok (.iadd, 1) := by decide +kernel
theorem dX4_readCall_126 : decode cX4_readCall 126 = .ok (.putfield 67, 3) := by decide +kernel
theorem dX4_readCall_129 : decode cX4_readCall 129 = .ok (.return_, 1) := by decide +kernel
theorem dX4_readNumber_0 : decode cX4_readNumber 0 = .ok (.aload_n 0, 1) := by decide +kernel
theorem dX4_readNumber_1 : decode cX4_readNumber 1 = .ok (.invokevirtual 48, 3) := by decide +kernel
theorem dX4_readNumber_4 : decode cX4_readNumber 4 = .ok (.aload_n 0, 1) := by decide +kernel
theorem dX4_readNumber_5 : decode cX4_readNumber 5 = .ok (.getfield 35, 3) := by decide +kernel
theorem dX4_readNumber_8 : decode cX4_readNumber 8 = .ok (.iconst (-1), 1) := by decide +kernel
theorem dX4_readNumber_9 : decode cX4_readNumber 9 = .ok (.if_icmp .eq 5, 3) := by decide +kernel
theorem dX4_readNumber_12 : decode cX4_readNumber 12 = .ok (.iload_n 1, 1) := by decide +kernel
theorem dX4_readNumber_13 : decode cX4_readNumber 13 = .ok (.ireturn, 1) := by decide +kernel
theorem dX4_readNumber_14 : decode cX4_readNumber 14 = .ok (.aload_n 0, 1) := by decide +kernel
theorem dX4_readNumber_15 : decode cX4_readNumber 15 = .ok (.getfield 32, 3) := by decide +kernel
theorem dX4_readNumber_18 : decode cX4_readNumber 18 = .ok (.istore 4, 2) := by decide +kernel
theorem dX4_readNumber_20 : decode cX4_readNumber 20 = .ok (.aload_n 0, 1) := by decide +kernel
theorem dX4_readNumber_21 : decode cX4_readNumber 21 = .ok (.invokevirtual 54, 3) := by decide +kernel
theorem dX4_readNumber_24 : decode cX4_readNumber 24 = .ok (.istore 5, 2) := by decide +kernel
theorem dX4_readNumber_26 : decode cX4_readNumber 26 = .ok (.iconst 0, 1) := by decide +kernel
theorem dX4_readNumber_27 : decode cX4_readNumber 27 = .ok (.istore 6, 2) := by decide +kernel
theorem dX4_readNumber_29 : decode cX4_readNumber 29 = .ok (.aload_n 0, 1) := by decide +kernel
theorem dX4_readNumber_30 : decode cX4_readNumber 30 = .ok (.getfield 32, 3) := by decide +kernel
theorem dX4_readNumber_33 : decode cX4_readNumber 33 = .ok (.aload_n 0, 1) := by decide +kernel
theorem dX4_readNumber_34 : decode cX4_readNumber 34 = .ok (.getfield 28, 3) := by decide +kernel
theorem dX4_readNumber_37 : decode cX4_readNumber 37 = .ok (.if_icmp .ge 46, 3) := by decide +kernel
theorem dX4_readNumber_40 : decode cX4_readNumber 40 = .ok (.aload_n 0, 1) := by decide +kernel
theorem dX4_readNumber_41 : decode cX4_readNumber 41 = .ok (.invokevirtual 54, 3) := by decide +kernel
theorem dX4_readNumber_44 : decode cX4_readNumber 44 = .ok (.invokestatic 108, 3) := by decide +kernel
theorem dX4_readNumber_47 : decode cX4_readNumber 47 = .ok (.ifCond .eq 36, 3) := by decide +kernel
theorem dX4_readNumber_50 : decode cX4_readNumber 50 = .ok (.bipush 100, 2) := by decide +kernel
theorem dX4_readNumber_52 : decode cX4_readNumber 52 = .ok (.bipush 10, 2) := by decide +kernel
theorem dX4_readNumber_54 : decode cX4_readNumber 54 = .ok (.iload 6, 2) := by decide +kernel
theorem dX4_readNumber_56 : decode cX4_readNumber 56 = .ok (.imul, 1) := by decide +kernel
theorem dX4_readNumber_57 : decode cX4_readNumber 57 = .ok (.aload_n 0, 1) := by decide +kernel
theorem dX4_readNumber_58 : decode cX4_readNumber 58 = .ok (.invokevirtual 54, 3) := by decide +kernel
theorem dX4_readNumber_61 : decode cX4_readNumber 61 = .ok (.iadd, 1) := by decide +kernel
theorem dX4_readNumber_62 : decode cX4_readNumber 62 = .ok (.bipush 48, 2) := by decide +kernel
theorem dX4_readNumber_64 : decode cX4_readNumber 64 = .ok (.isub, 1) := by decide +kernel
theorem dX4_readNumber_65 : decode cX4_readNumber 65 = .ok (.invokestatic 22, 3) := by decide +kernel
theorem dX4_readNumber_68 : decode cX4_readNumber 68 = .ok (.istore 6, 2) := by decide +kernel
theorem dX4_readNumber_70 : decode cX4_readNumber 70 = .ok (.aload_n 0, 1) := by decide +kernel
theorem dX4_readNumber_71 : decode cX4_readNumber 71 = .ok (.dup, 1) := by decide +kernel
theorem dX4_readNumber_72 : decode cX4_readNumber 72 = .ok (.getfield 32, 3) := by decide +kernel
theorem dX4_readNumber_75 : decode cX4_readNumber 75 = .ok (.iconst 1, 1) := by decide +kernel
theorem dX4_readNumber_76 : decode cX4_readNumber 76 = .ok (.iadd, 1) := by decide +kernel
theorem dX4_readNumber_77 : decode cX4_readNumber 77 = .ok (.putfield 32, 3) := by decide +kernel
theorem dX4_readNumber_80 : decode cX4_readNumber 80 = .ok (.goto (-51), 3) := by decide +kernel
theorem dX4_readNumber_83 : decode cX4_readNumber 83 = .ok (.iload 5, 2) := by decide +kernel
theorem dX4_readNumber_85 : decode cX4_readNumber 85 = .ok (.bipush 48, 2) := by decide +kernel
theorem dX4_readNumber_87 : decode cX4_readNumber 87 = .ok (.if_icmp .ne 18, 3) := by decide +kernel
theorem dX4_readNumber_90 : decode cX4_readNumber 90 = .ok (.aload_n 0, 1) := by decide +kernel
theorem dX4_readNumber_91 : decode cX4_readNumber 91 = .ok (.getfield 32, 3) := by decide +kernel
theorem dX4_readNumber_94 : decode cX4_readNumber 94 = .ok (.iload 4, 2) := by decide +kernel
theorem dX4_readNumber_96 : decode cX4_readNumber 96 = .ok (.isub, 1) := by decide +kernel
theorem dX4_readNumber_97 : decode cX4_readNumber 97 = .ok (.iconst 1, 1) := by decide +kernel
theorem dX4_readNumber_98 : decode cX4_readNumber 98 = .ok (.if_icmp .le 7, 3) := by decide +kernel
theorem dX4_readNumber_101 : decode cX4_readNumber 101 = .ok (.iconst 1, 1) := by decide +kernel
theorem dX4_readNumber_102 : decode cX4_readNumber 102 = .ok (.goto 4, 3) := by decide +kernel
theorem dX4_readNumber_105 : decode cX4_readNumber 105 = .ok (.iconst 0, 1) := by decide +kernel
theorem dX4_readNumber_106 : decode cX4_readNumber 106 = .ok (.istore 7, 2) := by decide +kernel
theorem dX4_readNumber_108 : decode cX4_readNumber 108 = .ok (.aload_n 0, 1) := by decide +kernel
theorem dX4_readNumber_109 : decode cX4_readNumber 109 = .ok (.getfield 32, 3) := by decide +kernel
theorem dX4_readNumber_112 : decode cX4_readNumber 112 = .ok (.iload 4, 2) := by decide +kernel
theorem dX4_readNumber_114 : decode cX4_readNumber 114 = .ok (.if_icmp .eq 26, 3) := by decide +kernel
theorem dX4_readNumber_117 : decode cX4_readNumber 117 = .ok (.iload 7, 2) := by decide +kernel
theorem dX4_readNumber_119 : decode cX4_readNumber 119 = .ok (.ifCond .ne 21, 3) := by decide +kernel
theorem dX4_readNumber_122 : decode cX4_readNumber 122 = .ok (.iload 6, 2) := by decide +kernel
theorem dX4_readNumber_124 : decode cX4_readNumber 124 = .ok (.iload_n 1, 1) := by decide +kernel
theorem dX4_readNumber_125 : decode cX4_readNumber 125 = .ok (.if_icmp .lt 15, 3) := by decide +kernel
theorem dX4_readNumber_128 : decode cX4_readNumber 128 = .ok (.iload 6, 2) := by decide +kernel
theorem dX4_readNumber_130 : decode cX4_readNumber 130 = .ok (.iload_n 2, 1) := by decide +kernel
theorem dX4_readNumber_131 : decode cX4_readNumber 131 = .ok (.if_icmp .gt 9, 3) := by decide +kernel
theorem dX4_readNumber_134 : decode cX4_readNumber 134 = .ok (.iload 6, 2) := by decide +kernel
theorem dX4_readNumber_136 : decode cX4_readNumber 136 = .ok (.iload_n 3, 1) := by decide +kernel
theorem dX4_readNumber_137 : decode cX4_readNumber 137 = .ok (.if_icmp .ne 11, 3) := by decide +kernel
theorem dX4_readNumber_140 : decode cX4_readNumber 140 = .ok (.aload_n 0, 1) := by decide +kernel
theorem dX4_readNumber_141 : decode cX4_readNumber 141 = .ok (.iload 4, 2) := by decide +kernel
theorem dX4_readNumber_143 : decode cX4_readNumber 143 = .ok (.invokevirtual 73, 3) := by decide +kernel
theorem dX4_readNumber_146 : decode cX4_readNumber 146 = .ok (.iload_n 1, 1) := by decide +kernel
theorem dX4_readNumber_147 : decode cX4_readNumber 147 = .ok (.ireturn, 1) := by decide +kernel
theorem dX4_readNumber_148 : decode cX4_readNumber 148 = .ok (.iload 6, 2) := by decide +kernel
theorem dX4_readNumber_150 : decode cX4_readNumber 150 = .ok (.ireturn, 1) := by decide +kernel
theorem dX4_readEnd_0 : decode cX4_readEnd 0 = .ok (.aload_n 0, 1) := by decide +kernel
theorem dX4_readEnd_1 : decode cX4_readEnd 1 = .ok (.invokevirtual 48, 3) := by decide +kernel
theorem dX4_readEnd_4 : decode cX4_readEnd 4 = .ok (.aload_n 0, 1) := by decide +kernel
theorem dX4_readEnd_5 : decode cX4_readEnd 5 = .ok (.invokevirtual 54, 3) := by decide +kernel
theorem dX4_readEnd_8 : decode cX4_readEnd 8 = .ok (.bipush 59, 2) := by decide +kernel
theorem dX4_readEnd_10 : decode cX4_readEnd 10 = .ok (.if_icmp .eq 11, 3) := by decide +kernel
theorem dX4_readEnd_13 : decode cX4_readEnd 13 = .ok (.aload_n 0, 1) := by decide +kernel
theorem dX4_readEnd_14 : decode cX4_readEnd 14 = .ok (.aload_n 0, 1) := by decide +kernel
theorem dX4_readEnd_15 : decode cX4_readEnd 15 = .ok (.getfield 32, 3) := by decide +kernel
theorem dX4_readEnd_18 : decode cX4_readEnd 18 = .ok (.invokevirtual 73, 3) := by decide +kernel
theorem dX4_readEnd_21 : decode cX4_readEnd 21 = .ok (.aload_n 0, 1) := by decide +kernel
theorem dX4_readEnd_22 : decode cX4_readEnd 22 = .ok (.dup, 1) := by decide +kernel
theorem dX4_readEnd_23 : decode cX4_readEnd 23 = .ok (.getfield 32, 3) := by decide +kernel
theorem dX4_readEnd_26 : decode cX4_readEnd 26 = .ok (.iconst 1, 1) := by decide +kernel
theorem dX4_readEnd_27 : decode cX4_readEnd 27 = .ok (.iadd, 1) := by decide +kernel
theorem dX4_readEnd_28 : decode cX4_readEnd 28 = .ok (.putfield 32, 3) := by decide +kernel
theorem dX4_readEnd_31 : decode cX4_readEnd 31 = .ok (.return_, 1) := by decide +kernel
theorem dX4_skipBlanks_0 : decode cX4_skipBlanks 0 = .ok (.aload_n 0, 1) := by decide +kernel
theorem dX4_skipBlanks_1 : decode cX4_skipBlanks 1 = .ok (.getfield 32, 3) := by decide +kernel
theorem dX4_skipBlanks_4 : decode cX4_skipBlanks 4 = .ok (.aload_n 0, 1) := by decide +kernel
theorem dX4_skipBlanks_5 : decode cX4_skipBlanks 5 = .ok (.getfield 28, 3) := by decide +kernel
theorem dX4_skipBlanks_8 : decode cX4_skipBlanks 8 = .ok (.if_icmp .ge 30, 3) := by decide +kernel
theorem dX4_skipBlanks_11 : decode cX4_skipBlanks 11 = .ok (.aload_n 0, 1) := by decide +kernel
theorem dX4_skipBlanks_12 : decode cX4_skipBlanks 12 = .ok (.getfield 18, 3) := by decide +kernel
theorem dX4_skipBlanks_15 : decode cX4_skipBlanks 15 = .ok (.aload_n 0, 1) := by decide +kernel
theorem dX4_skipBlanks_16 : decode cX4_skipBlanks 16 = .ok (.getfield 32, 3) := by decide +kernel
theorem dX4_skipBlanks_19 : decode cX4_skipBlanks 19 = .ok (.iaload, 1) := by decide +kernel
theorem dX4_skipBlanks_20 : decode cX4_skipBlanks 20 = .ok (.bipush 32, 2) := by decide +kernel
theorem dX4_skipBlanks_22 : decode cX4_skipBlanks 22 = .ok (.if_icmp .ne 16, 3) := by decide +kernel
theorem dX4_skipBlanks_25 : decode cX4_skipBlanks 25 = .ok (.aload_n 0, 1) := by decide +kernel
theorem dX4_skipBlanks_26 : decode cX4_skipBlanks 26 = .ok (.dup, 1) := by decide +kernel
theorem dX4_skipBlanks_27 : decode cX4_skipBlanks 27 = .ok (.getfield 32, 3) := by decide +kernel
theorem dX4_skipBlanks_30 : decode cX4_skipBlanks 30 = .ok (.iconst 1, 1) := by decide +kernel
theorem dX4_skipBlanks_31 : decode cX4_skipBlanks 31 = .ok (.iadd, 1) := by decide +kernel
theorem dX4_skipBlanks_32 : decode cX4_skipBlanks 32 = .ok (.putfield 32, 3) := by decide +kernel
theorem dX4_skipBlanks_35 : decode cX4_skipBlanks 35 = .ok (.goto (-35), 3) := by decide +kernel
theorem dX4_skipBlanks_38 : decode cX4_skipBlanks 38 = .ok (.return_, 1) := by decide +kernel
theorem dX4_letterHere_0 : decode cX4_letterHere 0 = .ok (.aload_n 0, 1) := by decide +kernel
theorem dX4_letterHere_1 : decode cX4_letterHere 1 = .ok (.getfield 32, 3) := by decide +kernel
theorem dX4_letterHere_4 : decode cX4_letterHere 4 = .ok (.ifCond .lt 26, 3) := by decide +kernel
theorem dX4_letterHere_7 : decode cX4_letterHere 7 = .ok (.aload_n 0, 1) := by decide +kernel
theorem dX4_letterHere_8 : decode cX4_letterHere 8 = .ok (.getfield 32, 3) := by decide +kernel
theorem dX4_letterHere_11 : decode cX4_letterHere 11 = .ok (.aload_n 0, 1) := by decide +kernel
theorem dX4_letterHere_12 : decode cX4_letterHere 12 = .ok (.getfield 28, 3) := by decide +kernel
theorem dX4_letterHere_15 : decode cX4_letterHere 15 = .ok (.if_icmp .ge 15, 3) := by decide +kernel
theorem dX4_letterHere_18 : decode cX4_letterHere 18 = .ok (.aload_n 0, 1) := by decide +kernel
theorem dX4_letterHere_19 : decode cX4_letterHere 19 = .ok (.getfield 18, 3) := by decide +kernel
theorem dX4_letterHere_22 : decode cX4_letterHere 22 = .ok (.aload_n 0, 1) := by decide +kernel
theorem dX4_letterHere_23 : decode cX4_letterHere 23 = .ok (.getfield 32, 3) := by decide +kernel
theorem dX4_letterHere_26 : decode cX4_letterHere 26 = .ok (.iaload, 1) := by decide +kernel
theorem dX4_letterHere_27 : decode cX4_letterHere 27 = .ok (.goto 5, 3) := by decide +kernel
theorem dX4_letterHere_30 : decode cX4_letterHere 30 = .ok (.bipush (-9), 2) := by decide +kernel
theorem dX4_letterHere_32 : decode cX4_letterHere 32 = .ok (.ireturn, 1) := by decide +kernel
theorem dX4_isDigit_0 : decode cX4_isDigit 0 = .ok (.iload_n 0, 1) := by decide +kernel
theorem dX4_isDigit_1 : decode cX4_isDigit 1 = .ok (.bipush 48, 2) := by decide +kernel
theorem dX4_isDigit_3 : decode cX4_isDigit 3 = .ok (.if_icmp .lt 13, 3) := by decide +kernel
theorem dX4_isDigit_6 : decode cX4_isDigit 6 = .ok (.iload_n 0, 1) := by decide +kernel
theorem dX4_isDigit_7 : decode cX4_isDigit 7 = .ok (.bipush 57, 2) := by decide +kernel
theorem dX4_isDigit_9 : decode cX4_isDigit 9 = .ok (.if_icmp .gt 7, 3) := by decide +kernel
theorem dX4_isDigit_12 : decode cX4_isDigit 12 = .ok (.iconst 1, 1) := by decide +kernel
theorem dX4_isDigit_13 : decode cX4_isDigit 13 = .ok (.goto 4, 3) := by decide +kernel
theorem dX4_isDigit_16 : decode cX4_isDigit 16 = .ok (.iconst 0, 1) := by decide +kernel
theorem dX4_isDigit_17 : decode cX4_isDigit 17 = .ok (.ireturn, 1) := by decide +kernel
theorem dX4_failAt_0 : decode cX4_failAt 0 = .ok (.aload_n 0, 1) := by decide +kernel
theorem dX4_failAt_1 : decode cX4_failAt 1 = .ok (.getfield 35, 3) := by decide +kernel
theorem dX4_failAt_4 : decode cX4_failAt 4 = .ok (.iconst (-1), 1) := by decide +kernel
theorem dX4_failAt_5 : decode cX4_failAt 5 = .ok (.if_icmp .ne 8, 3) := by decide +kernel
theorem dX4_failAt_8 : decode cX4_failAt 8 = .ok (.aload_n 0, 1) := by decide +kernel
theorem dX4_failAt_9 : decode cX4_failAt 9 = .ok (.iload_n 1, 1) := by decide +kernel
theorem dX4_failAt_10 : decode cX4_failAt 10 = .ok (.putfield 35, 3) := by decide +kernel
theorem dX4_failAt_13 : decode cX4_failAt 13 = .ok (.return_, 1) := by decide +kernel
theorem dX5_init_0 : decode cX5_init 0 = .ok (.aload_n 0, 1) := by decide +kernel
theorem dX5_init_1 : decode cX5_init 1 = .ok (.invokespecial 3, 3) := by decide +kernel
theorem dX5_init_4 : decode cX5_init 4 = .ok (.aload_n 0, 1) := by decide +kernel
theorem dX5_init_5 : decode cX5_init 5 = .ok (.bipush 7, 2) := by decide +kernel
theorem dX5_init_7 : decode cX5_init 7 = .ok (.newarray .int, 2) := by decide +kernel
theorem dX5_init_9 : decode cX5_init 9 = .ok (.putfield 9, 3) := by decide +kernel
theorem dX5_init_12 : decode cX5_init 12 = .ok (.aload_n 0, 1) := by decide +kernel
theorem dX5_init_13 : decode cX5_init 13 = .ok (.bipush 7, 2) := by decide +kernel
theorem dX5_init_15 : decode cX5_init 15 = .ok (.newarray .int, 2) := by decide +kernel
theorem dX5_init_17 : decode cX5_init 17 = .ok (.putfield 15, 3) := by decide +kernel
theorem dX5_init_20 : decode cX5_init 20 = .ok (.aload_n 0, 1) := by decide +kernel
theorem dX5_init_21 : decode cX5_init 21 = .ok (.bipush 7, 2) := by decide +kernel
theorem dX5_init_23 : decode cX5_init 23 = .ok (.newarray .int, 2) := by decide +kernel
theorem dX5_init_25 : decode cX5_init 25 = .ok (.putfield 18, 3) := by decide +kernel
theorem dX5_init_28 : decode cX5_init 28 = .ok (.aload_n 0, 1) := by decide +kernel
theorem dX5_init_29 : decode cX5_init 29 = .ok (.bipush 7, 2) := by decide +kernel
theorem dX5_init_31 : decode cX5_init 31 = .ok (.newarray .int, 2) := by decide +kernel
theorem dX5_init_33 : decode cX5_init 33 = .ok (.putfield 21, 3) := by decide +kernel
theorem dX5_init_36 : decode cX5_init 36 = .ok (.aload_n 0, 1) := by decide +kernel
theorem dX5_init_37 : decode cX5_init 37 = .ok (.bipush 7, 2) := by decide +kernel
theorem dX5_init_39 : decode cX5_init 39 = .ok (.newarray .int, 2) := by decide +kernel
theorem dX5_init_41 : decode cX5_init 41 = .ok (.putfield 24, 3) := by decide +kernel
theorem dX5_init_44 : decode cX5_init 44 = .ok (.aload_n 0, 1) := by decide +kernel
theorem dX5_init_45 : decode cX5_init 45 = .ok (.aload_n 1, 1) := by decide +kernel
theorem dX5_init_46 : decode cX5_init 46 = .ok (.putfield 27, 3) := by decide +kernel
theorem dX5_init_49 : decode cX5_init 49 = .ok (.return_, 1) := by decide +kernel
theorem dX5_find_0 : decode cX5_find 0 = .ok (.aload_n 0, 1) := by decide +kernel
theorem dX5_find_1 : decode cX5_find 1 = .ok (.aload_n 1, 1) := by decide +kernel
theorem dX5_find_2 : decode cX5_find 2 = .ok (.invokevirtual 31, 3) := by decide +kernel
theorem dX5_find_5 : decode cX5_find 5 = .ok (.aload_n 0, 1) := by decide +kernel
theorem dX5_find_6 : decode cX5_find 6 = .ok (.ldc 37, 2) := by decide +kernel
theorem dX5_find_8 : decode cX5_find 8 = .ok (.putfield 38, 3) := by decide +kernel
theorem dX5_find_11 : decode cX5_find 11 = .ok (.iconst 0, 1) := by decide +kernel
theorem dX5_find_12 : decode cX5_find 12 = .ok (.istore_n 2, 1) := by decide +kernel
theorem dX5_find_13 : decode cX5_find 13 = .ok (.iload_n 2, 1) := by decide +kernel
theorem dX5_find_14 : decode cX5_find 14 = .ok (.sipush 5040, 3) := by decide +kernel
theorem dX5_find_17 : decode cX5_find 17 = .ok (.if_icmp .ge 65, 3) := by decide +kernel
theorem dX5_find_20 : decode cX5_find 20 = .ok (.aload_n 0, 1) := by decide +kernel
theorem dX5_find_21 : decode cX5_find 21 = .ok (.aload_n 0, 1) := by decide +kernel
theorem dX5_find_22 : decode cX5_find 22 = .ok (.getfield 38, 3) := by decide +kernel
theorem dX5_find_25 : decode cX5_find 25 = .ok (.invokevirtual 42, 3) := by decide +kernel
theorem dX5_find_28 : decode cX5_find 28 = .ok (.istore_n 3, 1) := by decide +kernel
theorem dX5_find_29 : decode cX5_find 29 = .ok (.iload_n 3, 1) := by decide +kernel
theorem dX5_find_30 : decode cX5_find 30 = .ok (.aload_n 0, 1) := by decide +kernel
theorem dX5_find_31 : decode cX5_find 31 = .ok (.getfield 38, 3) := by decide +kernel
theorem dX5_find_34 : decode cX5_find 34 = .ok (.if_icmp .ge 25, 3) := by decide +kernel
theorem dX5_find_37 : decode cX5_find 37 = .ok (.aload_n 0, 1) := by decide +kernel
theorem dX5_find_38 : decode cX5_find 38 = .ok (.iload_n 3, 1) := by decide +kernel
theorem dX5_find_39 : decode cX5_find 39 = .ok (.putfield 38, 3) := by decide +kernel
theorem dX5_find_42 : decode cX5_find 42 = .ok (.aload_n 0, 1) := by decide +kernel
theorem dX5_find_43 : decode cX5_find 43 = .ok (.getfield 9, 3) := by decide +kernel
theorem dX5_find_46 : decode cX5_find 46 = .ok (.iconst 0, 1) := by decide +kernel
theorem dX5_find_47 : decode cX5_find 47 = .ok (.aload_n 0, 1) := by decide +kernel
theorem dX5_find_48 : decode cX5_find 48 = .ok (.getfield 15, 3) := by decide +kernel
theorem dX5_find_51 : decode cX5_find 51 = .ok (.iconst 0, 1) := by decide +kernel
theorem dX5_find_52 : decode cX5_find 52 = .ok (.aload_n 0, 1) := by decide +kernel
theorem dX5_find_53 : decode cX5_find 53 = .ok (.getfield 46, 3) := by decide +kernel
theorem dX5_find_56 : decode cX5_find 56 = .ok (.invokestatic 49, 3) := by decide +kernel
theorem dX5_find_59 : decode cX5_find 59 = .ok (.aload_n 0, 1) := by decide +kernel
theorem dX5_find_60 : decode cX5_find 60 = .ok (.getfield 9, 3) := by decide +kernel
theorem dX5_find_63 : decode cX5_find 63 = .ok (.aload_n 0, 1) := by decide +kernel
theorem dX5_find_64 : decode cX5_find 64 = .ok (.getfield 46, 3) := by decide +kernel
theorem dX5_find_67 : decode cX5_find 67 = .ok (.invokestatic 55, 3) := by decide +kernel
theorem dX5_find_70 : decode cX5_find 70 = .ok (.ifCond .ne 6, 3) := by decide +kernel
theorem dX5_find_73 : decode cX5_find 73 = .ok (.goto 9, 3) := by decide +kernel
theorem dX5_find_76 : decode cX5_find 76 = .ok (.iinc 2 1, 3) := by decide +kernel
theorem dX5_find_79 : decode cX5_find 79 = .ok (.goto (-66), 3) := by decide +kernel
theorem dX5_find_82 : decode cX5_find 82 = .ok (.return_, 1) := by decide +kernel
theorem dX5_prepare_0 : decode cX5_prepare 0 = .ok (.aload_n 0, 1) := by decide +kernel
theorem dX5_prepare_1 : decode cX5_prepare 1 = .ok (.iconst 0, 1) := by decide +kernel
theorem dX5_prepare_2 : decode cX5_prepare 2 = .ok (.putfield 46, 3) := by decide +kernel
theorem dX5_prepare_5 : decode cX5_prepare 5 = .ok (.iconst 0, 1) := by decide +kernel
theorem dX5_prepare_6 : decode cX5_prepare 6 = .ok (.istore_n 2, 1) := by decide +kernel
theorem dX5_prepare_7 : decode cX5_prepare 7 = .ok (.iload_n 2, 1) := by decide +kernel
theorem dX5_prepare_8 : decode cX5_prepare 8 = .ok (.aload_n 0, 1) := by decide +kernel
theorem dX5_prepare_9 : decode cX5_prepare 9 = .ok (.getfield 27, 3) := by decide +kernel
theorem dX5_prepare_12 : decode cX5_prepare 12 = .ok (.getfield 59, 3) := by decide +kernel
end
section
theorem dX5_prepare_15 : decode cX5_prepare 15 = .ok (.if_icmp .ge 94, 3) := by decide +kernel
theorem dX5_prepare_18 : decode cX5_prepare 18 = .ok (.aload_n 0, 1) := by decide +kernel
theorem dX5_prepare_19 : decode cX5_prepare 19 = .ok (.getfield 18, 3) := by decide +kernel
theorem dX5_prepare_22 : decode cX5_prepare 22 = .ok (.iload_n 2, 1) := by decide +kernel
theorem dX5_prepare_23 : decode cX5_prepare 23 = .ok (.iconst 1, 1) := by decide +kernel
theorem dX5_prepare_24 : decode cX5_prepare 24 = .ok (.aload_n 0, 1) := by decide +kernel
theorem dX5_prepare_25 : decode cX5_prepare 25 = .ok (.getfield 27, 3) := by decide +kernel
theorem dX5_prepare_28 : decode cX5_prepare 28 = .ok (.getfield 64, 3) := by decide +kernel
theorem dX5_prepare_31 : decode cX5_prepare 31 = .ok (.iload_n 2, 1) := by decide +kernel
theorem dX5_prepare_32 : decode cX5_prepare 32 = .ok (.iaload, 1) := by decide +kernel
theorem dX5_prepare_33 : decode cX5_prepare 33 = .ok (.ishl, 1) := by decide +kernel
theorem dX5_prepare_34 : decode cX5_prepare 34 = .ok (.iconst 1, 1) := by decide +kernel
theorem dX5_prepare_35 : decode cX5_prepare 35 = .ok (.aload_n 0, 1) := by decide +kernel
theorem dX5_prepare_36 : decode cX5_prepare 36 = .ok (.getfield 27, 3) := by decide +kernel
theorem dX5_prepare_39 : decode cX5_prepare 39 = .ok (.getfield 67, 3) := by decide +kernel
theorem dX5_prepare_42 : decode cX5_prepare 42 = .ok (.iload_n 2, 1) := by decide +kernel
theorem dX5_prepare_43 : decode cX5_prepare 43 = .ok (.iaload, 1) := by decide +kernel
theorem dX5_prepare_44 : decode cX5_prepare 44 = .ok (.ishl, 1) := by decide +kernel
theorem dX5_prepare_45 : decode cX5_prepare 45 = .ok (.ior, 1) := by decide +kernel
theorem dX5_prepare_46 : decode cX5_prepare 46 = .ok (.iastore, 1) := by decide +kernel
theorem dX5_prepare_47 : decode cX5_prepare 47 = .ok (.aload_n 0, 1) := by decide +kernel
theorem dX5_prepare_48 : decode cX5_prepare 48 = .ok (.getfield 21, 3) := by decide +kernel
theorem dX5_prepare_51 : decode cX5_prepare 51 = .ok (.iload_n 2, 1) := by decide +kernel
theorem dX5_prepare_52 : decode cX5_prepare 52 = .ok (.aload_n 1, 1) := by decide +kernel
theorem dX5_prepare_53 : decode cX5_prepare 53 = .ok (.getfield 70, 3) := by decide +kernel
theorem dX5_prepare_56 : decode cX5_prepare 56 = .ok (.iload_n 2, 1) := by decide +kernel
theorem dX5_prepare_57 : decode cX5_prepare 57 = .ok (.iaload, 1) := by decide +kernel
theorem dX5_prepare_58 : decode cX5_prepare 58 = .ok (.iconst 2, 1) := by decide +kernel
theorem dX5_prepare_59 : decode cX5_prepare 59 = .ok (.if_icmp .ne 12, 3) := by decide +kernel
theorem dX5_prepare_62 : decode cX5_prepare 62 = .ok (.aload_n 1, 1) := by decide +kernel
theorem dX5_prepare_63 : decode cX5_prepare 63 = .ok (.getfield 75, 3) := by decide +kernel
theorem dX5_prepare_66 : decode cX5_prepare 66 = .ok (.iload_n 2, 1) := by decide +kernel
theorem dX5_prepare_67 : decode cX5_prepare 67 = .ok (.iaload, 1) := by decide +kernel
theorem dX5_prepare_68 : decode cX5_prepare 68 = .ok (.goto 4, 3) := by decide +kernel
theorem dX5_prepare_71 : decode cX5_prepare 71 = .ok (.iconst 0, 1) := by decide +kernel
theorem dX5_prepare_72 : decode cX5_prepare 72 = .ok (.iastore, 1) := by decide +kernel
theorem dX5_prepare_73 : decode cX5_prepare 73 = .ok (.aload_n 1, 1) := by decide +kernel
theorem dX5_prepare_74 : decode cX5_prepare 74 = .ok (.getfield 70, 3) := by decide +kernel
theorem dX5_prepare_77 : decode cX5_prepare 77 = .ok (.iload_n 2, 1) := by decide +kernel
theorem dX5_prepare_78 : decode cX5_prepare 78 = .ok (.iaload, 1) := by decide +kernel
theorem dX5_prepare_79 : decode cX5_prepare 79 = .ok (.iconst 1, 1) := by decide +kernel
theorem dX5_prepare_80 : decode cX5_prepare 80 = .ok (.if_icmp .ne 23, 3) := by decide +kernel
theorem dX5_prepare_83 : decode cX5_prepare 83 = .ok (.aload_n 0, 1) := by decide +kernel
theorem dX5_prepare_84 : decode cX5_prepare 84 = .ok (.getfield 9, 3) := by decide +kernel
theorem dX5_prepare_87 : decode cX5_prepare 87 = .ok (.aload_n 0, 1) := by decide +kernel
theorem dX5_prepare_88 : decode cX5_prepare 88 = .ok (.getfield 46, 3) := by decide +kernel
theorem dX5_prepare_91 : decode cX5_prepare 91 = .ok (.iload_n 2, 1) := by decide +kernel
theorem dX5_prepare_92 : decode cX5_prepare 92 = .ok (.iastore, 1) := by decide +kernel
theorem dX5_prepare_93 : decode cX5_prepare 93 = .ok (.aload_n 0, 1) := by decide +kernel
theorem dX5_prepare_94 : decode cX5_prepare 94 = .ok (.dup, 1) := by decide +kernel
theorem dX5_prepare_95 : decode cX5_prepare 95 = .ok (.getfield 46, 3) := by decide +kernel
theorem dX5_prepare_98 : decode cX5_prepare 98 = .ok (.iconst 1, 1) := by decide +kernel
theorem dX5_prepare_99 : decode cX5_prepare 99 = .ok (.iadd, 1) := by decide +kernel
theorem dX5_prepare_100 : decode cX5_prepare 100 = .ok (.putfield 46, 3) := by decide +kernel
theorem dX5_prepare_103 : decode cX5_prepare 103 = .ok (.iinc 2 1, 3) := by decide +kernel
theorem dX5_prepare_106 : decode cX5_prepare 106 = .ok (.goto (-99), 3) := by decide +kernel
theorem dX5_prepare_109 : decode cX5_prepare 109 = .ok (.return_, 1) := by decide +kernel
theorem dX5_waitsFor_0 : decode cX5_waitsFor 0 = .ok (.aload_n 0, 1) := by decide +kernel
theorem dX5_waitsFor_1 : decode cX5_waitsFor 1 = .ok (.getfield 21, 3) := by decide +kernel
theorem dX5_waitsFor_4 : decode cX5_waitsFor 4 = .ok (.iconst 0, 1) := by decide +kernel
theorem dX5_waitsFor_5 : decode cX5_waitsFor 5 = .ok (.aload_n 0, 1) := by decide +kernel
theorem dX5_waitsFor_6 : decode cX5_waitsFor 6 = .ok (.getfield 24, 3) := by decide +kernel
theorem dX5_waitsFor_9 : decode cX5_waitsFor 9 = .ok (.iconst 0, 1) := by decide +kernel
theorem dX5_waitsFor_10 : decode cX5_waitsFor 10 = .ok (.bipush 7, 2) := by decide +kernel
theorem dX5_waitsFor_12 : decode cX5_waitsFor 12 = .ok (.invokestatic 49, 3) := by decide +kernel
theorem dX5_waitsFor_15 : decode cX5_waitsFor 15 = .ok (.iconst 0, 1) := by decide +kernel
theorem dX5_waitsFor_16 : decode cX5_waitsFor 16 = .ok (.istore_n 2, 1) := by decide +kernel
theorem dX5_waitsFor_17 : decode cX5_waitsFor 17 = .ok (.iconst 0, 1) := by decide +kernel
theorem dX5_waitsFor_18 : decode cX5_waitsFor 18 = .ok (.istore_n 3, 1) := by decide +kernel
theorem dX5_waitsFor_19 : decode cX5_waitsFor 19 = .ok (.iconst 0, 1) := by decide +kernel
theorem dX5_waitsFor_20 : decode cX5_waitsFor 20 = .ok (.istore 4, 2) := by decide +kernel
theorem dX5_waitsFor_22 : decode cX5_waitsFor 22 = .ok (.iload 4, 2) := by decide +kernel
theorem dX5_waitsFor_24 : decode cX5_waitsFor 24 = .ok (.bipush 30, 2) := by decide +kernel
theorem dX5_waitsFor_26 : decode cX5_waitsFor 26 = .ok (.if_icmp .ge 55, 3) := by decide +kernel
theorem dX5_waitsFor_29 : decode cX5_waitsFor 29 = .ok (.iload_n 3, 1) := by decide +kernel
theorem dX5_waitsFor_30 : decode cX5_waitsFor 30 = .ok (.bipush 30, 2) := by decide +kernel
theorem dX5_waitsFor_32 : decode cX5_waitsFor 32 = .ok (.if_icmp .ge 49, 3) := by decide +kernel
theorem dX5_waitsFor_35 : decode cX5_waitsFor 35 = .ok (.iload_n 2, 1) := by decide +kernel
theorem dX5_waitsFor_36 : decode cX5_waitsFor 36 = .ok (.iload_n 1, 1) := by decide +kernel
theorem dX5_waitsFor_37 : decode cX5_waitsFor 37 = .ok (.if_icmp .ge 44, 3) := by decide +kernel
theorem dX5_waitsFor_40 : decode cX5_waitsFor 40 = .ok (.aload_n 0, 1) := by decide +kernel
theorem dX5_waitsFor_41 : decode cX5_waitsFor 41 = .ok (.iload_n 3, 1) := by decide +kernel
theorem dX5_waitsFor_42 : decode cX5_waitsFor 42 = .ok (.invokevirtual 78, 3) := by decide +kernel
theorem dX5_waitsFor_45 : decode cX5_waitsFor 45 = .ok (.istore 5, 2) := by decide +kernel
theorem dX5_waitsFor_47 : decode cX5_waitsFor 47 = .ok (.iload 5, 2) := by decide +kernel
theorem dX5_waitsFor_49 : decode cX5_waitsFor 49 = .ok (.ifCond .ne 6, 3) := by decide +kernel
theorem dX5_waitsFor_52 : decode cX5_waitsFor 52 = .ok (.goto 29, 3) := by decide +kernel
theorem dX5_waitsFor_55 : decode cX5_waitsFor 55 = .ok (.aload_n 0, 1) := by decide +kernel
theorem dX5_waitsFor_56 : decode cX5_waitsFor 56 = .ok (.iload_n 3, 1) := by decide +kernel
theorem dX5_waitsFor_57 : decode cX5_waitsFor 57 = .ok (.invokevirtual 81, 3) := by decide +kernel
theorem dX5_waitsFor_60 : decode cX5_waitsFor 60 = .ok (.istore 6, 2) := by decide +kernel
theorem dX5_waitsFor_62 : decode cX5_waitsFor 62 = .ok (.iload_n 2, 1) := by decide +kernel
theorem dX5_waitsFor_63 : decode cX5_waitsFor 63 = .ok (.iload 5, 2) := by decide +kernel
theorem dX5_waitsFor_65 : decode cX5_waitsFor 65 = .ok (.iload 6, 2) := by decide +kernel
theorem dX5_waitsFor_67 : decode cX5_waitsFor 67 = .ok (.iload_n 3, 1) := by decide +kernel
theorem dX5_waitsFor_68 : decode cX5_waitsFor 68 = .ok (.isub, 1) := by decide +kernel
theorem dX5_waitsFor_69 : decode cX5_waitsFor 69 = .ok (.imul, 1) := by decide +kernel
theorem dX5_waitsFor_70 : decode cX5_waitsFor 70 = .ok (.iadd, 1) := by decide +kernel
theorem dX5_waitsFor_71 : decode cX5_waitsFor 71 = .ok (.istore_n 2, 1) := by decide +kernel
theorem dX5_waitsFor_72 : decode cX5_waitsFor 72 = .ok (.iload 6, 2) := by decide +kernel
theorem dX5_waitsFor_74 : decode cX5_waitsFor 74 = .ok (.istore_n 3, 1) := by decide +kernel
theorem dX5_waitsFor_75 : decode cX5_waitsFor 75 = .ok (.iinc 4 1, 3) := by decide +kernel
theorem dX5_waitsFor_78 : decode cX5_waitsFor 78 = .ok (.goto (-56), 3) := by decide +kernel
theorem dX5_waitsFor_81 : decode cX5_waitsFor 81 = .ok (.iload_n 2, 1) := by decide +kernel
theorem dX5_waitsFor_82 : decode cX5_waitsFor 82 = .ok (.ireturn, 1) := by decide +kernel
theorem dX5_plugAlong_0 : decode cX5_plugAlong 0 = .ok (.iconst 0, 1) := by decide +kernel
theorem dX5_plugAlong_1 : decode cX5_plugAlong 1 = .ok (.istore_n 2, 1) := by decide +kernel
theorem dX5_plugAlong_2 : decode cX5_plugAlong 2 = .ok (.aload_n 0, 1) := by decide +kernel
theorem dX5_plugAlong_3 : decode cX5_plugAlong 3 = .ok (.getfield 27, 3) := by decide +kernel
theorem dX5_plugAlong_6 : decode cX5_plugAlong 6 = .ok (.getfield 84, 3) := by decide +kernel
theorem dX5_plugAlong_9 : decode cX5_plugAlong 9 = .ok (.istore_n 3, 1) := by decide +kernel
theorem dX5_plugAlong_10 : decode cX5_plugAlong 10 = .ok (.iconst 0, 1) := by decide +kernel
theorem dX5_plugAlong_11 : decode cX5_plugAlong 11 = .ok (.istore 4, 2) := by decide +kernel
theorem dX5_plugAlong_13 : decode cX5_plugAlong 13 = .ok (.iload 4, 2) := by decide +kernel
theorem dX5_plugAlong_15 : decode cX5_plugAlong 15 = .ok (.aload_n 0, 1) := by decide +kernel
theorem dX5_plugAlong_16 : decode cX5_plugAlong 16 = .ok (.getfield 27, 3) := by decide +kernel
theorem dX5_plugAlong_19 : decode cX5_plugAlong 19 = .ok (.getfield 59, 3) := by decide +kernel
theorem dX5_plugAlong_22 : decode cX5_plugAlong 22 = .ok (.if_icmp .ge 33, 3) := by decide +kernel
theorem dX5_plugAlong_25 : decode cX5_plugAlong 25 = .ok (.aload_n 0, 1) := by decide +kernel
theorem dX5_plugAlong_26 : decode cX5_plugAlong 26 = .ok (.getfield 24, 3) := by decide +kernel
theorem dX5_plugAlong_29 : decode cX5_plugAlong 29 = .ok (.iload 4, 2) := by decide +kernel
theorem dX5_plugAlong_31 : decode cX5_plugAlong 31 = .ok (.iaload, 1) := by decide +kernel
theorem dX5_plugAlong_32 : decode cX5_plugAlong 32 = .ok (.iload_n 1, 1) := by decide +kernel
theorem dX5_plugAlong_33 : decode cX5_plugAlong 33 = .ok (.if_icmp .le 16, 3) := by decide +kernel
theorem dX5_plugAlong_36 : decode cX5_plugAlong 36 = .ok (.iload_n 2, 1) := by decide +kernel
theorem dX5_plugAlong_37 : decode cX5_plugAlong 37 = .ok (.aload_n 0, 1) := by decide +kernel
theorem dX5_plugAlong_38 : decode cX5_plugAlong 38 = .ok (.getfield 18, 3) := by decide +kernel
theorem dX5_plugAlong_41 : decode cX5_plugAlong 41 = .ok (.iload 4, 2) := by decide +kernel
theorem dX5_plugAlong_43 : decode cX5_plugAlong 43 = .ok (.iaload, 1) := by decide +kernel
theorem dX5_plugAlong_44 : decode cX5_plugAlong 44 = .ok (.ior, 1) := by decide +kernel
theorem dX5_plugAlong_45 : decode cX5_plugAlong 45 = .ok (.istore_n 2, 1) := by decide +kernel
theorem dX5_plugAlong_46 : decode cX5_plugAlong 46 = .ok (.iinc 3 (-1), 3) := by decide +kernel
theorem dX5_plugAlong_49 : decode cX5_plugAlong 49 = .ok (.iinc 4 1, 3) := by decide +kernel
theorem dX5_plugAlong_52 : decode cX5_plugAlong 52 = .ok (.goto (-39), 3) := by decide +kernel
theorem dX5_plugAlong_55 : decode cX5_plugAlong 55 = .ok (.iconst 0, 1) := by decide +kernel
theorem dX5_plugAlong_56 : decode cX5_plugAlong 56 = .ok (.istore 4, 2) := by decide +kernel
theorem dX5_plugAlong_58 : decode cX5_plugAlong 58 = .ok (.iconst 0, 1) := by decide +kernel
theorem dX5_plugAlong_59 : decode cX5_plugAlong 59 = .ok (.istore 5, 2) := by decide +kernel
theorem dX5_plugAlong_61 : decode cX5_plugAlong 61 = .ok (.iload 5, 2) := by decide +kernel
theorem dX5_plugAlong_63 : decode cX5_plugAlong 63 = .ok (.aload_n 0, 1) := by decide +kernel
theorem dX5_plugAlong_64 : decode cX5_plugAlong 64 = .ok (.getfield 46, 3) := by decide +kernel
theorem dX5_plugAlong_67 : decode cX5_plugAlong 67 = .ok (.if_icmp .ge 85, 3) := by decide +kernel
theorem dX5_plugAlong_70 : decode cX5_plugAlong 70 = .ok (.aload_n 0, 1) := by decide +kernel
theorem dX5_plugAlong_71 : decode cX5_plugAlong 71 = .ok (.getfield 9, 3) := by decide +kernel
theorem dX5_plugAlong_74 : decode cX5_plugAlong 74 = .ok (.iload 5, 2) := by decide +kernel
theorem dX5_plugAlong_76 : decode cX5_plugAlong 76 = .ok (.iaload, 1) := by decide +kernel
theorem dX5_plugAlong_77 : decode cX5_plugAlong 77 = .ok (.istore 6, 2) := by decide +kernel
theorem dX5_plugAlong_79 : decode cX5_plugAlong 79 = .ok (.aload_n 0, 1) := by decide +kernel
theorem dX5_plugAlong_80 : decode cX5_plugAlong 80 = .ok (.getfield 24, 3) := by decide +kernel
theorem dX5_plugAlong_83 : decode cX5_plugAlong 83 = .ok (.iload 6, 2) := by decide +kernel
theorem dX5_plugAlong_85 : decode cX5_plugAlong 85 = .ok (.iaload, 1) := by decide +kernel
theorem dX5_plugAlong_86 : decode cX5_plugAlong 86 = .ok (.ifCond .eq 6, 3) := by decide +kernel
theorem dX5_plugAlong_89 : decode cX5_plugAlong 89 = .ok (.goto 57, 3) := by decide +kernel
theorem dX5_plugAlong_92 : decode cX5_plugAlong 92 = .ok (.iload_n 3, 1) := by decide +kernel
theorem dX5_plugAlong_93 : decode cX5_plugAlong 93 = .ok (.ifCond .le 50, 3) := by decide +kernel
theorem dX5_plugAlong_96 : decode cX5_plugAlong 96 = .ok (.iload_n 2, 1) := by decide +kernel
theorem dX5_plugAlong_97 : decode cX5_plugAlong 97 = .ok (.aload_n 0, 1) := by decide +kernel
theorem dX5_plugAlong_98 : decode cX5_plugAlong 98 = .ok (.getfield 18, 3) := by decide +kernel
theorem dX5_plugAlong_101 : decode cX5_plugAlong 101 = .ok (.iload 6, 2) := by decide +kernel
theorem dX5_plugAlong_103 : decode cX5_plugAlong 103 = .ok (.iaload, 1) := by decide +kernel
theorem dX5_plugAlong_104 : decode cX5_plugAlong 104 = .ok (.iand, 1) := by decide +kernel
theorem dX5_plugAlong_105 : decode cX5_plugAlong 105 = .ok (.ifCond .ne 38, 3) := by decide +kernel
theorem dX5_plugAlong_108 : decode cX5_plugAlong 108 = .ok (.aload_n 0, 1) := by decide +kernel
theorem dX5_plugAlong_109 : decode cX5_plugAlong 109 = .ok (.getfield 24, 3) := by decide +kernel
theorem dX5_plugAlong_112 : decode cX5_plugAlong 112 = .ok (.iload 6, 2) := by decide +kernel
theorem dX5_plugAlong_114 : decode cX5_plugAlong 114 = .ok (.iload_n 1, 1) := by decide +kernel
theorem dX5_plugAlong_115 : decode cX5_plugAlong 115 = .ok (.aload_n 0, 1) := by decide +kernel
theorem dX5_plugAlong_116 : decode cX5_plugAlong 116 = .ok (.getfield 27, 3) := by decide +kernel
theorem dX5_plugAlong_119 : decode cX5_plugAlong 119 = .ok (.getfield 87, 3) := by decide +kernel
theorem dX5_plugAlong_122 : decode cX5_plugAlong 122 = .ok (.iload 6, 2) := by decide +kernel
theorem dX5_plugAlong_124 : decode cX5_plugAlong 124 = .ok (.iaload, 1) := by decide +kernel
theorem dX5_plugAlong_125 : decode cX5_plugAlong 125 = .ok (.iadd, 1) := by decide +kernel
theorem dX5_plugAlong_126 : decode cX5_plugAlong 126 = .ok (.iastore, 1) := by decide +kernel
theorem dX5_plugAlong_127 : decode cX5_plugAlong 127 = .ok (.iload_n 2, 1) := by decide +kernel
theorem dX5_plugAlong_128 : decode cX5_plugAlong 128 = .ok (.aload_n 0, 1) := by decide +kernel
theorem dX5_plugAlong_129 : decode cX5_plugAlong 129 = .ok (.getfield 18, 3) := by decide +kernel
theorem dX5_plugAlong_132 : decode cX5_plugAlong 132 = .ok (.iload 6, 2) := by decide +kernel
theorem dX5_plugAlong_134 : decode cX5_plugAlong 134 = .ok (.iaload, 1) := by decide +kernel
theorem dX5_plugAlong_135 : decode cX5_plugAlong 135 = .ok (.ior, 1) := by decide +kernel
theorem dX5_plugAlong_136 : decode cX5_plugAlong 136 = .ok (.istore_n 2, 1) := by decide +kernel
theorem dX5_plugAlong_137 : decode cX5_plugAlong 137 = .ok (.iinc 3 (-1), 3) := by decide +kernel
theorem dX5_plugAlong_140 : decode cX5_plugAlong 140 = .ok (.goto 6, 3) := by decide +kernel
theorem dX5_plugAlong_143 : decode cX5_plugAlong 143 = .ok (.iinc 4 1, 3) := by decide +kernel
theorem dX5_plugAlong_146 : decode cX5_plugAlong 146 = .ok (.iinc 5 1, 3) := by decide +kernel
theorem dX5_plugAlong_149 : decode cX5_plugAlong 149 = .ok (.goto (-88), 3) := by decide +kernel
theorem dX5_plugAlong_152 : decode cX5_plugAlong 152 = .ok (.iload 4, 2) := by decide +kernel
theorem dX5_plugAlong_154 : decode cX5_plugAlong 154 = .ok (.ireturn, 1) := by decide +kernel
theorem dX5_nextEnd_0 : decode cX5_nextEnd 0 = .ok (.bipush 30, 2) := by decide +kernel
theorem dX5_nextEnd_2 : decode cX5_nextEnd 2 = .ok (.istore_n 2, 1) := by decide +kernel
theorem dX5_nextEnd_3 : decode cX5_nextEnd 3 = .ok (.iconst 0, 1) := by decide +kernel
theorem dX5_nextEnd_4 : decode cX5_nextEnd 4 = .ok (.istore_n 3, 1) := by decide +kernel
theorem dX5_nextEnd_5 : decode cX5_nextEnd 5 = .ok (.iload_n 3, 1) := by decide +kernel
theorem dX5_nextEnd_6 : decode cX5_nextEnd 6 = .ok (.aload_n 0, 1) := by decide +kernel
theorem dX5_nextEnd_7 : decode cX5_nextEnd 7 = .ok (.getfield 27, 3) := by decide +kernel
theorem dX5_nextEnd_10 : decode cX5_nextEnd 10 = .ok (.getfield 59, 3) := by decide +kernel
theorem dX5_nextEnd_13 : decode cX5_nextEnd 13 = .ok (.if_icmp .ge 36, 3) := by decide +kernel
theorem dX5_nextEnd_16 : decode cX5_nextEnd 16 = .ok (.aload_n 0, 1) := by decide +kernel
theorem dX5_nextEnd_17 : decode cX5_nextEnd 17 = .ok (.getfield 24, 3) := by decide +kernel
theorem dX5_nextEnd_20 : decode cX5_nextEnd 20 = .ok (.iload_n 3, 1) := by decide +kernel
theorem dX5_nextEnd_21 : decode cX5_nextEnd 21 = .ok (.iaload, 1) := by decide +kernel
theorem dX5_nextEnd_22 : decode cX5_nextEnd 22 = .ok (.iload_n 1, 1) := by decide +kernel
theorem dX5_nextEnd_23 : decode cX5_nextEnd 23 = .ok (.if_icmp .le 20, 3) := by decide +kernel
theorem dX5_nextEnd_26 : decode cX5_nextEnd 26 = .ok (.aload_n 0, 1) := by decide +kernel
theorem dX5_nextEnd_27 : decode cX5_nextEnd 27 = .ok (.getfield 24, 3) := by decide +kernel
theorem dX5_nextEnd_30 : decode cX5_nextEnd 30 = .ok (.iload_n 3, 1) := by decide +kernel
theorem dX5_nextEnd_31 : decode cX5_nextEnd 31 = .ok (.iaload, 1) := by decide +kernel
theorem dX5_nextEnd_32 : decode cX5_nextEnd 32 = .ok (.iload_n 2, 1) := by decide +kernel
theorem dX5_nextEnd_33 : decode cX5_nextEnd 33 = .ok (.if_icmp .ge 10, 3) := by decide +kernel
theorem dX5_nextEnd_36 : decode cX5_nextEnd 36 = .ok (.aload_n 0, 1) := by decide +kernel
theorem dX5_nextEnd_37 : decode cX5_nextEnd 37 = .ok (.getfield 24, 3) := by decide +kernel
theorem dX5_nextEnd_40 : decode cX5_nextEnd 40 = .ok (.iload_n 3, 1) := by decide +kernel
theorem dX5_nextEnd_41 : decode cX5_nextEnd 41 = .ok (.iaload, 1) := by decide +kernel
theorem dX5_nextEnd_42 : decode cX5_nextEnd 42 = .ok (.istore_n 2, 1) := by decide +kernel
theorem dX5_nextEnd_43 : decode cX5_nextEnd 43 = .ok (.iinc 3 1, 3) := by decide +kernel
theorem dX5_nextEnd_46 : decode cX5_nextEnd 46 = .ok (.goto (-41), 3) := by decide +kernel
theorem dX5_nextEnd_49 : decode cX5_nextEnd 49 = .ok (.iload_n 2, 1) := by decide +kernel
theorem dX5_nextEnd_50 : decode cX5_nextEnd 50 = .ok (.ireturn, 1) := by decide +kernel
theorem dX6_init_0 : decode cX6_init 0 = .ok (.aload_n 0, 1) := by decide +kernel
theorem dX6_init_1 : decode cX6_init 1 = .ok (.invokespecial 3, 3) := by decide +kernel
theorem dX6_init_4 : decode cX6_init 4 = .ok (.aload_n 0, 1) := by decide +kernel
theorem dX6_init_5 : decode cX6_init 5 = .ok (.bipush 6, 2) := by decide +kernel
theorem dX6_init_7 : decode cX6_init 7 = .ok (.newarray .int, 2) := by decide +kernel
theorem dX6_init_9 : decode cX6_init 9 = .ok (.putfield 9, 3) := by decide +kernel
theorem dX6_init_12 : decode cX6_init 12 = .ok (.aload_n 0, 1) := by decide +kernel
theorem dX6_init_13 : decode cX6_init 13 = .ok (.bipush 7, 2) := by decide +kernel
theorem dX6_init_15 : decode cX6_init 15 = .ok (.newarray .int, 2) := by decide +kernel
theorem dX6_init_17 : decode cX6_init 17 = .ok (.putfield 15, 3) := by decide +kernel
theorem dX6_init_20 : decode cX6_init 20 = .ok (.aload_n 0, 1) := by decide +kernel
theorem dX6_init_21 : decode cX6_init 21 = .ok (.bipush 7, 2) := by decide +kernel
theorem dX6_init_23 : decode cX6_init 23 = .ok (.newarray .int, 2) := by decide +kernel
theorem dX6_init_25 : decode cX6_init 25 = .ok (.putfield 18, 3) := by decide +kernel
theorem dX6_init_28 : decode cX6_init 28 = .ok (.aload_n 0, 1) := by decide +kernel
theorem dX6_init_29 : decode cX6_init 29 = .ok (.bipush 7, 2) := by decide +kernel
theorem dX6_init_31 : decode cX6_init 31 = .ok (.newarray .int, 2) := by decide +kernel
theorem dX6_init_33 : decode cX6_init 33 = .ok (.putfield 21, 3) := by decide +kernel
theorem dX6_init_36 : decode cX6_init 36 = .ok (.aload_n 0, 1) := by decide +kernel
theorem dX6_init_37 : decode cX6_init 37 = .ok (.bipush 7, 2) := by decide +kernel
theorem dX6_init_39 : decode cX6_init 39 = .ok (.newarray .int, 2) := by decide +kernel
theorem dX6_init_41 : decode cX6_init 41 = .ok (.putfield 24, 3) := by decide +kernel
theorem dX6_init_44 : decode cX6_init 44 = .ok (.aload_n 0, 1) := by decide +kernel
theorem dX6_init_45 : decode cX6_init 45 = .ok (.bipush 7, 2) := by decide +kernel
theorem dX6_init_47 : decode cX6_init 47 = .ok (.newarray .int, 2) := by decide +kernel
theorem dX6_init_49 : decode cX6_init 49 = .ok (.putfield 27, 3) := by decide +kernel
theorem dX6_init_52 : decode cX6_init 52 = .ok (.aload_n 0, 1) := by decide +kernel
theorem dX6_init_53 : decode cX6_init 53 = .ok (.invokevirtual 30, 3) := by decide +kernel
theorem dX6_init_56 : decode cX6_init 56 = .ok (.return_, 1) := by decide +kernel
theorem dX6_asAtFirst_0 : decode cX6_asAtFirst 0 = .ok (.aload_n 0, 1) := by decide +kernel
theorem dX6_asAtFirst_1 : decode cX6_asAtFirst 1 = .ok (.iconst 2, 1) := by decide +kernel
theorem dX6_asAtFirst_2 : decode cX6_asAtFirst 2 = .ok (.putfield 33, 3) := by decide +kernel
theorem dX6_asAtFirst_5 : decode cX6_asAtFirst 5 = .ok (.aload_n 0, 1) := by decide +kernel
theorem dX6_asAtFirst_6 : decode cX6_asAtFirst 6 = .ok (.iconst 1, 1) := by decide +kernel
theorem dX6_asAtFirst_7 : decode cX6_asAtFirst 7 = .ok (.putfield 37, 3) := by decide +kernel
theorem dX6_asAtFirst_10 : decode cX6_asAtFirst 10 = .ok (.aload_n 0, 1) := by decide +kernel
theorem dX6_asAtFirst_11 : decode cX6_asAtFirst 11 = .ok (.iconst 0, 1) := by decide +kernel
theorem dX6_asAtFirst_12 : decode cX6_asAtFirst 12 = .ok (.putfield 40, 3) := by decide +kernel
theorem dX6_asAtFirst_15 : decode cX6_asAtFirst 15 = .ok (.iconst 0, 1) := by decide +kernel
theorem dX6_asAtFirst_16 : decode cX6_asAtFirst 16 = .ok (.istore_n 1, 1) := by decide +kernel
theorem dX6_asAtFirst_17 : decode cX6_asAtFirst 17 = .ok (.iload_n 1, 1) := by decide +kernel
theorem dX6_asAtFirst_18 : decode cX6_asAtFirst 18 = .ok (.bipush 6, 2) := by decide +kernel
theorem dX6_asAtFirst_20 : decode cX6_asAtFirst 20 = .ok (.if_icmp .ge 16, 3) := by decide +kernel
theorem dX6_asAtFirst_23 : decode cX6_asAtFirst 23 = .ok (.aload_n 0, 1) := by decide +kernel
theorem dX6_asAtFirst_24 : decode cX6_asAtFirst 24 = .ok (.getfield 9, 3) := by decide +kernel
theorem dX6_asAtFirst_27 : decode cX6_asAtFirst 27 = .ok (.iload_n 1, 1) := by decide +kernel
theorem dX6_asAtFirst_28 : decode cX6_asAtFirst 28 = .ok (.iload_n 1, 1) := by decide +kernel
theorem dX6_asAtFirst_29 : decode cX6_asAtFirst 29 = .ok (.iastore, 1) := by decide +kernel
theorem dX6_asAtFirst_30 : decode cX6_asAtFirst 30 = .ok (.iinc 1 1, 3) := by decide +kernel
theorem dX6_asAtFirst_33 : decode cX6_asAtFirst 33 = .ok (.goto (-16), 3) := by decide +kernel
theorem dX6_asAtFirst_36 : decode cX6_asAtFirst 36 = .ok (.return_, 1) := by decide +kernel
theorem dX6_hasLine_0 : decode cX6_hasLine 0 = .ok (.iload_n 1, 1) := by decide +kernel
theorem dX6_hasLine_1 : decode cX6_hasLine 1 = .ok (.ifCond .lt 15, 3) := by decide +kernel
theorem dX6_hasLine_4 : decode cX6_hasLine 4 = .ok (.iload_n 1, 1) := by decide +kernel
theorem dX6_hasLine_5 : decode cX6_hasLine 5 = .ok (.aload_n 0, 1) := by decide +kernel
theorem dX6_hasLine_6 : decode cX6_hasLine 6 = .ok (.getfield 33, 3) := by decide +kernel
theorem dX6_hasLine_9 : decode cX6_hasLine 9 = .ok (.if_icmp .ge 7, 3) := by decide +kernel
theorem dX6_hasLine_12 : decode cX6_hasLine 12 = .ok (.iconst 1, 1) := by decide +kernel
theorem dX6_hasLine_13 : decode cX6_hasLine 13 = .ok (.goto 4, 3) := by decide +kernel
theorem dX6_hasLine_16 : decode cX6_hasLine 16 = .ok (.iconst 0, 1) := by decide +kernel
theorem dX6_hasLine_17 : decode cX6_hasLine 17 = .ok (.ireturn, 1) := by decide +kernel
theorem dX6_hasCall_0 : decode cX6_hasCall 0 = .ok (.iload_n 1, 1) := by decide +kernel
theorem dX6_hasCall_1 : decode cX6_hasCall 1 = .ok (.ifCond .lt 15, 3) := by decide +kernel
theorem dX6_hasCall_4 : decode cX6_hasCall 4 = .ok (.iload_n 1, 1) := by decide +kernel
theorem dX6_hasCall_5 : decode cX6_hasCall 5 = .ok (.aload_n 0, 1) := by decide +kernel
theorem dX6_hasCall_6 : decode cX6_hasCall 6 = .ok (.getfield 40, 3) := by decide +kernel
theorem dX6_hasCall_9 : decode cX6_hasCall 9 = .ok (.if_icmp .ge 7, 3) := by decide +kernel
theorem dX6_hasCall_12 : decode cX6_hasCall 12 = .ok (.iconst 1, 1) := by decide +kernel
theorem dX6_hasCall_13 : decode cX6_hasCall 13 = .ok (.goto 4, 3) := by decide +kernel
theorem dX6_hasCall_16 : decode cX6_hasCall 16 = .ok (.iconst 0, 1) := by decide +kernel
theorem dX6_hasCall_17 : decode cX6_hasCall 17 = .ok (.ireturn, 1) := by decide +kernel
theorem dX6_giveHole_0 : decode cX6_giveHole 0 = .ok (.iconst 0, 1) := by decide +kernel
theorem dX6_giveHole_1 : decode cX6_giveHole 1 = .ok (.istore_n 3, 1) := by decide +kernel
theorem dX6_giveHole_2 : decode cX6_giveHole 2 = .ok (.iload_n 3, 1) := by decide +kernel
theorem dX6_giveHole_3 : decode cX6_giveHole 3 = .ok (.aload_n 0, 1) := by decide +kernel
theorem dX6_giveHole_4 : decode cX6_giveHole 4 = .ok (.getfield 33, 3) := by decide +kernel
theorem dX6_giveHole_7 : decode cX6_giveHole 7 = .ok (.if_icmp .ge 31, 3) := by decide +kernel
theorem dX6_giveHole_10 : decode cX6_giveHole 10 = .ok (.aload_n 0, 1) := by decide +kernel
theorem dX6_giveHole_11 : decode cX6_giveHole 11 = .ok (.getfield 9, 3) := by decide +kernel
theorem dX6_giveHole_14 : decode cX6_giveHole 14 = .ok (.iload_n 3, 1) := by decide +kernel
theorem dX6_giveHole_15 : decode cX6_giveHole 15 = .ok (.iaload, 1) := by decide +kernel
theorem dX6_giveHole_16 : decode cX6_giveHole 16 = .ok (.iload_n 2, 1) := by decide +kernel
theorem dX6_giveHole_17 : decode cX6_giveHole 17 = .ok (.if_icmp .ne 15, 3) := by decide +kernel
theorem dX6_giveHole_20 : decode cX6_giveHole 20 = .ok (.aload_n 0, 1) := by decide +kernel
theorem dX6_giveHole_21 : decode cX6_giveHole 21 = .ok (.getfield 9, 3) := by decide +kernel
theorem dX6_giveHole_24 : decode cX6_giveHole 24 = .ok (.iload_n 3, 1) := by decide +kernel
theorem dX6_giveHole_25 : decode cX6_giveHole 25 = .ok (.aload_n 0, 1) := by decide +kernel
theorem dX6_giveHole_26 : decode cX6_giveHole 26 = .ok (.getfield 9, 3) := by decide +kernel
theorem dX6_giveHole_29 : decode cX6_giveHole 29 = .ok (.iload_n 1, 1) := by decide +kernel
theorem dX6_giveHole_30 : decode cX6_giveHole 30 = .ok (.iaload, 1) := by decide +kernel
theorem dX6_giveHole_31 : decode cX6_giveHole 31 = .ok (.iastore, 1) := by decide +kernel
theorem dX6_giveHole_32 : decode cX6_giveHole 32 = .ok (.iinc 3 1, 3) := by decide +kernel
theorem dX6_giveHole_35 : decode cX6_giveHole 35 = .ok (.goto (-33), 3) := by decide +kernel
theorem dX6_giveHole_38 : decode cX6_giveHole 38 = .ok (.aload_n 0, 1) := by decide +kernel
theorem dX6_giveHole_39 : decode cX6_giveHole 39 = .ok (.getfield 9, 3) := by decide +kernel
theorem dX6_giveHole_42 : decode cX6_giveHole 42 = .ok (.iload_n 1, 1) := by decide +kernel
theorem dX6_giveHole_43 : decode cX6_giveHole 43 = .ok (.iload_n 2, 1) := by decide +kernel
theorem dX6_giveHole_44 : decode cX6_giveHole 44 = .ok (.iastore, 1) := by decide +kernel
theorem dX6_giveHole_45 : decode cX6_giveHole 45 = .ok (.return_, 1) := by decide +kernel
theorem dX6_shareLine_0 : decode cX6_shareLine 0 = .ok (.aload_n 0, 1) := by decide +kernel
theorem dX6_shareLine_1 : decode cX6_shareLine 1 = .ok (.getfield 18, 3) := by decide +kernel
theorem dX6_shareLine_4 : decode cX6_shareLine 4 = .ok (.iload_n 1, 1) := by decide +kernel
theorem dX6_shareLine_5 : decode cX6_shareLine 5 = .ok (.iaload, 1) := by decide +kernel
theorem dX6_shareLine_6 : decode cX6_shareLine 6 = .ok (.aload_n 0, 1) := by decide +kernel
theorem dX6_shareLine_7 : decode cX6_shareLine 7 = .ok (.getfield 18, 3) := by decide +kernel
theorem dX6_shareLine_10 : decode cX6_shareLine 10 = .ok (.iload_n 2, 1) := by decide +kernel
theorem dX6_shareLine_11 : decode cX6_shareLine 11 = .ok (.iaload, 1) := by decide +kernel
theorem dX6_shareLine_12 : decode cX6_shareLine 12 = .ok (.if_icmp .eq 48, 3) := by decide +kernel
theorem dX6_shareLine_15 : decode cX6_shareLine 15 = .ok (.aload_n 0, 1) := by decide +kernel
theorem dX6_shareLine_16 : decode cX6_shareLine 16 = .ok (.getfield 18, 3) := by decide +kernel
theorem dX6_shareLine_19 : decode cX6_shareLine 19 = .ok (.iload_n 1, 1) := by decide +kernel
theorem dX6_shareLine_20 : decode cX6_shareLine 20 = .ok (.iaload, 1) := by decide +kernel
theorem dX6_shareLine_21 : decode cX6_shareLine 21 = .ok (.aload_n 0, 1) := by decide +kernel
theorem dX6_shareLine_22 : decode cX6_shareLine 22 = .ok (.getfield 21, 3) := by decide +kernel
theorem dX6_shareLine_25 : decode cX6_shareLine 25 = .ok (.iload_n 2, 1) := by decide +kernel
theorem dX6_shareLine_26 : decode cX6_shareLine 26 = .ok (.iaload, 1) := by decide +kernel
theorem dX6_shareLine_27 : decode cX6_shareLine 27 = .ok (.if_icmp .eq 33, 3) := by decide +kernel
theorem dX6_shareLine_30 : decode cX6_shareLine 30 = .ok (.aload_n 0, 1) := by decide +kernel
theorem dX6_shareLine_31 : decode cX6_shareLine 31 = .ok (.getfield 21, 3) := by decide +kernel
theorem dX6_shareLine_34 : decode cX6_shareLine 34 = .ok (.iload_n 1, 1) := by decide +kernel
theorem dX6_shareLine_35 : decode cX6_shareLine 35 = .ok (.iaload, 1) := by decide +kernel
theorem dX6_shareLine_36 : decode cX6_shareLine 36 = .ok (.aload_n 0, 1) := by decide +kernel
theorem dX6_shareLine_37 : decode cX6_shareLine 37 = .ok (.getfield 18, 3) := by decide +kernel
theorem dX6_shareLine_40 : decode cX6_shareLine 40 = .ok (.iload_n 2, 1) := by decide +kernel
theorem dX6_shareLine_41 : decode cX6_shareLine 41 = .ok (.iaload, 1) := by decide +kernel
theorem dX6_shareLine_42 : decode cX6_shareLine 42 = .ok (.if_icmp .eq 18, 3) := by decide +kernel
theorem dX6_shareLine_45 : decode cX6_shareLine 45 = .ok (.aload_n 0, 1) := by decide +kernel
theorem dX6_shareLine_46 : decode cX6_shareLine 46 = .ok (.getfield 21, 3) := by decide +kernel
theorem dX6_shareLine_49 : decode cX6_shareLine 49 = .ok (.iload_n 1, 1) := by decide +kernel
theorem dX6_shareLine_50 : decode cX6_shareLine 50 = .ok (.iaload, 1) := by decide +kernel
theorem dX6_shareLine_51 : decode cX6_shareLine 51 = .ok (.aload_n 0, 1) := by decide +kernel
theorem dX6_shareLine_52 : decode cX6_shareLine 52 = .ok (.getfield 21, 3) := by decide +kernel
theorem dX6_shareLine_55 : decode cX6_shareLine 55 = .ok (.iload_n 2, 1) := by decide +kernel
theorem dX6_shareLine_56 : decode cX6_shareLine 56 = .ok (.iaload, 1) := by decide +kernel
theorem dX6_shareLine_57 : decode cX6_shareLine 57 = .ok (.if_icmp .ne 7, 3) := by decide +kernel
theorem dX6_shareLine_60 : decode cX6_shareLine 60 = .ok (.iconst 1, 1) := by decide +kernel
theorem dX6_shareLine_61 : decode cX6_shareLine 61 = .ok (.goto 4, 3) := by decide +kernel
theorem dX6_shareLine_64 : decode cX6_shareLine 64 = .ok (.iconst 0, 1) := by decide +kernel
theorem dX6_shareLine_65 : decode cX6_shareLine 65 = .ok (.ireturn, 1) := by decide +kernel
theorem dX6_fallingAt_0 : decode cX6_fallingAt 0 = .ok (.iconst 0, 1) := by decide +kernel
theorem dX6_fallingAt_1 : decode cX6_fallingAt 1 = .ok (.istore_n 2, 1) := by decide +kernel
theorem dX6_fallingAt_2 : decode cX6_fallingAt 2 = .ok (.iconst 0, 1) := by decide +kernel
theorem dX6_fallingAt_3 : decode cX6_fallingAt 3 = .ok (.istore_n 3, 1) := by decide +kernel
theorem dX6_fallingAt_4 : decode cX6_fallingAt 4 = .ok (.iload_n 3, 1) := by decide +kernel
theorem dX6_fallingAt_5 : decode cX6_fallingAt 5 = .ok (.aload_n 0, 1) := by decide +kernel
theorem dX6_fallingAt_6 : decode cX6_fallingAt 6 = .ok (.getfield 40, 3) := by decide +kernel
theorem dX6_fallingAt_9 : decode cX6_fallingAt 9 = .ok (.if_icmp .ge 22, 3) := by decide +kernel
theorem dX6_fallingAt_12 : decode cX6_fallingAt 12 = .ok (.aload_n 0, 1) := by decide +kernel
theorem dX6_fallingAt_13 : decode cX6_fallingAt 13 = .ok (.getfield 15, 3) := by decide +kernel
theorem dX6_fallingAt_16 : decode cX6_fallingAt 16 = .ok (.iload_n 3, 1) := by decide +kernel
theorem dX6_fallingAt_17 : decode cX6_fallingAt 17 = .ok (.iaload, 1) := by decide +kernel
theorem dX6_fallingAt_18 : decode cX6_fallingAt 18 = .ok (.iload_n 1, 1) := by decide +kernel
theorem dX6_fallingAt_19 : decode cX6_fallingAt 19 = .ok (.if_icmp .ne 6, 3) := by decide +kernel
theorem dX6_fallingAt_22 : decode cX6_fallingAt 22 = .ok (.iinc 2 1, 3) := by decide +kernel
theorem dX6_fallingAt_25 : decode cX6_fallingAt 25 = .ok (.iinc 3 1, 3) := by decide +kernel
theorem dX6_fallingAt_28 : decode cX6_fallingAt 28 = .ok (.goto (-24), 3) := by decide +kernel
theorem dX6_fallingAt_31 : decode cX6_fallingAt 31 = .ok (.iload_n 2, 1) := by decide +kernel
theorem dX6_fallingAt_32 : decode cX6_fallingAt 32 = .ok (.ireturn, 1) := by decide +kernel
theorem dX6_apart_0 : decode cX6_apart 0 = .ok (.aload_n 2, 1) := by decide +kernel
theorem dX6_apart_1 : decode cX6_apart 1 = .ok (.aload_n 0, 1) := by decide +kernel
theorem dX6_apart_2 : decode cX6_apart 2 = .ok (.getfield 18, 3) := by decide +kernel
theorem dX6_apart_5 : decode cX6_apart 5 = .ok (.iload_n 1, 1) := by decide +kernel
theorem dX6_apart_6 : decode cX6_apart 6 = .ok (.iaload, 1) := by decide +kernel
theorem dX6_apart_7 : decode cX6_apart 7 = .ok (.iaload, 1) := by decide +kernel
theorem dX6_apart_8 : decode cX6_apart 8 = .ok (.aload_n 2, 1) := by decide +kernel
theorem dX6_apart_9 : decode cX6_apart 9 = .ok (.aload_n 0, 1) := by decide +kernel
theorem dX6_apart_10 : decode cX6_apart 10 = .ok (.getfield 21, 3) := by decide +kernel
theorem dX6_apart_13 : decode cX6_apart 13 = .ok (.iload_n 1, 1) := by decide +kernel
theorem dX6_apart_14 : decode cX6_apart 14 = .ok (.iaload, 1) := by decide +kernel
theorem dX6_apart_15 : decode cX6_apart 15 = .ok (.iaload, 1) := by decide +kernel
theorem dX6_apart_16 : decode cX6_apart 16 = .ok (.isub, 1) := by decide +kernel
theorem dX6_apart_17 : decode cX6_apart 17 = .ok (.invokestatic 43, 3) := by decide +kernel
theorem dX6_apart_20 : decode cX6_apart 20 = .ok (.ireturn, 1) := by decide +kernel
theorem dX6_become_0 : decode cX6_become 0 = .ok (.aload_n 0, 1) := by decide +kernel
theorem dX6_become_1 : decode cX6_become 1 = .ok (.aload_n 1, 1) := by decide +kernel
theorem dX6_become_2 : decode cX6_become 2 = .ok (.getfield 33, 3) := by decide +kernel
theorem dX6_become_5 : decode cX6_become 5 = .ok (.putfield 33, 3) := by decide +kernel
theorem dX6_become_8 : decode cX6_become 8 = .ok (.aload_n 0, 1) := by decide +kernel
theorem dX6_become_9 : decode cX6_become 9 = .ok (.aload_n 1, 1) := by decide +kernel
theorem dX6_become_10 : decode cX6_become 10 = .ok (.getfield 37, 3) := by decide +kernel
theorem dX6_become_13 : decode cX6_become 13 = .ok (.putfield 37, 3) := by decide +kernel
theorem dX6_become_16 : decode cX6_become 16 = .ok (.aload_n 0, 1) := by decide +kernel
theorem dX6_become_17 : decode cX6_become 17 = .ok (.aload_n 1, 1) := by decide +kernel
theorem dX6_become_18 : decode cX6_become 18 = .ok (.getfield 40, 3) := by decide +kernel
theorem dX6_become_21 : decode cX6_become 21 = .ok (.putfield 40, 3) := by decide +kernel
theorem dX6_become_24 : decode cX6_become 24 = .ok (.aload_n 1, 1) := by decide +kernel
theorem dX6_become_25 : decode cX6_become 25 = .ok (.getfield 9, 3) := by decide +kernel
theorem dX6_become_28 : decode cX6_become 28 = .ok (.iconst 0, 1) := by decide +kernel
theorem dX6_become_29 : decode cX6_become 29 = .ok (.aload_n 0, 1) := by decide +kernel
theorem dX6_become_30 : decode cX6_become 30 = .ok (.getfield 9, 3) := by decide +kernel
theorem dX6_become_33 : decode cX6_become 33 = .ok (.iconst 0, 1) := by decide +kernel
theorem dX6_become_34 : decode cX6_become 34 = .ok (.bipush 6, 2) := by decide +kernel
theorem dX6_become_36 : decode cX6_become 36 = .ok (.invokestatic 49, 3) := by decide +kernel
theorem dX6_become_39 : decode cX6_become 39 = .ok (.aload_n 1, 1) := by decide +kernel
theorem dX6_become_40 : decode cX6_become 40 = .ok (.getfield 15, 3) := by decide +kernel
theorem dX6_become_43 : decode cX6_become 43 = .ok (.iconst 0, 1) := by decide +kernel
theorem dX6_become_44 : decode cX6_become 44 = .ok (.aload_n 0, 1) := by decide +kernel
theorem dX6_become_45 : decode cX6_become 45 = .ok (.getfield 15, 3) := by decide +kernel
theorem dX6_become_48 : decode cX6_become 48 = .ok (.iconst 0, 1) := by decide +kernel
theorem dX6_become_49 : decode cX6_become 49 = .ok (.bipush 7, 2) := by decide +kernel
theorem dX6_become_51 : decode cX6_become 51 = .ok (.invokestatic 49, 3) := by decide +kernel
theorem dX6_become_54 : decode cX6_become 54 = .ok (.aload_n 1, 1) := by decide +kernel
theorem dX6_become_55 : decode cX6_become 55 = .ok (.getfield 18, 3) := by decide +kernel
theorem dX6_become_58 : decode cX6_become 58 = .ok (.iconst 0, 1) := by decide +kernel
theorem dX6_become_59 : decode cX6_become 59 = .ok (.aload_n 0, 1) := by decide +kernel
theorem dX6_become_60 : decode cX6_become 60 = .ok (.getfield 18, 3) := by decide +kernel
theorem dX6_become_63 : decode cX6_become 63 = .ok (.iconst 0, 1) := by decide +kernel
theorem dX6_become_64 : decode cX6_become 64 = .ok (.bipush 7, 2) := by decide +kernel
theorem dX6_become_66 : decode cX6_become 66 = .ok (.invokestatic 49, 3) := by decide +kernel
theorem dX6_become_69 : decode cX6_become 69 = .ok (.aload_n 1, 1) := by decide +kernel
theorem dX6_become_70 : decode cX6_become 70 = .ok (.getfield 21, 3) := by decide +kernel
theorem dX6_become_73 : decode cX6_become 73 = .ok (.iconst 0, 1) := by decide +kernel
theorem dX6_become_74 : decode cX6_become 74 = .ok (.aload_n 0, 1) := by decide +kernel
theorem dX6_become_75 : decode cX6_become 75 = .ok (.getfield 21, 3) := by decide +kernel
theorem dX6_become_78 : decode cX6_become 78 = .ok (.iconst 0, 1) := by decide +kernel
theorem dX6_become_79 : decode cX6_become 79 = .ok (.bipush 7, 2) := by decide +kernel
theorem dX6_become_81 : decode cX6_become 81 = .ok (.invokestatic 49, 3) := by decide +kernel
theorem dX6_become_84 : decode cX6_become 84 = .ok (.aload_n 1, 1) := by decide +kernel
theorem dX6_become_85 : decode cX6_become 85 = .ok (.getfield 24, 3) := by decide +kernel
theorem dX6_become_88 : decode cX6_become 88 = .ok (.iconst 0, 1) := by decide +kernel
theorem dX6_become_89 : decode cX6_become 89 = .ok (.aload_n 0, 1) := by decide +kernel
theorem dX6_become_90 : decode cX6_become 90 = .ok (.getfield 24, 3) := by decide +kernel
theorem dX6_become_93 : decode cX6_become 93 = .ok (.iconst 0, 1) := by decide +kernel
theorem dX6_become_94 : decode cX6_become 94 = .ok (.bipush 7, 2) := by decide +kernel
theorem dX6_become_96 : decode cX6_become 96 = .ok (.invokestatic 49, 3) := by decide +kernel
theorem dX6_become_99 : decode cX6_become 99 = .ok (.aload_n 1, 1) := by decide +kernel
theorem dX6_become_100 : decode cX6_become 100 = .ok (.getfield 27, 3) := by decide +kernel
theorem dX6_become_103 : decode cX6_become 103 = .ok (.iconst 0, 1) := by decide +kernel
theorem dX6_become_104 : decode cX6_become 104 = .ok (.aload_n 0, 1) := by decide +kernel
theorem dX6_become_105 : decode cX6_become 105 = .ok (.getfield 27, 3) := by decide +kernel
theorem dX6_become_108 : decode cX6_become 108 = .ok (.iconst 0, 1) := by decide +kernel
theorem dX6_become_109 : decode cX6_become 109 = .ok (.bipush 7, 2) := by decide +kernel
theorem dX6_become_111 : decode cX6_become 111 = .ok (.invokestatic 49, 3) := by decide +kernel
theorem dX6_become_114 : decode cX6_become 114 = .ok (.return_, 1) := by decide +kernel
theorem dX7_init_0 : decode cX7_init 0 = .ok (.aload_n 0, 1) := by decide +kernel
theorem dX7_init_1 : decode cX7_init 1 = .ok (.invokespecial 1, 3) := by decide +kernel
theorem dX7_init_4 : decode cX7_init 4 = .ok (.aload_n 0, 1) := by decide +kernel
theorem dX7_init_5 : decode cX7_init 5 = .ok (.sipush 200, 3) := by decide +kernel
theorem dX7_init_8 : decode cX7_init 8 = .ok (.newarray .int, 2) := by decide +kernel
theorem dX7_init_10 : decode cX7_init 10 = .ok (.putfield 9, 3) := by decide +kernel
theorem dX7_init_13 : decode cX7_init 13 = .ok (.aload_n 0, 1) := by decide +kernel
theorem dX7_init_14 : decode cX7_init 14 = .ok (.new 13, 3) := by decide +kernel
theorem dX7_init_17 : decode cX7_init 17 = .ok (.dup, 1) := by decide +kernel
theorem dX7_init_18 : decode cX7_init 18 = .ok (.invokespecial 15, 3) := by decide +kernel
theorem dX7_init_21 : decode cX7_init 21 = .ok (.putfield 16, 3) := by decide +kernel
theorem dX7_init_24 : decode cX7_init 24 = .ok (.aload_n 0, 1) := by decide +kernel
theorem dX7_init_25 : decode cX7_init 25 = .ok (.new 20, 3) := by decide +kernel
theorem dX7_init_28 : decode cX7_init 28 = .ok (.dup, 1) := by decide +kernel
theorem dX7_init_29 : decode cX7_init 29 = .ok (.aload_n 0, 1) := by decide +kernel
theorem dX7_init_30 : decode cX7_init 30 = .ok (.getfield 9, 3) := by decide +kernel
theorem dX7_init_33 : decode cX7_init 33 = .ok (.invokespecial 22, 3) := by decide +kernel
theorem dX7_init_36 : decode cX7_init 36 = .ok (.putfield 25, 3) := by decide +kernel
theorem dX7_init_39 : decode cX7_init 39 = .ok (.aload_n 0, 1) := by decide +kernel
theorem dX7_init_40 : decode cX7_init 40 = .ok (.new 29, 3) := by decide +kernel
theorem dX7_init_43 : decode cX7_init 43 = .ok (.dup, 1) := by decide +kernel
theorem dX7_init_44 : decode cX7_init 44 = .ok (.aload_n 0, 1) := by decide +kernel
theorem dX7_init_45 : decode cX7_init 45 = .ok (.getfield 16, 3) := by decide +kernel
theorem dX7_init_48 : decode cX7_init 48 = .ok (.invokespecial 31, 3) := by decide +kernel
theorem dX7_init_51 : decode cX7_init 51 = .ok (.putfield 34, 3) := by decide +kernel
theorem dX7_init_54 : decode cX7_init 54 = .ok (.aload_n 0, 1) := by decide +kernel
theorem dX7_init_55 : decode cX7_init 55 = .ok (.new 38, 3) := by decide +kernel
theorem dX7_init_58 : decode cX7_init 58 = .ok (.dup, 1) := by decide +kernel
theorem dX7_init_59 : decode cX7_init 59 = .ok (.invokespecial 40, 3) := by decide +kernel
theorem dX7_init_62 : decode cX7_init 62 = .ok (.putfield 41, 3) := by decide +kernel
theorem dX7_init_65 : decode cX7_init 65 = .ok (.aload_n 0, 1) := by decide +kernel
theorem dX7_init_66 : decode cX7_init 66 = .ok (.bipush 56, 2) := by decide +kernel
theorem dX7_init_68 : decode cX7_init 68 = .ok (.newarray .int, 2) := by decide +kernel
theorem dX7_init_70 : decode cX7_init 70 = .ok (.putfield 45, 3) := by decide +kernel
theorem dX7_init_73 : decode cX7_init 73 = .ok (.aload_n 0, 1) := by decide +kernel
theorem dX7_init_74 : decode cX7_init 74 = .ok (.iconst 2, 1) := by decide +kernel
theorem dX7_init_75 : decode cX7_init 75 = .ok (.newarray .boolean, 2) := by decide +kernel
theorem dX7_init_77 : decode cX7_init 77 = .ok (.putfield 48, 3) := by decide +kernel
theorem dX7_init_80 : decode cX7_init 80 = .ok (.aload_n 0, 1) := by decide +kernel
theorem dX7_init_81 : decode cX7_init 81 = .ok (.new 52, 3) := by decide +kernel
theorem dX7_init_84 : decode cX7_init 84 = .ok (.dup, 1) := by decide +kernel
theorem dX7_init_85 : decode cX7_init 85 = .ok (.aload_n 0, 1) := by decide +kernel
theorem dX7_init_86 : decode cX7_init 86 = .ok (.getfield 16, 3) := by decide +kernel
theorem dX7_init_89 : decode cX7_init 89 = .ok (.invokespecial 54, 3) := by decide +kernel
theorem dX7_init_92 : decode cX7_init 92 = .ok (.putfield 55, 3) := by decide +kernel
theorem dX7_init_95 : decode cX7_init 95 = .ok (.aload_n 0, 1) := by decide +kernel
theorem dX7_init_96 : decode cX7_init 96 = .ok (.new 59, 3) := by decide +kernel
theorem dX7_init_99 : decode cX7_init 99 = .ok (.dup, 1) := by decide +kernel
theorem dX7_init_100 : decode cX7_init 100 = .ok (.aload_n 0, 1) := by decide +kernel
theorem dX7_init_101 : decode cX7_init 101 = .ok (.getfield 16, 3) := by decide +kernel
theorem dX7_init_104 : decode cX7_init 104 = .ok (.invokespecial 61, 3) := by decide +kernel
theorem dX7_init_107 : decode cX7_init 107 = .ok (.putfield 62, 3) := by decide +kernel
theorem dX7_init_110 : decode cX7_init 110 = .ok (.aload_n 0, 1) := by decide +kernel
theorem dX7_init_111 : decode cX7_init 111 = .ok (.new 66, 3) := by decide +kernel
theorem dX7_init_114 : decode cX7_init 114 = .ok (.dup, 1) := by decide +kernel
theorem dX7_init_115 : decode cX7_init 115 = .ok (.aload_n 0, 1) := by decide +kernel
theorem dX7_init_116 : decode cX7_init 116 = .ok (.getfield 16, 3) := by decide +kernel
theorem dX7_init_119 : decode cX7_init 119 = .ok (.invokespecial 68, 3) := by decide +kernel
theorem dX7_init_122 : decode cX7_init 122 = .ok (.putfield 69, 3) := by decide +kernel
theorem dX7_init_125 : decode cX7_init 125 = .ok (.aload_n 0, 1) := by decide +kernel
theorem dX7_init_126 : decode cX7_init 126 = .ok (.iconst 0, 1) := by decide +kernel
theorem dX7_init_127 : decode cX7_init 127 = .ok (.putfield 73, 3) := by decide +kernel
theorem dX7_init_130 : decode cX7_init 130 = .ok (.aload_n 0, 1) := by decide +kernel
theorem dX7_init_131 : decode cX7_init 131 = .ok (.lconst 0, 1) := by decide +kernel
theorem dX7_init_132 : decode cX7_init 132 = .ok (.putfield 77, 3) := by decide +kernel
theorem dX7_init_135 : decode cX7_init 135 = .ok (.aload_n 0, 1) := by decide +kernel
theorem dX7_init_136 : decode cX7_init 136 = .ok (.getfield 34, 3) := by decide +kernel
theorem dX7_init_139 : decode cX7_init 139 = .ok (.invokevirtual 81, 3) := by decide +kernel
theorem dX7_init_142 : decode cX7_init 142 = .ok (.return_, 1) := by decide +kernel
theorem dX7_type_0 : decode cX7_type 0 = .ok (.iload_n 1, 1) := by decide +kernel
theorem dX7_type_1 : decode cX7_type 1 = .ok (.ifCond .lt 10, 3) := by decide +kernel
theorem dX7_type_4 : decode cX7_type 4 = .ok (.iload_n 1, 1) := by decide +kernel
theorem dX7_type_5 : decode cX7_type 5 = .ok (.sipush 255, 3) := by decide +kernel
theorem dX7_type_8 : decode cX7_type 8 = .ok (.if_icmp .le 5, 3) := by decide +kernel
theorem dX7_type_11 : decode cX7_type 11 = .ok (.iconst (-1), 1) := by decide +kernel
theorem dX7_type_12 : decode cX7_type 12 = .ok (.ireturn, 1) := by decide +kernel
theorem dX7_type_13 : decode cX7_type 13 = .ok (.aload_n 0, 1) := by decide +kernel
theorem dX7_type_14 : decode cX7_type 14 = .ok (.getfield 73, 3) := by decide +kernel
theorem dX7_type_17 : decode cX7_type 17 = .ok (.sipush 200, 3) := by decide +kernel
theorem dX7_type_20 : decode cX7_type 20 = .ok (.if_icmp .lt 6, 3) := by decide +kernel
theorem dX7_type_23 : decode cX7_type 23 = .ok (.bipush (-3), 2) := by decide +kernel
theorem dX7_type_25 : decode cX7_type 25 = .ok (.ireturn, 1) := by decide +kernel
theorem dX7_type_26 : decode cX7_type 26 = .ok (.aload_n 0, 1) := by decide +kernel
theorem dX7_type_27 : decode cX7_type 27 = .ok (.getfield 9, 3) := by decide +kernel
theorem dX7_type_30 : decode cX7_type 30 = .ok (.aload_n 0, 1) := by decide +kernel
theorem dX7_type_31 : decode cX7_type 31 = .ok (.getfield 73, 3) := by decide +kernel
theorem dX7_type_34 : decode cX7_type 34 = .ok (.iload_n 1, 1) := by decide +kernel
theorem dX7_type_35 : decode cX7_type 35 = .ok (.iastore, 1) := by decide +kernel
theorem dX7_type_36 : decode cX7_type 36 = .ok (.aload_n 0, 1) := by decide +kernel
theorem dX7_type_37 : decode cX7_type 37 = .ok (.dup, 1) := by decide +kernel
theorem dX7_type_38 : decode cX7_type 38 = .ok (.getfield 73, 3) := by decide +kernel
theorem dX7_type_41 : decode cX7_type 41 = .ok (.iconst 1, 1) := by decide +kernel
theorem dX7_type_42 : decode cX7_type 42 = .ok (.iadd, 1) := by decide +kernel
theorem dX7_type_43 : decode cX7_type 43 = .ok (.putfield 73, 3) := by decide +kernel
theorem dX7_type_46 : decode cX7_type 46 = .ok (.aload_n 0, 1) := by decide +kernel
theorem dX7_type_47 : decode cX7_type 47 = .ok (.getfield 73, 3) := by decide +kernel
theorem dX7_type_50 : decode cX7_type 50 = .ok (.ireturn, 1) := by decide +kernel
theorem dX7_clear_0 : decode cX7_clear 0 = .ok (.aload_n 0, 1) := by decide +kernel
theorem dX7_clear_1 : decode cX7_clear 1 = .ok (.getfield 73, 3) := by decide +kernel
theorem dX7_clear_4 : decode cX7_clear 4 = .ok (.istore_n 1, 1) := by decide +kernel
theorem dX7_clear_5 : decode cX7_clear 5 = .ok (.aload_n 0, 1) := by decide +kernel
theorem dX7_clear_6 : decode cX7_clear 6 = .ok (.iconst 0, 1) := by decide +kernel
theorem dX7_clear_7 : decode cX7_clear 7 = .ok (.putfield 73, 3) := by decide +kernel
theorem dX7_clear_10 : decode cX7_clear 10 = .ok (.iload_n 1, 1) := by decide +kernel
theorem dX7_clear_11 : decode cX7_clear 11 = .ok (.ireturn, 1) := by decide +kernel
theorem dX7_board_0 : decode cX7_board 0 = .ok (.aload_n 0, 1) := by decide +kernel
theorem dX7_board_1 : decode cX7_board 1 = .ok (.getfield 25, 3) := by decide +kernel
theorem dX7_board_4 : decode cX7_board 4 = .ok (.aload_n 0, 1) := by decide +kernel
theorem dX7_board_5 : decode cX7_board 5 = .ok (.getfield 73, 3) := by decide +kernel
theorem dX7_board_8 : decode cX7_board 8 = .ok (.invokevirtual 84, 3) := by decide +kernel
theorem dX7_board_11 : decode cX7_board 11 = .ok (.istore_n 1, 1) := by decide +kernel
theorem dX7_board_12 : decode cX7_board 12 = .ok (.iload_n 1, 1) := by decide +kernel
theorem dX7_board_13 : decode cX7_board 13 = .ok (.ifCond .ge 5, 3) := by decide +kernel
theorem dX7_board_16 : decode cX7_board 16 = .ok (.iload_n 1, 1) := by decide +kernel
theorem dX7_board_17 : decode cX7_board 17 = .ok (.ireturn, 1) := by decide +kernel
theorem dX7_board_18 : decode cX7_board 18 = .ok (.aload_n 0, 1) := by decide +kernel
theorem dX7_board_19 : decode cX7_board 19 = .ok (.getfield 16, 3) := by decide +kernel
theorem dX7_board_22 : decode cX7_board 22 = .ok (.aload_n 0, 1) := by decide +kernel
theorem dX7_board_23 : decode cX7_board 23 = .ok (.getfield 25, 3) := by decide +kernel
theorem dX7_board_26 : decode cX7_board 26 = .ok (.getfield 88, 3) := by decide +kernel
theorem dX7_board_29 : decode cX7_board 29 = .ok (.invokevirtual 91, 3) := by decide +kernel
theorem dX7_board_32 : decode cX7_board 32 = .ok (.aload_n 0, 1) := by decide +kernel
theorem dX7_board_33 : decode cX7_board 33 = .ok (.getfield 34, 3) := by decide +kernel
theorem dX7_board_36 : decode cX7_board 36 = .ok (.invokevirtual 81, 3) := by decide +kernel
theorem dX7_board_39 : decode cX7_board 39 = .ok (.aload_n 0, 1) := by decide +kernel
theorem dX7_board_40 : decode cX7_board 40 = .ok (.getfield 41, 3) := by decide +kernel
theorem dX7_board_43 : decode cX7_board 43 = .ok (.invokevirtual 94, 3) := by decide +kernel
theorem dX7_board_46 : decode cX7_board 46 = .ok (.iconst 0, 1) := by decide +kernel
theorem dX7_board_47 : decode cX7_board 47 = .ok (.istore_n 2, 1) := by decide +kernel
theorem dX7_board_48 : decode cX7_board 48 = .ok (.iload_n 2, 1) := by decide +kernel
theorem dX7_board_49 : decode cX7_board 49 = .ok (.iconst 2, 1) := by decide +kernel
theorem dX7_board_50 : decode cX7_board 50 = .ok (.if_icmp .ge 16, 3) := by decide +kernel
theorem dX7_board_53 : decode cX7_board 53 = .ok (.aload_n 0, 1) := by decide +kernel
theorem dX7_board_54 : decode cX7_board 54 = .ok (.getfield 48, 3) := by decide +kernel
theorem dX7_board_57 : decode cX7_board 57 = .ok (.iload_n 2, 1) := by decide +kernel
theorem dX7_board_58 : decode cX7_board 58 = .ok (.iconst 0, 1) := by decide +kernel
theorem dX7_board_59 : decode cX7_board 59 = .ok (.bastore, 1) := by decide +kernel
theorem dX7_board_60 : decode cX7_board 60 = .ok (.iinc 2 1, 3) := by decide +kernel
theorem dX7_board_63 : decode cX7_board 63 = .ok (.goto (-15), 3) := by decide +kernel
theorem dX7_board_66 : decode cX7_board 66 = .ok (.aload_n 0, 1) := by decide +kernel
theorem dX7_board_67 : decode cX7_board 67 = .ok (.iconst 0, 1) := by decide +kernel
theorem dX7_board_68 : decode cX7_board 68 = .ok (.putfield 73, 3) := by decide +kernel
theorem dX7_board_71 : decode cX7_board 71 = .ok (.iload_n 1, 1) := by decide +kernel
theorem dX7_board_72 : decode cX7_board 72 = .ok (.ireturn, 1) := by decide +kernel
theorem dX7_line_0 : decode cX7_line 0 = .ok (.aload_n 0, 1) := by decide +kernel
theorem dX7_line_1 : decode cX7_line 1 = .ok (.getfield 16, 3) := by decide +kernel
theorem dX7_line_4 : decode cX7_line 4 = .ok (.iload_n 1, 1) := by decide +kernel
theorem dX7_line_5 : decode cX7_line 5 = .ok (.invokevirtual 97, 3) := by decide +kernel
theorem dX7_line_8 : decode cX7_line 8 = .ok (.ifCond .eq 12, 3) := by decide +kernel
theorem dX7_line_11 : decode cX7_line 11 = .ok (.iload_n 2, 1) := by decide +kernel
theorem dX7_line_12 : decode cX7_line 12 = .ok (.ifCond .lt 8, 3) := by decide +kernel
theorem dX7_line_15 : decode cX7_line 15 = .ok (.iload_n 2, 1) := by decide +kernel
theorem dX7_line_16 : decode cX7_line 16 = .ok (.iconst 1, 1) := by decide +kernel
theorem dX7_line_17 : decode cX7_line 17 = .ok (.if_icmp .le 5, 3) := by decide +kernel
theorem dX7_line_20 : decode cX7_line 20 = .ok (.iconst (-1), 1) := by decide +kernel
theorem dX7_line_21 : decode cX7_line 21 = .ok (.ireturn, 1) := by decide +kernel
theorem dX7_line_22 : decode cX7_line 22 = .ok (.iload_n 2, 1) := by decide +kernel
theorem dX7_line_23 : decode cX7_line 23 = .ok (.ifCond .ne 15, 3) := by decide +kernel
theorem dX7_line_26 : decode cX7_line 26 = .ok (.aload_n 0, 1) := by decide +kernel
theorem dX7_line_27 : decode cX7_line 27 = .ok (.getfield 34, 3) := by decide +kernel
theorem dX7_line_30 : decode cX7_line 30 = .ok (.getfield 101, 3) := by decide +kernel
theorem dX7_line_33 : decode cX7_line 33 = .ok (.iload_n 1, 1) := by decide +kernel
theorem dX7_line_34 : decode cX7_line 34 = .ok (.iaload, 1) := by decide +kernel
theorem dX7_line_35 : decode cX7_line 35 = .ok (.goto 11, 3) := by decide +kernel
theorem dX7_line_38 : decode cX7_line 38 = .ok (.aload_n 0, 1) := by decide +kernel
theorem dX7_line_39 : decode cX7_line 39 = .ok (.getfield 34, 3) := by decide +kernel
theorem dX7_line_42 : decode cX7_line 42 = .ok (.iload_n 1, 1) := by decide +kernel
theorem dX7_line_43 : decode cX7_line 43 = .ok (.invokevirtual 104, 3) := by decide +kernel
theorem dX7_line_46 : decode cX7_line 46 = .ok (.ireturn, 1) := by decide +kernel
theorem dX7_call_0 : decode cX7_call 0 = .ok (.aload_n 0, 1) := by decide +kernel
theorem dX7_call_1 : decode cX7_call 1 = .ok (.getfield 16, 3) := by decide +kernel
theorem dX7_call_4 : decode cX7_call 4 = .ok (.iload_n 1, 1) := by decide +kernel
theorem dX7_call_5 : decode cX7_call 5 = .ok (.invokevirtual 107, 3) := by decide +kernel
theorem dX7_call_8 : decode cX7_call 8 = .ok (.ifCond .ne 5, 3) := by decide +kernel
theorem dX7_call_11 : decode cX7_call 11 = .ok (.iconst (-1), 1) := by decide +kernel
theorem dX7_call_12 : decode cX7_call 12 = .ok (.ireturn, 1) := by decide +kernel
theorem dX7_call_13 : decode cX7_call 13 = .ok (.iload_n 2, 1) := by decide +kernel
theorem dX7_call_14 : decode cX7_call 14 = .ok (.tableswitch 126 0 7 #[46, 56, 66, 76, 86, 96, 106, 116], 46) := by decide +kernel
theorem dX7_call_60 : decode cX7_call 60 = .ok (.aload_n 0, 1) := by decide +kernel
theorem dX7_call_61 : decode cX7_call 61 = .ok (.getfield 16, 3) := by decide +kernel
theorem dX7_call_64 : decode cX7_call 64 = .ok (.getfield 110, 3) := by decide +kernel
theorem dX7_call_67 : decode cX7_call 67 = .ok (.iload_n 1, 1) := by decide +kernel
theorem dX7_call_68 : decode cX7_call 68 = .ok (.iaload, 1) := by decide +kernel
theorem dX7_call_69 : decode cX7_call 69 = .ok (.ireturn, 1) := by decide +kernel
theorem dX7_call_70 : decode cX7_call 70 = .ok (.aload_n 0, 1) := by decide +kernel
theorem dX7_call_71 : decode cX7_call 71 = .ok (.getfield 16, 3) := by decide +kernel
theorem dX7_call_74 : decode cX7_call 74 = .ok (.getfield 113, 3) := by decide +kernel
theorem dX7_call_77 : decode cX7_call 77 = .ok (.iload_n 1, 1) := by decide +kernel
theorem dX7_call_78 : decode cX7_call 78 = .ok (.iaload, 1) := by decide +kernel
theorem dX7_call_79 : decode cX7_call 79 = .ok (.ireturn, 1) := by decide +kernel
theorem dX7_call_80 : decode cX7_call 80 = .ok (.aload_n 0, 1) := by decide +kernel
theorem dX7_call_81 : decode cX7_call 81 = .ok (.getfield 16, 3) := by decide +kernel
theorem dX7_call_84 : decode cX7_call 84 = .ok (.getfield 116, 3) := by decide +kernel
theorem dX7_call_87 : decode cX7_call 87 = .ok (.iload_n 1, 1) := by decide +kernel
theorem dX7_call_88 : decode cX7_call 88 = .ok (.iaload, 1) := by decide +kernel
theorem dX7_call_89 : decode cX7_call 89 = .ok (.ireturn, 1) := by decide +kernel
theorem dX7_call_90 : decode cX7_call 90 = .ok (.aload_n 0, 1) := by decide +kernel
theorem dX7_call_91 : decode cX7_call 91 = .ok (.getfield 16, 3) := by decide +kernel
theorem dX7_call_94 : decode cX7_call 94 = .ok (.getfield 119, 3) := by decide +kernel
theorem dX7_call_97 : decode cX7_call 97 = .ok (.iload_n 1, 1) := by decide +kernel
theorem dX7_call_98 : decode cX7_call 98 = .ok (.iaload, 1) := by decide +kernel
theorem dX7_call_99 : decode cX7_call 99 = .ok (.ireturn, 1) := by decide +kernel
theorem dX7_call_100 : decode cX7_call 100 = .ok (.aload_n 0, 1) := by decide +kernel
theorem dX7_call_101 : decode cX7_call 101 = .ok (.getfield 16, 3) := by decide +kernel
theorem dX7_call_104 : decode cX7_call 104 = .ok (.getfield 122, 3) := by decide +kernel
theorem dX7_call_107 : decode cX7_call 107 = .ok (.iload_n 1, 1) := by decide +kernel
theorem dX7_call_108 : decode cX7_call 108 = .ok (.iaload, 1) := by decide +kernel
theorem dX7_call_109 : decode cX7_call 109 = .ok (.ireturn, 1) := by decide +kernel
theorem dX7_call_110 : decode cX7_call 110 = .ok (.aload_n 0, 1) := by decide +kernel
theorem dX7_call_111 : decode cX7_call 111 = .ok (.getfield 34, 3) := by decide +kernel
theorem dX7_call_114 : decode cX7_call 114 = .ok (.getfield 125, 3) := by decide +kernel
theorem dX7_call_117 : decode cX7_call 117 = .ok (.iload_n 1, 1) := by decide +kernel
theorem dX7_call_118 : decode cX7_call 118 = .ok (.iaload, 1) := by decide +kernel
theorem dX7_call_119 : decode cX7_call 119 = .ok (.ireturn, 1) := by decide +kernel
theorem dX7_call_120 : decode cX7_call 120 = .ok (.aload_n 0, 1) := by decide +kernel
theorem dX7_call_121 : decode cX7_call 121 = .ok (.getfield 34, 3) := by decide +kernel
theorem dX7_call_124 : decode cX7_call 124 = .ok (.getfield 128, 3) := by decide +kernel
theorem dX7_call_127 : decode cX7_call 127 = .ok (.iload_n 1, 1) := by decide +kernel
theorem dX7_call_128 : decode cX7_call 128 = .ok (.iaload, 1) := by decide +kernel
theorem dX7_call_129 : decode cX7_call 129 = .ok (.ireturn, 1) := by decide +kernel
theorem dX7_call_130 : decode cX7_call 130 = .ok (.aload_n 0, 1) := by decide +kernel
theorem dX7_call_131 : decode cX7_call 131 = .ok (.getfield 34, 3) := by decide +kernel
theorem dX7_call_134 : decode cX7_call 134 = .ok (.getfield 131, 3) := by decide +kernel
theorem dX7_call_137 : decode cX7_call 137 = .ok (.iload_n 1, 1) := by decide +kernel
theorem dX7_call_138 : decode cX7_call 138 = .ok (.iaload, 1) := by decide +kernel
theorem dX7_call_139 : decode cX7_call 139 = .ok (.ireturn, 1) := by decide +kernel
theorem dX7_call_140 : decode cX7_call 140 = .ok (.iconst (-1), 1) := by decide +kernel
theorem dX7_call_141 : decode cX7_call 141 = .ok (.ireturn, 1) := by decide +kernel
theorem dX7_now_0 : decode cX7_now 0 = .ok (.iload_n 1, 1) := by decide +kernel
theorem dX7_now_1 : decode cX7_now 1 = .ok (.tableswitch 86 0 5 #[39, 47, 56, 65, 70, 78], 39) := by decide +kernel
theorem dX7_now_40 : decode cX7_now 40 = .ok (.aload_n 0, 1) := by decide +kernel
theorem dX7_now_41 : decode cX7_now 41 = .ok (.getfield 34, 3) := by decide +kernel
theorem dX7_now_44 : decode cX7_now 44 = .ok (.getfield 134, 3) := by decide +kernel
theorem dX7_now_47 : decode cX7_now 47 = .ok (.ireturn, 1) := by decide +kernel
theorem dX7_now_48 : decode cX7_now 48 = .ok (.aload_n 0, 1) := by decide +kernel
theorem dX7_now_49 : decode cX7_now 49 = .ok (.getfield 34, 3) := by decide +kernel
theorem dX7_now_52 : decode cX7_now 52 = .ok (.iconst 1, 1) := by decide +kernel
theorem dX7_now_53 : decode cX7_now 53 = .ok (.invokevirtual 137, 3) := by decide +kernel
theorem dX7_now_56 : decode cX7_now 56 = .ok (.ireturn, 1) := by decide +kernel
theorem dX7_now_57 : decode cX7_now 57 = .ok (.aload_n 0, 1) := by decide +kernel
theorem dX7_now_58 : decode cX7_now 58 = .ok (.getfield 34, 3) := by decide +kernel
theorem dX7_now_61 : decode cX7_now 61 = .ok (.iconst 2, 1) := by decide +kernel
theorem dX7_now_62 : decode cX7_now 62 = .ok (.invokevirtual 137, 3) := by decide +kernel
theorem dX7_now_65 : decode cX7_now 65 = .ok (.ireturn, 1) := by decide +kernel
theorem dX7_now_66 : decode cX7_now 66 = .ok (.aload_n 0, 1) := by decide +kernel
theorem dX7_now_67 : decode cX7_now 67 = .ok (.invokevirtual 140, 3) := by decide +kernel
theorem dX7_now_70 : decode cX7_now 70 = .ok (.ireturn, 1) := by decide +kernel
theorem dX7_now_71 : decode cX7_now 71 = .ok (.aload_n 0, 1) := by decide +kernel
theorem dX7_now_72 : decode cX7_now 72 = .ok (.getfield 34, 3) := by decide +kernel
theorem dX7_now_75 : decode cX7_now 75 = .ok (.invokevirtual 144, 3) := by decide +kernel
theorem dX7_now_78 : decode cX7_now 78 = .ok (.ireturn, 1) := by decide +kernel
theorem dX7_now_79 : decode cX7_now 79 = .ok (.aload_n 0, 1) := by decide +kernel
theorem dX7_now_80 : decode cX7_now 80 = .ok (.getfield 41, 3) := by decide +kernel
theorem dX7_now_83 : decode cX7_now 83 = .ok (.getfield 147, 3) := by decide +kernel
theorem dX7_now_86 : decode cX7_now 86 = .ok (.ireturn, 1) := by decide +kernel
theorem dX7_now_87 : decode cX7_now 87 = .ok (.iconst (-1), 1) := by decide +kernel
theorem dX7_now_88 : decode cX7_now 88 = .ok (.ireturn, 1) := by decide +kernel
theorem dX7_freeCords_0 : decode cX7_freeCords 0 = .ok (.aload_n 0, 1) := by decide +kernel
theorem dX7_freeCords_1 : decode cX7_freeCords 1 = .ok (.getfield 16, 3) := by decide +kernel
theorem dX7_freeCords_4 : decode cX7_freeCords 4 = .ok (.getfield 150, 3) := by decide +kernel
theorem dX7_freeCords_7 : decode cX7_freeCords 7 = .ok (.aload_n 0, 1) := by decide +kernel
theorem dX7_freeCords_8 : decode cX7_freeCords 8 = .ok (.getfield 34, 3) := by decide +kernel
theorem dX7_freeCords_11 : decode cX7_freeCords 11 = .ok (.iconst 2, 1) := by decide +kernel
theorem dX7_freeCords_12 : decode cX7_freeCords 12 = .ok (.invokevirtual 137, 3) := by decide +kernel
theorem dX7_freeCords_15 : decode cX7_freeCords 15 = .ok (.invokestatic 153, 3) := by decide +kernel
theorem dX7_freeCords_18 : decode cX7_freeCords 18 = .ok (.isub, 1) := by decide +kernel
theorem dX7_freeCords_19 : decode cX7_freeCords 19 = .ok (.ireturn, 1) := by decide +kernel
theorem dX7_minute_0 : decode cX7_minute 0 = .ok (.aload_n 0, 1) := by decide +kernel
theorem dX7_minute_1 : decode cX7_minute 1 = .ok (.getfield 34, 3) := by decide +kernel
theorem dX7_minute_4 : decode cX7_minute 4 = .ok (.getfield 134, 3) := by decide +kernel
theorem dX7_minute_7 : decode cX7_minute 7 = .ok (.bipush 99, 2) := by decide +kernel
theorem dX7_minute_9 : decode cX7_minute 9 = .ok (.if_icmp .lt 6, 3) := by decide +kernel
theorem dX7_minute_12 : decode cX7_minute 12 = .ok (.bipush (-2), 2) := by decide +kernel
theorem dX7_minute_14 : decode cX7_minute 14 = .ok (.ireturn, 1) := by decide +kernel
theorem dX7_minute_15 : decode cX7_minute 15 = .ok (.aload_n 0, 1) := by decide +kernel
theorem dX7_minute_16 : decode cX7_minute 16 = .ok (.getfield 41, 3) := by decide +kernel
theorem dX7_minute_19 : decode cX7_minute 19 = .ok (.aload_n 0, 1) := by decide +kernel
theorem dX7_minute_20 : decode cX7_minute 20 = .ok (.getfield 34, 3) := by decide +kernel
theorem dX7_minute_23 : decode cX7_minute 23 = .ok (.invokevirtual 158, 3) := by decide +kernel
theorem dX7_minute_26 : decode cX7_minute 26 = .ok (.aload_n 0, 1) := by decide +kernel
theorem dX7_minute_27 : decode cX7_minute 27 = .ok (.getfield 34, 3) := by decide +kernel
theorem dX7_minute_30 : decode cX7_minute 30 = .ok (.invokevirtual 162, 3) := by decide +kernel
theorem dX7_minute_33 : decode cX7_minute 33 = .ok (.aload_n 0, 1) := by decide +kernel
theorem dX7_minute_34 : decode cX7_minute 34 = .ok (.getfield 34, 3) := by decide +kernel
theorem dX7_minute_37 : decode cX7_minute 37 = .ok (.getfield 134, 3) := by decide +kernel
theorem dX7_minute_40 : decode cX7_minute 40 = .ok (.ireturn, 1) := by decide +kernel
theorem dX7_plugs_0 : decode cX7_plugs 0 = .ok (.aload_n 0, 1) := by decide +kernel
theorem dX7_plugs_1 : decode cX7_plugs 1 = .ok (.getfield 16, 3) := by decide +kernel
theorem dX7_plugs_4 : decode cX7_plugs 4 = .ok (.iload_n 1, 1) := by decide +kernel
theorem dX7_plugs_5 : decode cX7_plugs 5 = .ok (.invokevirtual 107, 3) := by decide +kernel
theorem dX7_plugs_8 : decode cX7_plugs 8 = .ok (.ifCond .ne 5, 3) := by decide +kernel
theorem dX7_plugs_11 : decode cX7_plugs 11 = .ok (.iconst (-1), 1) := by decide +kernel
theorem dX7_plugs_12 : decode cX7_plugs 12 = .ok (.ireturn, 1) := by decide +kernel
theorem dX7_plugs_13 : decode cX7_plugs 13 = .ok (.aload_n 0, 1) := by decide +kernel
theorem dX7_plugs_14 : decode cX7_plugs 14 = .ok (.getfield 34, 3) := by decide +kernel
theorem dX7_plugs_17 : decode cX7_plugs 17 = .ok (.iload_n 1, 1) := by decide +kernel
theorem dX7_plugs_18 : decode cX7_plugs 18 = .ok (.aload_n 0, 1) := by decide +kernel
theorem dX7_plugs_19 : decode cX7_plugs 19 = .ok (.getfield 16, 3) := by decide +kernel
theorem dX7_plugs_22 : decode cX7_plugs 22 = .ok (.getfield 150, 3) := by decide +kernel
theorem dX7_plugs_25 : decode cX7_plugs 25 = .ok (.invokevirtual 165, 3) := by decide +kernel
theorem dX7_plugs_28 : decode cX7_plugs 28 = .ok (.ifCond .ne 6, 3) := by decide +kernel
theorem dX7_plugs_31 : decode cX7_plugs 31 = .ok (.bipush (-2), 2) := by decide +kernel
theorem dX7_plugs_33 : decode cX7_plugs 33 = .ok (.ireturn, 1) := by decide +kernel
theorem dX7_plugs_34 : decode cX7_plugs 34 = .ok (.aload_n 0, 1) := by decide +kernel
theorem dX7_plugs_35 : decode cX7_plugs 35 = .ok (.getfield 41, 3) := by decide +kernel
theorem dX7_plugs_38 : decode cX7_plugs 38 = .ok (.aload_n 0, 1) := by decide +kernel
theorem dX7_plugs_39 : decode cX7_plugs 39 = .ok (.getfield 34, 3) := by decide +kernel
theorem dX7_plugs_42 : decode cX7_plugs 42 = .ok (.invokevirtual 158, 3) := by decide +kernel
theorem dX7_plugs_45 : decode cX7_plugs 45 = .ok (.aload_n 0, 1) := by decide +kernel
theorem dX7_plugs_46 : decode cX7_plugs 46 = .ok (.getfield 34, 3) := by decide +kernel
theorem dX7_plugs_49 : decode cX7_plugs 49 = .ok (.iload_n 1, 1) := by decide +kernel
theorem dX7_plugs_50 : decode cX7_plugs 50 = .ok (.invokevirtual 169, 3) := by decide +kernel
theorem dX7_plugs_53 : decode cX7_plugs 53 = .ok (.aload_n 0, 1) := by decide +kernel
theorem dX7_plugs_54 : decode cX7_plugs 54 = .ok (.invokevirtual 140, 3) := by decide +kernel
theorem dX7_plugs_57 : decode cX7_plugs 57 = .ok (.ireturn, 1) := by decide +kernel
theorem dX7_pulls_0 : decode cX7_pulls 0 = .ok (.aload_n 0, 1) := by decide +kernel
theorem dX7_pulls_1 : decode cX7_pulls 1 = .ok (.getfield 16, 3) := by decide +kernel
theorem dX7_pulls_4 : decode cX7_pulls 4 = .ok (.iload_n 1, 1) := by decide +kernel
theorem dX7_pulls_5 : decode cX7_pulls 5 = .ok (.invokevirtual 107, 3) := by decide +kernel
theorem dX7_pulls_8 : decode cX7_pulls 8 = .ok (.ifCond .ne 5, 3) := by decide +kernel
theorem dX7_pulls_11 : decode cX7_pulls 11 = .ok (.iconst (-1), 1) := by decide +kernel
theorem dX7_pulls_12 : decode cX7_pulls 12 = .ok (.ireturn, 1) := by decide +kernel
theorem dX7_pulls_13 : decode cX7_pulls 13 = .ok (.aload_n 0, 1) := by decide +kernel
theorem dX7_pulls_14 : decode cX7_pulls 14 = .ok (.getfield 34, 3) := by decide +kernel
theorem dX7_pulls_17 : decode cX7_pulls 17 = .ok (.getfield 125, 3) := by decide +kernel
theorem dX7_pulls_20 : decode cX7_pulls 20 = .ok (.iload_n 1, 1) := by decide +kernel
theorem dX7_pulls_21 : decode cX7_pulls 21 = .ok (.iaload, 1) := by decide +kernel
theorem dX7_pulls_22 : decode cX7_pulls 22 = .ok (.iconst 2, 1) := by decide +kernel
theorem dX7_pulls_23 : decode cX7_pulls 23 = .ok (.if_icmp .eq 6, 3) := by decide +kernel
theorem dX7_pulls_26 : decode cX7_pulls 26 = .ok (.bipush (-2), 2) := by decide +kernel
theorem dX7_pulls_28 : decode cX7_pulls 28 = .ok (.ireturn, 1) := by decide +kernel
theorem dX7_pulls_29 : decode cX7_pulls 29 = .ok (.aload_n 0, 1) := by decide +kernel
theorem dX7_pulls_30 : decode cX7_pulls 30 = .ok (.getfield 34, 3) := by decide +kernel
theorem dX7_pulls_33 : decode cX7_pulls 33 = .ok (.getfield 128, 3) := by decide +kernel
theorem dX7_pulls_36 : decode cX7_pulls 36 = .ok (.iload_n 1, 1) := by decide +kernel
theorem dX7_pulls_37 : decode cX7_pulls 37 = .ok (.iaload, 1) := by decide +kernel
theorem dX7_pulls_38 : decode cX7_pulls 38 = .ok (.istore_n 2, 1) := by decide +kernel
theorem dX7_pulls_39 : decode cX7_pulls 39 = .ok (.aload_n 0, 1) := by decide +kernel
theorem dX7_pulls_40 : decode cX7_pulls 40 = .ok (.getfield 41, 3) := by decide +kernel
theorem dX7_pulls_43 : decode cX7_pulls 43 = .ok (.aload_n 0, 1) := by decide +kernel
theorem dX7_pulls_44 : decode cX7_pulls 44 = .ok (.getfield 34, 3) := by decide +kernel
theorem dX7_pulls_47 : decode cX7_pulls 47 = .ok (.invokevirtual 158, 3) := by decide +kernel
theorem dX7_pulls_50 : decode cX7_pulls 50 = .ok (.aload_n 0, 1) := by decide +kernel
theorem dX7_pulls_51 : decode cX7_pulls 51 = .ok (.getfield 34, 3) := by decide +kernel
theorem dX7_pulls_54 : decode cX7_pulls 54 = .ok (.iload_n 1, 1) := by decide +kernel
theorem dX7_pulls_55 : decode cX7_pulls 55 = .ok (.invokevirtual 173, 3) := by decide +kernel
theorem dX7_pulls_58 : decode cX7_pulls 58 = .ok (.iload_n 2, 1) := by decide +kernel
theorem dX7_pulls_59 : decode cX7_pulls 59 = .ok (.ireturn, 1) := by decide +kernel
theorem dX7_swaps_0 : decode cX7_swaps 0 = .ok (.aload_n 0, 1) := by decide +kernel
theorem dX7_swaps_1 : decode cX7_swaps 1 = .ok (.getfield 16, 3) := by decide +kernel
theorem dX7_swaps_4 : decode cX7_swaps 4 = .ok (.iload_n 1, 1) := by decide +kernel
theorem dX7_swaps_5 : decode cX7_swaps 5 = .ok (.invokevirtual 97, 3) := by decide +kernel
theorem dX7_swaps_8 : decode cX7_swaps 8 = .ok (.ifCond .eq 19, 3) := by decide +kernel
theorem dX7_swaps_11 : decode cX7_swaps 11 = .ok (.aload_n 0, 1) := by decide +kernel
theorem dX7_swaps_12 : decode cX7_swaps 12 = .ok (.getfield 16, 3) := by decide +kernel
theorem dX7_swaps_15 : decode cX7_swaps 15 = .ok (.iload_n 2, 1) := by decide +kernel
theorem dX7_swaps_16 : decode cX7_swaps 16 = .ok (.invokevirtual 97, 3) := by decide +kernel
theorem dX7_swaps_19 : decode cX7_swaps 19 = .ok (.ifCond .eq 8, 3) := by decide +kernel
theorem dX7_swaps_22 : decode cX7_swaps 22 = .ok (.iload_n 1, 1) := by decide +kernel
theorem dX7_swaps_23 : decode cX7_swaps 23 = .ok (.iload_n 2, 1) := by decide +kernel
theorem dX7_swaps_24 : decode cX7_swaps 24 = .ok (.if_icmp .ne 5, 3) := by decide +kernel
theorem dX7_swaps_27 : decode cX7_swaps 27 = .ok (.iconst (-1), 1) := by decide +kernel
theorem dX7_swaps_28 : decode cX7_swaps 28 = .ok (.ireturn, 1) := by decide +kernel
theorem dX7_swaps_29 : decode cX7_swaps 29 = .ok (.aload_n 0, 1) := by decide +kernel
theorem dX7_swaps_30 : decode cX7_swaps 30 = .ok (.getfield 34, 3) := by decide +kernel
theorem dX7_swaps_33 : decode cX7_swaps 33 = .ok (.iload_n 1, 1) := by decide +kernel
theorem dX7_swaps_34 : decode cX7_swaps 34 = .ok (.invokevirtual 104, 3) := by decide +kernel
theorem dX7_swaps_37 : decode cX7_swaps 37 = .ok (.bipush (-9), 2) := by decide +kernel
theorem dX7_swaps_39 : decode cX7_swaps 39 = .ok (.if_icmp .ne 16, 3) := by decide +kernel
theorem dX7_swaps_42 : decode cX7_swaps 42 = .ok (.aload_n 0, 1) := by decide +kernel
theorem dX7_swaps_43 : decode cX7_swaps 43 = .ok (.getfield 34, 3) := by decide +kernel
theorem dX7_swaps_46 : decode cX7_swaps 46 = .ok (.iload_n 2, 1) := by decide +kernel
theorem dX7_swaps_47 : decode cX7_swaps 47 = .ok (.invokevirtual 104, 3) := by decide +kernel
theorem dX7_swaps_50 : decode cX7_swaps 50 = .ok (.bipush (-9), 2) := by decide +kernel
theorem dX7_swaps_52 : decode cX7_swaps 52 = .ok (.if_icmp .eq 6, 3) := by decide +kernel
theorem dX7_swaps_55 : decode cX7_swaps 55 = .ok (.bipush (-2), 2) := by decide +kernel
theorem dX7_swaps_57 : decode cX7_swaps 57 = .ok (.ireturn, 1) := by decide +kernel
theorem dX7_swaps_58 : decode cX7_swaps 58 = .ok (.aload_n 0, 1) := by decide +kernel
theorem dX7_swaps_59 : decode cX7_swaps 59 = .ok (.getfield 41, 3) := by decide +kernel
theorem dX7_swaps_62 : decode cX7_swaps 62 = .ok (.aload_n 0, 1) := by decide +kernel
theorem dX7_swaps_63 : decode cX7_swaps 63 = .ok (.getfield 34, 3) := by decide +kernel
theorem dX7_swaps_66 : decode cX7_swaps 66 = .ok (.invokevirtual 158, 3) := by decide +kernel
theorem dX7_swaps_69 : decode cX7_swaps 69 = .ok (.aload_n 0, 1) := by decide +kernel
theorem dX7_swaps_70 : decode cX7_swaps 70 = .ok (.getfield 34, 3) := by decide +kernel
theorem dX7_swaps_73 : decode cX7_swaps 73 = .ok (.getfield 101, 3) := by decide +kernel
theorem dX7_swaps_76 : decode cX7_swaps 76 = .ok (.iload_n 1, 1) := by decide +kernel
theorem dX7_swaps_77 : decode cX7_swaps 77 = .ok (.iload_n 2, 1) := by decide +kernel
theorem dX7_swaps_78 : decode cX7_swaps 78 = .ok (.invokestatic 176, 3) := by decide +kernel
theorem dX7_swaps_81 : decode cX7_swaps 81 = .ok (.aload_n 0, 1) := by decide +kernel
theorem dX7_swaps_82 : decode cX7_swaps 82 = .ok (.getfield 34, 3) := by decide +kernel
theorem dX7_swaps_85 : decode cX7_swaps 85 = .ok (.getfield 101, 3) := by decide +kernel
theorem dX7_swaps_88 : decode cX7_swaps 88 = .ok (.iload_n 1, 1) := by decide +kernel
theorem dX7_swaps_89 : decode cX7_swaps 89 = .ok (.iaload, 1) := by decide +kernel
theorem dX7_swaps_90 : decode cX7_swaps 90 = .ok (.ireturn, 1) := by decide +kernel
theorem dX7_undo_0 : decode cX7_undo 0 = .ok (.aload_n 0, 1) := by decide +kernel
theorem dX7_undo_1 : decode cX7_undo 1 = .ok (.getfield 41, 3) := by decide +kernel
theorem dX7_undo_4 : decode cX7_undo 4 = .ok (.getfield 147, 3) := by decide +kernel
theorem dX7_undo_7 : decode cX7_undo 7 = .ok (.ifCond .ne 6, 3) := by decide +kernel
theorem dX7_undo_10 : decode cX7_undo 10 = .ok (.bipush (-2), 2) := by decide +kernel
theorem dX7_undo_12 : decode cX7_undo 12 = .ok (.ireturn, 1) := by decide +kernel
theorem dX7_undo_13 : decode cX7_undo 13 = .ok (.aload_n 0, 1) := by decide +kernel
theorem dX7_undo_14 : decode cX7_undo 14 = .ok (.getfield 41, 3) := by decide +kernel
theorem dX7_undo_17 : decode cX7_undo 17 = .ok (.aload_n 0, 1) := by decide +kernel
theorem dX7_undo_18 : decode cX7_undo 18 = .ok (.getfield 34, 3) := by decide +kernel
theorem dX7_undo_21 : decode cX7_undo 21 = .ok (.invokevirtual 180, 3) := by decide +kernel
theorem dX7_undo_24 : decode cX7_undo 24 = .ok (.aload_n 0, 1) := by decide +kernel
theorem dX7_undo_25 : decode cX7_undo 25 = .ok (.getfield 41, 3) := by decide +kernel
theorem dX7_undo_28 : decode cX7_undo 28 = .ok (.getfield 147, 3) := by decide +kernel
theorem dX7_undo_31 : decode cX7_undo 31 = .ok (.ireturn, 1) := by decide +kernel
theorem dX7_byRule_0 : decode cX7_byRule 0 = .ok (.iload_n 1, 1) := by decide +kernel
theorem dX7_byRule_1 : decode cX7_byRule 1 = .ok (.invokestatic 183, 3) := by decide +kernel
theorem dX7_byRule_4 : decode cX7_byRule 4 = .ok (.ifCond .eq 22, 3) := by decide +kernel
theorem dX7_byRule_7 : decode cX7_byRule 7 = .ok (.iload_n 2, 1) := by decide +kernel
theorem dX7_byRule_8 : decode cX7_byRule 8 = .ok (.ifCond .lt 18, 3) := by decide +kernel
theorem dX7_byRule_11 : decode cX7_byRule 11 = .ok (.iload_n 2, 1) := by decide +kernel
theorem dX7_byRule_12 : decode cX7_byRule 12 = .ok (.bipush 60, 2) := by decide +kernel
theorem dX7_byRule_14 : decode cX7_byRule 14 = .ok (.if_icmp .gt 12, 3) := by decide +kernel
theorem dX7_byRule_17 : decode cX7_byRule 17 = .ok (.iload_n 3, 1) := by decide +kernel
theorem dX7_byRule_18 : decode cX7_byRule 18 = .ok (.ifCond .lt 8, 3) := by decide +kernel
theorem dX7_byRule_21 : decode cX7_byRule 21 = .ok (.iload_n 3, 1) := by decide +kernel
theorem dX7_byRule_22 : decode cX7_byRule 22 = .ok (.iconst 2, 1) := by decide +kernel
theorem dX7_byRule_23 : decode cX7_byRule 23 = .ok (.if_icmp .le 5, 3) := by decide +kernel
theorem dX7_byRule_26 : decode cX7_byRule 26 = .ok (.iconst (-1), 1) := by decide +kernel
theorem dX7_byRule_27 : decode cX7_byRule 27 = .ok (.ireturn, 1) := by decide +kernel
theorem dX7_byRule_28 : decode cX7_byRule 28 = .ok (.aload_n 0, 1) := by decide +kernel
theorem dX7_byRule_29 : decode cX7_byRule 29 = .ok (.getfield 55, 3) := by decide +kernel
theorem dX7_byRule_32 : decode cX7_byRule 32 = .ok (.aload_n 0, 1) := by decide +kernel
theorem dX7_byRule_33 : decode cX7_byRule 33 = .ok (.getfield 34, 3) := by decide +kernel
theorem dX7_byRule_36 : decode cX7_byRule 36 = .ok (.iload_n 1, 1) := by decide +kernel
theorem dX7_byRule_37 : decode cX7_byRule 37 = .ok (.iload_n 2, 1) := by decide +kernel
theorem dX7_byRule_38 : decode cX7_byRule 38 = .ok (.aload_n 0, 1) := by decide +kernel
theorem dX7_byRule_39 : decode cX7_byRule 39 = .ok (.getfield 16, 3) := by decide +kernel
theorem dX7_byRule_42 : decode cX7_byRule 42 = .ok (.getfield 150, 3) := by decide +kernel
theorem dX7_byRule_45 : decode cX7_byRule 45 = .ok (.invokevirtual 186, 3) := by decide +kernel
theorem dX7_byRule_48 : decode cX7_byRule 48 = .ok (.iload_n 3, 1) := by decide +kernel
theorem dX7_byRule_49 : decode cX7_byRule 49 = .ok (.lookupswitch 55 #[(0, 27), (1, 42)], 27) := by decide +kernel
theorem dX7_byRule_76 : decode cX7_byRule 76 = .ok (.aload_n 0, 1) := by decide +kernel
theorem dX7_byRule_77 : decode cX7_byRule 77 = .ok (.getfield 55, 3) := by decide +kernel
theorem dX7_byRule_80 : decode cX7_byRule 80 = .ok (.getfield 190, 3) := by decide +kernel
theorem dX7_byRule_83 : decode cX7_byRule 83 = .ok (.iconst 3, 1) := by decide +kernel
theorem dX7_byRule_84 : decode cX7_byRule 84 = .ok (.invokevirtual 137, 3) := by decide +kernel
theorem dX7_byRule_87 : decode cX7_byRule 87 = .ok (.invokestatic 153, 3) := by decide +kernel
theorem dX7_byRule_90 : decode cX7_byRule 90 = .ok (.ireturn, 1) := by decide +kernel
theorem dX7_byRule_91 : decode cX7_byRule 91 = .ok (.aload_n 0, 1) := by decide +kernel
theorem dX7_byRule_92 : decode cX7_byRule 92 = .ok (.getfield 55, 3) := by decide +kernel
theorem dX7_byRule_95 : decode cX7_byRule 95 = .ok (.getfield 190, 3) := by decide +kernel
theorem dX7_byRule_98 : decode cX7_byRule 98 = .ok (.bipush 127, 2) := by decide +kernel
theorem dX7_byRule_100 : decode cX7_byRule 100 = .ok (.invokevirtual 193, 3) := by decide +kernel
theorem dX7_byRule_103 : decode cX7_byRule 103 = .ok (.ireturn, 1) := by decide +kernel
theorem dX7_byRule_104 : decode cX7_byRule 104 = .ok (.aload_n 0, 1) := by decide +kernel
theorem dX7_byRule_105 : decode cX7_byRule 105 = .ok (.getfield 55, 3) := by decide +kernel
theorem dX7_byRule_108 : decode cX7_byRule 108 = .ok (.getfield 196, 3) := by decide +kernel
theorem dX7_byRule_111 : decode cX7_byRule 111 = .ok (.ireturn, 1) := by decide +kernel
theorem dX7_enough_0 : decode cX7_enough 0 = .ok (.iload_n 1, 1) := by decide +kernel
theorem dX7_enough_1 : decode cX7_enough 1 = .ok (.invokestatic 183, 3) := by decide +kernel
theorem dX7_enough_4 : decode cX7_enough 4 = .ok (.ifCond .ne 5, 3) := by decide +kernel
theorem dX7_enough_7 : decode cX7_enough 7 = .ok (.iconst (-1), 1) := by decide +kernel
theorem dX7_enough_8 : decode cX7_enough 8 = .ok (.ireturn, 1) := by decide +kernel
theorem dX7_enough_9 : decode cX7_enough 9 = .ok (.iconst 1, 1) := by decide +kernel
theorem dX7_enough_10 : decode cX7_enough 10 = .ok (.istore_n 2, 1) := by decide +kernel
theorem dX7_enough_11 : decode cX7_enough 11 = .ok (.iload_n 2, 1) := by decide +kernel
theorem dX7_enough_12 : decode cX7_enough 12 = .ok (.iconst 4, 1) := by decide +kernel
theorem dX7_enough_13 : decode cX7_enough 13 = .ok (.if_icmp .gt 36, 3) := by decide +kernel
theorem dX7_enough_16 : decode cX7_enough 16 = .ok (.aload_n 0, 1) := by decide +kernel
theorem dX7_enough_17 : decode cX7_enough 17 = .ok (.getfield 55, 3) := by decide +kernel
theorem dX7_enough_20 : decode cX7_enough 20 = .ok (.aload_n 0, 1) := by decide +kernel
theorem dX7_enough_21 : decode cX7_enough 21 = .ok (.getfield 34, 3) := by decide +kernel
theorem dX7_enough_24 : decode cX7_enough 24 = .ok (.iload_n 1, 1) := by decide +kernel
theorem dX7_enough_25 : decode cX7_enough 25 = .ok (.bipush 60, 2) := by decide +kernel
theorem dX7_enough_27 : decode cX7_enough 27 = .ok (.iload_n 2, 1) := by decide +kernel
theorem dX7_enough_28 : decode cX7_enough 28 = .ok (.invokevirtual 186, 3) := by decide +kernel
theorem dX7_enough_31 : decode cX7_enough 31 = .ok (.aload_n 0, 1) := by decide +kernel
theorem dX7_enough_32 : decode cX7_enough 32 = .ok (.getfield 55, 3) := by decide +kernel
theorem dX7_enough_35 : decode cX7_enough 35 = .ok (.getfield 199, 3) := by decide +kernel
theorem dX7_enough_38 : decode cX7_enough 38 = .ok (.ifCond .ne 5, 3) := by decide +kernel
theorem dX7_enough_41 : decode cX7_enough 41 = .ok (.iload_n 2, 1) := by decide +kernel
theorem dX7_enough_42 : decode cX7_enough 42 = .ok (.ireturn, 1) := by decide +kernel
theorem dX7_enough_43 : decode cX7_enough 43 = .ok (.iinc 2 1, 3) := by decide +kernel
theorem dX7_enough_46 : decode cX7_enough 46 = .ok (.goto (-35), 3) := by decide +kernel
theorem dX7_enough_49 : decode cX7_enough 49 = .ok (.bipush (-9), 2) := by decide +kernel
theorem dX7_enough_51 : decode cX7_enough 51 = .ok (.ireturn, 1) := by decide +kernel
theorem dX7_isRule_0 : decode cX7_isRule 0 = .ok (.iload_n 0, 1) := by decide +kernel
theorem dX7_isRule_1 : decode cX7_isRule 1 = .ok (.ifCond .lt 12, 3) := by decide +kernel
theorem dX7_isRule_4 : decode cX7_isRule 4 = .ok (.iload_n 0, 1) := by decide +kernel
theorem dX7_isRule_5 : decode cX7_isRule 5 = .ok (.iconst 2, 1) := by decide +kernel
theorem dX7_isRule_6 : decode cX7_isRule 6 = .ok (.if_icmp .gt 7, 3) := by decide +kernel
theorem dX7_isRule_9 : decode cX7_isRule 9 = .ok (.iconst 1, 1) := by decide +kernel
theorem dX7_isRule_10 : decode cX7_isRule 10 = .ok (.goto 4, 3) := by decide +kernel
theorem dX7_isRule_13 : decode cX7_isRule 13 = .ok (.iconst 0, 1) := by decide +kernel
theorem dX7_isRule_14 : decode cX7_isRule 14 = .ok (.ireturn, 1) := by decide +kernel
theorem dX7_bestRow_0 : decode cX7_bestRow 0 = .ok (.iload_n 1, 1) := by decide +kernel
theorem dX7_bestRow_1 : decode cX7_bestRow 1 = .ok (.iconst (-1), 1) := by decide +kernel
theorem dX7_bestRow_2 : decode cX7_bestRow 2 = .ok (.if_icmp .ge 5, 3) := by decide +kernel
theorem dX7_bestRow_5 : decode cX7_bestRow 5 = .ok (.iconst (-1), 1) := by decide +kernel
theorem dX7_bestRow_6 : decode cX7_bestRow 6 = .ok (.ireturn, 1) := by decide +kernel
theorem dX7_bestRow_7 : decode cX7_bestRow 7 = .ok (.aload_n 0, 1) := by decide +kernel
theorem dX7_bestRow_8 : decode cX7_bestRow 8 = .ok (.getfield 62, 3) := by decide +kernel
theorem dX7_bestRow_11 : decode cX7_bestRow 11 = .ok (.aload_n 0, 1) := by decide +kernel
theorem dX7_bestRow_12 : decode cX7_bestRow 12 = .ok (.getfield 34, 3) := by decide +kernel
theorem dX7_bestRow_15 : decode cX7_bestRow 15 = .ok (.invokevirtual 203, 3) := by decide +kernel
theorem dX7_bestRow_18 : decode cX7_bestRow 18 = .ok (.iload_n 1, 1) := by decide +kernel
theorem dX7_bestRow_19 : decode cX7_bestRow 19 = .ok (.iconst (-1), 1) := by decide +kernel
theorem dX7_bestRow_20 : decode cX7_bestRow 20 = .ok (.if_icmp .ne 27, 3) := by decide +kernel
theorem dX7_bestRow_23 : decode cX7_bestRow 23 = .ok (.aload_n 0, 1) := by decide +kernel
theorem dX7_bestRow_24 : decode cX7_bestRow 24 = .ok (.getfield 62, 3) := by decide +kernel
theorem dX7_bestRow_27 : decode cX7_bestRow 27 = .ok (.getfield 206, 3) := by decide +kernel
theorem dX7_bestRow_30 : decode cX7_bestRow 30 = .ok (.aload_n 0, 1) := by decide +kernel
theorem dX7_bestRow_31 : decode cX7_bestRow 31 = .ok (.getfield 34, 3) := by decide +kernel
theorem dX7_bestRow_34 : decode cX7_bestRow 34 = .ok (.aload_n 0, 1) := by decide +kernel
theorem dX7_bestRow_35 : decode cX7_bestRow 35 = .ok (.getfield 34, 3) := by decide +kernel
theorem dX7_bestRow_38 : decode cX7_bestRow 38 = .ok (.iconst 1, 1) := by decide +kernel
theorem dX7_bestRow_39 : decode cX7_bestRow 39 = .ok (.invokevirtual 137, 3) := by decide +kernel
theorem dX7_bestRow_42 : decode cX7_bestRow 42 = .ok (.invokevirtual 193, 3) := by decide +kernel
theorem dX7_bestRow_45 : decode cX7_bestRow 45 = .ok (.iadd, 1) := by decide +kernel
theorem dX7_bestRow_46 : decode cX7_bestRow 46 = .ok (.ireturn, 1) := by decide +kernel
theorem dX7_bestRow_47 : decode cX7_bestRow 47 = .ok (.iload_n 1, 1) := by decide +kernel
theorem dX7_bestRow_48 : decode cX7_bestRow 48 = .ok (.aload_n 0, 1) := by decide +kernel
theorem dX7_bestRow_49 : decode cX7_bestRow 49 = .ok (.getfield 62, 3) := by decide +kernel
theorem dX7_bestRow_52 : decode cX7_bestRow 52 = .ok (.getfield 209, 3) := by decide +kernel
theorem dX7_bestRow_55 : decode cX7_bestRow 55 = .ok (.if_icmp .ge 15, 3) := by decide +kernel
theorem dX7_bestRow_58 : decode cX7_bestRow 58 = .ok (.aload_n 0, 1) := by decide +kernel
theorem dX7_bestRow_59 : decode cX7_bestRow 59 = .ok (.getfield 62, 3) := by decide +kernel
theorem dX7_bestRow_62 : decode cX7_bestRow 62 = .ok (.getfield 212, 3) := by decide +kernel
theorem dX7_bestRow_65 : decode cX7_bestRow 65 = .ok (.iload_n 1, 1) := by decide +kernel
theorem dX7_bestRow_66 : decode cX7_bestRow 66 = .ok (.iaload, 1) := by decide +kernel
theorem dX7_bestRow_67 : decode cX7_bestRow 67 = .ok (.goto 5, 3) := by decide +kernel
theorem dX7_bestRow_70 : decode cX7_bestRow 70 = .ok (.bipush (-5), 2) := by decide +kernel
theorem dX7_bestRow_72 : decode cX7_bestRow 72 = .ok (.ireturn, 1) := by decide +kernel
theorem dX7_cutFor_0 : decode cX7_cutFor 0 = .ok (.aload_n 0, 1) := by decide +kernel
theorem dX7_cutFor_1 : decode cX7_cutFor 1 = .ok (.getfield 16, 3) := by decide +kernel
theorem dX7_cutFor_4 : decode cX7_cutFor 4 = .ok (.iload_n 1, 1) := by decide +kernel
theorem dX7_cutFor_5 : decode cX7_cutFor 5 = .ok (.invokevirtual 107, 3) := by decide +kernel
theorem dX7_cutFor_8 : decode cX7_cutFor 8 = .ok (.ifCond .ne 5, 3) := by decide +kernel
theorem dX7_cutFor_11 : decode cX7_cutFor 11 = .ok (.iconst (-1), 1) := by decide +kernel
theorem dX7_cutFor_12 : decode cX7_cutFor 12 = .ok (.ireturn, 1) := by decide +kernel
theorem dX7_cutFor_13 : decode cX7_cutFor 13 = .ok (.aload_n 0, 1) := by decide +kernel
theorem dX7_cutFor_14 : decode cX7_cutFor 14 = .ok (.getfield 34, 3) := by decide +kernel
theorem dX7_cutFor_17 : decode cX7_cutFor 17 = .ok (.getfield 125, 3) := by decide +kernel
theorem dX7_cutFor_20 : decode cX7_cutFor 20 = .ok (.iload_n 1, 1) := by decide +kernel
theorem dX7_cutFor_21 : decode cX7_cutFor 21 = .ok (.iaload, 1) := by decide +kernel
theorem dX7_cutFor_22 : decode cX7_cutFor 22 = .ok (.iconst 1, 1) := by decide +kernel
theorem dX7_cutFor_23 : decode cX7_cutFor 23 = .ok (.if_icmp .eq 6, 3) := by decide +kernel
theorem dX7_cutFor_26 : decode cX7_cutFor 26 = .ok (.bipush (-2), 2) := by decide +kernel
theorem dX7_cutFor_28 : decode cX7_cutFor 28 = .ok (.ireturn, 1) := by decide +kernel
theorem dX7_cutFor_29 : decode cX7_cutFor 29 = .ok (.aload_n 0, 1) := by decide +kernel
theorem dX7_cutFor_30 : decode cX7_cutFor 30 = .ok (.getfield 34, 3) := by decide +kernel
theorem dX7_cutFor_33 : decode cX7_cutFor 33 = .ok (.iload_n 1, 1) := by decide +kernel
theorem dX7_cutFor_34 : decode cX7_cutFor 34 = .ok (.invokevirtual 215, 3) := by decide +kernel
theorem dX7_cutFor_37 : decode cX7_cutFor 37 = .ok (.ireturn, 1) := by decide +kernel
theorem dX7_longCords_0 : decode cX7_longCords 0 = .ok (.aload_n 0, 1) := by decide +kernel
theorem dX7_longCords_1 : decode cX7_longCords 1 = .ok (.getfield 69, 3) := by decide +kernel
theorem dX7_longCords_4 : decode cX7_longCords 4 = .ok (.aload_n 0, 1) := by decide +kernel
theorem dX7_longCords_5 : decode cX7_longCords 5 = .ok (.getfield 34, 3) := by decide +kernel
theorem dX7_longCords_8 : decode cX7_longCords 8 = .ok (.getfield 101, 3) := by decide +kernel
theorem dX7_longCords_11 : decode cX7_longCords 11 = .ok (.invokevirtual 218, 3) := by decide +kernel
theorem dX7_longCords_14 : decode cX7_longCords 14 = .ok (.ireturn, 1) := by decide +kernel
theorem dX7_change_0 : decode cX7_change 0 = .ok (.aload_n 0, 1) := by decide +kernel
theorem dX7_change_1 : decode cX7_change 1 = .ok (.getfield 69, 3) := by decide +kernel
theorem dX7_change_4 : decode cX7_change 4 = .ok (.aload_n 0, 1) := by decide +kernel
theorem dX7_change_5 : decode cX7_change 5 = .ok (.getfield 34, 3) := by decide +kernel
theorem dX7_change_8 : decode cX7_change 8 = .ok (.getfield 101, 3) := by decide +kernel
theorem dX7_change_11 : decode cX7_change 11 = .ok (.invokevirtual 222, 3) := by decide +kernel
theorem dX7_change_14 : decode cX7_change 14 = .ok (.ireturn, 1) := by decide +kernel
theorem dX7_bestHoles_0 : decode cX7_bestHoles 0 = .ok (.iload_n 1, 1) := by decide +kernel
theorem dX7_bestHoles_1 : decode cX7_bestHoles 1 = .ok (.iconst (-1), 1) := by decide +kernel
theorem dX7_bestHoles_2 : decode cX7_bestHoles 2 = .ok (.if_icmp .eq 16, 3) := by decide +kernel
theorem dX7_bestHoles_5 : decode cX7_bestHoles 5 = .ok (.aload_n 0, 1) := by decide +kernel
theorem dX7_bestHoles_6 : decode cX7_bestHoles 6 = .ok (.getfield 16, 3) := by decide +kernel
theorem dX7_bestHoles_9 : decode cX7_bestHoles 9 = .ok (.iload_n 1, 1) := by decide +kernel
theorem dX7_bestHoles_10 : decode cX7_bestHoles 10 = .ok (.invokevirtual 97, 3) := by decide +kernel
theorem dX7_bestHoles_13 : decode cX7_bestHoles 13 = .ok (.ifCond .ne 5, 3) := by decide +kernel
theorem dX7_bestHoles_16 : decode cX7_bestHoles 16 = .ok (.iconst (-1), 1) := by decide +kernel
theorem dX7_bestHoles_17 : decode cX7_bestHoles 17 = .ok (.ireturn, 1) := by decide +kernel
theorem dX7_bestHoles_18 : decode cX7_bestHoles 18 = .ok (.aload_n 0, 1) := by decide +kernel
theorem dX7_bestHoles_19 : decode cX7_bestHoles 19 = .ok (.getfield 69, 3) := by decide +kernel
theorem dX7_bestHoles_22 : decode cX7_bestHoles 22 = .ok (.invokevirtual 225, 3) := by decide +kernel
theorem dX7_bestHoles_25 : decode cX7_bestHoles 25 = .ok (.iload_n 1, 1) := by decide +kernel
theorem dX7_bestHoles_26 : decode cX7_bestHoles 26 = .ok (.iconst (-1), 1) := by decide +kernel
theorem dX7_bestHoles_27 : decode cX7_bestHoles 27 = .ok (.if_icmp .ne 13, 3) := by decide +kernel
theorem dX7_bestHoles_30 : decode cX7_bestHoles 30 = .ok (.aload_n 0, 1) := by decide +kernel
theorem dX7_bestHoles_31 : decode cX7_bestHoles 31 = .ok (.getfield 69, 3) := by decide +kernel
theorem dX7_bestHoles_34 : decode cX7_bestHoles 34 = .ok (.getfield 227, 3) := by decide +kernel
theorem dX7_bestHoles_37 : decode cX7_bestHoles 37 = .ok (.goto 12, 3) := by decide +kernel
theorem dX7_bestHoles_40 : decode cX7_bestHoles 40 = .ok (.aload_n 0, 1) := by decide +kernel
theorem dX7_bestHoles_41 : decode cX7_bestHoles 41 = .ok (.getfield 69, 3) := by decide +kernel
theorem dX7_bestHoles_44 : decode cX7_bestHoles 44 = .ok (.getfield 228, 3) := by decide +kernel
theorem dX7_bestHoles_47 : decode cX7_bestHoles 47 = .ok (.iload_n 1, 1) := by decide +kernel
theorem dX7_bestHoles_48 : decode cX7_bestHoles 48 = .ok (.iaload, 1) := by decide +kernel
theorem dX7_bestHoles_49 : decode cX7_bestHoles 49 = .ok (.ireturn, 1) := by decide +kernel
theorem dX7_atOnce_0 : decode cX7_atOnce 0 = .ok (.iload_n 1, 1) := by decide +kernel
theorem dX7_atOnce_1 : decode cX7_atOnce 1 = .ok (.ifCond .lt 8, 3) := by decide +kernel
theorem dX7_atOnce_4 : decode cX7_atOnce 4 = .ok (.iload_n 1, 1) := by decide +kernel
theorem dX7_atOnce_5 : decode cX7_atOnce 5 = .ok (.iconst 1, 1) := by decide +kernel
theorem dX7_atOnce_6 : decode cX7_atOnce 6 = .ok (.if_icmp .le 5, 3) := by decide +kernel
theorem dX7_atOnce_9 : decode cX7_atOnce 9 = .ok (.iconst (-1), 1) := by decide +kernel
theorem dX7_atOnce_10 : decode cX7_atOnce 10 = .ok (.ireturn, 1) := by decide +kernel
theorem dX7_atOnce_11 : decode cX7_atOnce 11 = .ok (.iconst 0, 1) := by decide +kernel
theorem dX7_atOnce_12 : decode cX7_atOnce 12 = .ok (.istore_n 2, 1) := by decide +kernel
theorem dX7_atOnce_13 : decode cX7_atOnce 13 = .ok (.iconst 0, 1) := by decide +kernel
theorem dX7_atOnce_14 : decode cX7_atOnce 14 = .ok (.istore_n 3, 1) := by decide +kernel
theorem dX7_atOnce_15 : decode cX7_atOnce 15 = .ok (.iconst 0, 1) := by decide +kernel
theorem dX7_atOnce_16 : decode cX7_atOnce 16 = .ok (.istore 4, 2) := by decide +kernel
theorem dX7_atOnce_18 : decode cX7_atOnce 18 = .ok (.iload 4, 2) := by decide +kernel
theorem dX7_atOnce_20 : decode cX7_atOnce 20 = .ok (.bipush 40, 2) := by decide +kernel
theorem dX7_atOnce_22 : decode cX7_atOnce 22 = .ok (.if_icmp .gt 32, 3) := by decide +kernel
theorem dX7_atOnce_25 : decode cX7_atOnce 25 = .ok (.aload_n 0, 1) := by decide +kernel
theorem dX7_atOnce_26 : decode cX7_atOnce 26 = .ok (.getfield 16, 3) := by decide +kernel
theorem dX7_atOnce_29 : decode cX7_atOnce 29 = .ok (.iload 4, 2) := by decide +kernel
theorem dX7_atOnce_31 : decode cX7_atOnce 31 = .ok (.invokevirtual 229, 3) := by decide +kernel
theorem dX7_atOnce_34 : decode cX7_atOnce 34 = .ok (.istore 5, 2) := by decide +kernel
theorem dX7_atOnce_36 : decode cX7_atOnce 36 = .ok (.iload 5, 2) := by decide +kernel
theorem dX7_atOnce_38 : decode cX7_atOnce 38 = .ok (.iload_n 3, 1) := by decide +kernel
theorem dX7_atOnce_39 : decode cX7_atOnce 39 = .ok (.if_icmp .le 9, 3) := by decide +kernel
theorem dX7_atOnce_42 : decode cX7_atOnce 42 = .ok (.iload 5, 2) := by decide +kernel
theorem dX7_atOnce_44 : decode cX7_atOnce 44 = .ok (.istore_n 3, 1) := by decide +kernel
theorem dX7_atOnce_45 : decode cX7_atOnce 45 = .ok (.iload 4, 2) := by decide +kernel
theorem dX7_atOnce_47 : decode cX7_atOnce 47 = .ok (.istore_n 2, 1) := by decide +kernel
theorem dX7_atOnce_48 : decode cX7_atOnce 48 = .ok (.iinc 4 1, 3) := by decide +kernel
theorem dX7_atOnce_51 : decode cX7_atOnce 51 = .ok (.goto (-33), 3) := by decide +kernel
theorem dX7_atOnce_54 : decode cX7_atOnce 54 = .ok (.iload_n 1, 1) := by decide +kernel
theorem dX7_atOnce_55 : decode cX7_atOnce 55 = .ok (.ifCond .ne 7, 3) := by decide +kernel
theorem dX7_atOnce_58 : decode cX7_atOnce 58 = .ok (.iload_n 2, 1) := by decide +kernel
theorem dX7_atOnce_59 : decode cX7_atOnce 59 = .ok (.goto 4, 3) := by decide +kernel
theorem dX7_atOnce_62 : decode cX7_atOnce 62 = .ok (.iload_n 3, 1) := by decide +kernel
theorem dX7_atOnce_63 : decode cX7_atOnce 63 = .ok (.ireturn, 1) := by decide +kernel
theorem dX7_under_0 : decode cX7_under 0 = .ok (.aload_n 0, 1) := by decide +kernel
theorem dX7_under_1 : decode cX7_under 1 = .ok (.getfield 16, 3) := by decide +kernel
theorem dX7_under_4 : decode cX7_under 4 = .ok (.iload_n 1, 1) := by decide +kernel
theorem dX7_under_5 : decode cX7_under 5 = .ok (.invokevirtual 107, 3) := by decide +kernel
theorem dX7_under_8 : decode cX7_under 8 = .ok (.ifCond .ne 5, 3) := by decide +kernel
theorem dX7_under_11 : decode cX7_under 11 = .ok (.iconst (-1), 1) := by decide +kernel
theorem dX7_under_12 : decode cX7_under 12 = .ok (.ireturn, 1) := by decide +kernel
theorem dX7_under_13 : decode cX7_under 13 = .ok (.aload_n 0, 1) := by decide +kernel
theorem dX7_under_14 : decode cX7_under 14 = .ok (.getfield 34, 3) := by decide +kernel
theorem dX7_under_17 : decode cX7_under 17 = .ok (.iload_n 1, 1) := by decide +kernel
theorem dX7_under_18 : decode cX7_under 18 = .ok (.invokevirtual 232, 3) := by decide +kernel
theorem dX7_under_21 : decode cX7_under 21 = .ok (.ireturn, 1) := by decide +kernel
theorem dX7_odds_0 : decode cX7_odds 0 = .ok (.aload_n 0, 1) := by decide +kernel
theorem dX7_odds_1 : decode cX7_odds 1 = .ok (.getfield 16, 3) := by decide +kernel
theorem dX7_odds_4 : decode cX7_odds 4 = .ok (.iload_n 1, 1) := by decide +kernel
theorem dX7_odds_5 : decode cX7_odds 5 = .ok (.invokevirtual 97, 3) := by decide +kernel
theorem dX7_odds_8 : decode cX7_odds 8 = .ok (.ifCond .eq 34, 3) := by decide +kernel
theorem dX7_odds_11 : decode cX7_odds 11 = .ok (.iload_n 2, 1) := by decide +kernel
theorem dX7_odds_12 : decode cX7_odds 12 = .ok (.ifCond .lt 30, 3) := by decide +kernel
theorem dX7_odds_15 : decode cX7_odds 15 = .ok (.iload_n 2, 1) := by decide +kernel
theorem dX7_odds_16 : decode cX7_odds 16 = .ok (.bipush 10, 2) := by decide +kernel
theorem dX7_odds_18 : decode cX7_odds 18 = .ok (.if_icmp .gt 24, 3) := by decide +kernel
theorem dX7_odds_21 : decode cX7_odds 21 = .ok (.iload_n 3, 1) := by decide +kernel
theorem dX7_odds_22 : decode cX7_odds 22 = .ok (.ifCond .lt 20, 3) := by decide +kernel
theorem dX7_odds_25 : decode cX7_odds 25 = .ok (.iload_n 3, 1) := by decide +kernel
theorem dX7_odds_26 : decode cX7_odds 26 = .ok (.bipush 40, 2) := by decide +kernel
theorem dX7_odds_28 : decode cX7_odds 28 = .ok (.if_icmp .gt 14, 3) := by decide +kernel
theorem dX7_odds_31 : decode cX7_odds 31 = .ok (.iload 4, 2) := by decide +kernel
theorem dX7_odds_33 : decode cX7_odds 33 = .ok (.ifCond .lt 9, 3) := by decide +kernel
theorem dX7_odds_36 : decode cX7_odds 36 = .ok (.iload 4, 2) := by decide +kernel
theorem dX7_odds_38 : decode cX7_odds 38 = .ok (.iconst 1, 1) := by decide +kernel
theorem dX7_odds_39 : decode cX7_odds 39 = .ok (.if_icmp .le 5, 3) := by decide +kernel
theorem dX7_odds_42 : decode cX7_odds 42 = .ok (.iconst (-1), 1) := by decide +kernel
theorem dX7_odds_43 : decode cX7_odds 43 = .ok (.ireturn, 1) := by decide +kernel
theorem dX7_odds_44 : decode cX7_odds 44 = .ok (.aload_n 0, 1) := by decide +kernel
theorem dX7_odds_45 : decode cX7_odds 45 = .ok (.aload_n 0, 1) := by decide +kernel
theorem dX7_odds_46 : decode cX7_odds 46 = .ok (.getfield 34, 3) := by decide +kernel
theorem dX7_odds_49 : decode cX7_odds 49 = .ok (.iload_n 1, 1) := by decide +kernel
theorem dX7_odds_50 : decode cX7_odds 50 = .ok (.invokevirtual 104, 3) := by decide +kernel
theorem dX7_odds_53 : decode cX7_odds 53 = .ok (.iload_n 2, 1) := by decide +kernel
theorem dX7_odds_54 : decode cX7_odds 54 = .ok (.iload_n 3, 1) := by decide +kernel
theorem dX7_odds_55 : decode cX7_odds 55 = .ok (.invokevirtual 235, 3) := by decide +kernel
theorem dX7_odds_58 : decode cX7_odds 58 = .ok (.istore 5, 2) := by decide +kernel
theorem dX7_odds_60 : decode cX7_odds 60 = .ok (.iload 5, 2) := by decide +kernel
theorem dX7_odds_62 : decode cX7_odds 62 = .ok (.invokestatic 239, 3) := by decide +kernel
theorem dX7_odds_65 : decode cX7_odds 65 = .ok (.istore 6, 2) := by decide +kernel
theorem dX7_odds_67 : decode cX7_odds 67 = .ok (.iload 4, 2) := by decide +kernel
theorem dX7_odds_69 : decode cX7_odds 69 = .ok (.ifCond .ne 8, 3) := by decide +kernel
theorem dX7_odds_72 : decode cX7_odds 72 = .ok (.iload 5, 2) := by decide +kernel
theorem dX7_odds_74 : decode cX7_odds 74 = .ok (.goto 5, 3) := by decide +kernel
theorem dX7_odds_77 : decode cX7_odds 77 = .ok (.bipush 10, 2) := by decide +kernel
theorem dX7_odds_79 : decode cX7_odds 79 = .ok (.iload 6, 2) := by decide +kernel
theorem dX7_odds_81 : decode cX7_odds 81 = .ok (.idiv, 1) := by decide +kernel
theorem dX7_odds_82 : decode cX7_odds 82 = .ok (.ireturn, 1) := by decide +kernel
theorem dX7_tenthsFree_0 : decode cX7_tenthsFree 0 = .ok (.aload_n 0, 1) := by decide +kernel
theorem dX7_tenthsFree_1 : decode cX7_tenthsFree 1 = .ok (.getfield 16, 3) := by decide +kernel
theorem dX7_tenthsFree_4 : decode cX7_tenthsFree 4 = .ok (.iload_n 1, 1) := by decide +kernel
theorem dX7_tenthsFree_5 : decode cX7_tenthsFree 5 = .ok (.invokevirtual 107, 3) := by decide +kernel
theorem dX7_tenthsFree_8 : decode cX7_tenthsFree 8 = .ok (.ifCond .eq 18, 3) := by decide +kernel
theorem dX7_tenthsFree_11 : decode cX7_tenthsFree 11 = .ok (.iload_n 3, 1) := by decide +kernel
theorem dX7_tenthsFree_12 : decode cX7_tenthsFree 12 = .ok (.iconst 2, 1) := by decide +kernel
theorem dX7_tenthsFree_13 : decode cX7_tenthsFree 13 = .ok (.aload_n 0, 1) := by decide +kernel
theorem dX7_tenthsFree_14 : decode cX7_tenthsFree 14 = .ok (.getfield 34, 3) := by decide +kernel
theorem dX7_tenthsFree_17 : decode cX7_tenthsFree 17 = .ok (.getfield 128, 3) := by decide +kernel
theorem dX7_tenthsFree_20 : decode cX7_tenthsFree 20 = .ok (.iload_n 1, 1) := by decide +kernel
theorem dX7_tenthsFree_21 : decode cX7_tenthsFree 21 = .ok (.iaload, 1) := by decide +kernel
theorem dX7_tenthsFree_22 : decode cX7_tenthsFree 22 = .ok (.imul, 1) := by decide +kernel
theorem dX7_tenthsFree_23 : decode cX7_tenthsFree 23 = .ok (.if_icmp .lt 6, 3) := by decide +kernel
theorem dX7_tenthsFree_26 : decode cX7_tenthsFree 26 = .ok (.bipush 10, 2) := by decide +kernel
theorem dX7_tenthsFree_28 : decode cX7_tenthsFree 28 = .ok (.ireturn, 1) := by decide +kernel
theorem dX7_tenthsFree_29 : decode cX7_tenthsFree 29 = .ok (.iload_n 3, 1) := by decide +kernel
theorem dX7_tenthsFree_30 : decode cX7_tenthsFree 30 = .ok (.aload_n 0, 1) := by decide +kernel
theorem dX7_tenthsFree_31 : decode cX7_tenthsFree 31 = .ok (.getfield 34, 3) := by decide +kernel
theorem dX7_tenthsFree_34 : decode cX7_tenthsFree 34 = .ok (.getfield 128, 3) := by decide +kernel
theorem dX7_tenthsFree_37 : decode cX7_tenthsFree 37 = .ok (.iload_n 1, 1) := by decide +kernel
theorem dX7_tenthsFree_38 : decode cX7_tenthsFree 38 = .ok (.iaload, 1) := by decide +kernel
theorem dX7_tenthsFree_39 : decode cX7_tenthsFree 39 = .ok (.if_icmp .lt 10, 3) := by decide +kernel
theorem dX7_tenthsFree_42 : decode cX7_tenthsFree 42 = .ok (.bipush 10, 2) := by decide +kernel
theorem dX7_tenthsFree_44 : decode cX7_tenthsFree 44 = .ok (.iload_n 2, 1) := by decide +kernel
theorem dX7_tenthsFree_45 : decode cX7_tenthsFree 45 = .ok (.isub, 1) := by decide +kernel
theorem dX7_tenthsFree_46 : decode cX7_tenthsFree 46 = .ok (.goto 4, 3) := by decide +kernel
theorem dX7_tenthsFree_49 : decode cX7_tenthsFree 49 = .ok (.iconst 0, 1) := by decide +kernel
theorem dX7_tenthsFree_50 : decode cX7_tenthsFree 50 = .ok (.ireturn, 1) := by decide +kernel
theorem dX7_commonDivisor_0 : decode cX7_commonDivisor 0 = .ok (.bipush 10, 2) := by decide +kernel
theorem dX7_commonDivisor_2 : decode cX7_commonDivisor 2 = .ok (.istore_n 1, 1) := by decide +kernel
theorem dX7_commonDivisor_3 : decode cX7_commonDivisor 3 = .ok (.iload_n 1, 1) := by decide +kernel
theorem dX7_commonDivisor_4 : decode cX7_commonDivisor 4 = .ok (.iconst 1, 1) := by decide +kernel
theorem dX7_commonDivisor_5 : decode cX7_commonDivisor 5 = .ok (.if_icmp .le 24, 3) := by decide +kernel
theorem dX7_commonDivisor_8 : decode cX7_commonDivisor 8 = .ok (.iload_n 0, 1) := by decide +kernel
theorem dX7_commonDivisor_9 : decode cX7_commonDivisor 9 = .ok (.iload_n 1, 1) := by decide +kernel
theorem dX7_commonDivisor_10 : decode cX7_commonDivisor 10 = .ok (.irem, 1) := by decide +kernel
theorem dX7_commonDivisor_11 : decode cX7_commonDivisor 11 = .ok (.ifCond .ne 12, 3) := by decide +kernel
theorem dX7_commonDivisor_14 : decode cX7_commonDivisor 14 = .ok (.bipush 10, 2) := by decide +kernel
theorem dX7_commonDivisor_16 : decode cX7_commonDivisor 16 = .ok (.iload_n 1, 1) := by decide +kernel
theorem dX7_commonDivisor_17 : decode cX7_commonDivisor 17 = .ok (.irem, 1) := by decide +kernel
theorem dX7_commonDivisor_18 : decode cX7_commonDivisor 18 = .ok (.ifCond .ne 5, 3) := by decide +kernel
theorem dX7_commonDivisor_21 : decode cX7_commonDivisor 21 = .ok (.iload_n 1, 1) := by decide +kernel
theorem dX7_commonDivisor_22 : decode cX7_commonDivisor 22 = .ok (.ireturn, 1) := by decide +kernel
theorem dX7_commonDivisor_23 : decode cX7_commonDivisor 23 = .ok (.iinc 1 (-1), 3) := by decide +kernel
theorem dX7_commonDivisor_26 : decode cX7_commonDivisor 26 = .ok (.goto (-23), 3) := by decide +kernel
theorem dX7_commonDivisor_29 : decode cX7_commonDivisor 29 = .ok (.iconst 1, 1) := by decide +kernel
theorem dX7_commonDivisor_30 : decode cX7_commonDivisor 30 = .ok (.ireturn, 1) := by decide +kernel
theorem dX7_rate_0 : decode cX7_rate 0 = .ok (.aload_n 0, 1) := by decide +kernel
theorem dX7_rate_1 : decode cX7_rate 1 = .ok (.getfield 16, 3) := by decide +kernel
theorem dX7_rate_4 : decode cX7_rate 4 = .ok (.iload_n 2, 1) := by decide +kernel
theorem dX7_rate_5 : decode cX7_rate 5 = .ok (.invokevirtual 107, 3) := by decide +kernel
theorem dX7_rate_8 : decode cX7_rate 8 = .ok (.ifCond .ne 6, 3) := by decide +kernel
theorem dX7_rate_11 : decode cX7_rate 11 = .ok (.ldc 242, 2) := by decide +kernel
theorem dX7_rate_13 : decode cX7_rate 13 = .ok (.ireturn, 1) := by decide +kernel
theorem dX7_rate_14 : decode cX7_rate 14 = .ok (.iload_n 1, 1) := by decide +kernel
theorem dX7_rate_15 : decode cX7_rate 15 = .ok (.tableswitch 73 0 5 #[37, 43, 49, 55, 61, 67], 37) := by decide +kernel
theorem dX7_rate_52 : decode cX7_rate 52 = .ok (.aload_n 0, 1) := by decide +kernel
theorem dX7_rate_53 : decode cX7_rate 53 = .ok (.iload_n 2, 1) := by decide +kernel
theorem dX7_rate_54 : decode cX7_rate 54 = .ok (.invokevirtual 243, 3) := by decide +kernel
theorem dX7_rate_57 : decode cX7_rate 57 = .ok (.ireturn, 1) := by decide +kernel
theorem dX7_rate_58 : decode cX7_rate 58 = .ok (.aload_n 0, 1) := by decide +kernel
theorem dX7_rate_59 : decode cX7_rate 59 = .ok (.iload_n 2, 1) := by decide +kernel
theorem dX7_rate_60 : decode cX7_rate 60 = .ok (.invokevirtual 246, 3) := by decide +kernel
theorem dX7_rate_63 : decode cX7_rate 63 = .ok (.ireturn, 1) := by decide +kernel
theorem dX7_rate_64 : decode cX7_rate 64 = .ok (.aload_n 0, 1) := by decide +kernel
theorem dX7_rate_65 : decode cX7_rate 65 = .ok (.iload_n 2, 1) := by decide +kernel
theorem dX7_rate_66 : decode cX7_rate 66 = .ok (.invokevirtual 249, 3) := by decide +kernel
theorem dX7_rate_69 : decode cX7_rate 69 = .ok (.ireturn, 1) := by decide +kernel
theorem dX7_rate_70 : decode cX7_rate 70 = .ok (.aload_n 0, 1) := by decide +kernel
theorem dX7_rate_71 : decode cX7_rate 71 = .ok (.iload_n 2, 1) := by decide +kernel
theorem dX7_rate_72 : decode cX7_rate 72 = .ok (.invokevirtual 252, 3) := by decide +kernel
theorem dX7_rate_75 : decode cX7_rate 75 = .ok (.ireturn, 1) := by decide +kernel
theorem dX7_rate_76 : decode cX7_rate 76 = .ok (.aload_n 0, 1) := by decide +kernel
theorem dX7_rate_77 : decode cX7_rate 77 = .ok (.iload_n 2, 1) := by decide +kernel
theorem dX7_rate_78 : decode cX7_rate 78 = .ok (.invokevirtual 255, 3) := by decide +kernel
theorem dX7_rate_81 : decode cX7_rate 81 = .ok (.ireturn, 1) := by decide +kernel
theorem dX7_rate_82 : decode cX7_rate 82 = .ok (.aload_n 0, 1) := by decide +kernel
theorem dX7_rate_83 : decode cX7_rate 83 = .ok (.iload_n 2, 1) := by decide +kernel
theorem dX7_rate_84 : decode cX7_rate 84 = .ok (.invokevirtual 258, 3) := by decide +kernel
theorem dX7_rate_87 : decode cX7_rate 87 = .ok (.ireturn, 1) := by decide +kernel
theorem dX7_rate_88 : decode cX7_rate 88 = .ok (.ldc 242, 2) := by decide +kernel
theorem dX7_rate_90 : decode cX7_rate 90 = .ok (.ireturn, 1) := by decide +kernel
theorem dX7_asCall_0 : decode cX7_asCall 0 = .ok (.aload_n 0, 1) := by decide +kernel
theorem dX7_asCall_1 : decode cX7_asCall 1 = .ok (.dup, 1) := by decide +kernel
theorem dX7_asCall_2 : decode cX7_asCall 2 = .ok (.getfield 77, 3) := by decide +kernel
theorem dX7_asCall_5 : decode cX7_asCall 5 = .ok (.lconst 1, 1) := by decide +kernel
theorem dX7_asCall_6 : decode cX7_asCall 6 = .ok (.ladd, 1) := by decide +kernel
theorem dX7_asCall_7 : decode cX7_asCall 7 = .ok (.putfield 77, 3) := by decide +kernel
theorem dX7_asCall_10 : decode cX7_asCall 10 = .ok (.aload_n 0, 1) := by decide +kernel
theorem dX7_asCall_11 : decode cX7_asCall 11 = .ok (.getfield 16, 3) := by decide +kernel
theorem dX7_asCall_14 : decode cX7_asCall 14 = .ok (.getfield 122, 3) := by decide +kernel
theorem dX7_asCall_17 : decode cX7_asCall 17 = .ok (.iload_n 1, 1) := by decide +kernel
theorem dX7_asCall_18 : decode cX7_asCall 18 = .ok (.iaload, 1) := by decide +kernel
theorem dX7_asCall_19 : decode cX7_asCall 19 = .ok (.ireturn, 1) := by decide +kernel
theorem dX7_asDoctor_0 : decode cX7_asDoctor 0 = .ok (.aload_n 0, 1) := by decide +kernel
theorem dX7_asDoctor_1 : decode cX7_asDoctor 1 = .ok (.dup, 1) := by decide +kernel
theorem dX7_asDoctor_2 : decode cX7_asDoctor 2 = .ok (.getfield 77, 3) := by decide +kernel
theorem dX7_asDoctor_5 : decode cX7_asDoctor 5 = .ok (.ldc2_w 261, 3) := by decide +kernel
theorem dX7_asDoctor_8 : decode cX7_asDoctor 8 = .ok (.ladd, 1) := by decide +kernel
theorem dX7_asDoctor_9 : decode cX7_asDoctor 9 = .ok (.putfield 77, 3) := by decide +kernel
theorem dX7_asDoctor_12 : decode cX7_asDoctor 12 = .ok (.aload_n 0, 1) := by decide +kernel
theorem dX7_asDoctor_13 : decode cX7_asDoctor 13 = .ok (.iload_n 1, 1) := by decide +kernel
theorem dX7_asDoctor_14 : decode cX7_asDoctor 14 = .ok (.invokevirtual 243, 3) := by decide +kernel
theorem dX7_asDoctor_17 : decode cX7_asDoctor 17 = .ok (.aload_n 0, 1) := by decide +kernel
theorem dX7_asDoctor_18 : decode cX7_asDoctor 18 = .ok (.getfield 34, 3) := by decide +kernel
theorem dX7_asDoctor_21 : decode cX7_asDoctor 21 = .ok (.getfield 131, 3) := by decide +kernel
theorem dX7_asDoctor_24 : decode cX7_asDoctor 24 = .ok (.iload_n 1, 1) := by decide +kernel
theorem dX7_asDoctor_25 : decode cX7_asDoctor 25 = .ok (.iaload, 1) := by decide +kernel
theorem dX7_asDoctor_26 : decode cX7_asDoctor 26 = .ok (.iadd, 1) := by decide +kernel
theorem dX7_asDoctor_27 : decode cX7_asDoctor 27 = .ok (.ireturn, 1) := by decide +kernel
theorem dX7_asGossip_0 : decode cX7_asGossip 0 = .ok (.aload_n 0, 1) := by decide +kernel
theorem dX7_asGossip_1 : decode cX7_asGossip 1 = .ok (.dup, 1) := by decide +kernel
theorem dX7_asGossip_2 : decode cX7_asGossip 2 = .ok (.getfield 77, 3) := by decide +kernel
theorem dX7_asGossip_5 : decode cX7_asGossip 5 = .ok (.ldc2_w 263, 3) := by decide +kernel
theorem dX7_asGossip_8 : decode cX7_asGossip 8 = .ok (.ladd, 1) := by decide +kernel
theorem dX7_asGossip_9 : decode cX7_asGossip 9 = .ok (.putfield 77, 3) := by decide +kernel
theorem dX7_asGossip_12 : decode cX7_asGossip 12 = .ok (.aload_n 0, 1) := by decide +kernel
theorem dX7_asGossip_13 : decode cX7_asGossip 13 = .ok (.iload_n 1, 1) := by decide +kernel
theorem dX7_asGossip_14 : decode cX7_asGossip 14 = .ok (.invokevirtual 243, 3) := by decide +kernel
theorem dX7_asGossip_17 : decode cX7_asGossip 17 = .ok (.aload_n 0, 1) := by decide +kernel
theorem dX7_asGossip_18 : decode cX7_asGossip 18 = .ok (.getfield 16, 3) := by decide +kernel
theorem dX7_asGossip_21 : decode cX7_asGossip 21 = .ok (.getfield 119, 3) := by decide +kernel
theorem dX7_asGossip_24 : decode cX7_asGossip 24 = .ok (.iload_n 1, 1) := by decide +kernel
theorem dX7_asGossip_25 : decode cX7_asGossip 25 = .ok (.iaload, 1) := by decide +kernel
theorem dX7_asGossip_26 : decode cX7_asGossip 26 = .ok (.isub, 1) := by decide +kernel
theorem dX7_asGossip_27 : decode cX7_asGossip 27 = .ok (.ireturn, 1) := by decide +kernel
theorem dX7_asFire_0 : decode cX7_asFire 0 = .ok (.aload_n 0, 1) := by decide +kernel
theorem dX7_asFire_1 : decode cX7_asFire 1 = .ok (.dup, 1) := by decide +kernel
theorem dX7_asFire_2 : decode cX7_asFire 2 = .ok (.getfield 77, 3) := by decide +kernel
theorem dX7_asFire_5 : decode cX7_asFire 5 = .ok (.ldc2_w 265, 3) := by decide +kernel
theorem dX7_asFire_8 : decode cX7_asFire 8 = .ok (.ladd, 1) := by decide +kernel
theorem dX7_asFire_9 : decode cX7_asFire 9 = .ok (.putfield 77, 3) := by decide +kernel
theorem dX7_asFire_12 : decode cX7_asFire 12 = .ok (.iconst 2, 1) := by decide +kernel
theorem dX7_asFire_13 : decode cX7_asFire 13 = .ok (.aload_n 0, 1) := by decide +kernel
theorem dX7_asFire_14 : decode cX7_asFire 14 = .ok (.iload_n 1, 1) := by decide +kernel
theorem dX7_asFire_15 : decode cX7_asFire 15 = .ok (.invokevirtual 246, 3) := by decide +kernel
theorem dX7_asFire_18 : decode cX7_asFire 18 = .ok (.imul, 1) := by decide +kernel
theorem dX7_asFire_19 : decode cX7_asFire 19 = .ok (.ireturn, 1) := by decide +kernel
theorem dX7_asWife_0 : decode cX7_asWife 0 = .ok (.aload_n 0, 1) := by decide +kernel
theorem dX7_asWife_1 : decode cX7_asWife 1 = .ok (.dup, 1) := by decide +kernel
theorem dX7_asWife_2 : decode cX7_asWife 2 = .ok (.getfield 77, 3) := by decide +kernel
theorem dX7_asWife_5 : decode cX7_asWife 5 = .ok (.ldc2_w 267, 3) := by decide +kernel
theorem dX7_asWife_8 : decode cX7_asWife 8 = .ok (.ladd, 1) := by decide +kernel
theorem dX7_asWife_9 : decode cX7_asWife 9 = .ok (.putfield 77, 3) := by decide +kernel
theorem dX7_asWife_12 : decode cX7_asWife 12 = .ok (.aload_n 0, 1) := by decide +kernel
theorem dX7_asWife_13 : decode cX7_asWife 13 = .ok (.iload_n 1, 1) := by decide +kernel
theorem dX7_asWife_14 : decode cX7_asWife 14 = .ok (.invokevirtual 249, 3) := by decide +kernel
theorem dX7_asWife_17 : decode cX7_asWife 17 = .ok (.iload_n 1, 1) := by decide +kernel
theorem dX7_asWife_18 : decode cX7_asWife 18 = .ok (.iadd, 1) := by decide +kernel
theorem dX7_asWife_19 : decode cX7_asWife 19 = .ok (.ireturn, 1) := by decide +kernel
theorem dX7_asWrong_0 : decode cX7_asWrong 0 = .ok (.aload_n 0, 1) := by decide +kernel
theorem dX7_asWrong_1 : decode cX7_asWrong 1 = .ok (.dup, 1) := by decide +kernel
theorem dX7_asWrong_2 : decode cX7_asWrong 2 = .ok (.getfield 77, 3) := by decide +kernel
theorem dX7_asWrong_5 : decode cX7_asWrong 5 = .ok (.ldc2_w 269, 3) := by decide +kernel
theorem dX7_asWrong_8 : decode cX7_asWrong 8 = .ok (.ladd, 1) := by decide +kernel
theorem dX7_asWrong_9 : decode cX7_asWrong 9 = .ok (.putfield 77, 3) := by decide +kernel
theorem dX7_asWrong_12 : decode cX7_asWrong 12 = .ok (.aload_n 0, 1) := by decide +kernel
theorem dX7_asWrong_13 : decode cX7_asWrong 13 = .ok (.iload_n 1, 1) := by decide +kernel
theorem dX7_asWrong_14 : decode cX7_asWrong 14 = .ok (.invokevirtual 243, 3) := by decide +kernel
theorem dX7_asWrong_17 : decode cX7_asWrong 17 = .ok (.aload_n 0, 1) := by decide +kernel
theorem dX7_asWrong_18 : decode cX7_asWrong 18 = .ok (.getfield 16, 3) := by decide +kernel
theorem dX7_asWrong_21 : decode cX7_asWrong 21 = .ok (.iload_n 1, 1) := by decide +kernel
theorem dX7_asWrong_22 : decode cX7_asWrong 22 = .ok (.aload_n 0, 1) := by decide +kernel
theorem dX7_asWrong_23 : decode cX7_asWrong 23 = .ok (.getfield 34, 3) := by decide +kernel
theorem dX7_asWrong_26 : decode cX7_asWrong 26 = .ok (.getfield 101, 3) := by decide +kernel
theorem dX7_asWrong_29 : decode cX7_asWrong 29 = .ok (.invokevirtual 271, 3) := by decide +kernel
theorem dX7_asWrong_32 : decode cX7_asWrong 32 = .ok (.iadd, 1) := by decide +kernel
theorem dX7_asWrong_33 : decode cX7_asWrong 33 = .ok (.ireturn, 1) := by decide +kernel
theorem dX7_keep_0 : decode cX7_keep 0 = .ok (.iload_n 1, 1) := by decide +kernel
theorem dX7_keep_1 : decode cX7_keep 1 = .ok (.invokestatic 275, 3) := by decide +kernel
theorem dX7_keep_4 : decode cX7_keep 4 = .ok (.ifCond .ne 5, 3) := by decide +kernel
theorem dX7_keep_7 : decode cX7_keep 7 = .ok (.iconst (-1), 1) := by decide +kernel
theorem dX7_keep_8 : decode cX7_keep 8 = .ok (.ireturn, 1) := by decide +kernel
theorem dX7_keep_9 : decode cX7_keep 9 = .ok (.aload_n 0, 1) := by decide +kernel
theorem dX7_keep_10 : decode cX7_keep 10 = .ok (.getfield 34, 3) := by decide +kernel
theorem dX7_keep_13 : decode cX7_keep 13 = .ok (.aload_n 0, 1) := by decide +kernel
theorem dX7_keep_14 : decode cX7_keep 14 = .ok (.getfield 45, 3) := by decide +kernel
theorem dX7_keep_17 : decode cX7_keep 17 = .ok (.iload_n 1, 1) := by decide +kernel
theorem dX7_keep_18 : decode cX7_keep 18 = .ok (.bipush 28, 2) := by decide +kernel
theorem dX7_keep_20 : decode cX7_keep 20 = .ok (.imul, 1) := by decide +kernel
theorem dX7_keep_21 : decode cX7_keep 21 = .ok (.invokevirtual 278, 3) := by decide +kernel
theorem dX7_keep_24 : decode cX7_keep 24 = .ok (.aload_n 0, 1) := by decide +kernel
theorem dX7_keep_25 : decode cX7_keep 25 = .ok (.getfield 48, 3) := by decide +kernel
theorem dX7_keep_28 : decode cX7_keep 28 = .ok (.iload_n 1, 1) := by decide +kernel
theorem dX7_keep_29 : decode cX7_keep 29 = .ok (.iconst 1, 1) := by decide +kernel
theorem dX7_keep_30 : decode cX7_keep 30 = .ok (.bastore, 1) := by decide +kernel
theorem dX7_keep_31 : decode cX7_keep 31 = .ok (.aload_n 0, 1) := by decide +kernel
theorem dX7_keep_32 : decode cX7_keep 32 = .ok (.getfield 34, 3) := by decide +kernel
theorem dX7_keep_35 : decode cX7_keep 35 = .ok (.getfield 134, 3) := by decide +kernel
theorem dX7_keep_38 : decode cX7_keep 38 = .ok (.ireturn, 1) := by decide +kernel
theorem dX7_back_0 : decode cX7_back 0 = .ok (.iload_n 1, 1) := by decide +kernel
theorem dX7_back_1 : decode cX7_back 1 = .ok (.invokestatic 275, 3) := by decide +kernel
theorem dX7_back_4 : decode cX7_back 4 = .ok (.ifCond .ne 5, 3) := by decide +kernel
theorem dX7_back_7 : decode cX7_back 7 = .ok (.iconst (-1), 1) := by decide +kernel
theorem dX7_back_8 : decode cX7_back 8 = .ok (.ireturn, 1) := by decide +kernel
theorem dX7_back_9 : decode cX7_back 9 = .ok (.aload_n 0, 1) := by decide +kernel
theorem dX7_back_10 : decode cX7_back 10 = .ok (.getfield 48, 3) := by decide +kernel
theorem dX7_back_13 : decode cX7_back 13 = .ok (.iload_n 1, 1) := by decide +kernel
theorem dX7_back_14 : decode cX7_back 14 = .ok (.baload, 1) := by decide +kernel
theorem dX7_back_15 : decode cX7_back 15 = .ok (.ifCond .ne 6, 3) := by decide +kernel
theorem dX7_back_18 : decode cX7_back 18 = .ok (.bipush (-2), 2) := by decide +kernel
theorem dX7_back_20 : decode cX7_back 20 = .ok (.ireturn, 1) := by decide +kernel
theorem dX7_back_21 : decode cX7_back 21 = .ok (.aload_n 0, 1) := by decide +kernel
theorem dX7_back_22 : decode cX7_back 22 = .ok (.getfield 34, 3) := by decide +kernel
theorem dX7_back_25 : decode cX7_back 25 = .ok (.aload_n 0, 1) := by decide +kernel
theorem dX7_back_26 : decode cX7_back 26 = .ok (.getfield 45, 3) := by decide +kernel
theorem dX7_back_29 : decode cX7_back 29 = .ok (.iload_n 1, 1) := by decide +kernel
theorem dX7_back_30 : decode cX7_back 30 = .ok (.bipush 28, 2) := by decide +kernel
theorem dX7_back_32 : decode cX7_back 32 = .ok (.imul, 1) := by decide +kernel
theorem dX7_back_33 : decode cX7_back 33 = .ok (.invokevirtual 282, 3) := by decide +kernel
theorem dX7_back_36 : decode cX7_back 36 = .ok (.aload_n 0, 1) := by decide +kernel
theorem dX7_back_37 : decode cX7_back 37 = .ok (.getfield 41, 3) := by decide +kernel
theorem dX7_back_40 : decode cX7_back 40 = .ok (.invokevirtual 94, 3) := by decide +kernel
theorem dX7_back_43 : decode cX7_back 43 = .ok (.aload_n 0, 1) := by decide +kernel
theorem dX7_back_44 : decode cX7_back 44 = .ok (.getfield 34, 3) := by decide +kernel
theorem dX7_back_47 : decode cX7_back 47 = .ok (.getfield 134, 3) := by decide +kernel
theorem dX7_back_50 : decode cX7_back 50 = .ok (.ireturn, 1) := by decide +kernel
theorem dX7_isImage_0 : decode cX7_isImage 0 = .ok (.iload_n 0, 1) := by decide +kernel
theorem dX7_isImage_1 : decode cX7_isImage 1 = .ok (.ifCond .lt 12, 3) := by decide +kernel
theorem dX7_isImage_4 : decode cX7_isImage 4 = .ok (.iload_n 0, 1) := by decide +kernel
theorem dX7_isImage_5 : decode cX7_isImage 5 = .ok (.iconst 2, 1) := by decide +kernel
theorem dX7_isImage_6 : decode cX7_isImage 6 = .ok (.if_icmp .ge 7, 3) := by decide +kernel
theorem dX7_isImage_9 : decode cX7_isImage 9 = .ok (.iconst 1, 1) := by decide +kernel
theorem dX7_isImage_10 : decode cX7_isImage 10 = .ok (.goto 4, 3) := by decide +kernel
theorem dX7_isImage_13 : decode cX7_isImage 13 = .ok (.iconst 0, 1) := by decide +kernel
theorem dX7_isImage_14 : decode cX7_isImage 14 = .ok (.ireturn, 1) := by decide +kernel
theorem dX7_count_0 : decode cX7_count 0 = .ok (.iload_n 1, 1) := by decide +kernel
theorem dX7_count_1 : decode cX7_count 1 = .ok (.tableswitch 60 0 3 #[31, 39, 47, 55], 31) := by decide +kernel
theorem dX7_count_32 : decode cX7_count 32 = .ok (.aload_n 0, 1) := by decide +kernel
theorem dX7_count_33 : decode cX7_count 33 = .ok (.getfield 16, 3) := by decide +kernel
theorem dX7_count_36 : decode cX7_count 36 = .ok (.getfield 285, 3) := by decide +kernel
theorem dX7_count_39 : decode cX7_count 39 = .ok (.ireturn, 1) := by decide +kernel
theorem dX7_count_40 : decode cX7_count 40 = .ok (.aload_n 0, 1) := by decide +kernel
theorem dX7_count_41 : decode cX7_count 41 = .ok (.getfield 16, 3) := by decide +kernel
theorem dX7_count_44 : decode cX7_count 44 = .ok (.getfield 150, 3) := by decide +kernel
theorem dX7_count_47 : decode cX7_count 47 = .ok (.ireturn, 1) := by decide +kernel
theorem dX7_count_48 : decode cX7_count 48 = .ok (.aload_n 0, 1) := by decide +kernel
theorem dX7_count_49 : decode cX7_count 49 = .ok (.getfield 16, 3) := by decide +kernel
theorem dX7_count_52 : decode cX7_count 52 = .ok (.getfield 288, 3) := by decide +kernel
theorem dX7_count_55 : decode cX7_count 55 = .ok (.ireturn, 1) := by decide +kernel
theorem dX7_count_56 : decode cX7_count 56 = .ok (.aload_n 0, 1) := by decide +kernel
theorem dX7_count_57 : decode cX7_count 57 = .ok (.getfield 73, 3) := by decide +kernel
theorem dX7_count_60 : decode cX7_count 60 = .ok (.ireturn, 1) := by decide +kernel
theorem dX7_count_61 : decode cX7_count 61 = .ok (.iconst (-1), 1) := by decide +kernel
theorem dX7_count_62 : decode cX7_count 62 = .ok (.ireturn, 1) := by decide +kernel
theorem dX7_trace_0 : decode cX7_trace 0 = .ok (.aload_n 0, 1) := by decide +kernel
theorem dX7_trace_1 : decode cX7_trace 1 = .ok (.getfield 77, 3) := by decide +kernel
theorem dX7_trace_4 : decode cX7_trace 4 = .ok (.lreturn, 1) := by decide +kernel
theorem dX7_exchange_0 : decode cX7_exchange 0 = .ok (.aload_n 0, 1) := by decide +kernel
theorem dX7_exchange_1 : decode cX7_exchange 1 = .ok (.iload_n 1, 1) := by decide +kernel
theorem dX7_exchange_2 : decode cX7_exchange 2 = .ok (.iaload, 1) := by decide +kernel
theorem dX7_exchange_3 : decode cX7_exchange 3 = .ok (.istore_n 3, 1) := by decide +kernel
theorem dX7_exchange_4 : decode cX7_exchange 4 = .ok (.aload_n 0, 1) := by decide +kernel
theorem dX7_exchange_5 : decode cX7_exchange 5 = .ok (.iload_n 1, 1) := by decide +kernel
theorem dX7_exchange_6 : decode cX7_exchange 6 = .ok (.aload_n 0, 1) := by decide +kernel
theorem dX7_exchange_7 : decode cX7_exchange 7 = .ok (.iload_n 2, 1) := by decide +kernel
theorem dX7_exchange_8 : decode cX7_exchange 8 = .ok (.iaload, 1) := by decide +kernel
theorem dX7_exchange_9 : decode cX7_exchange 9 = .ok (.iastore, 1) := by decide +kernel
theorem dX7_exchange_10 : decode cX7_exchange 10 = .ok (.aload_n 0, 1) := by decide +kernel
theorem dX7_exchange_11 : decode cX7_exchange 11 = .ok (.iload_n 2, 1) := by decide +kernel
theorem dX7_exchange_12 : decode cX7_exchange 12 = .ok (.iload_n 3, 1) := by decide +kernel
theorem dX7_exchange_13 : decode cX7_exchange 13 = .ok (.iastore, 1) := by decide +kernel
theorem dX7_exchange_14 : decode cX7_exchange 14 = .ok (.return_, 1) := by decide +kernel
theorem dX7_nextRow_0 : decode cX7_nextRow 0 = .ok (.iload_n 1, 1) := by decide +kernel
theorem dX7_nextRow_1 : decode cX7_nextRow 1 = .ok (.iconst 2, 1) := by decide +kernel
theorem dX7_nextRow_2 : decode cX7_nextRow 2 = .ok (.isub, 1) := by decide +kernel
theorem dX7_nextRow_3 : decode cX7_nextRow 3 = .ok (.istore_n 2, 1) := by decide +kernel
theorem dX7_nextRow_4 : decode cX7_nextRow 4 = .ok (.iload_n 2, 1) := by decide +kernel
theorem dX7_nextRow_5 : decode cX7_nextRow 5 = .ok (.ifCond .lt 20, 3) := by decide +kernel
theorem dX7_nextRow_8 : decode cX7_nextRow 8 = .ok (.aload_n 0, 1) := by decide +kernel
theorem dX7_nextRow_9 : decode cX7_nextRow 9 = .ok (.iload_n 2, 1) := by decide +kernel
theorem dX7_nextRow_10 : decode cX7_nextRow 10 = .ok (.iaload, 1) := by decide +kernel
theorem dX7_nextRow_11 : decode cX7_nextRow 11 = .ok (.aload_n 0, 1) := by decide +kernel
theorem dX7_nextRow_12 : decode cX7_nextRow 12 = .ok (.iload_n 2, 1) := by decide +kernel
theorem dX7_nextRow_13 : decode cX7_nextRow 13 = .ok (.iconst 1, 1) := by decide +kernel
theorem dX7_nextRow_14 : decode cX7_nextRow 14 = .ok (.iadd, 1) := by decide +kernel
theorem dX7_nextRow_15 : decode cX7_nextRow 15 = .ok (.iaload, 1) := by decide +kernel
theorem dX7_nextRow_16 : decode cX7_nextRow 16 = .ok (.if_icmp .le 9, 3) := by decide +kernel
theorem dX7_nextRow_19 : decode cX7_nextRow 19 = .ok (.iinc 2 (-1), 3) := by decide +kernel
theorem dX7_nextRow_22 : decode cX7_nextRow 22 = .ok (.goto (-18), 3) := by decide +kernel
theorem dX7_nextRow_25 : decode cX7_nextRow 25 = .ok (.iload_n 2, 1) := by decide +kernel
theorem dX7_nextRow_26 : decode cX7_nextRow 26 = .ok (.ifCond .ge 5, 3) := by decide +kernel
theorem dX7_nextRow_29 : decode cX7_nextRow 29 = .ok (.iconst 0, 1) := by decide +kernel
theorem dX7_nextRow_30 : decode cX7_nextRow 30 = .ok (.ireturn, 1) := by decide +kernel
theorem dX7_nextRow_31 : decode cX7_nextRow 31 = .ok (.iload_n 1, 1) := by decide +kernel
theorem dX7_nextRow_32 : decode cX7_nextRow 32 = .ok (.iconst 1, 1) := by decide +kernel
theorem dX7_nextRow_33 : decode cX7_nextRow 33 = .ok (.isub, 1) := by decide +kernel
theorem dX7_nextRow_34 : decode cX7_nextRow 34 = .ok (.istore_n 3, 1) := by decide +kernel
theorem dX7_nextRow_35 : decode cX7_nextRow 35 = .ok (.iload_n 3, 1) := by decide +kernel
theorem dX7_nextRow_36 : decode cX7_nextRow 36 = .ok (.iload_n 2, 1) := by decide +kernel
theorem dX7_nextRow_37 : decode cX7_nextRow 37 = .ok (.if_icmp .le 18, 3) := by decide +kernel
theorem dX7_nextRow_40 : decode cX7_nextRow 40 = .ok (.aload_n 0, 1) := by decide +kernel
theorem dX7_nextRow_41 : decode cX7_nextRow 41 = .ok (.iload_n 3, 1) := by decide +kernel
theorem dX7_nextRow_42 : decode cX7_nextRow 42 = .ok (.iaload, 1) := by decide +kernel
theorem dX7_nextRow_43 : decode cX7_nextRow 43 = .ok (.aload_n 0, 1) := by decide +kernel
theorem dX7_nextRow_44 : decode cX7_nextRow 44 = .ok (.iload_n 2, 1) := by decide +kernel
theorem dX7_nextRow_45 : decode cX7_nextRow 45 = .ok (.iaload, 1) := by decide +kernel
theorem dX7_nextRow_46 : decode cX7_nextRow 46 = .ok (.if_icmp .ge 9, 3) := by decide +kernel
theorem dX7_nextRow_49 : decode cX7_nextRow 49 = .ok (.iinc 3 (-1), 3) := by decide +kernel
theorem dX7_nextRow_52 : decode cX7_nextRow 52 = .ok (.goto (-17), 3) := by decide +kernel
theorem dX7_nextRow_55 : decode cX7_nextRow 55 = .ok (.aload_n 0, 1) := by decide +kernel
theorem dX7_nextRow_56 : decode cX7_nextRow 56 = .ok (.iload_n 2, 1) := by decide +kernel
theorem dX7_nextRow_57 : decode cX7_nextRow 57 = .ok (.iload_n 3, 1) := by decide +kernel
theorem dX7_nextRow_58 : decode cX7_nextRow 58 = .ok (.invokestatic 176, 3) := by decide +kernel
theorem dX7_nextRow_61 : decode cX7_nextRow 61 = .ok (.iload_n 2, 1) := by decide +kernel
theorem dX7_nextRow_62 : decode cX7_nextRow 62 = .ok (.iconst 1, 1) := by decide +kernel
theorem dX7_nextRow_63 : decode cX7_nextRow 63 = .ok (.iadd, 1) := by decide +kernel
theorem dX7_nextRow_64 : decode cX7_nextRow 64 = .ok (.istore 4, 2) := by decide +kernel
theorem dX7_nextRow_66 : decode cX7_nextRow 66 = .ok (.iload_n 1, 1) := by decide +kernel
theorem dX7_nextRow_67 : decode cX7_nextRow 67 = .ok (.iconst 1, 1) := by decide +kernel
theorem dX7_nextRow_68 : decode cX7_nextRow 68 = .ok (.isub, 1) := by decide +kernel
theorem dX7_nextRow_69 : decode cX7_nextRow 69 = .ok (.istore 5, 2) := by decide +kernel
theorem dX7_nextRow_71 : decode cX7_nextRow 71 = .ok (.iload 4, 2) := by decide +kernel
theorem dX7_nextRow_73 : decode cX7_nextRow 73 = .ok (.iload 5, 2) := by decide +kernel
theorem dX7_nextRow_75 : decode cX7_nextRow 75 = .ok (.if_icmp .ge 20, 3) := by decide +kernel
theorem dX7_nextRow_78 : decode cX7_nextRow 78 = .ok (.aload_n 0, 1) := by decide +kernel
theorem dX7_nextRow_79 : decode cX7_nextRow 79 = .ok (.iload 4, 2) := by decide +kernel
theorem dX7_nextRow_81 : decode cX7_nextRow 81 = .ok (.iload 5, 2) := by decide +kernel
theorem dX7_nextRow_83 : decode cX7_nextRow 83 = .ok (.invokestatic 176, 3) := by decide +kernel
theorem dX7_nextRow_86 : decode cX7_nextRow 86 = .ok (.iinc 4 1, 3) := by decide +kernel
theorem dX7_nextRow_89 : decode cX7_nextRow 89 = .ok (.iinc 5 (-1), 3) := by decide +kernel
theorem dX7_nextRow_92 : decode cX7_nextRow 92 = .ok (.goto (-21), 3) := by decide +kernel
theorem dX7_nextRow_95 : decode cX7_nextRow 95 = .ok (.iconst 1, 1) := by decide +kernel
theorem dX7_nextRow_96 : decode cX7_nextRow 96 = .ok (.ireturn, 1) := by decide +kernel
theorem dX8_init_0 : decode cX8_init 0 = .ok (.aload_n 0, 1) := by decide +kernel
theorem dX8_init_1 : decode cX8_init 1 = .ok (.invokespecial 1, 3) := by decide +kernel
theorem dX8_init_4 : decode cX8_init 4 = .ok (.aload_n 0, 1) := by decide +kernel
theorem dX8_init_5 : decode cX8_init 5 = .ok (.sipush 200, 3) := by decide +kernel
theorem dX8_init_8 : decode cX8_init 8 = .ok (.newarray .int, 2) := by decide +kernel
theorem dX8_init_10 : decode cX8_init 10 = .ok (.putfield 7, 3) := by decide +kernel
theorem dX8_init_13 : decode cX8_init 13 = .ok (.aload_n 0, 1) := by decide +kernel
theorem dX8_init_14 : decode cX8_init 14 = .ok (.bipush 6, 2) := by decide +kernel
theorem dX8_init_16 : decode cX8_init 16 = .ok (.newarray .int, 2) := by decide +kernel
theorem dX8_init_18 : decode cX8_init 18 = .ok (.putfield 13, 3) := by decide +kernel
theorem dX8_init_21 : decode cX8_init 21 = .ok (.aload_n 0, 1) := by decide +kernel
theorem dX8_init_22 : decode cX8_init 22 = .ok (.bipush 35, 2) := by decide +kernel
theorem dX8_init_24 : decode cX8_init 24 = .ok (.newarray .int, 2) := by decide +kernel
theorem dX8_init_26 : decode cX8_init 26 = .ok (.putfield 16, 3) := by decide +kernel
theorem dX8_init_29 : decode cX8_init 29 = .ok (.aload_n 0, 1) := by decide +kernel
theorem dX8_init_30 : decode cX8_init 30 = .ok (.iconst 2, 1) := by decide +kernel
theorem dX8_init_31 : decode cX8_init 31 = .ok (.putfield 19, 3) := by decide +kernel
theorem dX8_init_34 : decode cX8_init 34 = .ok (.aload_n 0, 1) := by decide +kernel
theorem dX8_init_35 : decode cX8_init 35 = .ok (.iconst 1, 1) := by decide +kernel
theorem dX8_init_36 : decode cX8_init 36 = .ok (.putfield 23, 3) := by decide +kernel
theorem dX8_init_39 : decode cX8_init 39 = .ok (.aload_n 0, 1) := by decide +kernel
theorem dX8_init_40 : decode cX8_init 40 = .ok (.bipush 35, 2) := by decide +kernel
theorem dX8_init_42 : decode cX8_init 42 = .ok (.newarray .int, 2) := by decide +kernel
theorem dX8_init_44 : decode cX8_init 44 = .ok (.putfield 26, 3) := by decide +kernel
theorem dX8_init_47 : decode cX8_init 47 = .ok (.aload_n 0, 1) := by decide +kernel
theorem dX8_init_48 : decode cX8_init 48 = .ok (.bipush 28, 2) := by decide +kernel
theorem dX8_init_50 : decode cX8_init 50 = .ok (.newarray .int, 2) := by decide +kernel
theorem dX8_init_52 : decode cX8_init 52 = .ok (.putfield 29, 3) := by decide +kernel
theorem dX8_init_55 : decode cX8_init 55 = .ok (.aload_n 0, 1) := by decide +kernel
theorem dX8_init_56 : decode cX8_init 56 = .ok (.bipush 28, 2) := by decide +kernel
theorem dX8_init_58 : decode cX8_init 58 = .ok (.newarray .int, 2) := by decide +kernel
theorem dX8_init_60 : decode cX8_init 60 = .ok (.putfield 32, 3) := by decide +kernel
theorem dX8_init_63 : decode cX8_init 63 = .ok (.aload_n 0, 1) := by decide +kernel
theorem dX8_init_64 : decode cX8_init 64 = .ok (.bipush 56, 2) := by decide +kernel
theorem dX8_init_66 : decode cX8_init 66 = .ok (.newarray .int, 2) := by decide +kernel
theorem dX8_init_68 : decode cX8_init 68 = .ok (.putfield 35, 3) := by decide +kernel
theorem dX8_init_71 : decode cX8_init 71 = .ok (.aload_n 0, 1) := by decide +kernel
theorem dX8_init_72 : decode cX8_init 72 = .ok (.iconst 2, 1) := by decide +kernel
theorem dX8_init_73 : decode cX8_init 73 = .ok (.newarray .boolean, 2) := by decide +kernel
theorem dX8_init_75 : decode cX8_init 75 = .ok (.putfield 38, 3) := by decide +kernel
theorem dX8_init_78 : decode cX8_init 78 = .ok (.aload_n 0, 1) := by decide +kernel
theorem dX8_init_79 : decode cX8_init 79 = .ok (.sipush 280, 3) := by decide +kernel
theorem dX8_init_82 : decode cX8_init 82 = .ok (.newarray .int, 2) := by decide +kernel
theorem dX8_init_84 : decode cX8_init 84 = .ok (.putfield 42, 3) := by decide +kernel
theorem dX8_init_87 : decode cX8_init 87 = .ok (.aload_n 0, 1) := by decide +kernel
theorem dX8_init_88 : decode cX8_init 88 = .ok (.bipush 7, 2) := by decide +kernel
theorem dX8_init_90 : decode cX8_init 90 = .ok (.newarray .int, 2) := by decide +kernel
theorem dX8_init_92 : decode cX8_init 92 = .ok (.putfield 45, 3) := by decide +kernel
theorem dX8_init_95 : decode cX8_init 95 = .ok (.aload_n 0, 1) := by decide +kernel
theorem dX8_init_96 : decode cX8_init 96 = .ok (.bipush 7, 2) := by decide +kernel
theorem dX8_init_98 : decode cX8_init 98 = .ok (.newarray .int, 2) := by decide +kernel
theorem dX8_init_100 : decode cX8_init 100 = .ok (.putfield 48, 3) := by decide +kernel
theorem dX8_init_103 : decode cX8_init 103 = .ok (.aload_n 0, 1) := by decide +kernel
theorem dX8_init_104 : decode cX8_init 104 = .ok (.bipush 7, 2) := by decide +kernel
theorem dX8_init_106 : decode cX8_init 106 = .ok (.newarray .int, 2) := by decide +kernel
theorem dX8_init_108 : decode cX8_init 108 = .ok (.putfield 51, 3) := by decide +kernel
theorem dX8_init_111 : decode cX8_init 111 = .ok (.iconst 0, 1) := by decide +kernel
theorem dX8_init_112 : decode cX8_init 112 = .ok (.istore_n 1, 1) := by decide +kernel
theorem dX8_init_113 : decode cX8_init 113 = .ok (.iload_n 1, 1) := by decide +kernel
theorem dX8_init_114 : decode cX8_init 114 = .ok (.bipush 6, 2) := by decide +kernel
theorem dX8_init_116 : decode cX8_init 116 = .ok (.if_icmp .ge 16, 3) := by decide +kernel
theorem dX8_init_119 : decode cX8_init 119 = .ok (.aload_n 0, 1) := by decide +kernel
theorem dX8_init_120 : decode cX8_init 120 = .ok (.getfield 13, 3) := by decide +kernel
theorem dX8_init_123 : decode cX8_init 123 = .ok (.iload_n 1, 1) := by decide +kernel
theorem dX8_init_124 : decode cX8_init 124 = .ok (.iload_n 1, 1) := by decide +kernel
theorem dX8_init_125 : decode cX8_init 125 = .ok (.iastore, 1) := by decide +kernel
theorem dX8_init_126 : decode cX8_init 126 = .ok (.iinc 1 1, 3) := by decide +kernel
theorem dX8_init_129 : decode cX8_init 129 = .ok (.goto (-16), 3) := by decide +kernel
theorem dX8_init_132 : decode cX8_init 132 = .ok (.aload_n 0, 1) := by decide +kernel
theorem dX8_init_133 : decode cX8_init 133 = .ok (.invokevirtual 54, 3) := by decide +kernel
theorem dX8_init_136 : decode cX8_init 136 = .ok (.return_, 1) := by decide +kernel
theorem dX8_in_0 : decode cX8_in 0 = .ok (.iload_n 0, 1) := by decide +kernel
theorem dX8_in_1 : decode cX8_in 1 = .ok (.iload_n 1, 1) := by decide +kernel
theorem dX8_in_2 : decode cX8_in 2 = .ok (.if_icmp .lt 12, 3) := by decide +kernel
theorem dX8_in_5 : decode cX8_in 5 = .ok (.iload_n 0, 1) := by decide +kernel
theorem dX8_in_6 : decode cX8_in 6 = .ok (.iload_n 2, 1) := by decide +kernel
theorem dX8_in_7 : decode cX8_in 7 = .ok (.if_icmp .gt 7, 3) := by decide +kernel
theorem dX8_in_10 : decode cX8_in 10 = .ok (.iconst 1, 1) := by decide +kernel
theorem dX8_in_11 : decode cX8_in 11 = .ok (.goto 4, 3) := by decide +kernel
theorem dX8_in_14 : decode cX8_in 14 = .ok (.iconst 0, 1) := by decide +kernel
theorem dX8_in_15 : decode cX8_in 15 = .ok (.ireturn, 1) := by decide +kernel
theorem dX8_has_0 : decode cX8_has 0 = .ok (.iload_n 0, 1) := by decide +kernel
theorem dX8_has_1 : decode cX8_has 1 = .ok (.iload_n 1, 1) := by decide +kernel
theorem dX8_has_2 : decode cX8_has 2 = .ok (.ishr, 1) := by decide +kernel
theorem dX8_has_3 : decode cX8_has 3 = .ok (.iconst 1, 1) := by decide +kernel
theorem dX8_has_4 : decode cX8_has 4 = .ok (.iand, 1) := by decide +kernel
theorem dX8_has_5 : decode cX8_has 5 = .ok (.iconst 1, 1) := by decide +kernel
theorem dX8_has_6 : decode cX8_has 6 = .ok (.if_icmp .ne 7, 3) := by decide +kernel
theorem dX8_has_9 : decode cX8_has 9 = .ok (.iconst 1, 1) := by decide +kernel
theorem dX8_has_10 : decode cX8_has 10 = .ok (.goto 4, 3) := by decide +kernel
theorem dX8_has_13 : decode cX8_has 13 = .ok (.iconst 0, 1) := by decide +kernel
theorem dX8_has_14 : decode cX8_has 14 = .ok (.ireturn, 1) := by decide +kernel
theorem dX8_begin_0 : decode cX8_begin 0 = .ok (.iconst 0, 1) := by decide +kernel
theorem dX8_begin_1 : decode cX8_begin 1 = .ok (.istore_n 1, 1) := by decide +kernel
theorem dX8_begin_2 : decode cX8_begin 2 = .ok (.iload_n 1, 1) := by decide +kernel
theorem dX8_begin_3 : decode cX8_begin 3 = .ok (.bipush 28, 2) := by decide +kernel
theorem dX8_begin_5 : decode cX8_begin 5 = .ok (.if_icmp .ge 16, 3) := by decide +kernel
theorem dX8_begin_8 : decode cX8_begin 8 = .ok (.aload_n 0, 1) := by decide +kernel
theorem dX8_begin_9 : decode cX8_begin 9 = .ok (.getfield 29, 3) := by decide +kernel
end
section
theorem dX8_begin_12 : decode cX8_begin 12 = .ok (.iload_n 1, 1) := by decide +kernel
theorem dX8_begin_13 : decode cX8_begin 13 = .ok (.iconst 0, 1) := by decide +kernel
theorem dX8_begin_14 : decode cX8_begin 14 = .ok (.iastore, 1) := by decide +kernel
theorem dX8_begin_15 : decode cX8_begin 15 = .ok (.iinc 1 1, 3) := by decide +kernel
theorem dX8_begin_18 : decode cX8_begin 18 = .ok (.goto (-16), 3) := by decide +kernel
theorem dX8_begin_21 : decode cX8_begin 21 = .ok (.iconst 0, 1) := by decide +kernel
theorem dX8_begin_22 : decode cX8_begin 22 = .ok (.istore_n 1, 1) := by decide +kernel
theorem dX8_begin_23 : decode cX8_begin 23 = .ok (.iload_n 1, 1) := by decide +kernel
theorem dX8_begin_24 : decode cX8_begin 24 = .ok (.bipush 6, 2) := by decide +kernel
theorem dX8_begin_26 : decode cX8_begin 26 = .ok (.if_icmp .ge 23, 3) := by decide +kernel
theorem dX8_begin_29 : decode cX8_begin 29 = .ok (.aload_n 0, 1) := by decide +kernel
theorem dX8_begin_30 : decode cX8_begin 30 = .ok (.getfield 29, 3) := by decide +kernel
theorem dX8_begin_33 : decode cX8_begin 33 = .ok (.iconst 1, 1) := by decide +kernel
theorem dX8_begin_34 : decode cX8_begin 34 = .ok (.iload_n 1, 1) := by decide +kernel
theorem dX8_begin_35 : decode cX8_begin 35 = .ok (.iadd, 1) := by decide +kernel
theorem dX8_begin_36 : decode cX8_begin 36 = .ok (.aload_n 0, 1) := by decide +kernel
theorem dX8_begin_37 : decode cX8_begin 37 = .ok (.getfield 13, 3) := by decide +kernel
theorem dX8_begin_40 : decode cX8_begin 40 = .ok (.iload_n 1, 1) := by decide +kernel
theorem dX8_begin_41 : decode cX8_begin 41 = .ok (.iaload, 1) := by decide +kernel
theorem dX8_begin_42 : decode cX8_begin 42 = .ok (.iastore, 1) := by decide +kernel
theorem dX8_begin_43 : decode cX8_begin 43 = .ok (.iinc 1 1, 3) := by decide +kernel
theorem dX8_begin_46 : decode cX8_begin 46 = .ok (.goto (-23), 3) := by decide +kernel
theorem dX8_begin_49 : decode cX8_begin 49 = .ok (.iconst 0, 1) := by decide +kernel
theorem dX8_begin_50 : decode cX8_begin 50 = .ok (.istore_n 1, 1) := by decide +kernel
theorem dX8_begin_51 : decode cX8_begin 51 = .ok (.iload_n 1, 1) := by decide +kernel
theorem dX8_begin_52 : decode cX8_begin 52 = .ok (.aload_n 0, 1) := by decide +kernel
theorem dX8_begin_53 : decode cX8_begin 53 = .ok (.getfield 57, 3) := by decide +kernel
theorem dX8_begin_56 : decode cX8_begin 56 = .ok (.if_icmp .ge 34, 3) := by decide +kernel
theorem dX8_begin_59 : decode cX8_begin 59 = .ok (.aload_n 0, 1) := by decide +kernel
theorem dX8_begin_60 : decode cX8_begin 60 = .ok (.getfield 29, 3) := by decide +kernel
theorem dX8_begin_63 : decode cX8_begin 63 = .ok (.bipush 7, 2) := by decide +kernel
theorem dX8_begin_65 : decode cX8_begin 65 = .ok (.iload_n 1, 1) := by decide +kernel
theorem dX8_begin_66 : decode cX8_begin 66 = .ok (.iadd, 1) := by decide +kernel
theorem dX8_begin_67 : decode cX8_begin 67 = .ok (.aload_n 0, 1) := by decide +kernel
theorem dX8_begin_68 : decode cX8_begin 68 = .ok (.getfield 26, 3) := by decide +kernel
theorem dX8_begin_71 : decode cX8_begin 71 = .ok (.iconst 5, 1) := by decide +kernel
theorem dX8_begin_72 : decode cX8_begin 72 = .ok (.iload_n 1, 1) := by decide +kernel
theorem dX8_begin_73 : decode cX8_begin 73 = .ok (.imul, 1) := by decide +kernel
theorem dX8_begin_74 : decode cX8_begin 74 = .ok (.iaload, 1) := by decide +kernel
theorem dX8_begin_75 : decode cX8_begin 75 = .ok (.ifCond .ne 7, 3) := by decide +kernel
theorem dX8_begin_78 : decode cX8_begin 78 = .ok (.iconst 1, 1) := by decide +kernel
theorem dX8_begin_79 : decode cX8_begin 79 = .ok (.goto 4, 3) := by decide +kernel
theorem dX8_begin_82 : decode cX8_begin 82 = .ok (.iconst 0, 1) := by decide +kernel
theorem dX8_begin_83 : decode cX8_begin 83 = .ok (.iastore, 1) := by decide +kernel
theorem dX8_begin_84 : decode cX8_begin 84 = .ok (.iinc 1 1, 3) := by decide +kernel
theorem dX8_begin_87 : decode cX8_begin 87 = .ok (.goto (-36), 3) := by decide +kernel
theorem dX8_begin_90 : decode cX8_begin 90 = .ok (.aload_n 0, 1) := by decide +kernel
theorem dX8_begin_91 : decode cX8_begin 91 = .ok (.getfield 38, 3) := by decide +kernel
theorem dX8_begin_94 : decode cX8_begin 94 = .ok (.iconst 0, 1) := by decide +kernel
theorem dX8_begin_95 : decode cX8_begin 95 = .ok (.iconst 0, 1) := by decide +kernel
theorem dX8_begin_96 : decode cX8_begin 96 = .ok (.bastore, 1) := by decide +kernel
theorem dX8_begin_97 : decode cX8_begin 97 = .ok (.aload_n 0, 1) := by decide +kernel
theorem dX8_begin_98 : decode cX8_begin 98 = .ok (.getfield 38, 3) := by decide +kernel
theorem dX8_begin_101 : decode cX8_begin 101 = .ok (.iconst 1, 1) := by decide +kernel
theorem dX8_begin_102 : decode cX8_begin 102 = .ok (.iconst 0, 1) := by decide +kernel
theorem dX8_begin_103 : decode cX8_begin 103 = .ok (.bastore, 1) := by decide +kernel
theorem dX8_begin_104 : decode cX8_begin 104 = .ok (.aload_n 0, 1) := by decide +kernel
theorem dX8_begin_105 : decode cX8_begin 105 = .ok (.iconst 0, 1) := by decide +kernel
theorem dX8_begin_106 : decode cX8_begin 106 = .ok (.putfield 60, 3) := by decide +kernel
theorem dX8_begin_109 : decode cX8_begin 109 = .ok (.return_, 1) := by decide +kernel
theorem dX8_isLine_0 : decode cX8_isLine 0 = .ok (.iload_n 1, 1) := by decide +kernel
theorem dX8_isLine_1 : decode cX8_isLine 1 = .ok (.iconst 0, 1) := by decide +kernel
theorem dX8_isLine_2 : decode cX8_isLine 2 = .ok (.aload_n 0, 1) := by decide +kernel
theorem dX8_isLine_3 : decode cX8_isLine 3 = .ok (.getfield 19, 3) := by decide +kernel
theorem dX8_isLine_6 : decode cX8_isLine 6 = .ok (.iconst 1, 1) := by decide +kernel
theorem dX8_isLine_7 : decode cX8_isLine 7 = .ok (.isub, 1) := by decide +kernel
theorem dX8_isLine_8 : decode cX8_isLine 8 = .ok (.invokestatic 63, 3) := by decide +kernel
theorem dX8_isLine_11 : decode cX8_isLine 11 = .ok (.ireturn, 1) := by decide +kernel
theorem dX8_isCall_0 : decode cX8_isCall 0 = .ok (.iload_n 1, 1) := by decide +kernel
theorem dX8_isCall_1 : decode cX8_isCall 1 = .ok (.iconst 0, 1) := by decide +kernel
theorem dX8_isCall_2 : decode cX8_isCall 2 = .ok (.aload_n 0, 1) := by decide +kernel
theorem dX8_isCall_3 : decode cX8_isCall 3 = .ok (.getfield 57, 3) := by decide +kernel
theorem dX8_isCall_6 : decode cX8_isCall 6 = .ok (.iconst 1, 1) := by decide +kernel
theorem dX8_isCall_7 : decode cX8_isCall 7 = .ok (.isub, 1) := by decide +kernel
theorem dX8_isCall_8 : decode cX8_isCall 8 = .ok (.invokestatic 63, 3) := by decide +kernel
theorem dX8_isCall_11 : decode cX8_isCall 11 = .ok (.ireturn, 1) := by decide +kernel
theorem dX8_type_0 : decode cX8_type 0 = .ok (.iload_n 1, 1) := by decide +kernel
theorem dX8_type_1 : decode cX8_type 1 = .ok (.iconst 0, 1) := by decide +kernel
theorem dX8_type_2 : decode cX8_type 2 = .ok (.sipush 255, 3) := by decide +kernel
theorem dX8_type_5 : decode cX8_type 5 = .ok (.invokestatic 63, 3) := by decide +kernel
theorem dX8_type_8 : decode cX8_type 8 = .ok (.ifCond .ne 5, 3) := by decide +kernel
theorem dX8_type_11 : decode cX8_type 11 = .ok (.iconst (-1), 1) := by decide +kernel
theorem dX8_type_12 : decode cX8_type 12 = .ok (.ireturn, 1) := by decide +kernel
theorem dX8_type_13 : decode cX8_type 13 = .ok (.aload_n 0, 1) := by decide +kernel
theorem dX8_type_14 : decode cX8_type 14 = .ok (.getfield 67, 3) := by decide +kernel
theorem dX8_type_17 : decode cX8_type 17 = .ok (.sipush 200, 3) := by decide +kernel
theorem dX8_type_20 : decode cX8_type 20 = .ok (.if_icmp .ne 6, 3) := by decide +kernel
theorem dX8_type_23 : decode cX8_type 23 = .ok (.bipush (-3), 2) := by decide +kernel
theorem dX8_type_25 : decode cX8_type 25 = .ok (.ireturn, 1) := by decide +kernel
theorem dX8_type_26 : decode cX8_type 26 = .ok (.aload_n 0, 1) := by decide +kernel
theorem dX8_type_27 : decode cX8_type 27 = .ok (.getfield 7, 3) := by decide +kernel
theorem dX8_type_30 : decode cX8_type 30 = .ok (.aload_n 0, 1) := by decide +kernel
theorem dX8_type_31 : decode cX8_type 31 = .ok (.getfield 67, 3) := by decide +kernel
theorem dX8_type_34 : decode cX8_type 34 = .ok (.iload_n 1, 1) := by decide +kernel
theorem dX8_type_35 : decode cX8_type 35 = .ok (.iastore, 1) := by decide +kernel
theorem dX8_type_36 : decode cX8_type 36 = .ok (.aload_n 0, 1) := by decide +kernel
theorem dX8_type_37 : decode cX8_type 37 = .ok (.dup, 1) := by decide +kernel
theorem dX8_type_38 : decode cX8_type 38 = .ok (.getfield 67, 3) := by decide +kernel
theorem dX8_type_41 : decode cX8_type 41 = .ok (.iconst 1, 1) := by decide +kernel
theorem dX8_type_42 : decode cX8_type 42 = .ok (.iadd, 1) := by decide +kernel
theorem dX8_type_43 : decode cX8_type 43 = .ok (.putfield 67, 3) := by decide +kernel
theorem dX8_type_46 : decode cX8_type 46 = .ok (.aload_n 0, 1) := by decide +kernel
theorem dX8_type_47 : decode cX8_type 47 = .ok (.getfield 67, 3) := by decide +kernel
theorem dX8_type_50 : decode cX8_type 50 = .ok (.ireturn, 1) := by decide +kernel
theorem dX8_clear_0 : decode cX8_clear 0 = .ok (.aload_n 0, 1) := by decide +kernel
theorem dX8_clear_1 : decode cX8_clear 1 = .ok (.getfield 67, 3) := by decide +kernel
theorem dX8_clear_4 : decode cX8_clear 4 = .ok (.istore_n 1, 1) := by decide +kernel
theorem dX8_clear_5 : decode cX8_clear 5 = .ok (.aload_n 0, 1) := by decide +kernel
theorem dX8_clear_6 : decode cX8_clear 6 = .ok (.iconst 0, 1) := by decide +kernel
theorem dX8_clear_7 : decode cX8_clear 7 = .ok (.putfield 67, 3) := by decide +kernel
theorem dX8_clear_10 : decode cX8_clear 10 = .ok (.iload_n 1, 1) := by decide +kernel
theorem dX8_clear_11 : decode cX8_clear 11 = .ok (.ireturn, 1) := by decide +kernel
theorem dX8_nextToken_0 : decode cX8_nextToken 0 = .ok (.aload_n 0, 1) := by decide +kernel
theorem dX8_nextToken_1 : decode cX8_nextToken 1 = .ok (.getfield 70, 3) := by decide +kernel
theorem dX8_nextToken_4 : decode cX8_nextToken 4 = .ok (.aload_n 0, 1) := by decide +kernel
theorem dX8_nextToken_5 : decode cX8_nextToken 5 = .ok (.getfield 67, 3) := by decide +kernel
theorem dX8_nextToken_8 : decode cX8_nextToken 8 = .ok (.if_icmp .ge 30, 3) := by decide +kernel
theorem dX8_nextToken_11 : decode cX8_nextToken 11 = .ok (.aload_n 0, 1) := by decide +kernel
theorem dX8_nextToken_12 : decode cX8_nextToken 12 = .ok (.getfield 7, 3) := by decide +kernel
theorem dX8_nextToken_15 : decode cX8_nextToken 15 = .ok (.aload_n 0, 1) := by decide +kernel
theorem dX8_nextToken_16 : decode cX8_nextToken 16 = .ok (.getfield 70, 3) := by decide +kernel
theorem dX8_nextToken_19 : decode cX8_nextToken 19 = .ok (.iaload, 1) := by decide +kernel
theorem dX8_nextToken_20 : decode cX8_nextToken 20 = .ok (.bipush 32, 2) := by decide +kernel
theorem dX8_nextToken_22 : decode cX8_nextToken 22 = .ok (.if_icmp .ne 16, 3) := by decide +kernel
theorem dX8_nextToken_25 : decode cX8_nextToken 25 = .ok (.aload_n 0, 1) := by decide +kernel
theorem dX8_nextToken_26 : decode cX8_nextToken 26 = .ok (.dup, 1) := by decide +kernel
theorem dX8_nextToken_27 : decode cX8_nextToken 27 = .ok (.getfield 70, 3) := by decide +kernel
theorem dX8_nextToken_30 : decode cX8_nextToken 30 = .ok (.iconst 1, 1) := by decide +kernel
theorem dX8_nextToken_31 : decode cX8_nextToken 31 = .ok (.iadd, 1) := by decide +kernel
theorem dX8_nextToken_32 : decode cX8_nextToken 32 = .ok (.putfield 70, 3) := by decide +kernel
theorem dX8_nextToken_35 : decode cX8_nextToken 35 = .ok (.goto (-35), 3) := by decide +kernel
theorem dX8_nextToken_38 : decode cX8_nextToken 38 = .ok (.aload_n 0, 1) := by decide +kernel
theorem dX8_nextToken_39 : decode cX8_nextToken 39 = .ok (.aload_n 0, 1) := by decide +kernel
theorem dX8_nextToken_40 : decode cX8_nextToken 40 = .ok (.getfield 70, 3) := by decide +kernel
theorem dX8_nextToken_43 : decode cX8_nextToken 43 = .ok (.putfield 73, 3) := by decide +kernel
theorem dX8_nextToken_46 : decode cX8_nextToken 46 = .ok (.aload_n 0, 1) := by decide +kernel
theorem dX8_nextToken_47 : decode cX8_nextToken 47 = .ok (.iconst 0, 1) := by decide +kernel
theorem dX8_nextToken_48 : decode cX8_nextToken 48 = .ok (.putfield 76, 3) := by decide +kernel
theorem dX8_nextToken_51 : decode cX8_nextToken 51 = .ok (.aload_n 0, 1) := by decide +kernel
theorem dX8_nextToken_52 : decode cX8_nextToken 52 = .ok (.getfield 70, 3) := by decide +kernel
theorem dX8_nextToken_55 : decode cX8_nextToken 55 = .ok (.aload_n 0, 1) := by decide +kernel
theorem dX8_nextToken_56 : decode cX8_nextToken 56 = .ok (.getfield 67, 3) := by decide +kernel
theorem dX8_nextToken_59 : decode cX8_nextToken 59 = .ok (.if_icmp .ne 12, 3) := by decide +kernel
theorem dX8_nextToken_62 : decode cX8_nextToken 62 = .ok (.aload_n 0, 1) := by decide +kernel
theorem dX8_nextToken_63 : decode cX8_nextToken 63 = .ok (.bipush (-2), 2) := by decide +kernel
theorem dX8_nextToken_65 : decode cX8_nextToken 65 = .ok (.putfield 79, 3) := by decide +kernel
theorem dX8_nextToken_68 : decode cX8_nextToken 68 = .ok (.goto 179, 3) := by decide +kernel
theorem dX8_nextToken_71 : decode cX8_nextToken 71 = .ok (.aload_n 0, 1) := by decide +kernel
theorem dX8_nextToken_72 : decode cX8_nextToken 72 = .ok (.getfield 7, 3) := by decide +kernel
theorem dX8_nextToken_75 : decode cX8_nextToken 75 = .ok (.aload_n 0, 1) := by decide +kernel
theorem dX8_nextToken_76 : decode cX8_nextToken 76 = .ok (.getfield 70, 3) := by decide +kernel
theorem dX8_nextToken_79 : decode cX8_nextToken 79 = .ok (.iaload, 1) := by decide +kernel
theorem dX8_nextToken_80 : decode cX8_nextToken 80 = .ok (.bipush 48, 2) := by decide +kernel
theorem dX8_nextToken_82 : decode cX8_nextToken 82 = .ok (.bipush 57, 2) := by decide +kernel
theorem dX8_nextToken_84 : decode cX8_nextToken 84 = .ok (.invokestatic 63, 3) := by decide +kernel
theorem dX8_nextToken_87 : decode cX8_nextToken 87 = .ok (.ifCond .eq 137, 3) := by decide +kernel
theorem dX8_nextToken_90 : decode cX8_nextToken 90 = .ok (.aload_n 0, 1) := by decide +kernel
theorem dX8_nextToken_91 : decode cX8_nextToken 91 = .ok (.getfield 70, 3) := by decide +kernel
theorem dX8_nextToken_94 : decode cX8_nextToken 94 = .ok (.aload_n 0, 1) := by decide +kernel
theorem dX8_nextToken_95 : decode cX8_nextToken 95 = .ok (.getfield 67, 3) := by decide +kernel
theorem dX8_nextToken_98 : decode cX8_nextToken 98 = .ok (.if_icmp .ge 77, 3) := by decide +kernel
theorem dX8_nextToken_101 : decode cX8_nextToken 101 = .ok (.aload_n 0, 1) := by decide +kernel
theorem dX8_nextToken_102 : decode cX8_nextToken 102 = .ok (.getfield 7, 3) := by decide +kernel
theorem dX8_nextToken_105 : decode cX8_nextToken 105 = .ok (.aload_n 0, 1) := by decide +kernel
theorem dX8_nextToken_106 : decode cX8_nextToken 106 = .ok (.getfield 70, 3) := by decide +kernel
theorem dX8_nextToken_109 : decode cX8_nextToken 109 = .ok (.iaload, 1) := by decide +kernel
theorem dX8_nextToken_110 : decode cX8_nextToken 110 = .ok (.bipush 48, 2) := by decide +kernel
theorem dX8_nextToken_112 : decode cX8_nextToken 112 = .ok (.bipush 57, 2) := by decide +kernel
theorem dX8_nextToken_114 : decode cX8_nextToken 114 = .ok (.invokestatic 63, 3) := by decide +kernel
theorem dX8_nextToken_117 : decode cX8_nextToken 117 = .ok (.ifCond .eq 58, 3) := by decide +kernel
theorem dX8_nextToken_120 : decode cX8_nextToken 120 = .ok (.aload_n 0, 1) := by decide +kernel
theorem dX8_nextToken_121 : decode cX8_nextToken 121 = .ok (.aload_n 0, 1) := by decide +kernel
theorem dX8_nextToken_122 : decode cX8_nextToken 122 = .ok (.getfield 70, 3) := by decide +kernel
theorem dX8_nextToken_125 : decode cX8_nextToken 125 = .ok (.aload_n 0, 1) := by decide +kernel
theorem dX8_nextToken_126 : decode cX8_nextToken 126 = .ok (.getfield 73, 3) := by decide +kernel
theorem dX8_nextToken_129 : decode cX8_nextToken 129 = .ok (.isub, 1) := by decide +kernel
theorem dX8_nextToken_130 : decode cX8_nextToken 130 = .ok (.iconst 2, 1) := by decide +kernel
theorem dX8_nextToken_131 : decode cX8_nextToken 131 = .ok (.if_icmp .ge 26, 3) := by decide +kernel
theorem dX8_nextToken_134 : decode cX8_nextToken 134 = .ok (.bipush 10, 2) := by decide +kernel
theorem dX8_nextToken_136 : decode cX8_nextToken 136 = .ok (.aload_n 0, 1) := by decide +kernel
theorem dX8_nextToken_137 : decode cX8_nextToken 137 = .ok (.getfield 76, 3) := by decide +kernel
theorem dX8_nextToken_140 : decode cX8_nextToken 140 = .ok (.imul, 1) := by decide +kernel
theorem dX8_nextToken_141 : decode cX8_nextToken 141 = .ok (.aload_n 0, 1) := by decide +kernel
theorem dX8_nextToken_142 : decode cX8_nextToken 142 = .ok (.getfield 7, 3) := by decide +kernel
theorem dX8_nextToken_145 : decode cX8_nextToken 145 = .ok (.aload_n 0, 1) := by decide +kernel
theorem dX8_nextToken_146 : decode cX8_nextToken 146 = .ok (.getfield 70, 3) := by decide +kernel
theorem dX8_nextToken_149 : decode cX8_nextToken 149 = .ok (.iaload, 1) := by decide +kernel
theorem dX8_nextToken_150 : decode cX8_nextToken 150 = .ok (.iadd, 1) := by decide +kernel
theorem dX8_nextToken_151 : decode cX8_nextToken 151 = .ok (.bipush 48, 2) := by decide +kernel
theorem dX8_nextToken_153 : decode cX8_nextToken 153 = .ok (.isub, 1) := by decide +kernel
theorem dX8_nextToken_154 : decode cX8_nextToken 154 = .ok (.goto 5, 3) := by decide +kernel
theorem dX8_nextToken_157 : decode cX8_nextToken 157 = .ok (.bipush 100, 2) := by decide +kernel
theorem dX8_nextToken_159 : decode cX8_nextToken 159 = .ok (.putfield 76, 3) := by decide +kernel
theorem dX8_nextToken_162 : decode cX8_nextToken 162 = .ok (.aload_n 0, 1) := by decide +kernel
theorem dX8_nextToken_163 : decode cX8_nextToken 163 = .ok (.dup, 1) := by decide +kernel
theorem dX8_nextToken_164 : decode cX8_nextToken 164 = .ok (.getfield 70, 3) := by decide +kernel
theorem dX8_nextToken_167 : decode cX8_nextToken 167 = .ok (.iconst 1, 1) := by decide +kernel
theorem dX8_nextToken_168 : decode cX8_nextToken 168 = .ok (.iadd, 1) := by decide +kernel
theorem dX8_nextToken_169 : decode cX8_nextToken 169 = .ok (.putfield 70, 3) := by decide +kernel
theorem dX8_nextToken_172 : decode cX8_nextToken 172 = .ok (.goto (-82), 3) := by decide +kernel
theorem dX8_nextToken_175 : decode cX8_nextToken 175 = .ok (.aload_n 0, 1) := by decide +kernel
theorem dX8_nextToken_176 : decode cX8_nextToken 176 = .ok (.aload_n 0, 1) := by decide +kernel
theorem dX8_nextToken_177 : decode cX8_nextToken 177 = .ok (.getfield 70, 3) := by decide +kernel
theorem dX8_nextToken_180 : decode cX8_nextToken 180 = .ok (.aload_n 0, 1) := by decide +kernel
theorem dX8_nextToken_181 : decode cX8_nextToken 181 = .ok (.getfield 73, 3) := by decide +kernel
theorem dX8_nextToken_184 : decode cX8_nextToken 184 = .ok (.isub, 1) := by decide +kernel
theorem dX8_nextToken_185 : decode cX8_nextToken 185 = .ok (.iconst 1, 1) := by decide +kernel
theorem dX8_nextToken_186 : decode cX8_nextToken 186 = .ok (.if_icmp .le 17, 3) := by decide +kernel
theorem dX8_nextToken_189 : decode cX8_nextToken 189 = .ok (.aload_n 0, 1) := by decide +kernel
theorem dX8_nextToken_190 : decode cX8_nextToken 190 = .ok (.getfield 7, 3) := by decide +kernel
theorem dX8_nextToken_193 : decode cX8_nextToken 193 = .ok (.aload_n 0, 1) := by decide +kernel
theorem dX8_nextToken_194 : decode cX8_nextToken 194 = .ok (.getfield 73, 3) := by decide +kernel
theorem dX8_nextToken_197 : decode cX8_nextToken 197 = .ok (.iaload, 1) := by decide +kernel
theorem dX8_nextToken_198 : decode cX8_nextToken 198 = .ok (.bipush 48, 2) := by decide +kernel
theorem dX8_nextToken_200 : decode cX8_nextToken 200 = .ok (.if_icmp .eq 12, 3) := by decide +kernel
theorem dX8_nextToken_203 : decode cX8_nextToken 203 = .ok (.aload_n 0, 1) := by decide +kernel
theorem dX8_nextToken_204 : decode cX8_nextToken 204 = .ok (.getfield 76, 3) := by decide +kernel
theorem dX8_nextToken_207 : decode cX8_nextToken 207 = .ok (.bipush 99, 2) := by decide +kernel
theorem dX8_nextToken_209 : decode cX8_nextToken 209 = .ok (.if_icmp .le 8, 3) := by decide +kernel
theorem dX8_nextToken_212 : decode cX8_nextToken 212 = .ok (.bipush (-3), 2) := by decide +kernel
theorem dX8_nextToken_214 : decode cX8_nextToken 214 = .ok (.goto 4, 3) := by decide +kernel
theorem dX8_nextToken_217 : decode cX8_nextToken 217 = .ok (.iconst (-1), 1) := by decide +kernel
theorem dX8_nextToken_218 : decode cX8_nextToken 218 = .ok (.putfield 79, 3) := by decide +kernel
theorem dX8_nextToken_221 : decode cX8_nextToken 221 = .ok (.goto 26, 3) := by decide +kernel
theorem dX8_nextToken_224 : decode cX8_nextToken 224 = .ok (.aload_n 0, 1) := by decide +kernel
theorem dX8_nextToken_225 : decode cX8_nextToken 225 = .ok (.aload_n 0, 1) := by decide +kernel
theorem dX8_nextToken_226 : decode cX8_nextToken 226 = .ok (.getfield 7, 3) := by decide +kernel
theorem dX8_nextToken_229 : decode cX8_nextToken 229 = .ok (.aload_n 0, 1) := by decide +kernel
theorem dX8_nextToken_230 : decode cX8_nextToken 230 = .ok (.getfield 70, 3) := by decide +kernel
theorem dX8_nextToken_233 : decode cX8_nextToken 233 = .ok (.iaload, 1) := by decide +kernel
theorem dX8_nextToken_234 : decode cX8_nextToken 234 = .ok (.putfield 79, 3) := by decide +kernel
theorem dX8_nextToken_237 : decode cX8_nextToken 237 = .ok (.aload_n 0, 1) := by decide +kernel
theorem dX8_nextToken_238 : decode cX8_nextToken 238 = .ok (.dup, 1) := by decide +kernel
theorem dX8_nextToken_239 : decode cX8_nextToken 239 = .ok (.getfield 70, 3) := by decide +kernel
theorem dX8_nextToken_242 : decode cX8_nextToken 242 = .ok (.iconst 1, 1) := by decide +kernel
theorem dX8_nextToken_243 : decode cX8_nextToken 243 = .ok (.iadd, 1) := by decide +kernel
theorem dX8_nextToken_244 : decode cX8_nextToken 244 = .ok (.putfield 70, 3) := by decide +kernel
theorem dX8_nextToken_247 : decode cX8_nextToken 247 = .ok (.return_, 1) := by decide +kernel
theorem dX8_isNumber_0 : decode cX8_isNumber 0 = .ok (.aload_n 0, 1) := by decide +kernel
theorem dX8_isNumber_1 : decode cX8_isNumber 1 = .ok (.invokevirtual 82, 3) := by decide +kernel
theorem dX8_isNumber_4 : decode cX8_isNumber 4 = .ok (.aload_n 0, 1) := by decide +kernel
theorem dX8_isNumber_5 : decode cX8_isNumber 5 = .ok (.getfield 79, 3) := by decide +kernel
theorem dX8_isNumber_8 : decode cX8_isNumber 8 = .ok (.iconst (-1), 1) := by decide +kernel
theorem dX8_isNumber_9 : decode cX8_isNumber 9 = .ok (.if_icmp .ne 19, 3) := by decide +kernel
theorem dX8_isNumber_12 : decode cX8_isNumber 12 = .ok (.aload_n 0, 1) := by decide +kernel
theorem dX8_isNumber_13 : decode cX8_isNumber 13 = .ok (.getfield 76, 3) := by decide +kernel
theorem dX8_isNumber_16 : decode cX8_isNumber 16 = .ok (.iload_n 1, 1) := by decide +kernel
theorem dX8_isNumber_17 : decode cX8_isNumber 17 = .ok (.iload_n 2, 1) := by decide +kernel
theorem dX8_isNumber_18 : decode cX8_isNumber 18 = .ok (.invokestatic 63, 3) := by decide +kernel
theorem dX8_isNumber_21 : decode cX8_isNumber 21 = .ok (.ifCond .eq 7, 3) := by decide +kernel
theorem dX8_isNumber_24 : decode cX8_isNumber 24 = .ok (.iconst 1, 1) := by decide +kernel
theorem dX8_isNumber_25 : decode cX8_isNumber 25 = .ok (.goto 4, 3) := by decide +kernel
theorem dX8_isNumber_28 : decode cX8_isNumber 28 = .ok (.iconst 0, 1) := by decide +kernel
theorem dX8_isNumber_29 : decode cX8_isNumber 29 = .ok (.ireturn, 1) := by decide +kernel
theorem dX8_isEnd_0 : decode cX8_isEnd 0 = .ok (.aload_n 0, 1) := by decide +kernel
theorem dX8_isEnd_1 : decode cX8_isEnd 1 = .ok (.invokevirtual 82, 3) := by decide +kernel
theorem dX8_isEnd_4 : decode cX8_isEnd 4 = .ok (.aload_n 0, 1) := by decide +kernel
theorem dX8_isEnd_5 : decode cX8_isEnd 5 = .ok (.getfield 79, 3) := by decide +kernel
theorem dX8_isEnd_8 : decode cX8_isEnd 8 = .ok (.bipush 59, 2) := by decide +kernel
theorem dX8_isEnd_10 : decode cX8_isEnd 10 = .ok (.if_icmp .ne 7, 3) := by decide +kernel
theorem dX8_isEnd_13 : decode cX8_isEnd 13 = .ok (.iconst 1, 1) := by decide +kernel
theorem dX8_isEnd_14 : decode cX8_isEnd 14 = .ok (.goto 4, 3) := by decide +kernel
theorem dX8_isEnd_17 : decode cX8_isEnd 17 = .ok (.iconst 0, 1) := by decide +kernel
theorem dX8_isEnd_18 : decode cX8_isEnd 18 = .ok (.ireturn, 1) := by decide +kernel
theorem dX8_isHole_0 : decode cX8_isHole 0 = .ok (.aload_n 0, 1) := by decide +kernel
theorem dX8_isHole_1 : decode cX8_isHole 1 = .ok (.iconst 0, 1) := by decide +kernel
theorem dX8_isHole_2 : decode cX8_isHole 2 = .ok (.aload_n 0, 1) := by decide +kernel
theorem dX8_isHole_3 : decode cX8_isHole 3 = .ok (.getfield 85, 3) := by decide +kernel
theorem dX8_isHole_6 : decode cX8_isHole 6 = .ok (.iconst 1, 1) := by decide +kernel
theorem dX8_isHole_7 : decode cX8_isHole 7 = .ok (.isub, 1) := by decide +kernel
theorem dX8_isHole_8 : decode cX8_isHole 8 = .ok (.invokevirtual 88, 3) := by decide +kernel
theorem dX8_isHole_11 : decode cX8_isHole 11 = .ok (.ifCond .ne 5, 3) := by decide +kernel
theorem dX8_isHole_14 : decode cX8_isHole 14 = .ok (.iconst 0, 1) := by decide +kernel
theorem dX8_isHole_15 : decode cX8_isHole 15 = .ok (.ireturn, 1) := by decide +kernel
theorem dX8_isHole_16 : decode cX8_isHole 16 = .ok (.aload_n 0, 1) := by decide +kernel
theorem dX8_isHole_17 : decode cX8_isHole 17 = .ok (.getfield 76, 3) := by decide +kernel
theorem dX8_isHole_20 : decode cX8_isHole 20 = .ok (.istore_n 1, 1) := by decide +kernel
theorem dX8_isHole_21 : decode cX8_isHole 21 = .ok (.aload_n 0, 1) := by decide +kernel
theorem dX8_isHole_22 : decode cX8_isHole 22 = .ok (.iconst 0, 1) := by decide +kernel
theorem dX8_isHole_23 : decode cX8_isHole 23 = .ok (.aload_n 0, 1) := by decide +kernel
theorem dX8_isHole_24 : decode cX8_isHole 24 = .ok (.getfield 85, 3) := by decide +kernel
theorem dX8_isHole_27 : decode cX8_isHole 27 = .ok (.iconst 1, 1) := by decide +kernel
theorem dX8_isHole_28 : decode cX8_isHole 28 = .ok (.isub, 1) := by decide +kernel
theorem dX8_isHole_29 : decode cX8_isHole 29 = .ok (.invokevirtual 88, 3) := by decide +kernel
theorem dX8_isHole_32 : decode cX8_isHole 32 = .ok (.ifCond .ne 5, 3) := by decide +kernel
theorem dX8_isHole_35 : decode cX8_isHole 35 = .ok (.iconst 0, 1) := by decide +kernel
theorem dX8_isHole_36 : decode cX8_isHole 36 = .ok (.ireturn, 1) := by decide +kernel
theorem dX8_isHole_37 : decode cX8_isHole 37 = .ok (.iconst 0, 1) := by decide +kernel
theorem dX8_isHole_38 : decode cX8_isHole 38 = .ok (.istore_n 2, 1) := by decide +kernel
theorem dX8_isHole_39 : decode cX8_isHole 39 = .ok (.iload_n 2, 1) := by decide +kernel
theorem dX8_isHole_40 : decode cX8_isHole 40 = .ok (.aload_n 0, 1) := by decide +kernel
theorem dX8_isHole_41 : decode cX8_isHole 41 = .ok (.getfield 85, 3) := by decide +kernel
theorem dX8_isHole_44 : decode cX8_isHole 44 = .ok (.if_icmp .ge 48, 3) := by decide +kernel
theorem dX8_isHole_47 : decode cX8_isHole 47 = .ok (.aload_n 0, 1) := by decide +kernel
theorem dX8_isHole_48 : decode cX8_isHole 48 = .ok (.getfield 13, 3) := by decide +kernel
theorem dX8_isHole_51 : decode cX8_isHole 51 = .ok (.iload_n 2, 1) := by decide +kernel
theorem dX8_isHole_52 : decode cX8_isHole 52 = .ok (.iload_n 2, 1) := by decide +kernel
theorem dX8_isHole_53 : decode cX8_isHole 53 = .ok (.iload_n 1, 1) := by decide +kernel
theorem dX8_isHole_54 : decode cX8_isHole 54 = .ok (.if_icmp .eq 25, 3) := by decide +kernel
theorem dX8_isHole_57 : decode cX8_isHole 57 = .ok (.aload_n 0, 1) := by decide +kernel
theorem dX8_isHole_58 : decode cX8_isHole 58 = .ok (.getfield 13, 3) := by decide +kernel
theorem dX8_isHole_61 : decode cX8_isHole 61 = .ok (.iload_n 2, 1) := by decide +kernel
theorem dX8_isHole_62 : decode cX8_isHole 62 = .ok (.iaload, 1) := by decide +kernel
theorem dX8_isHole_63 : decode cX8_isHole 63 = .ok (.aload_n 0, 1) := by decide +kernel
theorem dX8_isHole_64 : decode cX8_isHole 64 = .ok (.getfield 76, 3) := by decide +kernel
theorem dX8_isHole_67 : decode cX8_isHole 67 = .ok (.if_icmp .ne 12, 3) := by decide +kernel
theorem dX8_isHole_70 : decode cX8_isHole 70 = .ok (.aload_n 0, 1) := by decide +kernel
theorem dX8_isHole_71 : decode cX8_isHole 71 = .ok (.getfield 13, 3) := by decide +kernel
theorem dX8_isHole_74 : decode cX8_isHole 74 = .ok (.iload_n 1, 1) := by decide +kernel
theorem dX8_isHole_75 : decode cX8_isHole 75 = .ok (.iaload, 1) := by decide +kernel
theorem dX8_isHole_76 : decode cX8_isHole 76 = .ok (.goto 9, 3) := by decide +kernel
theorem dX8_isHole_79 : decode cX8_isHole 79 = .ok (.aload_n 0, 1) := by decide +kernel
theorem dX8_isHole_80 : decode cX8_isHole 80 = .ok (.getfield 13, 3) := by decide +kernel
theorem dX8_isHole_83 : decode cX8_isHole 83 = .ok (.iload_n 2, 1) := by decide +kernel
theorem dX8_isHole_84 : decode cX8_isHole 84 = .ok (.iaload, 1) := by decide +kernel
theorem dX8_isHole_85 : decode cX8_isHole 85 = .ok (.iastore, 1) := by decide +kernel
theorem dX8_isHole_86 : decode cX8_isHole 86 = .ok (.iinc 2 1, 3) := by decide +kernel
theorem dX8_isHole_89 : decode cX8_isHole 89 = .ok (.goto (-50), 3) := by decide +kernel
theorem dX8_isHole_92 : decode cX8_isHole 92 = .ok (.aload_n 0, 1) := by decide +kernel
theorem dX8_isHole_93 : decode cX8_isHole 93 = .ok (.getfield 13, 3) := by decide +kernel
theorem dX8_isHole_96 : decode cX8_isHole 96 = .ok (.iload_n 1, 1) := by decide +kernel
theorem dX8_isHole_97 : decode cX8_isHole 97 = .ok (.aload_n 0, 1) := by decide +kernel
theorem dX8_isHole_98 : decode cX8_isHole 98 = .ok (.getfield 76, 3) := by decide +kernel
theorem dX8_isHole_101 : decode cX8_isHole 101 = .ok (.iastore, 1) := by decide +kernel
theorem dX8_isHole_102 : decode cX8_isHole 102 = .ok (.aload_n 0, 1) := by decide +kernel
theorem dX8_isHole_103 : decode cX8_isHole 103 = .ok (.invokevirtual 92, 3) := by decide +kernel
theorem dX8_isHole_106 : decode cX8_isHole 106 = .ok (.ireturn, 1) := by decide +kernel
theorem dX8_isCallItem_0 : decode cX8_isCallItem 0 = .ok (.iconst 5, 1) := by decide +kernel
theorem dX8_isCallItem_1 : decode cX8_isCallItem 1 = .ok (.aload_n 0, 1) := by decide +kernel
theorem dX8_isCallItem_2 : decode cX8_isCallItem 2 = .ok (.getfield 96, 3) := by decide +kernel
theorem dX8_isCallItem_5 : decode cX8_isCallItem 5 = .ok (.imul, 1) := by decide +kernel
theorem dX8_isCallItem_6 : decode cX8_isCallItem 6 = .ok (.istore_n 1, 1) := by decide +kernel
theorem dX8_isCallItem_7 : decode cX8_isCallItem 7 = .ok (.iconst 0, 1) := by decide +kernel
theorem dX8_isCallItem_8 : decode cX8_isCallItem 8 = .ok (.istore_n 2, 1) := by decide +kernel
theorem dX8_isCallItem_9 : decode cX8_isCallItem 9 = .ok (.iload_n 2, 1) := by decide +kernel
theorem dX8_isCallItem_10 : decode cX8_isCallItem 10 = .ok (.iconst 5, 1) := by decide +kernel
theorem dX8_isCallItem_11 : decode cX8_isCallItem 11 = .ok (.if_icmp .ge 97, 3) := by decide +kernel
theorem dX8_isCallItem_14 : decode cX8_isCallItem 14 = .ok (.iload_n 2, 1) := by decide +kernel
theorem dX8_isCallItem_15 : decode cX8_isCallItem 15 = .ok (.ifCond .ne 8, 3) := by decide +kernel
theorem dX8_isCallItem_18 : decode cX8_isCallItem 18 = .ok (.bipush 40, 2) := by decide +kernel
theorem dX8_isCallItem_20 : decode cX8_isCallItem 20 = .ok (.goto 29, 3) := by decide +kernel
theorem dX8_isCallItem_23 : decode cX8_isCallItem 23 = .ok (.iload_n 2, 1) := by decide +kernel
theorem dX8_isCallItem_24 : decode cX8_isCallItem 24 = .ok (.iconst 3, 1) := by decide +kernel
theorem dX8_isCallItem_25 : decode cX8_isCallItem 25 = .ok (.if_icmp .ge 12, 3) := by decide +kernel
theorem dX8_isCallItem_28 : decode cX8_isCallItem 28 = .ok (.aload_n 0, 1) := by decide +kernel
theorem dX8_isCallItem_29 : decode cX8_isCallItem 29 = .ok (.getfield 85, 3) := by decide +kernel
theorem dX8_isCallItem_32 : decode cX8_isCallItem 32 = .ok (.iconst 1, 1) := by decide +kernel
theorem dX8_isCallItem_33 : decode cX8_isCallItem 33 = .ok (.isub, 1) := by decide +kernel
theorem dX8_isCallItem_34 : decode cX8_isCallItem 34 = .ok (.goto 15, 3) := by decide +kernel
theorem dX8_isCallItem_37 : decode cX8_isCallItem 37 = .ok (.iload_n 2, 1) := by decide +kernel
theorem dX8_isCallItem_38 : decode cX8_isCallItem 38 = .ok (.iconst 3, 1) := by decide +kernel
theorem dX8_isCallItem_39 : decode cX8_isCallItem 39 = .ok (.if_icmp .ne 8, 3) := by decide +kernel
theorem dX8_isCallItem_42 : decode cX8_isCallItem 42 = .ok (.bipush 20, 2) := by decide +kernel
theorem dX8_isCallItem_44 : decode cX8_isCallItem 44 = .ok (.goto 5, 3) := by decide +kernel
theorem dX8_isCallItem_47 : decode cX8_isCallItem 47 = .ok (.bipush 9, 2) := by decide +kernel
theorem dX8_isCallItem_49 : decode cX8_isCallItem 49 = .ok (.istore_n 3, 1) := by decide +kernel
theorem dX8_isCallItem_50 : decode cX8_isCallItem 50 = .ok (.aload_n 0, 1) := by decide +kernel
theorem dX8_isCallItem_51 : decode cX8_isCallItem 51 = .ok (.iload_n 2, 1) := by decide +kernel
theorem dX8_isCallItem_52 : decode cX8_isCallItem 52 = .ok (.iconst 3, 1) := by decide +kernel
theorem dX8_isCallItem_53 : decode cX8_isCallItem 53 = .ok (.if_icmp .ne 7, 3) := by decide +kernel
theorem dX8_isCallItem_56 : decode cX8_isCallItem 56 = .ok (.iconst 1, 1) := by decide +kernel
theorem dX8_isCallItem_57 : decode cX8_isCallItem 57 = .ok (.goto 4, 3) := by decide +kernel
theorem dX8_isCallItem_60 : decode cX8_isCallItem 60 = .ok (.iconst 0, 1) := by decide +kernel
theorem dX8_isCallItem_61 : decode cX8_isCallItem 61 = .ok (.iload_n 3, 1) := by decide +kernel
theorem dX8_isCallItem_62 : decode cX8_isCallItem 62 = .ok (.invokevirtual 88, 3) := by decide +kernel
theorem dX8_isCallItem_65 : decode cX8_isCallItem 65 = .ok (.ifCond .eq 23, 3) := by decide +kernel
theorem dX8_isCallItem_68 : decode cX8_isCallItem 68 = .ok (.iload_n 2, 1) := by decide +kernel
theorem dX8_isCallItem_69 : decode cX8_isCallItem 69 = .ok (.iconst 2, 1) := by decide +kernel
theorem dX8_isCallItem_70 : decode cX8_isCallItem 70 = .ok (.if_icmp .ne 20, 3) := by decide +kernel
theorem dX8_isCallItem_73 : decode cX8_isCallItem 73 = .ok (.aload_n 0, 1) := by decide +kernel
theorem dX8_isCallItem_74 : decode cX8_isCallItem 74 = .ok (.getfield 76, 3) := by decide +kernel
theorem dX8_isCallItem_77 : decode cX8_isCallItem 77 = .ok (.aload_n 0, 1) := by decide +kernel
theorem dX8_isCallItem_78 : decode cX8_isCallItem 78 = .ok (.getfield 16, 3) := by decide +kernel
theorem dX8_isCallItem_81 : decode cX8_isCallItem 81 = .ok (.iload_n 1, 1) := by decide +kernel
theorem dX8_isCallItem_82 : decode cX8_isCallItem 82 = .ok (.iconst 1, 1) := by decide +kernel
theorem dX8_isCallItem_83 : decode cX8_isCallItem 83 = .ok (.iadd, 1) := by decide +kernel
theorem dX8_isCallItem_84 : decode cX8_isCallItem 84 = .ok (.iaload, 1) := by decide +kernel
theorem dX8_isCallItem_85 : decode cX8_isCallItem 85 = .ok (.if_icmp .ne 5, 3) := by decide +kernel
theorem dX8_isCallItem_88 : decode cX8_isCallItem 88 = .ok (.iconst 0, 1) := by decide +kernel
theorem dX8_isCallItem_89 : decode cX8_isCallItem 89 = .ok (.ireturn, 1) := by decide +kernel
theorem dX8_isCallItem_90 : decode cX8_isCallItem 90 = .ok (.aload_n 0, 1) := by decide +kernel
theorem dX8_isCallItem_91 : decode cX8_isCallItem 91 = .ok (.getfield 16, 3) := by decide +kernel
theorem dX8_isCallItem_94 : decode cX8_isCallItem 94 = .ok (.iload_n 1, 1) := by decide +kernel
theorem dX8_isCallItem_95 : decode cX8_isCallItem 95 = .ok (.iload_n 2, 1) := by decide +kernel
theorem dX8_isCallItem_96 : decode cX8_isCallItem 96 = .ok (.iadd, 1) := by decide +kernel
theorem dX8_isCallItem_97 : decode cX8_isCallItem 97 = .ok (.aload_n 0, 1) := by decide +kernel
theorem dX8_isCallItem_98 : decode cX8_isCallItem 98 = .ok (.getfield 76, 3) := by decide +kernel
theorem dX8_isCallItem_101 : decode cX8_isCallItem 101 = .ok (.iastore, 1) := by decide +kernel
theorem dX8_isCallItem_102 : decode cX8_isCallItem 102 = .ok (.iinc 2 1, 3) := by decide +kernel
theorem dX8_isCallItem_105 : decode cX8_isCallItem 105 = .ok (.goto (-96), 3) := by decide +kernel
theorem dX8_isCallItem_108 : decode cX8_isCallItem 108 = .ok (.aload_n 0, 1) := by decide +kernel
theorem dX8_isCallItem_109 : decode cX8_isCallItem 109 = .ok (.dup, 1) := by decide +kernel
theorem dX8_isCallItem_110 : decode cX8_isCallItem 110 = .ok (.getfield 96, 3) := by decide +kernel
theorem dX8_isCallItem_113 : decode cX8_isCallItem 113 = .ok (.iconst 1, 1) := by decide +kernel
theorem dX8_isCallItem_114 : decode cX8_isCallItem 114 = .ok (.iadd, 1) := by decide +kernel
theorem dX8_isCallItem_115 : decode cX8_isCallItem 115 = .ok (.putfield 96, 3) := by decide +kernel
theorem dX8_isCallItem_118 : decode cX8_isCallItem 118 = .ok (.aload_n 0, 1) := by decide +kernel
theorem dX8_isCallItem_119 : decode cX8_isCallItem 119 = .ok (.invokevirtual 92, 3) := by decide +kernel
theorem dX8_isCallItem_122 : decode cX8_isCallItem 122 = .ok (.ireturn, 1) := by decide +kernel
theorem dX8_isItem_0 : decode cX8_isItem 0 = .ok (.aload_n 0, 1) := by decide +kernel
theorem dX8_isItem_1 : decode cX8_isItem 1 = .ok (.getfield 79, 3) := by decide +kernel
theorem dX8_isItem_4 : decode cX8_isItem 4 = .ok (.bipush 108, 2) := by decide +kernel
theorem dX8_isItem_6 : decode cX8_isItem 6 = .ok (.if_icmp .ne 35, 3) := by decide +kernel
theorem dX8_isItem_9 : decode cX8_isItem 9 = .ok (.aload_n 0, 1) := by decide +kernel
theorem dX8_isItem_10 : decode cX8_isItem 10 = .ok (.getfield 99, 3) := by decide +kernel
theorem dX8_isItem_13 : decode cX8_isItem 13 = .ok (.ifCond .ne 28, 3) := by decide +kernel
theorem dX8_isItem_16 : decode cX8_isItem 16 = .ok (.aload_n 0, 1) := by decide +kernel
theorem dX8_isItem_17 : decode cX8_isItem 17 = .ok (.iconst 2, 1) := by decide +kernel
theorem dX8_isItem_18 : decode cX8_isItem 18 = .ok (.bipush 6, 2) := by decide +kernel
theorem dX8_isItem_20 : decode cX8_isItem 20 = .ok (.invokevirtual 88, 3) := by decide +kernel
theorem dX8_isItem_23 : decode cX8_isItem 23 = .ok (.ifCond .ne 5, 3) := by decide +kernel
theorem dX8_isItem_26 : decode cX8_isItem 26 = .ok (.iconst 0, 1) := by decide +kernel
theorem dX8_isItem_27 : decode cX8_isItem 27 = .ok (.ireturn, 1) := by decide +kernel
theorem dX8_isItem_28 : decode cX8_isItem 28 = .ok (.aload_n 0, 1) := by decide +kernel
theorem dX8_isItem_29 : decode cX8_isItem 29 = .ok (.aload_n 0, 1) := by decide +kernel
theorem dX8_isItem_30 : decode cX8_isItem 30 = .ok (.getfield 76, 3) := by decide +kernel
theorem dX8_isItem_33 : decode cX8_isItem 33 = .ok (.putfield 85, 3) := by decide +kernel
theorem dX8_isItem_36 : decode cX8_isItem 36 = .ok (.aload_n 0, 1) := by decide +kernel
theorem dX8_isItem_37 : decode cX8_isItem 37 = .ok (.invokevirtual 92, 3) := by decide +kernel
theorem dX8_isItem_40 : decode cX8_isItem 40 = .ok (.ireturn, 1) := by decide +kernel
theorem dX8_isItem_41 : decode cX8_isItem 41 = .ok (.aload_n 0, 1) := by decide +kernel
theorem dX8_isItem_42 : decode cX8_isItem 42 = .ok (.getfield 79, 3) := by decide +kernel
theorem dX8_isItem_45 : decode cX8_isItem 45 = .ok (.bipush 120, 2) := by decide +kernel
theorem dX8_isItem_47 : decode cX8_isItem 47 = .ok (.if_icmp .ne 39, 3) := by decide +kernel
theorem dX8_isItem_50 : decode cX8_isItem 50 = .ok (.aload_n 0, 1) := by decide +kernel
theorem dX8_isItem_51 : decode cX8_isItem 51 = .ok (.getfield 102, 3) := by decide +kernel
theorem dX8_isItem_54 : decode cX8_isItem 54 = .ok (.ifCond .ne 32, 3) := by decide +kernel
theorem dX8_isItem_57 : decode cX8_isItem 57 = .ok (.aload_n 0, 1) := by decide +kernel
theorem dX8_isItem_58 : decode cX8_isItem 58 = .ok (.iconst 1, 1) := by decide +kernel
theorem dX8_isItem_59 : decode cX8_isItem 59 = .ok (.putfield 102, 3) := by decide +kernel
theorem dX8_isItem_62 : decode cX8_isItem 62 = .ok (.aload_n 0, 1) := by decide +kernel
theorem dX8_isItem_63 : decode cX8_isItem 63 = .ok (.iconst 1, 1) := by decide +kernel
theorem dX8_isItem_64 : decode cX8_isItem 64 = .ok (.iconst 4, 1) := by decide +kernel
theorem dX8_isItem_65 : decode cX8_isItem 65 = .ok (.invokevirtual 88, 3) := by decide +kernel
theorem dX8_isItem_68 : decode cX8_isItem 68 = .ok (.ifCond .ne 5, 3) := by decide +kernel
theorem dX8_isItem_71 : decode cX8_isItem 71 = .ok (.iconst 0, 1) := by decide +kernel
theorem dX8_isItem_72 : decode cX8_isItem 72 = .ok (.ireturn, 1) := by decide +kernel
theorem dX8_isItem_73 : decode cX8_isItem 73 = .ok (.aload_n 0, 1) := by decide +kernel
theorem dX8_isItem_74 : decode cX8_isItem 74 = .ok (.aload_n 0, 1) := by decide +kernel
theorem dX8_isItem_75 : decode cX8_isItem 75 = .ok (.getfield 76, 3) := by decide +kernel
theorem dX8_isItem_78 : decode cX8_isItem 78 = .ok (.putfield 106, 3) := by decide +kernel
theorem dX8_isItem_81 : decode cX8_isItem 81 = .ok (.aload_n 0, 1) := by decide +kernel
theorem dX8_isItem_82 : decode cX8_isItem 82 = .ok (.invokevirtual 92, 3) := by decide +kernel
theorem dX8_isItem_85 : decode cX8_isItem 85 = .ok (.ireturn, 1) := by decide +kernel
theorem dX8_isItem_86 : decode cX8_isItem 86 = .ok (.aload_n 0, 1) := by decide +kernel
theorem dX8_isItem_87 : decode cX8_isItem 87 = .ok (.getfield 79, 3) := by decide +kernel
theorem dX8_isItem_90 : decode cX8_isItem 90 = .ok (.bipush 104, 2) := by decide +kernel
theorem dX8_isItem_92 : decode cX8_isItem 92 = .ok (.if_icmp .ne 8, 3) := by decide +kernel
theorem dX8_isItem_95 : decode cX8_isItem 95 = .ok (.aload_n 0, 1) := by decide +kernel
theorem dX8_isItem_96 : decode cX8_isItem 96 = .ok (.invokevirtual 109, 3) := by decide +kernel
theorem dX8_isItem_99 : decode cX8_isItem 99 = .ok (.ireturn, 1) := by decide +kernel
theorem dX8_isItem_100 : decode cX8_isItem 100 = .ok (.aload_n 0, 1) := by decide +kernel
theorem dX8_isItem_101 : decode cX8_isItem 101 = .ok (.getfield 79, 3) := by decide +kernel
theorem dX8_isItem_104 : decode cX8_isItem 104 = .ok (.bipush 99, 2) := by decide +kernel
theorem dX8_isItem_106 : decode cX8_isItem 106 = .ok (.if_icmp .ne 23, 3) := by decide +kernel
theorem dX8_isItem_109 : decode cX8_isItem 109 = .ok (.aload_n 0, 1) := by decide +kernel
theorem dX8_isItem_110 : decode cX8_isItem 110 = .ok (.getfield 96, 3) := by decide +kernel
theorem dX8_isItem_113 : decode cX8_isItem 113 = .ok (.bipush 7, 2) := by decide +kernel
theorem dX8_isItem_115 : decode cX8_isItem 115 = .ok (.if_icmp .ge 14, 3) := by decide +kernel
theorem dX8_isItem_118 : decode cX8_isItem 118 = .ok (.aload_n 0, 1) := by decide +kernel
theorem dX8_isItem_119 : decode cX8_isItem 119 = .ok (.invokevirtual 112, 3) := by decide +kernel
theorem dX8_isItem_122 : decode cX8_isItem 122 = .ok (.ifCond .eq 7, 3) := by decide +kernel
theorem dX8_isItem_125 : decode cX8_isItem 125 = .ok (.iconst 1, 1) := by decide +kernel
theorem dX8_isItem_126 : decode cX8_isItem 126 = .ok (.goto 4, 3) := by decide +kernel
theorem dX8_isItem_129 : decode cX8_isItem 129 = .ok (.iconst 0, 1) := by decide +kernel
theorem dX8_isItem_130 : decode cX8_isItem 130 = .ok (.ireturn, 1) := by decide +kernel
theorem dX8_isRead_0 : decode cX8_isRead 0 = .ok (.aload_n 0, 1) := by decide +kernel
theorem dX8_isRead_1 : decode cX8_isRead 1 = .ok (.iconst 0, 1) := by decide +kernel
theorem dX8_isRead_2 : decode cX8_isRead 2 = .ok (.putfield 70, 3) := by decide +kernel
theorem dX8_isRead_5 : decode cX8_isRead 5 = .ok (.aload_n 0, 1) := by decide +kernel
theorem dX8_isRead_6 : decode cX8_isRead 6 = .ok (.iconst 0, 1) := by decide +kernel
theorem dX8_isRead_7 : decode cX8_isRead 7 = .ok (.putfield 99, 3) := by decide +kernel
theorem dX8_isRead_10 : decode cX8_isRead 10 = .ok (.aload_n 0, 1) := by decide +kernel
theorem dX8_isRead_11 : decode cX8_isRead 11 = .ok (.iconst 2, 1) := by decide +kernel
theorem dX8_isRead_12 : decode cX8_isRead 12 = .ok (.putfield 85, 3) := by decide +kernel
theorem dX8_isRead_15 : decode cX8_isRead 15 = .ok (.aload_n 0, 1) := by decide +kernel
theorem dX8_isRead_16 : decode cX8_isRead 16 = .ok (.iconst 1, 1) := by decide +kernel
theorem dX8_isRead_17 : decode cX8_isRead 17 = .ok (.putfield 106, 3) := by decide +kernel
theorem dX8_isRead_20 : decode cX8_isRead 20 = .ok (.aload_n 0, 1) := by decide +kernel
theorem dX8_isRead_21 : decode cX8_isRead 21 = .ok (.iconst 0, 1) := by decide +kernel
theorem dX8_isRead_22 : decode cX8_isRead 22 = .ok (.putfield 102, 3) := by decide +kernel
theorem dX8_isRead_25 : decode cX8_isRead 25 = .ok (.aload_n 0, 1) := by decide +kernel
theorem dX8_isRead_26 : decode cX8_isRead 26 = .ok (.iconst 0, 1) := by decide +kernel
theorem dX8_isRead_27 : decode cX8_isRead 27 = .ok (.putfield 96, 3) := by decide +kernel
theorem dX8_isRead_30 : decode cX8_isRead 30 = .ok (.iconst 0, 1) := by decide +kernel
theorem dX8_isRead_31 : decode cX8_isRead 31 = .ok (.istore_n 1, 1) := by decide +kernel
theorem dX8_isRead_32 : decode cX8_isRead 32 = .ok (.iload_n 1, 1) := by decide +kernel
theorem dX8_isRead_33 : decode cX8_isRead 33 = .ok (.bipush 6, 2) := by decide +kernel
theorem dX8_isRead_35 : decode cX8_isRead 35 = .ok (.if_icmp .ge 16, 3) := by decide +kernel
theorem dX8_isRead_38 : decode cX8_isRead 38 = .ok (.aload_n 0, 1) := by decide +kernel
theorem dX8_isRead_39 : decode cX8_isRead 39 = .ok (.getfield 13, 3) := by decide +kernel
theorem dX8_isRead_42 : decode cX8_isRead 42 = .ok (.iload_n 1, 1) := by decide +kernel
theorem dX8_isRead_43 : decode cX8_isRead 43 = .ok (.iload_n 1, 1) := by decide +kernel
theorem dX8_isRead_44 : decode cX8_isRead 44 = .ok (.iastore, 1) := by decide +kernel
theorem dX8_isRead_45 : decode cX8_isRead 45 = .ok (.iinc 1 1, 3) := by decide +kernel
theorem dX8_isRead_48 : decode cX8_isRead 48 = .ok (.goto (-16), 3) := by decide +kernel
theorem dX8_isRead_51 : decode cX8_isRead 51 = .ok (.aload_n 0, 1) := by decide +kernel
theorem dX8_isRead_52 : decode cX8_isRead 52 = .ok (.invokevirtual 82, 3) := by decide +kernel
theorem dX8_isRead_55 : decode cX8_isRead 55 = .ok (.aload_n 0, 1) := by decide +kernel
theorem dX8_isRead_56 : decode cX8_isRead 56 = .ok (.getfield 79, 3) := by decide +kernel
theorem dX8_isRead_59 : decode cX8_isRead 59 = .ok (.bipush (-2), 2) := by decide +kernel
theorem dX8_isRead_61 : decode cX8_isRead 61 = .ok (.if_icmp .eq 29, 3) := by decide +kernel
theorem dX8_isRead_64 : decode cX8_isRead 64 = .ok (.aload_n 0, 1) := by decide +kernel
theorem dX8_isRead_65 : decode cX8_isRead 65 = .ok (.invokevirtual 115, 3) := by decide +kernel
theorem dX8_isRead_68 : decode cX8_isRead 68 = .ok (.ifCond .ne 5, 3) := by decide +kernel
theorem dX8_isRead_71 : decode cX8_isRead 71 = .ok (.iconst 0, 1) := by decide +kernel
theorem dX8_isRead_72 : decode cX8_isRead 72 = .ok (.ireturn, 1) := by decide +kernel
theorem dX8_isRead_73 : decode cX8_isRead 73 = .ok (.aload_n 0, 1) := by decide +kernel
theorem dX8_isRead_74 : decode cX8_isRead 74 = .ok (.dup, 1) := by decide +kernel
theorem dX8_isRead_75 : decode cX8_isRead 75 = .ok (.getfield 99, 3) := by decide +kernel
theorem dX8_isRead_78 : decode cX8_isRead 78 = .ok (.iconst 1, 1) := by decide +kernel
theorem dX8_isRead_79 : decode cX8_isRead 79 = .ok (.iadd, 1) := by decide +kernel
theorem dX8_isRead_80 : decode cX8_isRead 80 = .ok (.putfield 99, 3) := by decide +kernel
theorem dX8_isRead_83 : decode cX8_isRead 83 = .ok (.aload_n 0, 1) := by decide +kernel
theorem dX8_isRead_84 : decode cX8_isRead 84 = .ok (.invokevirtual 82, 3) := by decide +kernel
theorem dX8_isRead_87 : decode cX8_isRead 87 = .ok (.goto (-32), 3) := by decide +kernel
theorem dX8_isRead_90 : decode cX8_isRead 90 = .ok (.iconst 1, 1) := by decide +kernel
theorem dX8_isRead_91 : decode cX8_isRead 91 = .ok (.ireturn, 1) := by decide +kernel
theorem dX8_board_0 : decode cX8_board 0 = .ok (.aload_n 0, 1) := by decide +kernel
theorem dX8_board_1 : decode cX8_board 1 = .ok (.invokevirtual 118, 3) := by decide +kernel
theorem dX8_board_4 : decode cX8_board 4 = .ok (.ifCond .ne 11, 3) := by decide +kernel
theorem dX8_board_7 : decode cX8_board 7 = .ok (.bipush (-10), 2) := by decide +kernel
theorem dX8_board_9 : decode cX8_board 9 = .ok (.aload_n 0, 1) := by decide +kernel
theorem dX8_board_10 : decode cX8_board 10 = .ok (.getfield 73, 3) := by decide +kernel
theorem dX8_board_13 : decode cX8_board 13 = .ok (.isub, 1) := by decide +kernel
theorem dX8_board_14 : decode cX8_board 14 = .ok (.ireturn, 1) := by decide +kernel
theorem dX8_board_15 : decode cX8_board 15 = .ok (.aload_n 0, 1) := by decide +kernel
theorem dX8_board_16 : decode cX8_board 16 = .ok (.aload_n 0, 1) := by decide +kernel
theorem dX8_board_17 : decode cX8_board 17 = .ok (.getfield 85, 3) := by decide +kernel
theorem dX8_board_20 : decode cX8_board 20 = .ok (.putfield 19, 3) := by decide +kernel
theorem dX8_board_23 : decode cX8_board 23 = .ok (.aload_n 0, 1) := by decide +kernel
theorem dX8_board_24 : decode cX8_board 24 = .ok (.aload_n 0, 1) := by decide +kernel
theorem dX8_board_25 : decode cX8_board 25 = .ok (.getfield 106, 3) := by decide +kernel
theorem dX8_board_28 : decode cX8_board 28 = .ok (.putfield 23, 3) := by decide +kernel
theorem dX8_board_31 : decode cX8_board 31 = .ok (.aload_n 0, 1) := by decide +kernel
theorem dX8_board_32 : decode cX8_board 32 = .ok (.aload_n 0, 1) := by decide +kernel
theorem dX8_board_33 : decode cX8_board 33 = .ok (.getfield 96, 3) := by decide +kernel
theorem dX8_board_36 : decode cX8_board 36 = .ok (.putfield 57, 3) := by decide +kernel
theorem dX8_board_39 : decode cX8_board 39 = .ok (.iconst 0, 1) := by decide +kernel
theorem dX8_board_40 : decode cX8_board 40 = .ok (.istore_n 1, 1) := by decide +kernel
theorem dX8_board_41 : decode cX8_board 41 = .ok (.iload_n 1, 1) := by decide +kernel
theorem dX8_board_42 : decode cX8_board 42 = .ok (.iconst 5, 1) := by decide +kernel
theorem dX8_board_43 : decode cX8_board 43 = .ok (.aload_n 0, 1) := by decide +kernel
theorem dX8_board_44 : decode cX8_board 44 = .ok (.getfield 57, 3) := by decide +kernel
theorem dX8_board_47 : decode cX8_board 47 = .ok (.imul, 1) := by decide +kernel
theorem dX8_board_48 : decode cX8_board 48 = .ok (.if_icmp .ge 21, 3) := by decide +kernel
theorem dX8_board_51 : decode cX8_board 51 = .ok (.aload_n 0, 1) := by decide +kernel
theorem dX8_board_52 : decode cX8_board 52 = .ok (.getfield 26, 3) := by decide +kernel
theorem dX8_board_55 : decode cX8_board 55 = .ok (.iload_n 1, 1) := by decide +kernel
theorem dX8_board_56 : decode cX8_board 56 = .ok (.aload_n 0, 1) := by decide +kernel
theorem dX8_board_57 : decode cX8_board 57 = .ok (.getfield 16, 3) := by decide +kernel
theorem dX8_board_60 : decode cX8_board 60 = .ok (.iload_n 1, 1) := by decide +kernel
theorem dX8_board_61 : decode cX8_board 61 = .ok (.iaload, 1) := by decide +kernel
theorem dX8_board_62 : decode cX8_board 62 = .ok (.iastore, 1) := by decide +kernel
theorem dX8_board_63 : decode cX8_board 63 = .ok (.iinc 1 1, 3) := by decide +kernel
theorem dX8_board_66 : decode cX8_board 66 = .ok (.goto (-25), 3) := by decide +kernel
theorem dX8_board_69 : decode cX8_board 69 = .ok (.aload_n 0, 1) := by decide +kernel
theorem dX8_board_70 : decode cX8_board 70 = .ok (.iconst 0, 1) := by decide +kernel
theorem dX8_board_71 : decode cX8_board 71 = .ok (.putfield 67, 3) := by decide +kernel
theorem dX8_board_74 : decode cX8_board 74 = .ok (.aload_n 0, 1) := by decide +kernel
theorem dX8_board_75 : decode cX8_board 75 = .ok (.invokevirtual 54, 3) := by decide +kernel
theorem dX8_board_78 : decode cX8_board 78 = .ok (.aload_n 0, 1) := by decide +kernel
theorem dX8_board_79 : decode cX8_board 79 = .ok (.getfield 99, 3) := by decide +kernel
theorem dX8_board_82 : decode cX8_board 82 = .ok (.ireturn, 1) := by decide +kernel
theorem dX8_fromOf_0 : decode cX8_fromOf 0 = .ok (.aload_n 0, 1) := by decide +kernel
theorem dX8_fromOf_1 : decode cX8_fromOf 1 = .ok (.getfield 26, 3) := by decide +kernel
theorem dX8_fromOf_4 : decode cX8_fromOf 4 = .ok (.iconst 5, 1) := by decide +kernel
theorem dX8_fromOf_5 : decode cX8_fromOf 5 = .ok (.iload_n 1, 1) := by decide +kernel
theorem dX8_fromOf_6 : decode cX8_fromOf 6 = .ok (.imul, 1) := by decide +kernel
theorem dX8_fromOf_7 : decode cX8_fromOf 7 = .ok (.iconst 1, 1) := by decide +kernel
theorem dX8_fromOf_8 : decode cX8_fromOf 8 = .ok (.iadd, 1) := by decide +kernel
theorem dX8_fromOf_9 : decode cX8_fromOf 9 = .ok (.iaload, 1) := by decide +kernel
theorem dX8_fromOf_10 : decode cX8_fromOf 10 = .ok (.ireturn, 1) := by decide +kernel
theorem dX8_toOf_0 : decode cX8_toOf 0 = .ok (.aload_n 0, 1) := by decide +kernel
theorem dX8_toOf_1 : decode cX8_toOf 1 = .ok (.getfield 26, 3) := by decide +kernel
theorem dX8_toOf_4 : decode cX8_toOf 4 = .ok (.iconst 5, 1) := by decide +kernel
theorem dX8_toOf_5 : decode cX8_toOf 5 = .ok (.iload_n 1, 1) := by decide +kernel
theorem dX8_toOf_6 : decode cX8_toOf 6 = .ok (.imul, 1) := by decide +kernel
theorem dX8_toOf_7 : decode cX8_toOf 7 = .ok (.iconst 2, 1) := by decide +kernel
theorem dX8_toOf_8 : decode cX8_toOf 8 = .ok (.iadd, 1) := by decide +kernel
theorem dX8_toOf_9 : decode cX8_toOf 9 = .ok (.iaload, 1) := by decide +kernel
theorem dX8_toOf_10 : decode cX8_toOf 10 = .ok (.ireturn, 1) := by decide +kernel
theorem dX8_isOn_0 : decode cX8_isOn 0 = .ok (.aload_n 0, 1) := by decide +kernel
theorem dX8_isOn_1 : decode cX8_isOn 1 = .ok (.iload_n 1, 1) := by decide +kernel
theorem dX8_isOn_2 : decode cX8_isOn 2 = .ok (.invokevirtual 121, 3) := by decide +kernel
theorem dX8_isOn_5 : decode cX8_isOn 5 = .ok (.iload_n 2, 1) := by decide +kernel
theorem dX8_isOn_6 : decode cX8_isOn 6 = .ok (.if_icmp .eq 12, 3) := by decide +kernel
theorem dX8_isOn_9 : decode cX8_isOn 9 = .ok (.aload_n 0, 1) := by decide +kernel
theorem dX8_isOn_10 : decode cX8_isOn 10 = .ok (.iload_n 1, 1) := by decide +kernel
theorem dX8_isOn_11 : decode cX8_isOn 11 = .ok (.invokevirtual 125, 3) := by decide +kernel
theorem dX8_isOn_14 : decode cX8_isOn 14 = .ok (.iload_n 2, 1) := by decide +kernel
theorem dX8_isOn_15 : decode cX8_isOn 15 = .ok (.if_icmp .ne 7, 3) := by decide +kernel
theorem dX8_isOn_18 : decode cX8_isOn 18 = .ok (.iconst 1, 1) := by decide +kernel
theorem dX8_isOn_19 : decode cX8_isOn 19 = .ok (.goto 4, 3) := by decide +kernel
theorem dX8_isOn_22 : decode cX8_isOn 22 = .ok (.iconst 0, 1) := by decide +kernel
theorem dX8_isOn_23 : decode cX8_isOn 23 = .ok (.ireturn, 1) := by decide +kernel
theorem dX8_talkerOn_0 : decode cX8_talkerOn 0 = .ok (.bipush (-9), 2) := by decide +kernel
theorem dX8_talkerOn_2 : decode cX8_talkerOn 2 = .ok (.istore_n 3, 1) := by decide +kernel
theorem dX8_talkerOn_3 : decode cX8_talkerOn 3 = .ok (.iconst 0, 1) := by decide +kernel
theorem dX8_talkerOn_4 : decode cX8_talkerOn 4 = .ok (.istore 4, 2) := by decide +kernel
theorem dX8_talkerOn_6 : decode cX8_talkerOn 6 = .ok (.iload 4, 2) := by decide +kernel
theorem dX8_talkerOn_8 : decode cX8_talkerOn 8 = .ok (.aload_n 0, 1) := by decide +kernel
theorem dX8_talkerOn_9 : decode cX8_talkerOn 9 = .ok (.getfield 57, 3) := by decide +kernel
theorem dX8_talkerOn_12 : decode cX8_talkerOn 12 = .ok (.if_icmp .ge 37, 3) := by decide +kernel
theorem dX8_talkerOn_15 : decode cX8_talkerOn 15 = .ok (.aload_n 1, 1) := by decide +kernel
theorem dX8_talkerOn_16 : decode cX8_talkerOn 16 = .ok (.bipush 7, 2) := by decide +kernel
theorem dX8_talkerOn_18 : decode cX8_talkerOn 18 = .ok (.iload 4, 2) := by decide +kernel
theorem dX8_talkerOn_20 : decode cX8_talkerOn 20 = .ok (.iadd, 1) := by decide +kernel
theorem dX8_talkerOn_21 : decode cX8_talkerOn 21 = .ok (.iaload, 1) := by decide +kernel
theorem dX8_talkerOn_22 : decode cX8_talkerOn 22 = .ok (.iconst 2, 1) := by decide +kernel
theorem dX8_talkerOn_23 : decode cX8_talkerOn 23 = .ok (.if_icmp .ne 18, 3) := by decide +kernel
theorem dX8_talkerOn_26 : decode cX8_talkerOn 26 = .ok (.aload_n 0, 1) := by decide +kernel
theorem dX8_talkerOn_27 : decode cX8_talkerOn 27 = .ok (.iload 4, 2) := by decide +kernel
theorem dX8_talkerOn_29 : decode cX8_talkerOn 29 = .ok (.iload_n 2, 1) := by decide +kernel
theorem dX8_talkerOn_30 : decode cX8_talkerOn 30 = .ok (.invokevirtual 128, 3) := by decide +kernel
theorem dX8_talkerOn_33 : decode cX8_talkerOn 33 = .ok (.ifCond .eq 8, 3) := by decide +kernel
theorem dX8_talkerOn_36 : decode cX8_talkerOn 36 = .ok (.iload 4, 2) := by decide +kernel
theorem dX8_talkerOn_38 : decode cX8_talkerOn 38 = .ok (.goto 4, 3) := by decide +kernel
theorem dX8_talkerOn_41 : decode cX8_talkerOn 41 = .ok (.iload_n 3, 1) := by decide +kernel
theorem dX8_talkerOn_42 : decode cX8_talkerOn 42 = .ok (.istore_n 3, 1) := by decide +kernel
theorem dX8_talkerOn_43 : decode cX8_talkerOn 43 = .ok (.iinc 4 1, 3) := by decide +kernel
theorem dX8_talkerOn_46 : decode cX8_talkerOn 46 = .ok (.goto (-40), 3) := by decide +kernel
theorem dX8_talkerOn_49 : decode cX8_talkerOn 49 = .ok (.iload_n 3, 1) := by decide +kernel
theorem dX8_talkerOn_50 : decode cX8_talkerOn 50 = .ok (.ireturn, 1) := by decide +kernel
theorem dX8_setOf_0 : decode cX8_setOf 0 = .ok (.iconst 0, 1) := by decide +kernel
theorem dX8_setOf_1 : decode cX8_setOf 1 = .ok (.istore_n 3, 1) := by decide +kernel
theorem dX8_setOf_2 : decode cX8_setOf 2 = .ok (.iconst 0, 1) := by decide +kernel
theorem dX8_setOf_3 : decode cX8_setOf 3 = .ok (.istore 4, 2) := by decide +kernel
theorem dX8_setOf_5 : decode cX8_setOf 5 = .ok (.iload 4, 2) := by decide +kernel
theorem dX8_setOf_7 : decode cX8_setOf 7 = .ok (.aload_n 0, 1) := by decide +kernel
theorem dX8_setOf_8 : decode cX8_setOf 8 = .ok (.getfield 57, 3) := by decide +kernel
theorem dX8_setOf_11 : decode cX8_setOf 11 = .ok (.if_icmp .ge 31, 3) := by decide +kernel
theorem dX8_setOf_14 : decode cX8_setOf 14 = .ok (.iload_n 3, 1) := by decide +kernel
theorem dX8_setOf_15 : decode cX8_setOf 15 = .ok (.aload_n 1, 1) := by decide +kernel
theorem dX8_setOf_16 : decode cX8_setOf 16 = .ok (.bipush 7, 2) := by decide +kernel
theorem dX8_setOf_18 : decode cX8_setOf 18 = .ok (.iload 4, 2) := by decide +kernel
theorem dX8_setOf_20 : decode cX8_setOf 20 = .ok (.iadd, 1) := by decide +kernel
theorem dX8_setOf_21 : decode cX8_setOf 21 = .ok (.iaload, 1) := by decide +kernel
theorem dX8_setOf_22 : decode cX8_setOf 22 = .ok (.iload_n 2, 1) := by decide +kernel
theorem dX8_setOf_23 : decode cX8_setOf 23 = .ok (.if_icmp .ne 10, 3) := by decide +kernel
theorem dX8_setOf_26 : decode cX8_setOf 26 = .ok (.iconst 1, 1) := by decide +kernel
theorem dX8_setOf_27 : decode cX8_setOf 27 = .ok (.iload 4, 2) := by decide +kernel
theorem dX8_setOf_29 : decode cX8_setOf 29 = .ok (.ishl, 1) := by decide +kernel
theorem dX8_setOf_30 : decode cX8_setOf 30 = .ok (.goto 4, 3) := by decide +kernel
theorem dX8_setOf_33 : decode cX8_setOf 33 = .ok (.iconst 0, 1) := by decide +kernel
theorem dX8_setOf_34 : decode cX8_setOf 34 = .ok (.ior, 1) := by decide +kernel
theorem dX8_setOf_35 : decode cX8_setOf 35 = .ok (.istore_n 3, 1) := by decide +kernel
theorem dX8_setOf_36 : decode cX8_setOf 36 = .ok (.iinc 4 1, 3) := by decide +kernel
theorem dX8_setOf_39 : decode cX8_setOf 39 = .ok (.goto (-34), 3) := by decide +kernel
theorem dX8_setOf_42 : decode cX8_setOf 42 = .ok (.iload_n 3, 1) := by decide +kernel
theorem dX8_setOf_43 : decode cX8_setOf 43 = .ok (.ireturn, 1) := by decide +kernel
theorem dX8_bits_0 : decode cX8_bits 0 = .ok (.iconst 0, 1) := by decide +kernel
theorem dX8_bits_1 : decode cX8_bits 1 = .ok (.istore_n 1, 1) := by decide +kernel
theorem dX8_bits_2 : decode cX8_bits 2 = .ok (.iconst 0, 1) := by decide +kernel
theorem dX8_bits_3 : decode cX8_bits 3 = .ok (.istore_n 2, 1) := by decide +kernel
theorem dX8_bits_4 : decode cX8_bits 4 = .ok (.iload_n 2, 1) := by decide +kernel
theorem dX8_bits_5 : decode cX8_bits 5 = .ok (.bipush 7, 2) := by decide +kernel
theorem dX8_bits_7 : decode cX8_bits 7 = .ok (.if_icmp .ge 17, 3) := by decide +kernel
theorem dX8_bits_10 : decode cX8_bits 10 = .ok (.iload_n 1, 1) := by decide +kernel
theorem dX8_bits_11 : decode cX8_bits 11 = .ok (.iload_n 0, 1) := by decide +kernel
theorem dX8_bits_12 : decode cX8_bits 12 = .ok (.iload_n 2, 1) := by decide +kernel
theorem dX8_bits_13 : decode cX8_bits 13 = .ok (.ishr, 1) := by decide +kernel
theorem dX8_bits_14 : decode cX8_bits 14 = .ok (.iconst 1, 1) := by decide +kernel
theorem dX8_bits_15 : decode cX8_bits 15 = .ok (.iand, 1) := by decide +kernel
theorem dX8_bits_16 : decode cX8_bits 16 = .ok (.iadd, 1) := by decide +kernel
theorem dX8_bits_17 : decode cX8_bits 17 = .ok (.istore_n 1, 1) := by decide +kernel
theorem dX8_bits_18 : decode cX8_bits 18 = .ok (.iinc 2 1, 3) := by decide +kernel
theorem dX8_bits_21 : decode cX8_bits 21 = .ok (.goto (-17), 3) := by decide +kernel
theorem dX8_bits_24 : decode cX8_bits 24 = .ok (.iload_n 1, 1) := by decide +kernel
theorem dX8_bits_25 : decode cX8_bits 25 = .ok (.ireturn, 1) := by decide +kernel
theorem dX8_freeCords_0 : decode cX8_freeCords 0 = .ok (.iload_n 2, 1) := by decide +kernel
theorem dX8_freeCords_1 : decode cX8_freeCords 1 = .ok (.aload_n 0, 1) := by decide +kernel
theorem dX8_freeCords_2 : decode cX8_freeCords 2 = .ok (.aload_n 1, 1) := by decide +kernel
theorem dX8_freeCords_3 : decode cX8_freeCords 3 = .ok (.iconst 2, 1) := by decide +kernel
theorem dX8_freeCords_4 : decode cX8_freeCords 4 = .ok (.invokevirtual 131, 3) := by decide +kernel
theorem dX8_freeCords_7 : decode cX8_freeCords 7 = .ok (.invokestatic 135, 3) := by decide +kernel
theorem dX8_freeCords_10 : decode cX8_freeCords 10 = .ok (.isub, 1) := by decide +kernel
theorem dX8_freeCords_11 : decode cX8_freeCords 11 = .ok (.ireturn, 1) := by decide +kernel
theorem dX8_areFree_0 : decode cX8_areFree 0 = .ok (.aload_n 0, 1) := by decide +kernel
theorem dX8_areFree_1 : decode cX8_areFree 1 = .ok (.aload_n 1, 1) := by decide +kernel
theorem dX8_areFree_2 : decode cX8_areFree 2 = .ok (.aload_n 0, 1) := by decide +kernel
theorem dX8_areFree_3 : decode cX8_areFree 3 = .ok (.iload_n 2, 1) := by decide +kernel
theorem dX8_areFree_4 : decode cX8_areFree 4 = .ok (.invokevirtual 121, 3) := by decide +kernel
theorem dX8_areFree_7 : decode cX8_areFree 7 = .ok (.invokevirtual 138, 3) := by decide +kernel
theorem dX8_areFree_10 : decode cX8_areFree 10 = .ok (.bipush (-9), 2) := by decide +kernel
theorem dX8_areFree_12 : decode cX8_areFree 12 = .ok (.if_icmp .ne 22, 3) := by decide +kernel
theorem dX8_areFree_15 : decode cX8_areFree 15 = .ok (.aload_n 0, 1) := by decide +kernel
theorem dX8_areFree_16 : decode cX8_areFree 16 = .ok (.aload_n 1, 1) := by decide +kernel
theorem dX8_areFree_17 : decode cX8_areFree 17 = .ok (.aload_n 0, 1) := by decide +kernel
theorem dX8_areFree_18 : decode cX8_areFree 18 = .ok (.iload_n 2, 1) := by decide +kernel
theorem dX8_areFree_19 : decode cX8_areFree 19 = .ok (.invokevirtual 125, 3) := by decide +kernel
theorem dX8_areFree_22 : decode cX8_areFree 22 = .ok (.invokevirtual 138, 3) := by decide +kernel
theorem dX8_areFree_25 : decode cX8_areFree 25 = .ok (.bipush (-9), 2) := by decide +kernel
theorem dX8_areFree_27 : decode cX8_areFree 27 = .ok (.if_icmp .ne 7, 3) := by decide +kernel
theorem dX8_areFree_30 : decode cX8_areFree 30 = .ok (.iconst 1, 1) := by decide +kernel
theorem dX8_areFree_31 : decode cX8_areFree 31 = .ok (.goto 4, 3) := by decide +kernel
theorem dX8_areFree_34 : decode cX8_areFree 34 = .ok (.iconst 0, 1) := by decide +kernel
theorem dX8_areFree_35 : decode cX8_areFree 35 = .ok (.ireturn, 1) := by decide +kernel
theorem dX8_canPlug_0 : decode cX8_canPlug 0 = .ok (.aload_n 1, 1) := by decide +kernel
theorem dX8_canPlug_1 : decode cX8_canPlug 1 = .ok (.bipush 7, 2) := by decide +kernel
theorem dX8_canPlug_3 : decode cX8_canPlug 3 = .ok (.iload_n 2, 1) := by decide +kernel
theorem dX8_canPlug_4 : decode cX8_canPlug 4 = .ok (.iadd, 1) := by decide +kernel
theorem dX8_canPlug_5 : decode cX8_canPlug 5 = .ok (.iaload, 1) := by decide +kernel
theorem dX8_canPlug_6 : decode cX8_canPlug 6 = .ok (.iconst 1, 1) := by decide +kernel
theorem dX8_canPlug_7 : decode cX8_canPlug 7 = .ok (.if_icmp .ne 25, 3) := by decide +kernel
theorem dX8_canPlug_10 : decode cX8_canPlug 10 = .ok (.aload_n 0, 1) := by decide +kernel
theorem dX8_canPlug_11 : decode cX8_canPlug 11 = .ok (.aload_n 1, 1) := by decide +kernel
theorem dX8_canPlug_12 : decode cX8_canPlug 12 = .ok (.iload_n 3, 1) := by decide +kernel
theorem dX8_canPlug_13 : decode cX8_canPlug 13 = .ok (.invokevirtual 141, 3) := by decide +kernel
theorem dX8_canPlug_16 : decode cX8_canPlug 16 = .ok (.ifCond .le 16, 3) := by decide +kernel
theorem dX8_canPlug_19 : decode cX8_canPlug 19 = .ok (.aload_n 0, 1) := by decide +kernel
theorem dX8_canPlug_20 : decode cX8_canPlug 20 = .ok (.aload_n 1, 1) := by decide +kernel
theorem dX8_canPlug_21 : decode cX8_canPlug 21 = .ok (.iload_n 2, 1) := by decide +kernel
theorem dX8_canPlug_22 : decode cX8_canPlug 22 = .ok (.invokevirtual 144, 3) := by decide +kernel
theorem dX8_canPlug_25 : decode cX8_canPlug 25 = .ok (.ifCond .eq 7, 3) := by decide +kernel
theorem dX8_canPlug_28 : decode cX8_canPlug 28 = .ok (.iconst 1, 1) := by decide +kernel
theorem dX8_canPlug_29 : decode cX8_canPlug 29 = .ok (.goto 4, 3) := by decide +kernel
theorem dX8_canPlug_32 : decode cX8_canPlug 32 = .ok (.iconst 0, 1) := by decide +kernel
theorem dX8_canPlug_33 : decode cX8_canPlug 33 = .ok (.ireturn, 1) := by decide +kernel
theorem dX8_plug_0 : decode cX8_plug 0 = .ok (.aload_n 1, 1) := by decide +kernel
theorem dX8_plug_1 : decode cX8_plug 1 = .ok (.bipush 7, 2) := by decide +kernel
theorem dX8_plug_3 : decode cX8_plug 3 = .ok (.iload_n 2, 1) := by decide +kernel
theorem dX8_plug_4 : decode cX8_plug 4 = .ok (.iadd, 1) := by decide +kernel
theorem dX8_plug_5 : decode cX8_plug 5 = .ok (.iconst 2, 1) := by decide +kernel
theorem dX8_plug_6 : decode cX8_plug 6 = .ok (.iastore, 1) := by decide +kernel
theorem dX8_plug_7 : decode cX8_plug 7 = .ok (.aload_n 1, 1) := by decide +kernel
theorem dX8_plug_8 : decode cX8_plug 8 = .ok (.bipush 14, 2) := by decide +kernel
theorem dX8_plug_10 : decode cX8_plug 10 = .ok (.iload_n 2, 1) := by decide +kernel
theorem dX8_plug_11 : decode cX8_plug 11 = .ok (.iadd, 1) := by decide +kernel
theorem dX8_plug_12 : decode cX8_plug 12 = .ok (.aload_n 0, 1) := by decide +kernel
theorem dX8_plug_13 : decode cX8_plug 13 = .ok (.getfield 26, 3) := by decide +kernel
theorem dX8_plug_16 : decode cX8_plug 16 = .ok (.iconst 5, 1) := by decide +kernel
theorem dX8_plug_17 : decode cX8_plug 17 = .ok (.iload_n 2, 1) := by decide +kernel
theorem dX8_plug_18 : decode cX8_plug 18 = .ok (.imul, 1) := by decide +kernel
theorem dX8_plug_19 : decode cX8_plug 19 = .ok (.iconst 3, 1) := by decide +kernel
theorem dX8_plug_20 : decode cX8_plug 20 = .ok (.iadd, 1) := by decide +kernel
theorem dX8_plug_21 : decode cX8_plug 21 = .ok (.iaload, 1) := by decide +kernel
theorem dX8_plug_22 : decode cX8_plug 22 = .ok (.iastore, 1) := by decide +kernel
theorem dX8_plug_23 : decode cX8_plug 23 = .ok (.return_, 1) := by decide +kernel
theorem dX8_isBetween_0 : decode cX8_isBetween 0 = .ok (.iload_n 1, 1) := by decide +kernel
theorem dX8_isBetween_1 : decode cX8_isBetween 1 = .ok (.iload_n 2, 1) := by decide +kernel
theorem dX8_isBetween_2 : decode cX8_isBetween 2 = .ok (.if_icmp .ge 21, 3) := by decide +kernel
theorem dX8_isBetween_5 : decode cX8_isBetween 5 = .ok (.iload_n 0, 1) := by decide +kernel
theorem dX8_isBetween_6 : decode cX8_isBetween 6 = .ok (.iload_n 1, 1) := by decide +kernel
theorem dX8_isBetween_7 : decode cX8_isBetween 7 = .ok (.if_icmp .le 12, 3) := by decide +kernel
theorem dX8_isBetween_10 : decode cX8_isBetween 10 = .ok (.iload_n 0, 1) := by decide +kernel
theorem dX8_isBetween_11 : decode cX8_isBetween 11 = .ok (.iload_n 2, 1) := by decide +kernel
theorem dX8_isBetween_12 : decode cX8_isBetween 12 = .ok (.if_icmp .ge 7, 3) := by decide +kernel
theorem dX8_isBetween_15 : decode cX8_isBetween 15 = .ok (.iconst 1, 1) := by decide +kernel
theorem dX8_isBetween_16 : decode cX8_isBetween 16 = .ok (.goto 22, 3) := by decide +kernel
theorem dX8_isBetween_19 : decode cX8_isBetween 19 = .ok (.iconst 0, 1) := by decide +kernel
theorem dX8_isBetween_20 : decode cX8_isBetween 20 = .ok (.goto 18, 3) := by decide +kernel
theorem dX8_isBetween_23 : decode cX8_isBetween 23 = .ok (.iload_n 0, 1) := by decide +kernel
theorem dX8_isBetween_24 : decode cX8_isBetween 24 = .ok (.iload_n 2, 1) := by decide +kernel
theorem dX8_isBetween_25 : decode cX8_isBetween 25 = .ok (.if_icmp .le 12, 3) := by decide +kernel
theorem dX8_isBetween_28 : decode cX8_isBetween 28 = .ok (.iload_n 0, 1) := by decide +kernel
theorem dX8_isBetween_29 : decode cX8_isBetween 29 = .ok (.iload_n 1, 1) := by decide +kernel
theorem dX8_isBetween_30 : decode cX8_isBetween 30 = .ok (.if_icmp .ge 7, 3) := by decide +kernel
theorem dX8_isBetween_33 : decode cX8_isBetween 33 = .ok (.iconst 1, 1) := by decide +kernel
theorem dX8_isBetween_34 : decode cX8_isBetween 34 = .ok (.goto 4, 3) := by decide +kernel
theorem dX8_isBetween_37 : decode cX8_isBetween 37 = .ok (.iconst 0, 1) := by decide +kernel
theorem dX8_isBetween_38 : decode cX8_isBetween 38 = .ok (.ireturn, 1) := by decide +kernel
theorem dX8_holeOf_0 : decode cX8_holeOf 0 = .ok (.aload_n 0, 1) := by decide +kernel
theorem dX8_holeOf_1 : decode cX8_holeOf 1 = .ok (.getfield 29, 3) := by decide +kernel
theorem dX8_holeOf_4 : decode cX8_holeOf 4 = .ok (.iconst 1, 1) := by decide +kernel
theorem dX8_holeOf_5 : decode cX8_holeOf 5 = .ok (.iload_n 1, 1) := by decide +kernel
theorem dX8_holeOf_6 : decode cX8_holeOf 6 = .ok (.iadd, 1) := by decide +kernel
theorem dX8_holeOf_7 : decode cX8_holeOf 7 = .ok (.iaload, 1) := by decide +kernel
theorem dX8_holeOf_8 : decode cX8_holeOf 8 = .ok (.ireturn, 1) := by decide +kernel
theorem dX8_cross_0 : decode cX8_cross 0 = .ok (.aload_n 0, 1) := by decide +kernel
theorem dX8_cross_1 : decode cX8_cross 1 = .ok (.iload_n 2, 1) := by decide +kernel
theorem dX8_cross_2 : decode cX8_cross 2 = .ok (.aload_n 0, 1) := by decide +kernel
theorem dX8_cross_3 : decode cX8_cross 3 = .ok (.iload_n 1, 1) := by decide +kernel
theorem dX8_cross_4 : decode cX8_cross 4 = .ok (.invokevirtual 121, 3) := by decide +kernel
theorem dX8_cross_7 : decode cX8_cross 7 = .ok (.invokevirtual 128, 3) := by decide +kernel
theorem dX8_cross_10 : decode cX8_cross 10 = .ok (.ifCond .ne 16, 3) := by decide +kernel
theorem dX8_cross_13 : decode cX8_cross 13 = .ok (.aload_n 0, 1) := by decide +kernel
theorem dX8_cross_14 : decode cX8_cross 14 = .ok (.iload_n 2, 1) := by decide +kernel
theorem dX8_cross_15 : decode cX8_cross 15 = .ok (.aload_n 0, 1) := by decide +kernel
theorem dX8_cross_16 : decode cX8_cross 16 = .ok (.iload_n 1, 1) := by decide +kernel
theorem dX8_cross_17 : decode cX8_cross 17 = .ok (.invokevirtual 125, 3) := by decide +kernel
theorem dX8_cross_20 : decode cX8_cross 20 = .ok (.invokevirtual 128, 3) := by decide +kernel
theorem dX8_cross_23 : decode cX8_cross 23 = .ok (.ifCond .eq 5, 3) := by decide +kernel
theorem dX8_cross_26 : decode cX8_cross 26 = .ok (.iconst 0, 1) := by decide +kernel
theorem dX8_cross_27 : decode cX8_cross 27 = .ok (.ireturn, 1) := by decide +kernel
theorem dX8_cross_28 : decode cX8_cross 28 = .ok (.aload_n 0, 1) := by decide +kernel
theorem dX8_cross_29 : decode cX8_cross 29 = .ok (.aload_n 0, 1) := by decide +kernel
theorem dX8_cross_30 : decode cX8_cross 30 = .ok (.iload_n 1, 1) := by decide +kernel
theorem dX8_cross_31 : decode cX8_cross 31 = .ok (.invokevirtual 121, 3) := by decide +kernel
theorem dX8_cross_34 : decode cX8_cross 34 = .ok (.invokevirtual 148, 3) := by decide +kernel
theorem dX8_cross_37 : decode cX8_cross 37 = .ok (.istore_n 3, 1) := by decide +kernel
theorem dX8_cross_38 : decode cX8_cross 38 = .ok (.aload_n 0, 1) := by decide +kernel
theorem dX8_cross_39 : decode cX8_cross 39 = .ok (.aload_n 0, 1) := by decide +kernel
theorem dX8_cross_40 : decode cX8_cross 40 = .ok (.iload_n 1, 1) := by decide +kernel
theorem dX8_cross_41 : decode cX8_cross 41 = .ok (.invokevirtual 125, 3) := by decide +kernel
theorem dX8_cross_44 : decode cX8_cross 44 = .ok (.invokevirtual 148, 3) := by decide +kernel
theorem dX8_cross_47 : decode cX8_cross 47 = .ok (.istore 4, 2) := by decide +kernel
theorem dX8_cross_49 : decode cX8_cross 49 = .ok (.aload_n 0, 1) := by decide +kernel
theorem dX8_cross_50 : decode cX8_cross 50 = .ok (.aload_n 0, 1) := by decide +kernel
theorem dX8_cross_51 : decode cX8_cross 51 = .ok (.iload_n 2, 1) := by decide +kernel
theorem dX8_cross_52 : decode cX8_cross 52 = .ok (.invokevirtual 121, 3) := by decide +kernel
theorem dX8_cross_55 : decode cX8_cross 55 = .ok (.invokevirtual 148, 3) := by decide +kernel
theorem dX8_cross_58 : decode cX8_cross 58 = .ok (.iload_n 3, 1) := by decide +kernel
theorem dX8_cross_59 : decode cX8_cross 59 = .ok (.iload 4, 2) := by decide +kernel
theorem dX8_cross_61 : decode cX8_cross 61 = .ok (.invokestatic 151, 3) := by decide +kernel
theorem dX8_cross_64 : decode cX8_cross 64 = .ok (.aload_n 0, 1) := by decide +kernel
theorem dX8_cross_65 : decode cX8_cross 65 = .ok (.aload_n 0, 1) := by decide +kernel
theorem dX8_cross_66 : decode cX8_cross 66 = .ok (.iload_n 2, 1) := by decide +kernel
theorem dX8_cross_67 : decode cX8_cross 67 = .ok (.invokevirtual 125, 3) := by decide +kernel
theorem dX8_cross_70 : decode cX8_cross 70 = .ok (.invokevirtual 148, 3) := by decide +kernel
theorem dX8_cross_73 : decode cX8_cross 73 = .ok (.iload_n 3, 1) := by decide +kernel
theorem dX8_cross_74 : decode cX8_cross 74 = .ok (.iload 4, 2) := by decide +kernel
theorem dX8_cross_76 : decode cX8_cross 76 = .ok (.invokestatic 151, 3) := by decide +kernel
theorem dX8_cross_79 : decode cX8_cross 79 = .ok (.if_icmp .eq 7, 3) := by decide +kernel
theorem dX8_cross_82 : decode cX8_cross 82 = .ok (.iconst 1, 1) := by decide +kernel
theorem dX8_cross_83 : decode cX8_cross 83 = .ok (.goto 4, 3) := by decide +kernel
theorem dX8_cross_86 : decode cX8_cross 86 = .ok (.iconst 0, 1) := by decide +kernel
theorem dX8_cross_87 : decode cX8_cross 87 = .ok (.ireturn, 1) := by decide +kernel
theorem dX8_crossed_0 : decode cX8_crossed 0 = .ok (.iconst 0, 1) := by decide +kernel
theorem dX8_crossed_1 : decode cX8_crossed 1 = .ok (.istore_n 1, 1) := by decide +kernel
theorem dX8_crossed_2 : decode cX8_crossed 2 = .ok (.iconst 0, 1) := by decide +kernel
theorem dX8_crossed_3 : decode cX8_crossed 3 = .ok (.istore_n 2, 1) := by decide +kernel
theorem dX8_crossed_4 : decode cX8_crossed 4 = .ok (.iload_n 2, 1) := by decide +kernel
theorem dX8_crossed_5 : decode cX8_crossed 5 = .ok (.aload_n 0, 1) := by decide +kernel
theorem dX8_crossed_6 : decode cX8_crossed 6 = .ok (.getfield 57, 3) := by decide +kernel
theorem dX8_crossed_9 : decode cX8_crossed 9 = .ok (.if_icmp .ge 65, 3) := by decide +kernel
theorem dX8_crossed_12 : decode cX8_crossed 12 = .ok (.iconst 0, 1) := by decide +kernel
theorem dX8_crossed_13 : decode cX8_crossed 13 = .ok (.istore_n 3, 1) := by decide +kernel
theorem dX8_crossed_14 : decode cX8_crossed 14 = .ok (.iload_n 3, 1) := by decide +kernel
theorem dX8_crossed_15 : decode cX8_crossed 15 = .ok (.iload_n 2, 1) := by decide +kernel
theorem dX8_crossed_16 : decode cX8_crossed 16 = .ok (.if_icmp .ge 52, 3) := by decide +kernel
theorem dX8_crossed_19 : decode cX8_crossed 19 = .ok (.iload_n 1, 1) := by decide +kernel
theorem dX8_crossed_20 : decode cX8_crossed 20 = .ok (.aload_n 0, 1) := by decide +kernel
theorem dX8_crossed_21 : decode cX8_crossed 21 = .ok (.getfield 29, 3) := by decide +kernel
theorem dX8_crossed_24 : decode cX8_crossed 24 = .ok (.bipush 7, 2) := by decide +kernel
theorem dX8_crossed_26 : decode cX8_crossed 26 = .ok (.iload_n 2, 1) := by decide +kernel
theorem dX8_crossed_27 : decode cX8_crossed 27 = .ok (.iadd, 1) := by decide +kernel
theorem dX8_crossed_28 : decode cX8_crossed 28 = .ok (.iaload, 1) := by decide +kernel
theorem dX8_crossed_29 : decode cX8_crossed 29 = .ok (.iconst 2, 1) := by decide +kernel
theorem dX8_crossed_30 : decode cX8_crossed 30 = .ok (.if_icmp .ne 29, 3) := by decide +kernel
theorem dX8_crossed_33 : decode cX8_crossed 33 = .ok (.aload_n 0, 1) := by decide +kernel
theorem dX8_crossed_34 : decode cX8_crossed 34 = .ok (.getfield 29, 3) := by decide +kernel
theorem dX8_crossed_37 : decode cX8_crossed 37 = .ok (.bipush 7, 2) := by decide +kernel
theorem dX8_crossed_39 : decode cX8_crossed 39 = .ok (.iload_n 3, 1) := by decide +kernel
theorem dX8_crossed_40 : decode cX8_crossed 40 = .ok (.iadd, 1) := by decide +kernel
theorem dX8_crossed_41 : decode cX8_crossed 41 = .ok (.iaload, 1) := by decide +kernel
theorem dX8_crossed_42 : decode cX8_crossed 42 = .ok (.iconst 2, 1) := by decide +kernel
theorem dX8_crossed_43 : decode cX8_crossed 43 = .ok (.if_icmp .ne 16, 3) := by decide +kernel
theorem dX8_crossed_46 : decode cX8_crossed 46 = .ok (.aload_n 0, 1) := by decide +kernel
theorem dX8_crossed_47 : decode cX8_crossed 47 = .ok (.iload_n 2, 1) := by decide +kernel
theorem dX8_crossed_48 : decode cX8_crossed 48 = .ok (.iload_n 3, 1) := by decide +kernel
theorem dX8_crossed_49 : decode cX8_crossed 49 = .ok (.invokevirtual 154, 3) := by decide +kernel
theorem dX8_crossed_52 : decode cX8_crossed 52 = .ok (.ifCond .eq 7, 3) := by decide +kernel
theorem dX8_crossed_55 : decode cX8_crossed 55 = .ok (.iconst 1, 1) := by decide +kernel
theorem dX8_crossed_56 : decode cX8_crossed 56 = .ok (.goto 4, 3) := by decide +kernel
theorem dX8_crossed_59 : decode cX8_crossed 59 = .ok (.iconst 0, 1) := by decide +kernel
theorem dX8_crossed_60 : decode cX8_crossed 60 = .ok (.iadd, 1) := by decide +kernel
theorem dX8_crossed_61 : decode cX8_crossed 61 = .ok (.istore_n 1, 1) := by decide +kernel
theorem dX8_crossed_62 : decode cX8_crossed 62 = .ok (.iinc 3 1, 3) := by decide +kernel
theorem dX8_crossed_65 : decode cX8_crossed 65 = .ok (.goto (-51), 3) := by decide +kernel
theorem dX8_crossed_68 : decode cX8_crossed 68 = .ok (.iinc 2 1, 3) := by decide +kernel
theorem dX8_crossed_71 : decode cX8_crossed 71 = .ok (.goto (-67), 3) := by decide +kernel
theorem dX8_crossed_74 : decode cX8_crossed 74 = .ok (.iload_n 1, 1) := by decide +kernel
theorem dX8_crossed_75 : decode cX8_crossed 75 = .ok (.ireturn, 1) := by decide +kernel
theorem dX8_line_0 : decode cX8_line 0 = .ok (.aload_n 0, 1) := by decide +kernel
theorem dX8_line_1 : decode cX8_line 1 = .ok (.iload_n 1, 1) := by decide +kernel
theorem dX8_line_2 : decode cX8_line 2 = .ok (.invokevirtual 157, 3) := by decide +kernel
theorem dX8_line_5 : decode cX8_line 5 = .ok (.ifCond .eq 12, 3) := by decide +kernel
theorem dX8_line_8 : decode cX8_line 8 = .ok (.iload_n 2, 1) := by decide +kernel
theorem dX8_line_9 : decode cX8_line 9 = .ok (.iconst 0, 1) := by decide +kernel
theorem dX8_line_10 : decode cX8_line 10 = .ok (.iconst 1, 1) := by decide +kernel
theorem dX8_line_11 : decode cX8_line 11 = .ok (.invokestatic 63, 3) := by decide +kernel
theorem dX8_line_14 : decode cX8_line 14 = .ok (.ifCond .ne 5, 3) := by decide +kernel
theorem dX8_line_17 : decode cX8_line 17 = .ok (.iconst (-1), 1) := by decide +kernel
theorem dX8_line_18 : decode cX8_line 18 = .ok (.ireturn, 1) := by decide +kernel
theorem dX8_line_19 : decode cX8_line 19 = .ok (.iload_n 2, 1) := by decide +kernel
theorem dX8_line_20 : decode cX8_line 20 = .ok (.ifCond .ne 11, 3) := by decide +kernel
theorem dX8_line_23 : decode cX8_line 23 = .ok (.aload_n 0, 1) := by decide +kernel
theorem dX8_line_24 : decode cX8_line 24 = .ok (.iload_n 1, 1) := by decide +kernel
theorem dX8_line_25 : decode cX8_line 25 = .ok (.invokevirtual 148, 3) := by decide +kernel
theorem dX8_line_28 : decode cX8_line 28 = .ok (.goto 12, 3) := by decide +kernel
theorem dX8_line_31 : decode cX8_line 31 = .ok (.aload_n 0, 1) := by decide +kernel
theorem dX8_line_32 : decode cX8_line 32 = .ok (.aload_n 0, 1) := by decide +kernel
theorem dX8_line_33 : decode cX8_line 33 = .ok (.getfield 29, 3) := by decide +kernel
theorem dX8_line_36 : decode cX8_line 36 = .ok (.iload_n 1, 1) := by decide +kernel
theorem dX8_line_37 : decode cX8_line 37 = .ok (.invokevirtual 138, 3) := by decide +kernel
theorem dX8_line_40 : decode cX8_line 40 = .ok (.ireturn, 1) := by decide +kernel
theorem dX8_call_0 : decode cX8_call 0 = .ok (.aload_n 0, 1) := by decide +kernel
theorem dX8_call_1 : decode cX8_call 1 = .ok (.iload_n 1, 1) := by decide +kernel
theorem dX8_call_2 : decode cX8_call 2 = .ok (.invokevirtual 161, 3) := by decide +kernel
theorem dX8_call_5 : decode cX8_call 5 = .ok (.ifCond .ne 5, 3) := by decide +kernel
theorem dX8_call_8 : decode cX8_call 8 = .ok (.iconst (-1), 1) := by decide +kernel
theorem dX8_call_9 : decode cX8_call 9 = .ok (.ireturn, 1) := by decide +kernel
theorem dX8_call_10 : decode cX8_call 10 = .ok (.iload_n 2, 1) := by decide +kernel
theorem dX8_call_11 : decode cX8_call 11 = .ok (.tableswitch 103 0 7 #[45, 45, 45, 45, 45, 56, 66, 93], 45) := by decide +kernel
theorem dX8_call_56 : decode cX8_call 56 = .ok (.aload_n 0, 1) := by decide +kernel
theorem dX8_call_57 : decode cX8_call 57 = .ok (.getfield 26, 3) := by decide +kernel
theorem dX8_call_60 : decode cX8_call 60 = .ok (.iconst 5, 1) := by decide +kernel
theorem dX8_call_61 : decode cX8_call 61 = .ok (.iload_n 1, 1) := by decide +kernel
theorem dX8_call_62 : decode cX8_call 62 = .ok (.imul, 1) := by decide +kernel
theorem dX8_call_63 : decode cX8_call 63 = .ok (.iload_n 2, 1) := by decide +kernel
theorem dX8_call_64 : decode cX8_call 64 = .ok (.iadd, 1) := by decide +kernel
theorem dX8_call_65 : decode cX8_call 65 = .ok (.iaload, 1) := by decide +kernel
theorem dX8_call_66 : decode cX8_call 66 = .ok (.ireturn, 1) := by decide +kernel
theorem dX8_call_67 : decode cX8_call 67 = .ok (.aload_n 0, 1) := by decide +kernel
theorem dX8_call_68 : decode cX8_call 68 = .ok (.getfield 29, 3) := by decide +kernel
theorem dX8_call_71 : decode cX8_call 71 = .ok (.bipush 7, 2) := by decide +kernel
theorem dX8_call_73 : decode cX8_call 73 = .ok (.iload_n 1, 1) := by decide +kernel
theorem dX8_call_74 : decode cX8_call 74 = .ok (.iadd, 1) := by decide +kernel
theorem dX8_call_75 : decode cX8_call 75 = .ok (.iaload, 1) := by decide +kernel
theorem dX8_call_76 : decode cX8_call 76 = .ok (.ireturn, 1) := by decide +kernel
theorem dX8_call_77 : decode cX8_call 77 = .ok (.aload_n 0, 1) := by decide +kernel
theorem dX8_call_78 : decode cX8_call 78 = .ok (.getfield 29, 3) := by decide +kernel
theorem dX8_call_81 : decode cX8_call 81 = .ok (.bipush 7, 2) := by decide +kernel
theorem dX8_call_83 : decode cX8_call 83 = .ok (.iload_n 1, 1) := by decide +kernel
theorem dX8_call_84 : decode cX8_call 84 = .ok (.iadd, 1) := by decide +kernel
theorem dX8_call_85 : decode cX8_call 85 = .ok (.iaload, 1) := by decide +kernel
theorem dX8_call_86 : decode cX8_call 86 = .ok (.iconst 2, 1) := by decide +kernel
theorem dX8_call_87 : decode cX8_call 87 = .ok (.if_icmp .ne 15, 3) := by decide +kernel
theorem dX8_call_90 : decode cX8_call 90 = .ok (.aload_n 0, 1) := by decide +kernel
theorem dX8_call_91 : decode cX8_call 91 = .ok (.getfield 29, 3) := by decide +kernel
theorem dX8_call_94 : decode cX8_call 94 = .ok (.bipush 14, 2) := by decide +kernel
theorem dX8_call_96 : decode cX8_call 96 = .ok (.iload_n 1, 1) := by decide +kernel
theorem dX8_call_97 : decode cX8_call 97 = .ok (.iadd, 1) := by decide +kernel
theorem dX8_call_98 : decode cX8_call 98 = .ok (.iaload, 1) := by decide +kernel
theorem dX8_call_99 : decode cX8_call 99 = .ok (.goto 4, 3) := by decide +kernel
theorem dX8_call_102 : decode cX8_call 102 = .ok (.iconst 0, 1) := by decide +kernel
theorem dX8_call_103 : decode cX8_call 103 = .ok (.ireturn, 1) := by decide +kernel
theorem dX8_call_104 : decode cX8_call 104 = .ok (.aload_n 0, 1) := by decide +kernel
theorem dX8_call_105 : decode cX8_call 105 = .ok (.getfield 29, 3) := by decide +kernel
theorem dX8_call_108 : decode cX8_call 108 = .ok (.bipush 21, 2) := by decide +kernel
theorem dX8_call_110 : decode cX8_call 110 = .ok (.iload_n 1, 1) := by decide +kernel
theorem dX8_call_111 : decode cX8_call 111 = .ok (.iadd, 1) := by decide +kernel
theorem dX8_call_112 : decode cX8_call 112 = .ok (.iaload, 1) := by decide +kernel
theorem dX8_call_113 : decode cX8_call 113 = .ok (.ireturn, 1) := by decide +kernel
theorem dX8_call_114 : decode cX8_call 114 = .ok (.iconst (-1), 1) := by decide +kernel
theorem dX8_call_115 : decode cX8_call 115 = .ok (.ireturn, 1) := by decide +kernel
theorem dX8_now_0 : decode cX8_now 0 = .ok (.iload_n 1, 1) := by decide +kernel
theorem dX8_now_1 : decode cX8_now 1 = .ok (.tableswitch 89 0 5 #[39, 46, 56, 66, 79, 84], 39) := by decide +kernel
theorem dX8_now_40 : decode cX8_now 40 = .ok (.aload_n 0, 1) := by decide +kernel
theorem dX8_now_41 : decode cX8_now 41 = .ok (.getfield 29, 3) := by decide +kernel
theorem dX8_now_44 : decode cX8_now 44 = .ok (.iconst 0, 1) := by decide +kernel
theorem dX8_now_45 : decode cX8_now 45 = .ok (.iaload, 1) := by decide +kernel
theorem dX8_now_46 : decode cX8_now 46 = .ok (.ireturn, 1) := by decide +kernel
theorem dX8_now_47 : decode cX8_now 47 = .ok (.aload_n 0, 1) := by decide +kernel
theorem dX8_now_48 : decode cX8_now 48 = .ok (.aload_n 0, 1) := by decide +kernel
theorem dX8_now_49 : decode cX8_now 49 = .ok (.getfield 29, 3) := by decide +kernel
theorem dX8_now_52 : decode cX8_now 52 = .ok (.iconst 1, 1) := by decide +kernel
theorem dX8_now_53 : decode cX8_now 53 = .ok (.invokevirtual 131, 3) := by decide +kernel
theorem dX8_now_56 : decode cX8_now 56 = .ok (.ireturn, 1) := by decide +kernel
theorem dX8_now_57 : decode cX8_now 57 = .ok (.aload_n 0, 1) := by decide +kernel
theorem dX8_now_58 : decode cX8_now 58 = .ok (.aload_n 0, 1) := by decide +kernel
theorem dX8_now_59 : decode cX8_now 59 = .ok (.getfield 29, 3) := by decide +kernel
theorem dX8_now_62 : decode cX8_now 62 = .ok (.iconst 2, 1) := by decide +kernel
theorem dX8_now_63 : decode cX8_now 63 = .ok (.invokevirtual 131, 3) := by decide +kernel
theorem dX8_now_66 : decode cX8_now 66 = .ok (.ireturn, 1) := by decide +kernel
theorem dX8_now_67 : decode cX8_now 67 = .ok (.aload_n 0, 1) := by decide +kernel
theorem dX8_now_68 : decode cX8_now 68 = .ok (.aload_n 0, 1) := by decide +kernel
theorem dX8_now_69 : decode cX8_now 69 = .ok (.getfield 29, 3) := by decide +kernel
theorem dX8_now_72 : decode cX8_now 72 = .ok (.aload_n 0, 1) := by decide +kernel
theorem dX8_now_73 : decode cX8_now 73 = .ok (.getfield 23, 3) := by decide +kernel
theorem dX8_now_76 : decode cX8_now 76 = .ok (.invokevirtual 141, 3) := by decide +kernel
theorem dX8_now_79 : decode cX8_now 79 = .ok (.ireturn, 1) := by decide +kernel
theorem dX8_now_80 : decode cX8_now 80 = .ok (.aload_n 0, 1) := by decide +kernel
theorem dX8_now_81 : decode cX8_now 81 = .ok (.invokevirtual 164, 3) := by decide +kernel
theorem dX8_now_84 : decode cX8_now 84 = .ok (.ireturn, 1) := by decide +kernel
theorem dX8_now_85 : decode cX8_now 85 = .ok (.aload_n 0, 1) := by decide +kernel
theorem dX8_now_86 : decode cX8_now 86 = .ok (.getfield 60, 3) := by decide +kernel
theorem dX8_now_89 : decode cX8_now 89 = .ok (.ireturn, 1) := by decide +kernel
theorem dX8_now_90 : decode cX8_now 90 = .ok (.iconst (-1), 1) := by decide +kernel
theorem dX8_now_91 : decode cX8_now 91 = .ok (.ireturn, 1) := by decide +kernel
theorem dX8_copy_0 : decode cX8_copy 0 = .ok (.iconst 0, 1) := by decide +kernel
theorem dX8_copy_1 : decode cX8_copy 1 = .ok (.istore 4, 2) := by decide +kernel
theorem dX8_copy_3 : decode cX8_copy 3 = .ok (.iload 4, 2) := by decide +kernel
theorem dX8_copy_5 : decode cX8_copy 5 = .ok (.bipush 28, 2) := by decide +kernel
theorem dX8_copy_7 : decode cX8_copy 7 = .ok (.if_icmp .ge 21, 3) := by decide +kernel
theorem dX8_copy_10 : decode cX8_copy 10 = .ok (.aload_n 2, 1) := by decide +kernel
theorem dX8_copy_11 : decode cX8_copy 11 = .ok (.iload_n 3, 1) := by decide +kernel
theorem dX8_copy_12 : decode cX8_copy 12 = .ok (.iload 4, 2) := by decide +kernel
theorem dX8_copy_14 : decode cX8_copy 14 = .ok (.iadd, 1) := by decide +kernel
theorem dX8_copy_15 : decode cX8_copy 15 = .ok (.aload_n 0, 1) := by decide +kernel
theorem dX8_copy_16 : decode cX8_copy 16 = .ok (.iload_n 1, 1) := by decide +kernel
theorem dX8_copy_17 : decode cX8_copy 17 = .ok (.iload 4, 2) := by decide +kernel
theorem dX8_copy_19 : decode cX8_copy 19 = .ok (.iadd, 1) := by decide +kernel
theorem dX8_copy_20 : decode cX8_copy 20 = .ok (.iaload, 1) := by decide +kernel
theorem dX8_copy_21 : decode cX8_copy 21 = .ok (.iastore, 1) := by decide +kernel
theorem dX8_copy_22 : decode cX8_copy 22 = .ok (.iinc 4 1, 3) := by decide +kernel
theorem dX8_copy_25 : decode cX8_copy 25 = .ok (.goto (-22), 3) := by decide +kernel
theorem dX8_copy_28 : decode cX8_copy 28 = .ok (.return_, 1) := by decide +kernel
theorem dX8_note_0 : decode cX8_note 0 = .ok (.aload_n 0, 1) := by decide +kernel
theorem dX8_note_1 : decode cX8_note 1 = .ok (.getfield 60, 3) := by decide +kernel
theorem dX8_note_4 : decode cX8_note 4 = .ok (.bipush 10, 2) := by decide +kernel
theorem dX8_note_6 : decode cX8_note 6 = .ok (.if_icmp .ne 43, 3) := by decide +kernel
theorem dX8_note_9 : decode cX8_note 9 = .ok (.iconst 0, 1) := by decide +kernel
theorem dX8_note_10 : decode cX8_note 10 = .ok (.istore_n 1, 1) := by decide +kernel
theorem dX8_note_11 : decode cX8_note 11 = .ok (.iload_n 1, 1) := by decide +kernel
theorem dX8_note_12 : decode cX8_note 12 = .ok (.sipush 252, 3) := by decide +kernel
theorem dX8_note_15 : decode cX8_note 15 = .ok (.if_icmp .ge 24, 3) := by decide +kernel
theorem dX8_note_18 : decode cX8_note 18 = .ok (.aload_n 0, 1) := by decide +kernel
theorem dX8_note_19 : decode cX8_note 19 = .ok (.getfield 42, 3) := by decide +kernel
theorem dX8_note_22 : decode cX8_note 22 = .ok (.iload_n 1, 1) := by decide +kernel
theorem dX8_note_23 : decode cX8_note 23 = .ok (.aload_n 0, 1) := by decide +kernel
theorem dX8_note_24 : decode cX8_note 24 = .ok (.getfield 42, 3) := by decide +kernel
theorem dX8_note_27 : decode cX8_note 27 = .ok (.iload_n 1, 1) := by decide +kernel
theorem dX8_note_28 : decode cX8_note 28 = .ok (.bipush 28, 2) := by decide +kernel
theorem dX8_note_30 : decode cX8_note 30 = .ok (.iadd, 1) := by decide +kernel
theorem dX8_note_31 : decode cX8_note 31 = .ok (.iaload, 1) := by decide +kernel
theorem dX8_note_32 : decode cX8_note 32 = .ok (.iastore, 1) := by decide +kernel
theorem dX8_note_33 : decode cX8_note 33 = .ok (.iinc 1 1, 3) := by decide +kernel
theorem dX8_note_36 : decode cX8_note 36 = .ok (.goto (-25), 3) := by decide +kernel
theorem dX8_note_39 : decode cX8_note 39 = .ok (.aload_n 0, 1) := by decide +kernel
theorem dX8_note_40 : decode cX8_note 40 = .ok (.dup, 1) := by decide +kernel
theorem dX8_note_41 : decode cX8_note 41 = .ok (.getfield 60, 3) := by decide +kernel
theorem dX8_note_44 : decode cX8_note 44 = .ok (.iconst 1, 1) := by decide +kernel
theorem dX8_note_45 : decode cX8_note 45 = .ok (.isub, 1) := by decide +kernel
theorem dX8_note_46 : decode cX8_note 46 = .ok (.putfield 60, 3) := by decide +kernel
theorem dX8_note_49 : decode cX8_note 49 = .ok (.aload_n 0, 1) := by decide +kernel
theorem dX8_note_50 : decode cX8_note 50 = .ok (.getfield 29, 3) := by decide +kernel
theorem dX8_note_53 : decode cX8_note 53 = .ok (.iconst 0, 1) := by decide +kernel
theorem dX8_note_54 : decode cX8_note 54 = .ok (.aload_n 0, 1) := by decide +kernel
theorem dX8_note_55 : decode cX8_note 55 = .ok (.getfield 42, 3) := by decide +kernel
theorem dX8_note_58 : decode cX8_note 58 = .ok (.bipush 28, 2) := by decide +kernel
theorem dX8_note_60 : decode cX8_note 60 = .ok (.aload_n 0, 1) := by decide +kernel
theorem dX8_note_61 : decode cX8_note 61 = .ok (.getfield 60, 3) := by decide +kernel
theorem dX8_note_64 : decode cX8_note 64 = .ok (.imul, 1) := by decide +kernel
theorem dX8_note_65 : decode cX8_note 65 = .ok (.invokestatic 168, 3) := by decide +kernel
theorem dX8_note_68 : decode cX8_note 68 = .ok (.aload_n 0, 1) := by decide +kernel
theorem dX8_note_69 : decode cX8_note 69 = .ok (.dup, 1) := by decide +kernel
theorem dX8_note_70 : decode cX8_note 70 = .ok (.getfield 60, 3) := by decide +kernel
theorem dX8_note_73 : decode cX8_note 73 = .ok (.iconst 1, 1) := by decide +kernel
theorem dX8_note_74 : decode cX8_note 74 = .ok (.iadd, 1) := by decide +kernel
theorem dX8_note_75 : decode cX8_note 75 = .ok (.putfield 60, 3) := by decide +kernel
theorem dX8_note_78 : decode cX8_note 78 = .ok (.return_, 1) := by decide +kernel
theorem dX8_pass_0 : decode cX8_pass 0 = .ok (.iconst 0, 1) := by decide +kernel
theorem dX8_pass_1 : decode cX8_pass 1 = .ok (.istore_n 2, 1) := by decide +kernel
theorem dX8_pass_2 : decode cX8_pass 2 = .ok (.iload_n 2, 1) := by decide +kernel
theorem dX8_pass_3 : decode cX8_pass 3 = .ok (.aload_n 0, 1) := by decide +kernel
theorem dX8_pass_4 : decode cX8_pass 4 = .ok (.getfield 57, 3) := by decide +kernel
theorem dX8_pass_7 : decode cX8_pass 7 = .ok (.if_icmp .ge 76, 3) := by decide +kernel
theorem dX8_pass_10 : decode cX8_pass 10 = .ok (.aload_n 1, 1) := by decide +kernel
theorem dX8_pass_11 : decode cX8_pass 11 = .ok (.bipush 7, 2) := by decide +kernel
theorem dX8_pass_13 : decode cX8_pass 13 = .ok (.iload_n 2, 1) := by decide +kernel
theorem dX8_pass_14 : decode cX8_pass 14 = .ok (.iadd, 1) := by decide +kernel
theorem dX8_pass_15 : decode cX8_pass 15 = .ok (.iaload, 1) := by decide +kernel
theorem dX8_pass_16 : decode cX8_pass 16 = .ok (.iconst 2, 1) := by decide +kernel
theorem dX8_pass_17 : decode cX8_pass 17 = .ok (.if_icmp .ne 36, 3) := by decide +kernel
theorem dX8_pass_20 : decode cX8_pass 20 = .ok (.aload_n 1, 1) := by decide +kernel
theorem dX8_pass_21 : decode cX8_pass 21 = .ok (.bipush 14, 2) := by decide +kernel
theorem dX8_pass_23 : decode cX8_pass 23 = .ok (.iload_n 2, 1) := by decide +kernel
theorem dX8_pass_24 : decode cX8_pass 24 = .ok (.iadd, 1) := by decide +kernel
theorem dX8_pass_25 : decode cX8_pass 25 = .ok (.dup2, 1) := by decide +kernel
theorem dX8_pass_26 : decode cX8_pass 26 = .ok (.iaload, 1) := by decide +kernel
theorem dX8_pass_27 : decode cX8_pass 27 = .ok (.iconst 1, 1) := by decide +kernel
theorem dX8_pass_28 : decode cX8_pass 28 = .ok (.isub, 1) := by decide +kernel
theorem dX8_pass_29 : decode cX8_pass 29 = .ok (.iastore, 1) := by decide +kernel
theorem dX8_pass_30 : decode cX8_pass 30 = .ok (.aload_n 1, 1) := by decide +kernel
theorem dX8_pass_31 : decode cX8_pass 31 = .ok (.bipush 7, 2) := by decide +kernel
theorem dX8_pass_33 : decode cX8_pass 33 = .ok (.iload_n 2, 1) := by decide +kernel
theorem dX8_pass_34 : decode cX8_pass 34 = .ok (.iadd, 1) := by decide +kernel
theorem dX8_pass_35 : decode cX8_pass 35 = .ok (.aload_n 1, 1) := by decide +kernel
theorem dX8_pass_36 : decode cX8_pass 36 = .ok (.bipush 14, 2) := by decide +kernel
theorem dX8_pass_38 : decode cX8_pass 38 = .ok (.iload_n 2, 1) := by decide +kernel
theorem dX8_pass_39 : decode cX8_pass 39 = .ok (.iadd, 1) := by decide +kernel
theorem dX8_pass_40 : decode cX8_pass 40 = .ok (.iaload, 1) := by decide +kernel
theorem dX8_pass_41 : decode cX8_pass 41 = .ok (.ifCond .ne 7, 3) := by decide +kernel
theorem dX8_pass_44 : decode cX8_pass 44 = .ok (.iconst 3, 1) := by decide +kernel
theorem dX8_pass_45 : decode cX8_pass 45 = .ok (.goto 4, 3) := by decide +kernel
theorem dX8_pass_48 : decode cX8_pass 48 = .ok (.iconst 2, 1) := by decide +kernel
theorem dX8_pass_49 : decode cX8_pass 49 = .ok (.iastore, 1) := by decide +kernel
theorem dX8_pass_50 : decode cX8_pass 50 = .ok (.goto 27, 3) := by decide +kernel
theorem dX8_pass_53 : decode cX8_pass 53 = .ok (.aload_n 1, 1) := by decide +kernel
theorem dX8_pass_54 : decode cX8_pass 54 = .ok (.bipush 21, 2) := by decide +kernel
theorem dX8_pass_56 : decode cX8_pass 56 = .ok (.iload_n 2, 1) := by decide +kernel
theorem dX8_pass_57 : decode cX8_pass 57 = .ok (.iadd, 1) := by decide +kernel
theorem dX8_pass_58 : decode cX8_pass 58 = .ok (.dup2, 1) := by decide +kernel
theorem dX8_pass_59 : decode cX8_pass 59 = .ok (.iaload, 1) := by decide +kernel
theorem dX8_pass_60 : decode cX8_pass 60 = .ok (.aload_n 1, 1) := by decide +kernel
theorem dX8_pass_61 : decode cX8_pass 61 = .ok (.bipush 7, 2) := by decide +kernel
theorem dX8_pass_63 : decode cX8_pass 63 = .ok (.iload_n 2, 1) := by decide +kernel
theorem dX8_pass_64 : decode cX8_pass 64 = .ok (.iadd, 1) := by decide +kernel
theorem dX8_pass_65 : decode cX8_pass 65 = .ok (.iaload, 1) := by decide +kernel
theorem dX8_pass_66 : decode cX8_pass 66 = .ok (.iconst 1, 1) := by decide +kernel
theorem dX8_pass_67 : decode cX8_pass 67 = .ok (.if_icmp .ne 7, 3) := by decide +kernel
theorem dX8_pass_70 : decode cX8_pass 70 = .ok (.iconst 1, 1) := by decide +kernel
theorem dX8_pass_71 : decode cX8_pass 71 = .ok (.goto 4, 3) := by decide +kernel
theorem dX8_pass_74 : decode cX8_pass 74 = .ok (.iconst 0, 1) := by decide +kernel
theorem dX8_pass_75 : decode cX8_pass 75 = .ok (.iadd, 1) := by decide +kernel
theorem dX8_pass_76 : decode cX8_pass 76 = .ok (.iastore, 1) := by decide +kernel
theorem dX8_pass_77 : decode cX8_pass 77 = .ok (.iinc 2 1, 3) := by decide +kernel
theorem dX8_pass_80 : decode cX8_pass 80 = .ok (.goto (-78), 3) := by decide +kernel
theorem dX8_pass_83 : decode cX8_pass 83 = .ok (.aload_n 1, 1) := by decide +kernel
theorem dX8_pass_84 : decode cX8_pass 84 = .ok (.iconst 0, 1) := by decide +kernel
theorem dX8_pass_85 : decode cX8_pass 85 = .ok (.dup2, 1) := by decide +kernel
theorem dX8_pass_86 : decode cX8_pass 86 = .ok (.iaload, 1) := by decide +kernel
theorem dX8_pass_87 : decode cX8_pass 87 = .ok (.iconst 1, 1) := by decide +kernel
theorem dX8_pass_88 : decode cX8_pass 88 = .ok (.iadd, 1) := by decide +kernel
theorem dX8_pass_89 : decode cX8_pass 89 = .ok (.iastore, 1) := by decide +kernel
theorem dX8_pass_90 : decode cX8_pass 90 = .ok (.iconst 0, 1) := by decide +kernel
theorem dX8_pass_91 : decode cX8_pass 91 = .ok (.istore_n 2, 1) := by decide +kernel
theorem dX8_pass_92 : decode cX8_pass 92 = .ok (.iload_n 2, 1) := by decide +kernel
theorem dX8_pass_93 : decode cX8_pass 93 = .ok (.aload_n 0, 1) := by decide +kernel
theorem dX8_pass_94 : decode cX8_pass 94 = .ok (.getfield 57, 3) := by decide +kernel
theorem dX8_pass_97 : decode cX8_pass 97 = .ok (.if_icmp .ge 48, 3) := by decide +kernel
theorem dX8_pass_100 : decode cX8_pass 100 = .ok (.aload_n 1, 1) := by decide +kernel
theorem dX8_pass_101 : decode cX8_pass 101 = .ok (.bipush 7, 2) := by decide +kernel
theorem dX8_pass_103 : decode cX8_pass 103 = .ok (.iload_n 2, 1) := by decide +kernel
theorem dX8_pass_104 : decode cX8_pass 104 = .ok (.iadd, 1) := by decide +kernel
theorem dX8_pass_105 : decode cX8_pass 105 = .ok (.aload_n 1, 1) := by decide +kernel
theorem dX8_pass_106 : decode cX8_pass 106 = .ok (.bipush 7, 2) := by decide +kernel
theorem dX8_pass_108 : decode cX8_pass 108 = .ok (.iload_n 2, 1) := by decide +kernel
theorem dX8_pass_109 : decode cX8_pass 109 = .ok (.iadd, 1) := by decide +kernel
theorem dX8_pass_110 : decode cX8_pass 110 = .ok (.iaload, 1) := by decide +kernel
theorem dX8_pass_111 : decode cX8_pass 111 = .ok (.ifCond .ne 21, 3) := by decide +kernel
theorem dX8_pass_114 : decode cX8_pass 114 = .ok (.aload_n 0, 1) := by decide +kernel
theorem dX8_pass_115 : decode cX8_pass 115 = .ok (.getfield 26, 3) := by decide +kernel
theorem dX8_pass_118 : decode cX8_pass 118 = .ok (.iconst 5, 1) := by decide +kernel
theorem dX8_pass_119 : decode cX8_pass 119 = .ok (.iload_n 2, 1) := by decide +kernel
theorem dX8_pass_120 : decode cX8_pass 120 = .ok (.imul, 1) := by decide +kernel
theorem dX8_pass_121 : decode cX8_pass 121 = .ok (.iaload, 1) := by decide +kernel
theorem dX8_pass_122 : decode cX8_pass 122 = .ok (.aload_n 1, 1) := by decide +kernel
theorem dX8_pass_123 : decode cX8_pass 123 = .ok (.iconst 0, 1) := by decide +kernel
theorem dX8_pass_124 : decode cX8_pass 124 = .ok (.iaload, 1) := by decide +kernel
theorem dX8_pass_125 : decode cX8_pass 125 = .ok (.if_icmp .ne 7, 3) := by decide +kernel
theorem dX8_pass_128 : decode cX8_pass 128 = .ok (.iconst 1, 1) := by decide +kernel
theorem dX8_pass_129 : decode cX8_pass 129 = .ok (.goto 9, 3) := by decide +kernel
theorem dX8_pass_132 : decode cX8_pass 132 = .ok (.aload_n 1, 1) := by decide +kernel
theorem dX8_pass_133 : decode cX8_pass 133 = .ok (.bipush 7, 2) := by decide +kernel
theorem dX8_pass_135 : decode cX8_pass 135 = .ok (.iload_n 2, 1) := by decide +kernel
theorem dX8_pass_136 : decode cX8_pass 136 = .ok (.iadd, 1) := by decide +kernel
theorem dX8_pass_137 : decode cX8_pass 137 = .ok (.iaload, 1) := by decide +kernel
theorem dX8_pass_138 : decode cX8_pass 138 = .ok (.iastore, 1) := by decide +kernel
theorem dX8_pass_139 : decode cX8_pass 139 = .ok (.iinc 2 1, 3) := by decide +kernel
theorem dX8_pass_142 : decode cX8_pass 142 = .ok (.goto (-50), 3) := by decide +kernel
theorem dX8_pass_145 : decode cX8_pass 145 = .ok (.return_, 1) := by decide +kernel
theorem dX8_minute_0 : decode cX8_minute 0 = .ok (.aload_n 0, 1) := by decide +kernel
theorem dX8_minute_1 : decode cX8_minute 1 = .ok (.getfield 29, 3) := by decide +kernel
theorem dX8_minute_4 : decode cX8_minute 4 = .ok (.iconst 0, 1) := by decide +kernel
theorem dX8_minute_5 : decode cX8_minute 5 = .ok (.iaload, 1) := by decide +kernel
theorem dX8_minute_6 : decode cX8_minute 6 = .ok (.bipush 99, 2) := by decide +kernel
theorem dX8_minute_8 : decode cX8_minute 8 = .ok (.if_icmp .ne 6, 3) := by decide +kernel
theorem dX8_minute_11 : decode cX8_minute 11 = .ok (.bipush (-2), 2) := by decide +kernel
theorem dX8_minute_13 : decode cX8_minute 13 = .ok (.ireturn, 1) := by decide +kernel
theorem dX8_minute_14 : decode cX8_minute 14 = .ok (.aload_n 0, 1) := by decide +kernel
theorem dX8_minute_15 : decode cX8_minute 15 = .ok (.invokevirtual 172, 3) := by decide +kernel
theorem dX8_minute_18 : decode cX8_minute 18 = .ok (.aload_n 0, 1) := by decide +kernel
theorem dX8_minute_19 : decode cX8_minute 19 = .ok (.aload_n 0, 1) := by decide +kernel
theorem dX8_minute_20 : decode cX8_minute 20 = .ok (.getfield 29, 3) := by decide +kernel
theorem dX8_minute_23 : decode cX8_minute 23 = .ok (.invokevirtual 175, 3) := by decide +kernel
theorem dX8_minute_26 : decode cX8_minute 26 = .ok (.aload_n 0, 1) := by decide +kernel
theorem dX8_minute_27 : decode cX8_minute 27 = .ok (.getfield 29, 3) := by decide +kernel
theorem dX8_minute_30 : decode cX8_minute 30 = .ok (.iconst 0, 1) := by decide +kernel
theorem dX8_minute_31 : decode cX8_minute 31 = .ok (.iaload, 1) := by decide +kernel
theorem dX8_minute_32 : decode cX8_minute 32 = .ok (.ireturn, 1) := by decide +kernel
theorem dX8_plugs_0 : decode cX8_plugs 0 = .ok (.aload_n 0, 1) := by decide +kernel
theorem dX8_plugs_1 : decode cX8_plugs 1 = .ok (.iload_n 1, 1) := by decide +kernel
theorem dX8_plugs_2 : decode cX8_plugs 2 = .ok (.invokevirtual 161, 3) := by decide +kernel
theorem dX8_plugs_5 : decode cX8_plugs 5 = .ok (.ifCond .ne 5, 3) := by decide +kernel
theorem dX8_plugs_8 : decode cX8_plugs 8 = .ok (.iconst (-1), 1) := by decide +kernel
theorem dX8_plugs_9 : decode cX8_plugs 9 = .ok (.ireturn, 1) := by decide +kernel
theorem dX8_plugs_10 : decode cX8_plugs 10 = .ok (.aload_n 0, 1) := by decide +kernel
theorem dX8_plugs_11 : decode cX8_plugs 11 = .ok (.aload_n 0, 1) := by decide +kernel
theorem dX8_plugs_12 : decode cX8_plugs 12 = .ok (.getfield 29, 3) := by decide +kernel
theorem dX8_plugs_15 : decode cX8_plugs 15 = .ok (.iload_n 1, 1) := by decide +kernel
theorem dX8_plugs_16 : decode cX8_plugs 16 = .ok (.aload_n 0, 1) := by decide +kernel
theorem dX8_plugs_17 : decode cX8_plugs 17 = .ok (.getfield 23, 3) := by decide +kernel
theorem dX8_plugs_20 : decode cX8_plugs 20 = .ok (.invokevirtual 179, 3) := by decide +kernel
theorem dX8_plugs_23 : decode cX8_plugs 23 = .ok (.ifCond .ne 6, 3) := by decide +kernel
theorem dX8_plugs_26 : decode cX8_plugs 26 = .ok (.bipush (-2), 2) := by decide +kernel
theorem dX8_plugs_28 : decode cX8_plugs 28 = .ok (.ireturn, 1) := by decide +kernel
theorem dX8_plugs_29 : decode cX8_plugs 29 = .ok (.aload_n 0, 1) := by decide +kernel
theorem dX8_plugs_30 : decode cX8_plugs 30 = .ok (.invokevirtual 172, 3) := by decide +kernel
theorem dX8_plugs_33 : decode cX8_plugs 33 = .ok (.aload_n 0, 1) := by decide +kernel
theorem dX8_plugs_34 : decode cX8_plugs 34 = .ok (.aload_n 0, 1) := by decide +kernel
theorem dX8_plugs_35 : decode cX8_plugs 35 = .ok (.getfield 29, 3) := by decide +kernel
theorem dX8_plugs_38 : decode cX8_plugs 38 = .ok (.iload_n 1, 1) := by decide +kernel
theorem dX8_plugs_39 : decode cX8_plugs 39 = .ok (.invokevirtual 183, 3) := by decide +kernel
theorem dX8_plugs_42 : decode cX8_plugs 42 = .ok (.aload_n 0, 1) := by decide +kernel
theorem dX8_plugs_43 : decode cX8_plugs 43 = .ok (.aload_n 0, 1) := by decide +kernel
theorem dX8_plugs_44 : decode cX8_plugs 44 = .ok (.getfield 29, 3) := by decide +kernel
theorem dX8_plugs_47 : decode cX8_plugs 47 = .ok (.aload_n 0, 1) := by decide +kernel
theorem dX8_plugs_48 : decode cX8_plugs 48 = .ok (.getfield 23, 3) := by decide +kernel
theorem dX8_plugs_51 : decode cX8_plugs 51 = .ok (.invokevirtual 141, 3) := by decide +kernel
theorem dX8_plugs_54 : decode cX8_plugs 54 = .ok (.ireturn, 1) := by decide +kernel
theorem dX8_pulls_0 : decode cX8_pulls 0 = .ok (.aload_n 0, 1) := by decide +kernel
theorem dX8_pulls_1 : decode cX8_pulls 1 = .ok (.iload_n 1, 1) := by decide +kernel
theorem dX8_pulls_2 : decode cX8_pulls 2 = .ok (.invokevirtual 161, 3) := by decide +kernel
theorem dX8_pulls_5 : decode cX8_pulls 5 = .ok (.ifCond .ne 5, 3) := by decide +kernel
theorem dX8_pulls_8 : decode cX8_pulls 8 = .ok (.iconst (-1), 1) := by decide +kernel
theorem dX8_pulls_9 : decode cX8_pulls 9 = .ok (.ireturn, 1) := by decide +kernel
theorem dX8_pulls_10 : decode cX8_pulls 10 = .ok (.aload_n 0, 1) := by decide +kernel
theorem dX8_pulls_11 : decode cX8_pulls 11 = .ok (.getfield 29, 3) := by decide +kernel
theorem dX8_pulls_14 : decode cX8_pulls 14 = .ok (.bipush 7, 2) := by decide +kernel
theorem dX8_pulls_16 : decode cX8_pulls 16 = .ok (.iload_n 1, 1) := by decide +kernel
theorem dX8_pulls_17 : decode cX8_pulls 17 = .ok (.iadd, 1) := by decide +kernel
theorem dX8_pulls_18 : decode cX8_pulls 18 = .ok (.iaload, 1) := by decide +kernel
theorem dX8_pulls_19 : decode cX8_pulls 19 = .ok (.iconst 2, 1) := by decide +kernel
theorem dX8_pulls_20 : decode cX8_pulls 20 = .ok (.if_icmp .eq 6, 3) := by decide +kernel
theorem dX8_pulls_23 : decode cX8_pulls 23 = .ok (.bipush (-2), 2) := by decide +kernel
theorem dX8_pulls_25 : decode cX8_pulls 25 = .ok (.ireturn, 1) := by decide +kernel
theorem dX8_pulls_26 : decode cX8_pulls 26 = .ok (.aload_n 0, 1) := by decide +kernel
theorem dX8_pulls_27 : decode cX8_pulls 27 = .ok (.invokevirtual 172, 3) := by decide +kernel
theorem dX8_pulls_30 : decode cX8_pulls 30 = .ok (.aload_n 0, 1) := by decide +kernel
theorem dX8_pulls_31 : decode cX8_pulls 31 = .ok (.getfield 29, 3) := by decide +kernel
theorem dX8_pulls_34 : decode cX8_pulls 34 = .ok (.bipush 7, 2) := by decide +kernel
theorem dX8_pulls_36 : decode cX8_pulls 36 = .ok (.iload_n 1, 1) := by decide +kernel
theorem dX8_pulls_37 : decode cX8_pulls 37 = .ok (.iadd, 1) := by decide +kernel
theorem dX8_pulls_38 : decode cX8_pulls 38 = .ok (.iconst 4, 1) := by decide +kernel
theorem dX8_pulls_39 : decode cX8_pulls 39 = .ok (.iastore, 1) := by decide +kernel
theorem dX8_pulls_40 : decode cX8_pulls 40 = .ok (.aload_n 0, 1) := by decide +kernel
theorem dX8_pulls_41 : decode cX8_pulls 41 = .ok (.getfield 29, 3) := by decide +kernel
theorem dX8_pulls_44 : decode cX8_pulls 44 = .ok (.bipush 14, 2) := by decide +kernel
theorem dX8_pulls_46 : decode cX8_pulls 46 = .ok (.iload_n 1, 1) := by decide +kernel
theorem dX8_pulls_47 : decode cX8_pulls 47 = .ok (.iadd, 1) := by decide +kernel
theorem dX8_pulls_48 : decode cX8_pulls 48 = .ok (.iaload, 1) := by decide +kernel
theorem dX8_pulls_49 : decode cX8_pulls 49 = .ok (.ireturn, 1) := by decide +kernel
theorem dX8_swaps_0 : decode cX8_swaps 0 = .ok (.aload_n 0, 1) := by decide +kernel
theorem dX8_swaps_1 : decode cX8_swaps 1 = .ok (.iload_n 1, 1) := by decide +kernel
theorem dX8_swaps_2 : decode cX8_swaps 2 = .ok (.invokevirtual 157, 3) := by decide +kernel
theorem dX8_swaps_5 : decode cX8_swaps 5 = .ok (.ifCond .eq 16, 3) := by decide +kernel
theorem dX8_swaps_8 : decode cX8_swaps 8 = .ok (.aload_n 0, 1) := by decide +kernel
theorem dX8_swaps_9 : decode cX8_swaps 9 = .ok (.iload_n 2, 1) := by decide +kernel
theorem dX8_swaps_10 : decode cX8_swaps 10 = .ok (.invokevirtual 157, 3) := by decide +kernel
theorem dX8_swaps_13 : decode cX8_swaps 13 = .ok (.ifCond .eq 8, 3) := by decide +kernel
theorem dX8_swaps_16 : decode cX8_swaps 16 = .ok (.iload_n 1, 1) := by decide +kernel
theorem dX8_swaps_17 : decode cX8_swaps 17 = .ok (.iload_n 2, 1) := by decide +kernel
theorem dX8_swaps_18 : decode cX8_swaps 18 = .ok (.if_icmp .ne 5, 3) := by decide +kernel
theorem dX8_swaps_21 : decode cX8_swaps 21 = .ok (.iconst (-1), 1) := by decide +kernel
theorem dX8_swaps_22 : decode cX8_swaps 22 = .ok (.ireturn, 1) := by decide +kernel
theorem dX8_swaps_23 : decode cX8_swaps 23 = .ok (.aload_n 0, 1) := by decide +kernel
theorem dX8_swaps_24 : decode cX8_swaps 24 = .ok (.aload_n 0, 1) := by decide +kernel
theorem dX8_swaps_25 : decode cX8_swaps 25 = .ok (.getfield 29, 3) := by decide +kernel
theorem dX8_swaps_28 : decode cX8_swaps 28 = .ok (.iload_n 1, 1) := by decide +kernel
theorem dX8_swaps_29 : decode cX8_swaps 29 = .ok (.invokevirtual 138, 3) := by decide +kernel
theorem dX8_swaps_32 : decode cX8_swaps 32 = .ok (.bipush (-9), 2) := by decide +kernel
theorem dX8_swaps_34 : decode cX8_swaps 34 = .ok (.if_icmp .ne 17, 3) := by decide +kernel
theorem dX8_swaps_37 : decode cX8_swaps 37 = .ok (.aload_n 0, 1) := by decide +kernel
theorem dX8_swaps_38 : decode cX8_swaps 38 = .ok (.aload_n 0, 1) := by decide +kernel
theorem dX8_swaps_39 : decode cX8_swaps 39 = .ok (.getfield 29, 3) := by decide +kernel
theorem dX8_swaps_42 : decode cX8_swaps 42 = .ok (.iload_n 2, 1) := by decide +kernel
theorem dX8_swaps_43 : decode cX8_swaps 43 = .ok (.invokevirtual 138, 3) := by decide +kernel
theorem dX8_swaps_46 : decode cX8_swaps 46 = .ok (.bipush (-9), 2) := by decide +kernel
theorem dX8_swaps_48 : decode cX8_swaps 48 = .ok (.if_icmp .eq 6, 3) := by decide +kernel
theorem dX8_swaps_51 : decode cX8_swaps 51 = .ok (.bipush (-2), 2) := by decide +kernel
theorem dX8_swaps_53 : decode cX8_swaps 53 = .ok (.ireturn, 1) := by decide +kernel
theorem dX8_swaps_54 : decode cX8_swaps 54 = .ok (.aload_n 0, 1) := by decide +kernel
theorem dX8_swaps_55 : decode cX8_swaps 55 = .ok (.invokevirtual 172, 3) := by decide +kernel
theorem dX8_swaps_58 : decode cX8_swaps 58 = .ok (.aload_n 0, 1) := by decide +kernel
theorem dX8_swaps_59 : decode cX8_swaps 59 = .ok (.getfield 29, 3) := by decide +kernel
theorem dX8_swaps_62 : decode cX8_swaps 62 = .ok (.iconst 1, 1) := by decide +kernel
theorem dX8_swaps_63 : decode cX8_swaps 63 = .ok (.iload_n 1, 1) := by decide +kernel
theorem dX8_swaps_64 : decode cX8_swaps 64 = .ok (.iadd, 1) := by decide +kernel
theorem dX8_swaps_65 : decode cX8_swaps 65 = .ok (.iaload, 1) := by decide +kernel
theorem dX8_swaps_66 : decode cX8_swaps 66 = .ok (.istore_n 3, 1) := by decide +kernel
theorem dX8_swaps_67 : decode cX8_swaps 67 = .ok (.aload_n 0, 1) := by decide +kernel
theorem dX8_swaps_68 : decode cX8_swaps 68 = .ok (.getfield 29, 3) := by decide +kernel
theorem dX8_swaps_71 : decode cX8_swaps 71 = .ok (.iconst 1, 1) := by decide +kernel
theorem dX8_swaps_72 : decode cX8_swaps 72 = .ok (.iload_n 1, 1) := by decide +kernel
theorem dX8_swaps_73 : decode cX8_swaps 73 = .ok (.iadd, 1) := by decide +kernel
theorem dX8_swaps_74 : decode cX8_swaps 74 = .ok (.aload_n 0, 1) := by decide +kernel
theorem dX8_swaps_75 : decode cX8_swaps 75 = .ok (.getfield 29, 3) := by decide +kernel
theorem dX8_swaps_78 : decode cX8_swaps 78 = .ok (.iconst 1, 1) := by decide +kernel
theorem dX8_swaps_79 : decode cX8_swaps 79 = .ok (.iload_n 2, 1) := by decide +kernel
theorem dX8_swaps_80 : decode cX8_swaps 80 = .ok (.iadd, 1) := by decide +kernel
theorem dX8_swaps_81 : decode cX8_swaps 81 = .ok (.iaload, 1) := by decide +kernel
theorem dX8_swaps_82 : decode cX8_swaps 82 = .ok (.iastore, 1) := by decide +kernel
theorem dX8_swaps_83 : decode cX8_swaps 83 = .ok (.aload_n 0, 1) := by decide +kernel
theorem dX8_swaps_84 : decode cX8_swaps 84 = .ok (.getfield 29, 3) := by decide +kernel
theorem dX8_swaps_87 : decode cX8_swaps 87 = .ok (.iconst 1, 1) := by decide +kernel
theorem dX8_swaps_88 : decode cX8_swaps 88 = .ok (.iload_n 2, 1) := by decide +kernel
theorem dX8_swaps_89 : decode cX8_swaps 89 = .ok (.iadd, 1) := by decide +kernel
theorem dX8_swaps_90 : decode cX8_swaps 90 = .ok (.iload_n 3, 1) := by decide +kernel
theorem dX8_swaps_91 : decode cX8_swaps 91 = .ok (.iastore, 1) := by decide +kernel
theorem dX8_swaps_92 : decode cX8_swaps 92 = .ok (.aload_n 0, 1) := by decide +kernel
theorem dX8_swaps_93 : decode cX8_swaps 93 = .ok (.getfield 29, 3) := by decide +kernel
theorem dX8_swaps_96 : decode cX8_swaps 96 = .ok (.iconst 1, 1) := by decide +kernel
theorem dX8_swaps_97 : decode cX8_swaps 97 = .ok (.iload_n 1, 1) := by decide +kernel
theorem dX8_swaps_98 : decode cX8_swaps 98 = .ok (.iadd, 1) := by decide +kernel
theorem dX8_swaps_99 : decode cX8_swaps 99 = .ok (.iaload, 1) := by decide +kernel
theorem dX8_swaps_100 : decode cX8_swaps 100 = .ok (.ireturn, 1) := by decide +kernel
theorem dX8_undo_0 : decode cX8_undo 0 = .ok (.aload_n 0, 1) := by decide +kernel
theorem dX8_undo_1 : decode cX8_undo 1 = .ok (.getfield 60, 3) := by decide +kernel
theorem dX8_undo_4 : decode cX8_undo 4 = .ok (.ifCond .ne 6, 3) := by decide +kernel
theorem dX8_undo_7 : decode cX8_undo 7 = .ok (.bipush (-2), 2) := by decide +kernel
theorem dX8_undo_9 : decode cX8_undo 9 = .ok (.ireturn, 1) := by decide +kernel
theorem dX8_undo_10 : decode cX8_undo 10 = .ok (.aload_n 0, 1) := by decide +kernel
theorem dX8_undo_11 : decode cX8_undo 11 = .ok (.dup, 1) := by decide +kernel
theorem dX8_undo_12 : decode cX8_undo 12 = .ok (.getfield 60, 3) := by decide +kernel
theorem dX8_undo_15 : decode cX8_undo 15 = .ok (.iconst 1, 1) := by decide +kernel
theorem dX8_undo_16 : decode cX8_undo 16 = .ok (.isub, 1) := by decide +kernel
theorem dX8_undo_17 : decode cX8_undo 17 = .ok (.putfield 60, 3) := by decide +kernel
theorem dX8_undo_20 : decode cX8_undo 20 = .ok (.aload_n 0, 1) := by decide +kernel
theorem dX8_undo_21 : decode cX8_undo 21 = .ok (.getfield 42, 3) := by decide +kernel
theorem dX8_undo_24 : decode cX8_undo 24 = .ok (.bipush 28, 2) := by decide +kernel
theorem dX8_undo_26 : decode cX8_undo 26 = .ok (.aload_n 0, 1) := by decide +kernel
theorem dX8_undo_27 : decode cX8_undo 27 = .ok (.getfield 60, 3) := by decide +kernel
theorem dX8_undo_30 : decode cX8_undo 30 = .ok (.imul, 1) := by decide +kernel
theorem dX8_undo_31 : decode cX8_undo 31 = .ok (.aload_n 0, 1) := by decide +kernel
theorem dX8_undo_32 : decode cX8_undo 32 = .ok (.getfield 29, 3) := by decide +kernel
theorem dX8_undo_35 : decode cX8_undo 35 = .ok (.iconst 0, 1) := by decide +kernel
theorem dX8_undo_36 : decode cX8_undo 36 = .ok (.invokestatic 168, 3) := by decide +kernel
theorem dX8_undo_39 : decode cX8_undo 39 = .ok (.aload_n 0, 1) := by decide +kernel
theorem dX8_undo_40 : decode cX8_undo 40 = .ok (.getfield 60, 3) := by decide +kernel
theorem dX8_undo_43 : decode cX8_undo 43 = .ok (.ireturn, 1) := by decide +kernel
theorem dX8_isAhead_0 : decode cX8_isAhead 0 = .ok (.iload_n 3, 1) := by decide +kernel
theorem dX8_isAhead_1 : decode cX8_isAhead 1 = .ok (.ifCond .ne 14, 3) := by decide +kernel
theorem dX8_isAhead_4 : decode cX8_isAhead 4 = .ok (.aload_n 0, 1) := by decide +kernel
theorem dX8_isAhead_5 : decode cX8_isAhead 5 = .ok (.getfield 26, 3) := by decide +kernel
theorem dX8_isAhead_8 : decode cX8_isAhead 8 = .ok (.iconst 5, 1) := by decide +kernel
theorem dX8_isAhead_9 : decode cX8_isAhead 9 = .ok (.iload_n 1, 1) := by decide +kernel
theorem dX8_isAhead_10 : decode cX8_isAhead 10 = .ok (.imul, 1) := by decide +kernel
theorem dX8_isAhead_11 : decode cX8_isAhead 11 = .ok (.iaload, 1) := by decide +kernel
theorem dX8_isAhead_12 : decode cX8_isAhead 12 = .ok (.goto 32, 3) := by decide +kernel
theorem dX8_isAhead_15 : decode cX8_isAhead 15 = .ok (.iload_n 3, 1) := by decide +kernel
theorem dX8_isAhead_16 : decode cX8_isAhead 16 = .ok (.iconst 1, 1) := by decide +kernel
theorem dX8_isAhead_17 : decode cX8_isAhead 17 = .ok (.if_icmp .ne 17, 3) := by decide +kernel
theorem dX8_isAhead_20 : decode cX8_isAhead 20 = .ok (.aload_n 0, 1) := by decide +kernel
theorem dX8_isAhead_21 : decode cX8_isAhead 21 = .ok (.getfield 26, 3) := by decide +kernel
theorem dX8_isAhead_24 : decode cX8_isAhead 24 = .ok (.iconst 5, 1) := by decide +kernel
theorem dX8_isAhead_25 : decode cX8_isAhead 25 = .ok (.iload_n 1, 1) := by decide +kernel
theorem dX8_isAhead_26 : decode cX8_isAhead 26 = .ok (.imul, 1) := by decide +kernel
theorem dX8_isAhead_27 : decode cX8_isAhead 27 = .ok (.iconst 4, 1) := by decide +kernel
theorem dX8_isAhead_28 : decode cX8_isAhead 28 = .ok (.iadd, 1) := by decide +kernel
theorem dX8_isAhead_29 : decode cX8_isAhead 29 = .ok (.iaload, 1) := by decide +kernel
theorem dX8_isAhead_30 : decode cX8_isAhead 30 = .ok (.ineg, 1) := by decide +kernel
theorem dX8_isAhead_31 : decode cX8_isAhead 31 = .ok (.goto 13, 3) := by decide +kernel
theorem dX8_isAhead_34 : decode cX8_isAhead 34 = .ok (.aload_n 0, 1) := by decide +kernel
theorem dX8_isAhead_35 : decode cX8_isAhead 35 = .ok (.getfield 26, 3) := by decide +kernel
theorem dX8_isAhead_38 : decode cX8_isAhead 38 = .ok (.iconst 5, 1) := by decide +kernel
theorem dX8_isAhead_39 : decode cX8_isAhead 39 = .ok (.iload_n 1, 1) := by decide +kernel
theorem dX8_isAhead_40 : decode cX8_isAhead 40 = .ok (.imul, 1) := by decide +kernel
theorem dX8_isAhead_41 : decode cX8_isAhead 41 = .ok (.iconst 3, 1) := by decide +kernel
theorem dX8_isAhead_42 : decode cX8_isAhead 42 = .ok (.iadd, 1) := by decide +kernel
theorem dX8_isAhead_43 : decode cX8_isAhead 43 = .ok (.iaload, 1) := by decide +kernel
theorem dX8_isAhead_44 : decode cX8_isAhead 44 = .ok (.istore 4, 2) := by decide +kernel
theorem dX8_isAhead_46 : decode cX8_isAhead 46 = .ok (.iload_n 3, 1) := by decide +kernel
theorem dX8_isAhead_47 : decode cX8_isAhead 47 = .ok (.ifCond .ne 14, 3) := by decide +kernel
theorem dX8_isAhead_50 : decode cX8_isAhead 50 = .ok (.aload_n 0, 1) := by decide +kernel
theorem dX8_isAhead_51 : decode cX8_isAhead 51 = .ok (.getfield 26, 3) := by decide +kernel
theorem dX8_isAhead_54 : decode cX8_isAhead 54 = .ok (.iconst 5, 1) := by decide +kernel
theorem dX8_isAhead_55 : decode cX8_isAhead 55 = .ok (.iload_n 2, 1) := by decide +kernel
theorem dX8_isAhead_56 : decode cX8_isAhead 56 = .ok (.imul, 1) := by decide +kernel
theorem dX8_isAhead_57 : decode cX8_isAhead 57 = .ok (.iaload, 1) := by decide +kernel
theorem dX8_isAhead_58 : decode cX8_isAhead 58 = .ok (.goto 32, 3) := by decide +kernel
theorem dX8_isAhead_61 : decode cX8_isAhead 61 = .ok (.iload_n 3, 1) := by decide +kernel
theorem dX8_isAhead_62 : decode cX8_isAhead 62 = .ok (.iconst 1, 1) := by decide +kernel
theorem dX8_isAhead_63 : decode cX8_isAhead 63 = .ok (.if_icmp .ne 17, 3) := by decide +kernel
theorem dX8_isAhead_66 : decode cX8_isAhead 66 = .ok (.aload_n 0, 1) := by decide +kernel
theorem dX8_isAhead_67 : decode cX8_isAhead 67 = .ok (.getfield 26, 3) := by decide +kernel
theorem dX8_isAhead_70 : decode cX8_isAhead 70 = .ok (.iconst 5, 1) := by decide +kernel
theorem dX8_isAhead_71 : decode cX8_isAhead 71 = .ok (.iload_n 2, 1) := by decide +kernel
theorem dX8_isAhead_72 : decode cX8_isAhead 72 = .ok (.imul, 1) := by decide +kernel
theorem dX8_isAhead_73 : decode cX8_isAhead 73 = .ok (.iconst 4, 1) := by decide +kernel
theorem dX8_isAhead_74 : decode cX8_isAhead 74 = .ok (.iadd, 1) := by decide +kernel
theorem dX8_isAhead_75 : decode cX8_isAhead 75 = .ok (.iaload, 1) := by decide +kernel
theorem dX8_isAhead_76 : decode cX8_isAhead 76 = .ok (.ineg, 1) := by decide +kernel
theorem dX8_isAhead_77 : decode cX8_isAhead 77 = .ok (.goto 13, 3) := by decide +kernel
theorem dX8_isAhead_80 : decode cX8_isAhead 80 = .ok (.aload_n 0, 1) := by decide +kernel
theorem dX8_isAhead_81 : decode cX8_isAhead 81 = .ok (.getfield 26, 3) := by decide +kernel
theorem dX8_isAhead_84 : decode cX8_isAhead 84 = .ok (.iconst 5, 1) := by decide +kernel
theorem dX8_isAhead_85 : decode cX8_isAhead 85 = .ok (.iload_n 2, 1) := by decide +kernel
theorem dX8_isAhead_86 : decode cX8_isAhead 86 = .ok (.imul, 1) := by decide +kernel
theorem dX8_isAhead_87 : decode cX8_isAhead 87 = .ok (.iconst 3, 1) := by decide +kernel
theorem dX8_isAhead_88 : decode cX8_isAhead 88 = .ok (.iadd, 1) := by decide +kernel
theorem dX8_isAhead_89 : decode cX8_isAhead 89 = .ok (.iaload, 1) := by decide +kernel
theorem dX8_isAhead_90 : decode cX8_isAhead 90 = .ok (.istore 5, 2) := by decide +kernel
theorem dX8_isAhead_92 : decode cX8_isAhead 92 = .ok (.iload 4, 2) := by decide +kernel
theorem dX8_isAhead_94 : decode cX8_isAhead 94 = .ok (.iload 5, 2) := by decide +kernel
theorem dX8_isAhead_96 : decode cX8_isAhead 96 = .ok (.if_icmp .lt 15, 3) := by decide +kernel
theorem dX8_isAhead_99 : decode cX8_isAhead 99 = .ok (.iload 4, 2) := by decide +kernel
theorem dX8_isAhead_101 : decode cX8_isAhead 101 = .ok (.iload 5, 2) := by decide +kernel
theorem dX8_isAhead_103 : decode cX8_isAhead 103 = .ok (.if_icmp .ne 12, 3) := by decide +kernel
theorem dX8_isAhead_106 : decode cX8_isAhead 106 = .ok (.iload_n 1, 1) := by decide +kernel
theorem dX8_isAhead_107 : decode cX8_isAhead 107 = .ok (.iload_n 2, 1) := by decide +kernel
theorem dX8_isAhead_108 : decode cX8_isAhead 108 = .ok (.if_icmp .ge 7, 3) := by decide +kernel
theorem dX8_isAhead_111 : decode cX8_isAhead 111 = .ok (.iconst 1, 1) := by decide +kernel
theorem dX8_isAhead_112 : decode cX8_isAhead 112 = .ok (.goto 4, 3) := by decide +kernel
theorem dX8_isAhead_115 : decode cX8_isAhead 115 = .ok (.iconst 0, 1) := by decide +kernel
theorem dX8_isAhead_116 : decode cX8_isAhead 116 = .ok (.ireturn, 1) := by decide +kernel
theorem dX8_layOrder_0 : decode cX8_layOrder 0 = .ok (.iconst 0, 1) := by decide +kernel
theorem dX8_layOrder_1 : decode cX8_layOrder 1 = .ok (.istore_n 2, 1) := by decide +kernel
theorem dX8_layOrder_2 : decode cX8_layOrder 2 = .ok (.iload_n 2, 1) := by decide +kernel
theorem dX8_layOrder_3 : decode cX8_layOrder 3 = .ok (.aload_n 0, 1) := by decide +kernel
theorem dX8_layOrder_4 : decode cX8_layOrder 4 = .ok (.getfield 57, 3) := by decide +kernel
theorem dX8_layOrder_7 : decode cX8_layOrder 7 = .ok (.if_icmp .ge 61, 3) := by decide +kernel
theorem dX8_layOrder_10 : decode cX8_layOrder 10 = .ok (.iconst 0, 1) := by decide +kernel
theorem dX8_layOrder_11 : decode cX8_layOrder 11 = .ok (.istore_n 3, 1) := by decide +kernel
theorem dX8_layOrder_12 : decode cX8_layOrder 12 = .ok (.iconst 0, 1) := by decide +kernel
theorem dX8_layOrder_13 : decode cX8_layOrder 13 = .ok (.istore 4, 2) := by decide +kernel
theorem dX8_layOrder_15 : decode cX8_layOrder 15 = .ok (.iload 4, 2) := by decide +kernel
theorem dX8_layOrder_17 : decode cX8_layOrder 17 = .ok (.aload_n 0, 1) := by decide +kernel
theorem dX8_layOrder_18 : decode cX8_layOrder 18 = .ok (.getfield 57, 3) := by decide +kernel
theorem dX8_layOrder_21 : decode cX8_layOrder 21 = .ok (.if_icmp .ge 34, 3) := by decide +kernel
theorem dX8_layOrder_24 : decode cX8_layOrder 24 = .ok (.iload_n 3, 1) := by decide +kernel
theorem dX8_layOrder_25 : decode cX8_layOrder 25 = .ok (.iload 4, 2) := by decide +kernel
theorem dX8_layOrder_27 : decode cX8_layOrder 27 = .ok (.iload_n 2, 1) := by decide +kernel
theorem dX8_layOrder_28 : decode cX8_layOrder 28 = .ok (.if_icmp .eq 18, 3) := by decide +kernel
theorem dX8_layOrder_31 : decode cX8_layOrder 31 = .ok (.aload_n 0, 1) := by decide +kernel
theorem dX8_layOrder_32 : decode cX8_layOrder 32 = .ok (.iload 4, 2) := by decide +kernel
theorem dX8_layOrder_34 : decode cX8_layOrder 34 = .ok (.iload_n 2, 1) := by decide +kernel
theorem dX8_layOrder_35 : decode cX8_layOrder 35 = .ok (.iload_n 1, 1) := by decide +kernel
theorem dX8_layOrder_36 : decode cX8_layOrder 36 = .ok (.invokevirtual 187, 3) := by decide +kernel
theorem dX8_layOrder_39 : decode cX8_layOrder 39 = .ok (.ifCond .eq 7, 3) := by decide +kernel
theorem dX8_layOrder_42 : decode cX8_layOrder 42 = .ok (.iconst 1, 1) := by decide +kernel
theorem dX8_layOrder_43 : decode cX8_layOrder 43 = .ok (.goto 4, 3) := by decide +kernel
theorem dX8_layOrder_46 : decode cX8_layOrder 46 = .ok (.iconst 0, 1) := by decide +kernel
theorem dX8_layOrder_47 : decode cX8_layOrder 47 = .ok (.iadd, 1) := by decide +kernel
theorem dX8_layOrder_48 : decode cX8_layOrder 48 = .ok (.istore_n 3, 1) := by decide +kernel
theorem dX8_layOrder_49 : decode cX8_layOrder 49 = .ok (.iinc 4 1, 3) := by decide +kernel
theorem dX8_layOrder_52 : decode cX8_layOrder 52 = .ok (.goto (-37), 3) := by decide +kernel
theorem dX8_layOrder_55 : decode cX8_layOrder 55 = .ok (.aload_n 0, 1) := by decide +kernel
theorem dX8_layOrder_56 : decode cX8_layOrder 56 = .ok (.getfield 45, 3) := by decide +kernel
theorem dX8_layOrder_59 : decode cX8_layOrder 59 = .ok (.iload_n 3, 1) := by decide +kernel
theorem dX8_layOrder_60 : decode cX8_layOrder 60 = .ok (.iload_n 2, 1) := by decide +kernel
theorem dX8_layOrder_61 : decode cX8_layOrder 61 = .ok (.iastore, 1) := by decide +kernel
theorem dX8_layOrder_62 : decode cX8_layOrder 62 = .ok (.iinc 2 1, 3) := by decide +kernel
theorem dX8_layOrder_65 : decode cX8_layOrder 65 = .ok (.goto (-63), 3) := by decide +kernel
theorem dX8_layOrder_68 : decode cX8_layOrder 68 = .ok (.return_, 1) := by decide +kernel
theorem dX8_plugAll_0 : decode cX8_plugAll 0 = .ok (.iconst 0, 1) := by decide +kernel
theorem dX8_plugAll_1 : decode cX8_plugAll 1 = .ok (.istore 4, 2) := by decide +kernel
theorem dX8_plugAll_3 : decode cX8_plugAll 3 = .ok (.iload 4, 2) := by decide +kernel
theorem dX8_plugAll_5 : decode cX8_plugAll 5 = .ok (.iload_n 2, 1) := by decide +kernel
theorem dX8_plugAll_6 : decode cX8_plugAll 6 = .ok (.if_icmp .ge 37, 3) := by decide +kernel
theorem dX8_plugAll_9 : decode cX8_plugAll 9 = .ok (.aload_n 0, 1) := by decide +kernel
theorem dX8_plugAll_10 : decode cX8_plugAll 10 = .ok (.aload_n 0, 1) := by decide +kernel
theorem dX8_plugAll_11 : decode cX8_plugAll 11 = .ok (.getfield 32, 3) := by decide +kernel
theorem dX8_plugAll_14 : decode cX8_plugAll 14 = .ok (.aload_n 1, 1) := by decide +kernel
theorem dX8_plugAll_15 : decode cX8_plugAll 15 = .ok (.iload 4, 2) := by decide +kernel
theorem dX8_plugAll_17 : decode cX8_plugAll 17 = .ok (.iaload, 1) := by decide +kernel
theorem dX8_plugAll_18 : decode cX8_plugAll 18 = .ok (.iload_n 3, 1) := by decide +kernel
theorem dX8_plugAll_19 : decode cX8_plugAll 19 = .ok (.invokevirtual 179, 3) := by decide +kernel
theorem dX8_plugAll_22 : decode cX8_plugAll 22 = .ok (.ifCond .eq 15, 3) := by decide +kernel
theorem dX8_plugAll_25 : decode cX8_plugAll 25 = .ok (.aload_n 0, 1) := by decide +kernel
theorem dX8_plugAll_26 : decode cX8_plugAll 26 = .ok (.aload_n 0, 1) := by decide +kernel
theorem dX8_plugAll_27 : decode cX8_plugAll 27 = .ok (.getfield 32, 3) := by decide +kernel
theorem dX8_plugAll_30 : decode cX8_plugAll 30 = .ok (.aload_n 1, 1) := by decide +kernel
theorem dX8_plugAll_31 : decode cX8_plugAll 31 = .ok (.iload 4, 2) := by decide +kernel
theorem dX8_plugAll_33 : decode cX8_plugAll 33 = .ok (.iaload, 1) := by decide +kernel
theorem dX8_plugAll_34 : decode cX8_plugAll 34 = .ok (.invokevirtual 183, 3) := by decide +kernel
theorem dX8_plugAll_37 : decode cX8_plugAll 37 = .ok (.iinc 4 1, 3) := by decide +kernel
theorem dX8_plugAll_40 : decode cX8_plugAll 40 = .ok (.goto (-37), 3) := by decide +kernel
theorem dX8_plugAll_43 : decode cX8_plugAll 43 = .ok (.return_, 1) := by decide +kernel
theorem dX8_byRule_0 : decode cX8_byRule 0 = .ok (.iload_n 1, 1) := by decide +kernel
theorem dX8_byRule_1 : decode cX8_byRule 1 = .ok (.iconst 0, 1) := by decide +kernel
theorem dX8_byRule_2 : decode cX8_byRule 2 = .ok (.iconst 2, 1) := by decide +kernel
theorem dX8_byRule_3 : decode cX8_byRule 3 = .ok (.invokestatic 63, 3) := by decide +kernel
theorem dX8_byRule_6 : decode cX8_byRule 6 = .ok (.ifCond .eq 22, 3) := by decide +kernel
theorem dX8_byRule_9 : decode cX8_byRule 9 = .ok (.iload_n 2, 1) := by decide +kernel
theorem dX8_byRule_10 : decode cX8_byRule 10 = .ok (.iconst 0, 1) := by decide +kernel
theorem dX8_byRule_11 : decode cX8_byRule 11 = .ok (.bipush 60, 2) := by decide +kernel
theorem dX8_byRule_13 : decode cX8_byRule 13 = .ok (.invokestatic 63, 3) := by decide +kernel
theorem dX8_byRule_16 : decode cX8_byRule 16 = .ok (.ifCond .eq 12, 3) := by decide +kernel
theorem dX8_byRule_19 : decode cX8_byRule 19 = .ok (.iload_n 3, 1) := by decide +kernel
theorem dX8_byRule_20 : decode cX8_byRule 20 = .ok (.iconst 0, 1) := by decide +kernel
theorem dX8_byRule_21 : decode cX8_byRule 21 = .ok (.iconst 2, 1) := by decide +kernel
theorem dX8_byRule_22 : decode cX8_byRule 22 = .ok (.invokestatic 63, 3) := by decide +kernel
theorem dX8_byRule_25 : decode cX8_byRule 25 = .ok (.ifCond .ne 5, 3) := by decide +kernel
theorem dX8_byRule_28 : decode cX8_byRule 28 = .ok (.iconst (-1), 1) := by decide +kernel
theorem dX8_byRule_29 : decode cX8_byRule 29 = .ok (.ireturn, 1) := by decide +kernel
theorem dX8_byRule_30 : decode cX8_byRule 30 = .ok (.aload_n 0, 1) := by decide +kernel
theorem dX8_byRule_31 : decode cX8_byRule 31 = .ok (.iload_n 1, 1) := by decide +kernel
theorem dX8_byRule_32 : decode cX8_byRule 32 = .ok (.invokevirtual 190, 3) := by decide +kernel
theorem dX8_byRule_35 : decode cX8_byRule 35 = .ok (.aload_n 0, 1) := by decide +kernel
theorem dX8_byRule_36 : decode cX8_byRule 36 = .ok (.getfield 29, 3) := by decide +kernel
theorem dX8_byRule_39 : decode cX8_byRule 39 = .ok (.iconst 0, 1) := by decide +kernel
theorem dX8_byRule_40 : decode cX8_byRule 40 = .ok (.aload_n 0, 1) := by decide +kernel
theorem dX8_byRule_41 : decode cX8_byRule 41 = .ok (.getfield 32, 3) := by decide +kernel
theorem dX8_byRule_44 : decode cX8_byRule 44 = .ok (.iconst 0, 1) := by decide +kernel
theorem dX8_byRule_45 : decode cX8_byRule 45 = .ok (.invokestatic 168, 3) := by decide +kernel
theorem dX8_byRule_48 : decode cX8_byRule 48 = .ok (.aload_n 0, 1) := by decide +kernel
theorem dX8_byRule_49 : decode cX8_byRule 49 = .ok (.bipush (-9), 2) := by decide +kernel
theorem dX8_byRule_51 : decode cX8_byRule 51 = .ok (.putfield 194, 3) := by decide +kernel
theorem dX8_byRule_54 : decode cX8_byRule 54 = .ok (.iconst 0, 1) := by decide +kernel
theorem dX8_byRule_55 : decode cX8_byRule 55 = .ok (.istore 4, 2) := by decide +kernel
theorem dX8_byRule_57 : decode cX8_byRule 57 = .ok (.iload 4, 2) := by decide +kernel
theorem dX8_byRule_59 : decode cX8_byRule 59 = .ok (.iload_n 2, 1) := by decide +kernel
theorem dX8_byRule_60 : decode cX8_byRule 60 = .ok (.if_icmp .ge 147, 3) := by decide +kernel
theorem dX8_byRule_63 : decode cX8_byRule 63 = .ok (.aload_n 0, 1) := by decide +kernel
theorem dX8_byRule_64 : decode cX8_byRule 64 = .ok (.aload_n 0, 1) := by decide +kernel
theorem dX8_byRule_65 : decode cX8_byRule 65 = .ok (.getfield 45, 3) := by decide +kernel
theorem dX8_byRule_68 : decode cX8_byRule 68 = .ok (.aload_n 0, 1) := by decide +kernel
theorem dX8_byRule_69 : decode cX8_byRule 69 = .ok (.getfield 57, 3) := by decide +kernel
theorem dX8_byRule_72 : decode cX8_byRule 72 = .ok (.aload_n 0, 1) := by decide +kernel
theorem dX8_byRule_73 : decode cX8_byRule 73 = .ok (.getfield 23, 3) := by decide +kernel
theorem dX8_byRule_76 : decode cX8_byRule 76 = .ok (.invokevirtual 197, 3) := by decide +kernel
theorem dX8_byRule_79 : decode cX8_byRule 79 = .ok (.aload_n 0, 1) := by decide +kernel
theorem dX8_byRule_80 : decode cX8_byRule 80 = .ok (.aload_n 0, 1) := by decide +kernel
theorem dX8_byRule_81 : decode cX8_byRule 81 = .ok (.getfield 32, 3) := by decide +kernel
theorem dX8_byRule_84 : decode cX8_byRule 84 = .ok (.iconst 3, 1) := by decide +kernel
theorem dX8_byRule_85 : decode cX8_byRule 85 = .ok (.invokevirtual 131, 3) := by decide +kernel
theorem dX8_byRule_88 : decode cX8_byRule 88 = .ok (.istore 5, 2) := by decide +kernel
theorem dX8_byRule_90 : decode cX8_byRule 90 = .ok (.aload_n 0, 1) := by decide +kernel
theorem dX8_byRule_91 : decode cX8_byRule 91 = .ok (.aload_n 0, 1) := by decide +kernel
theorem dX8_byRule_92 : decode cX8_byRule 92 = .ok (.getfield 32, 3) := by decide +kernel
theorem dX8_byRule_95 : decode cX8_byRule 95 = .ok (.invokevirtual 175, 3) := by decide +kernel
theorem dX8_byRule_98 : decode cX8_byRule 98 = .ok (.aload_n 0, 1) := by decide +kernel
theorem dX8_byRule_99 : decode cX8_byRule 99 = .ok (.aload_n 0, 1) := by decide +kernel
theorem dX8_byRule_100 : decode cX8_byRule 100 = .ok (.getfield 32, 3) := by decide +kernel
theorem dX8_byRule_103 : decode cX8_byRule 103 = .ok (.iconst 3, 1) := by decide +kernel
theorem dX8_byRule_104 : decode cX8_byRule 104 = .ok (.invokevirtual 131, 3) := by decide +kernel
theorem dX8_byRule_107 : decode cX8_byRule 107 = .ok (.iload 5, 2) := by decide +kernel
theorem dX8_byRule_109 : decode cX8_byRule 109 = .ok (.iconst (-1), 1) := by decide +kernel
theorem dX8_byRule_110 : decode cX8_byRule 110 = .ok (.ixor, 1) := by decide +kernel
theorem dX8_byRule_111 : decode cX8_byRule 111 = .ok (.iand, 1) := by decide +kernel
theorem dX8_byRule_112 : decode cX8_byRule 112 = .ok (.istore 6, 2) := by decide +kernel
theorem dX8_byRule_114 : decode cX8_byRule 114 = .ok (.aload_n 0, 1) := by decide +kernel
theorem dX8_byRule_115 : decode cX8_byRule 115 = .ok (.getfield 57, 3) := by decide +kernel
theorem dX8_byRule_118 : decode cX8_byRule 118 = .ok (.iconst 1, 1) := by decide +kernel
theorem dX8_byRule_119 : decode cX8_byRule 119 = .ok (.isub, 1) := by decide +kernel
theorem dX8_byRule_120 : decode cX8_byRule 120 = .ok (.istore 7, 2) := by decide +kernel
theorem dX8_byRule_122 : decode cX8_byRule 122 = .ok (.iload 7, 2) := by decide +kernel
theorem dX8_byRule_124 : decode cX8_byRule 124 = .ok (.ifCond .lt 48, 3) := by decide +kernel
theorem dX8_byRule_127 : decode cX8_byRule 127 = .ok (.aload_n 0, 1) := by decide +kernel
theorem dX8_byRule_128 : decode cX8_byRule 128 = .ok (.getfield 194, 3) := by decide +kernel
theorem dX8_byRule_131 : decode cX8_byRule 131 = .ok (.ifCond .ge 41, 3) := by decide +kernel
theorem dX8_byRule_134 : decode cX8_byRule 134 = .ok (.iload 6, 2) := by decide +kernel
theorem dX8_byRule_136 : decode cX8_byRule 136 = .ok (.ifCond .eq 36, 3) := by decide +kernel
theorem dX8_byRule_139 : decode cX8_byRule 139 = .ok (.aload_n 0, 1) := by decide +kernel
theorem dX8_byRule_140 : decode cX8_byRule 140 = .ok (.getfield 48, 3) := by decide +kernel
theorem dX8_byRule_143 : decode cX8_byRule 143 = .ok (.iconst 0, 1) := by decide +kernel
theorem dX8_byRule_144 : decode cX8_byRule 144 = .ok (.iload 6, 2) := by decide +kernel
theorem dX8_byRule_146 : decode cX8_byRule 146 = .ok (.iload 7, 2) := by decide +kernel
theorem dX8_byRule_148 : decode cX8_byRule 148 = .ok (.invokestatic 201, 3) := by decide +kernel
theorem dX8_byRule_151 : decode cX8_byRule 151 = .ok (.ifCond .eq 8, 3) := by decide +kernel
theorem dX8_byRule_154 : decode cX8_byRule 154 = .ok (.iload 7, 2) := by decide +kernel
theorem dX8_byRule_156 : decode cX8_byRule 156 = .ok (.goto 9, 3) := by decide +kernel
theorem dX8_byRule_159 : decode cX8_byRule 159 = .ok (.aload_n 0, 1) := by decide +kernel
theorem dX8_byRule_160 : decode cX8_byRule 160 = .ok (.getfield 48, 3) := by decide +kernel
theorem dX8_byRule_163 : decode cX8_byRule 163 = .ok (.iconst 0, 1) := by decide +kernel
theorem dX8_byRule_164 : decode cX8_byRule 164 = .ok (.iaload, 1) := by decide +kernel
theorem dX8_byRule_165 : decode cX8_byRule 165 = .ok (.iastore, 1) := by decide +kernel
theorem dX8_byRule_166 : decode cX8_byRule 166 = .ok (.iinc 7 (-1), 3) := by decide +kernel
theorem dX8_byRule_169 : decode cX8_byRule 169 = .ok (.goto (-47), 3) := by decide +kernel
theorem dX8_byRule_172 : decode cX8_byRule 172 = .ok (.aload_n 0, 1) := by decide +kernel
theorem dX8_byRule_173 : decode cX8_byRule 173 = .ok (.aload_n 0, 1) := by decide +kernel
theorem dX8_byRule_174 : decode cX8_byRule 174 = .ok (.getfield 194, 3) := by decide +kernel
theorem dX8_byRule_177 : decode cX8_byRule 177 = .ok (.ifCond .ge 17, 3) := by decide +kernel
theorem dX8_byRule_180 : decode cX8_byRule 180 = .ok (.iload 6, 2) := by decide +kernel
theorem dX8_byRule_182 : decode cX8_byRule 182 = .ok (.ifCond .eq 12, 3) := by decide +kernel
theorem dX8_byRule_185 : decode cX8_byRule 185 = .ok (.aload_n 0, 1) := by decide +kernel
theorem dX8_byRule_186 : decode cX8_byRule 186 = .ok (.getfield 48, 3) := by decide +kernel
theorem dX8_byRule_189 : decode cX8_byRule 189 = .ok (.iconst 0, 1) := by decide +kernel
theorem dX8_byRule_190 : decode cX8_byRule 190 = .ok (.iaload, 1) := by decide +kernel
theorem dX8_byRule_191 : decode cX8_byRule 191 = .ok (.goto 7, 3) := by decide +kernel
theorem dX8_byRule_194 : decode cX8_byRule 194 = .ok (.aload_n 0, 1) := by decide +kernel
theorem dX8_byRule_195 : decode cX8_byRule 195 = .ok (.getfield 194, 3) := by decide +kernel
theorem dX8_byRule_198 : decode cX8_byRule 198 = .ok (.putfield 194, 3) := by decide +kernel
theorem dX8_byRule_201 : decode cX8_byRule 201 = .ok (.iinc 4 1, 3) := by decide +kernel
theorem dX8_byRule_204 : decode cX8_byRule 204 = .ok (.goto (-147), 3) := by decide +kernel
theorem dX8_byRule_207 : decode cX8_byRule 207 = .ok (.iconst 0, 1) := by decide +kernel
theorem dX8_byRule_208 : decode cX8_byRule 208 = .ok (.istore 4, 2) := by decide +kernel
theorem dX8_byRule_210 : decode cX8_byRule 210 = .ok (.iconst 0, 1) := by decide +kernel
theorem dX8_byRule_211 : decode cX8_byRule 211 = .ok (.istore 5, 2) := by decide +kernel
theorem dX8_byRule_213 : decode cX8_byRule 213 = .ok (.iload 5, 2) := by decide +kernel
theorem dX8_byRule_215 : decode cX8_byRule 215 = .ok (.aload_n 0, 1) := by decide +kernel
end
section
theorem dX8_byRule_216 : decode cX8_byRule 216 = .ok (.getfield 57, 3) := by decide +kernel
theorem dX8_byRule_219 : decode cX8_byRule 219 = .ok (.if_icmp .ge 24, 3) := by decide +kernel
theorem dX8_byRule_222 : decode cX8_byRule 222 = .ok (.iload 4, 2) := by decide +kernel
theorem dX8_byRule_224 : decode cX8_byRule 224 = .ok (.aload_n 0, 1) := by decide +kernel
theorem dX8_byRule_225 : decode cX8_byRule 225 = .ok (.getfield 32, 3) := by decide +kernel
theorem dX8_byRule_228 : decode cX8_byRule 228 = .ok (.bipush 21, 2) := by decide +kernel
theorem dX8_byRule_230 : decode cX8_byRule 230 = .ok (.iload 5, 2) := by decide +kernel
theorem dX8_byRule_232 : decode cX8_byRule 232 = .ok (.iadd, 1) := by decide +kernel
theorem dX8_byRule_233 : decode cX8_byRule 233 = .ok (.iaload, 1) := by decide +kernel
theorem dX8_byRule_234 : decode cX8_byRule 234 = .ok (.iadd, 1) := by decide +kernel
theorem dX8_byRule_235 : decode cX8_byRule 235 = .ok (.istore 4, 2) := by decide +kernel
theorem dX8_byRule_237 : decode cX8_byRule 237 = .ok (.iinc 5 1, 3) := by decide +kernel
theorem dX8_byRule_240 : decode cX8_byRule 240 = .ok (.goto (-27), 3) := by decide +kernel
theorem dX8_byRule_243 : decode cX8_byRule 243 = .ok (.iload_n 3, 1) := by decide +kernel
theorem dX8_byRule_244 : decode cX8_byRule 244 = .ok (.ifCond .ne 18, 3) := by decide +kernel
theorem dX8_byRule_247 : decode cX8_byRule 247 = .ok (.aload_n 0, 1) := by decide +kernel
theorem dX8_byRule_248 : decode cX8_byRule 248 = .ok (.aload_n 0, 1) := by decide +kernel
theorem dX8_byRule_249 : decode cX8_byRule 249 = .ok (.getfield 32, 3) := by decide +kernel
theorem dX8_byRule_252 : decode cX8_byRule 252 = .ok (.iconst 3, 1) := by decide +kernel
theorem dX8_byRule_253 : decode cX8_byRule 253 = .ok (.invokevirtual 131, 3) := by decide +kernel
theorem dX8_byRule_256 : decode cX8_byRule 256 = .ok (.invokestatic 135, 3) := by decide +kernel
theorem dX8_byRule_259 : decode cX8_byRule 259 = .ok (.goto 17, 3) := by decide +kernel
theorem dX8_byRule_262 : decode cX8_byRule 262 = .ok (.iload_n 3, 1) := by decide +kernel
theorem dX8_byRule_263 : decode cX8_byRule 263 = .ok (.iconst 1, 1) := by decide +kernel
theorem dX8_byRule_264 : decode cX8_byRule 264 = .ok (.if_icmp .ne 8, 3) := by decide +kernel
theorem dX8_byRule_267 : decode cX8_byRule 267 = .ok (.iload 4, 2) := by decide +kernel
theorem dX8_byRule_269 : decode cX8_byRule 269 = .ok (.goto 7, 3) := by decide +kernel
theorem dX8_byRule_272 : decode cX8_byRule 272 = .ok (.aload_n 0, 1) := by decide +kernel
theorem dX8_byRule_273 : decode cX8_byRule 273 = .ok (.getfield 194, 3) := by decide +kernel
theorem dX8_byRule_276 : decode cX8_byRule 276 = .ok (.ireturn, 1) := by decide +kernel
theorem dX8_isEnough_0 : decode cX8_isEnough 0 = .ok (.aload_n 0, 1) := by decide +kernel
theorem dX8_isEnough_1 : decode cX8_isEnough 1 = .ok (.getfield 29, 3) := by decide +kernel
theorem dX8_isEnough_4 : decode cX8_isEnough 4 = .ok (.iconst 0, 1) := by decide +kernel
theorem dX8_isEnough_5 : decode cX8_isEnough 5 = .ok (.aload_n 0, 1) := by decide +kernel
theorem dX8_isEnough_6 : decode cX8_isEnough 6 = .ok (.getfield 32, 3) := by decide +kernel
theorem dX8_isEnough_9 : decode cX8_isEnough 9 = .ok (.iconst 0, 1) := by decide +kernel
theorem dX8_isEnough_10 : decode cX8_isEnough 10 = .ok (.invokestatic 168, 3) := by decide +kernel
theorem dX8_isEnough_13 : decode cX8_isEnough 13 = .ok (.iconst 0, 1) := by decide +kernel
theorem dX8_isEnough_14 : decode cX8_isEnough 14 = .ok (.istore_n 2, 1) := by decide +kernel
theorem dX8_isEnough_15 : decode cX8_isEnough 15 = .ok (.iload_n 2, 1) := by decide +kernel
theorem dX8_isEnough_16 : decode cX8_isEnough 16 = .ok (.bipush 60, 2) := by decide +kernel
theorem dX8_isEnough_18 : decode cX8_isEnough 18 = .ok (.if_icmp .ge 85, 3) := by decide +kernel
theorem dX8_isEnough_21 : decode cX8_isEnough 21 = .ok (.aload_n 0, 1) := by decide +kernel
theorem dX8_isEnough_22 : decode cX8_isEnough 22 = .ok (.aload_n 0, 1) := by decide +kernel
theorem dX8_isEnough_23 : decode cX8_isEnough 23 = .ok (.getfield 45, 3) := by decide +kernel
theorem dX8_isEnough_26 : decode cX8_isEnough 26 = .ok (.aload_n 0, 1) := by decide +kernel
theorem dX8_isEnough_27 : decode cX8_isEnough 27 = .ok (.getfield 57, 3) := by decide +kernel
theorem dX8_isEnough_30 : decode cX8_isEnough 30 = .ok (.iload_n 1, 1) := by decide +kernel
theorem dX8_isEnough_31 : decode cX8_isEnough 31 = .ok (.invokevirtual 197, 3) := by decide +kernel
theorem dX8_isEnough_34 : decode cX8_isEnough 34 = .ok (.iconst 0, 1) := by decide +kernel
theorem dX8_isEnough_35 : decode cX8_isEnough 35 = .ok (.istore_n 3, 1) := by decide +kernel
theorem dX8_isEnough_36 : decode cX8_isEnough 36 = .ok (.iload_n 3, 1) := by decide +kernel
theorem dX8_isEnough_37 : decode cX8_isEnough 37 = .ok (.aload_n 0, 1) := by decide +kernel
theorem dX8_isEnough_38 : decode cX8_isEnough 38 = .ok (.getfield 57, 3) := by decide +kernel
theorem dX8_isEnough_41 : decode cX8_isEnough 41 = .ok (.if_icmp .ge 48, 3) := by decide +kernel
theorem dX8_isEnough_44 : decode cX8_isEnough 44 = .ok (.aload_n 0, 1) := by decide +kernel
theorem dX8_isEnough_45 : decode cX8_isEnough 45 = .ok (.getfield 32, 3) := by decide +kernel
theorem dX8_isEnough_48 : decode cX8_isEnough 48 = .ok (.bipush 7, 2) := by decide +kernel
theorem dX8_isEnough_50 : decode cX8_isEnough 50 = .ok (.iload_n 3, 1) := by decide +kernel
theorem dX8_isEnough_51 : decode cX8_isEnough 51 = .ok (.iadd, 1) := by decide +kernel
theorem dX8_isEnough_52 : decode cX8_isEnough 52 = .ok (.iaload, 1) := by decide +kernel
theorem dX8_isEnough_53 : decode cX8_isEnough 53 = .ok (.iconst 1, 1) := by decide +kernel
theorem dX8_isEnough_54 : decode cX8_isEnough 54 = .ok (.if_icmp .ne 29, 3) := by decide +kernel
theorem dX8_isEnough_57 : decode cX8_isEnough 57 = .ok (.aload_n 0, 1) := by decide +kernel
theorem dX8_isEnough_58 : decode cX8_isEnough 58 = .ok (.aload_n 0, 1) := by decide +kernel
theorem dX8_isEnough_59 : decode cX8_isEnough 59 = .ok (.getfield 32, 3) := by decide +kernel
theorem dX8_isEnough_62 : decode cX8_isEnough 62 = .ok (.iload_n 1, 1) := by decide +kernel
theorem dX8_isEnough_63 : decode cX8_isEnough 63 = .ok (.invokevirtual 141, 3) := by decide +kernel
theorem dX8_isEnough_66 : decode cX8_isEnough 66 = .ok (.ifCond .gt 17, 3) := by decide +kernel
theorem dX8_isEnough_69 : decode cX8_isEnough 69 = .ok (.aload_n 0, 1) := by decide +kernel
theorem dX8_isEnough_70 : decode cX8_isEnough 70 = .ok (.aload_n 0, 1) := by decide +kernel
theorem dX8_isEnough_71 : decode cX8_isEnough 71 = .ok (.getfield 32, 3) := by decide +kernel
theorem dX8_isEnough_74 : decode cX8_isEnough 74 = .ok (.iload_n 3, 1) := by decide +kernel
theorem dX8_isEnough_75 : decode cX8_isEnough 75 = .ok (.invokevirtual 144, 3) := by decide +kernel
theorem dX8_isEnough_78 : decode cX8_isEnough 78 = .ok (.ifCond .eq 5, 3) := by decide +kernel
theorem dX8_isEnough_81 : decode cX8_isEnough 81 = .ok (.iconst 0, 1) := by decide +kernel
theorem dX8_isEnough_82 : decode cX8_isEnough 82 = .ok (.ireturn, 1) := by decide +kernel
theorem dX8_isEnough_83 : decode cX8_isEnough 83 = .ok (.iinc 3 1, 3) := by decide +kernel
theorem dX8_isEnough_86 : decode cX8_isEnough 86 = .ok (.goto (-50), 3) := by decide +kernel
theorem dX8_isEnough_89 : decode cX8_isEnough 89 = .ok (.aload_n 0, 1) := by decide +kernel
theorem dX8_isEnough_90 : decode cX8_isEnough 90 = .ok (.aload_n 0, 1) := by decide +kernel
theorem dX8_isEnough_91 : decode cX8_isEnough 91 = .ok (.getfield 32, 3) := by decide +kernel
theorem dX8_isEnough_94 : decode cX8_isEnough 94 = .ok (.invokevirtual 175, 3) := by decide +kernel
theorem dX8_isEnough_97 : decode cX8_isEnough 97 = .ok (.iinc 2 1, 3) := by decide +kernel
theorem dX8_isEnough_100 : decode cX8_isEnough 100 = .ok (.goto (-85), 3) := by decide +kernel
theorem dX8_isEnough_103 : decode cX8_isEnough 103 = .ok (.iconst 1, 1) := by decide +kernel
theorem dX8_isEnough_104 : decode cX8_isEnough 104 = .ok (.ireturn, 1) := by decide +kernel
theorem dX8_enough_0 : decode cX8_enough 0 = .ok (.iload_n 1, 1) := by decide +kernel
theorem dX8_enough_1 : decode cX8_enough 1 = .ok (.iconst 0, 1) := by decide +kernel
theorem dX8_enough_2 : decode cX8_enough 2 = .ok (.iconst 2, 1) := by decide +kernel
theorem dX8_enough_3 : decode cX8_enough 3 = .ok (.invokestatic 63, 3) := by decide +kernel
theorem dX8_enough_6 : decode cX8_enough 6 = .ok (.ifCond .ne 5, 3) := by decide +kernel
theorem dX8_enough_9 : decode cX8_enough 9 = .ok (.iconst (-1), 1) := by decide +kernel
theorem dX8_enough_10 : decode cX8_enough 10 = .ok (.ireturn, 1) := by decide +kernel
theorem dX8_enough_11 : decode cX8_enough 11 = .ok (.aload_n 0, 1) := by decide +kernel
theorem dX8_enough_12 : decode cX8_enough 12 = .ok (.iload_n 1, 1) := by decide +kernel
theorem dX8_enough_13 : decode cX8_enough 13 = .ok (.invokevirtual 190, 3) := by decide +kernel
theorem dX8_enough_16 : decode cX8_enough 16 = .ok (.iconst 1, 1) := by decide +kernel
theorem dX8_enough_17 : decode cX8_enough 17 = .ok (.istore_n 2, 1) := by decide +kernel
theorem dX8_enough_18 : decode cX8_enough 18 = .ok (.iload_n 2, 1) := by decide +kernel
theorem dX8_enough_19 : decode cX8_enough 19 = .ok (.iconst 4, 1) := by decide +kernel
theorem dX8_enough_20 : decode cX8_enough 20 = .ok (.if_icmp .gt 19, 3) := by decide +kernel
theorem dX8_enough_23 : decode cX8_enough 23 = .ok (.aload_n 0, 1) := by decide +kernel
theorem dX8_enough_24 : decode cX8_enough 24 = .ok (.iload_n 2, 1) := by decide +kernel
theorem dX8_enough_25 : decode cX8_enough 25 = .ok (.invokevirtual 204, 3) := by decide +kernel
theorem dX8_enough_28 : decode cX8_enough 28 = .ok (.ifCond .eq 5, 3) := by decide +kernel
theorem dX8_enough_31 : decode cX8_enough 31 = .ok (.iload_n 2, 1) := by decide +kernel
theorem dX8_enough_32 : decode cX8_enough 32 = .ok (.ireturn, 1) := by decide +kernel
theorem dX8_enough_33 : decode cX8_enough 33 = .ok (.iinc 2 1, 3) := by decide +kernel
theorem dX8_enough_36 : decode cX8_enough 36 = .ok (.goto (-18), 3) := by decide +kernel
theorem dX8_enough_39 : decode cX8_enough 39 = .ok (.bipush (-9), 2) := by decide +kernel
theorem dX8_enough_41 : decode cX8_enough 41 = .ok (.ireturn, 1) := by decide +kernel
theorem dX8_waitedBy_0 : decode cX8_waitedBy 0 = .ok (.aload_n 0, 1) := by decide +kernel
theorem dX8_waitedBy_1 : decode cX8_waitedBy 1 = .ok (.getfield 29, 3) := by decide +kernel
theorem dX8_waitedBy_4 : decode cX8_waitedBy 4 = .ok (.iconst 0, 1) := by decide +kernel
theorem dX8_waitedBy_5 : decode cX8_waitedBy 5 = .ok (.aload_n 0, 1) := by decide +kernel
theorem dX8_waitedBy_6 : decode cX8_waitedBy 6 = .ok (.getfield 32, 3) := by decide +kernel
theorem dX8_waitedBy_9 : decode cX8_waitedBy 9 = .ok (.iconst 0, 1) := by decide +kernel
theorem dX8_waitedBy_10 : decode cX8_waitedBy 10 = .ok (.invokestatic 168, 3) := by decide +kernel
theorem dX8_waitedBy_13 : decode cX8_waitedBy 13 = .ok (.iconst 0, 1) := by decide +kernel
theorem dX8_waitedBy_14 : decode cX8_waitedBy 14 = .ok (.istore_n 2, 1) := by decide +kernel
theorem dX8_waitedBy_15 : decode cX8_waitedBy 15 = .ok (.iload_n 2, 1) := by decide +kernel
theorem dX8_waitedBy_16 : decode cX8_waitedBy 16 = .ok (.bipush 30, 2) := by decide +kernel
theorem dX8_waitedBy_18 : decode cX8_waitedBy 18 = .ok (.if_icmp .ge 30, 3) := by decide +kernel
theorem dX8_waitedBy_21 : decode cX8_waitedBy 21 = .ok (.aload_n 0, 1) := by decide +kernel
theorem dX8_waitedBy_22 : decode cX8_waitedBy 22 = .ok (.aload_n 0, 1) := by decide +kernel
theorem dX8_waitedBy_23 : decode cX8_waitedBy 23 = .ok (.getfield 48, 3) := by decide +kernel
theorem dX8_waitedBy_26 : decode cX8_waitedBy 26 = .ok (.iload_n 1, 1) := by decide +kernel
theorem dX8_waitedBy_27 : decode cX8_waitedBy 27 = .ok (.aload_n 0, 1) := by decide +kernel
theorem dX8_waitedBy_28 : decode cX8_waitedBy 28 = .ok (.getfield 23, 3) := by decide +kernel
theorem dX8_waitedBy_31 : decode cX8_waitedBy 31 = .ok (.invokevirtual 197, 3) := by decide +kernel
theorem dX8_waitedBy_34 : decode cX8_waitedBy 34 = .ok (.aload_n 0, 1) := by decide +kernel
theorem dX8_waitedBy_35 : decode cX8_waitedBy 35 = .ok (.aload_n 0, 1) := by decide +kernel
theorem dX8_waitedBy_36 : decode cX8_waitedBy 36 = .ok (.getfield 32, 3) := by decide +kernel
theorem dX8_waitedBy_39 : decode cX8_waitedBy 39 = .ok (.invokevirtual 175, 3) := by decide +kernel
theorem dX8_waitedBy_42 : decode cX8_waitedBy 42 = .ok (.iinc 2 1, 3) := by decide +kernel
theorem dX8_waitedBy_45 : decode cX8_waitedBy 45 = .ok (.goto (-30), 3) := by decide +kernel
theorem dX8_waitedBy_48 : decode cX8_waitedBy 48 = .ok (.iconst 0, 1) := by decide +kernel
theorem dX8_waitedBy_49 : decode cX8_waitedBy 49 = .ok (.istore_n 2, 1) := by decide +kernel
theorem dX8_waitedBy_50 : decode cX8_waitedBy 50 = .ok (.iconst 0, 1) := by decide +kernel
theorem dX8_waitedBy_51 : decode cX8_waitedBy 51 = .ok (.istore_n 3, 1) := by decide +kernel
theorem dX8_waitedBy_52 : decode cX8_waitedBy 52 = .ok (.iload_n 3, 1) := by decide +kernel
theorem dX8_waitedBy_53 : decode cX8_waitedBy 53 = .ok (.iload_n 1, 1) := by decide +kernel
theorem dX8_waitedBy_54 : decode cX8_waitedBy 54 = .ok (.if_icmp .ge 26, 3) := by decide +kernel
theorem dX8_waitedBy_57 : decode cX8_waitedBy 57 = .ok (.iload_n 2, 1) := by decide +kernel
theorem dX8_waitedBy_58 : decode cX8_waitedBy 58 = .ok (.aload_n 0, 1) := by decide +kernel
theorem dX8_waitedBy_59 : decode cX8_waitedBy 59 = .ok (.getfield 32, 3) := by decide +kernel
theorem dX8_waitedBy_62 : decode cX8_waitedBy 62 = .ok (.bipush 21, 2) := by decide +kernel
theorem dX8_waitedBy_64 : decode cX8_waitedBy 64 = .ok (.aload_n 0, 1) := by decide +kernel
theorem dX8_waitedBy_65 : decode cX8_waitedBy 65 = .ok (.getfield 48, 3) := by decide +kernel
theorem dX8_waitedBy_68 : decode cX8_waitedBy 68 = .ok (.iload_n 3, 1) := by decide +kernel
theorem dX8_waitedBy_69 : decode cX8_waitedBy 69 = .ok (.iaload, 1) := by decide +kernel
theorem dX8_waitedBy_70 : decode cX8_waitedBy 70 = .ok (.iadd, 1) := by decide +kernel
theorem dX8_waitedBy_71 : decode cX8_waitedBy 71 = .ok (.iaload, 1) := by decide +kernel
theorem dX8_waitedBy_72 : decode cX8_waitedBy 72 = .ok (.iadd, 1) := by decide +kernel
theorem dX8_waitedBy_73 : decode cX8_waitedBy 73 = .ok (.istore_n 2, 1) := by decide +kernel
theorem dX8_waitedBy_74 : decode cX8_waitedBy 74 = .ok (.iinc 3 1, 3) := by decide +kernel
theorem dX8_waitedBy_77 : decode cX8_waitedBy 77 = .ok (.goto (-25), 3) := by decide +kernel
theorem dX8_waitedBy_80 : decode cX8_waitedBy 80 = .ok (.iload_n 2, 1) := by decide +kernel
theorem dX8_waitedBy_81 : decode cX8_waitedBy 81 = .ok (.ireturn, 1) := by decide +kernel
theorem dX8_nextRow_0 : decode cX8_nextRow 0 = .ok (.iload_n 2, 1) := by decide +kernel
theorem dX8_nextRow_1 : decode cX8_nextRow 1 = .ok (.iconst 2, 1) := by decide +kernel
theorem dX8_nextRow_2 : decode cX8_nextRow 2 = .ok (.isub, 1) := by decide +kernel
theorem dX8_nextRow_3 : decode cX8_nextRow 3 = .ok (.istore_n 3, 1) := by decide +kernel
theorem dX8_nextRow_4 : decode cX8_nextRow 4 = .ok (.iload_n 3, 1) := by decide +kernel
theorem dX8_nextRow_5 : decode cX8_nextRow 5 = .ok (.ifCond .lt 20, 3) := by decide +kernel
theorem dX8_nextRow_8 : decode cX8_nextRow 8 = .ok (.aload_n 1, 1) := by decide +kernel
theorem dX8_nextRow_9 : decode cX8_nextRow 9 = .ok (.iload_n 3, 1) := by decide +kernel
theorem dX8_nextRow_10 : decode cX8_nextRow 10 = .ok (.iaload, 1) := by decide +kernel
theorem dX8_nextRow_11 : decode cX8_nextRow 11 = .ok (.aload_n 1, 1) := by decide +kernel
theorem dX8_nextRow_12 : decode cX8_nextRow 12 = .ok (.iload_n 3, 1) := by decide +kernel
theorem dX8_nextRow_13 : decode cX8_nextRow 13 = .ok (.iconst 1, 1) := by decide +kernel
theorem dX8_nextRow_14 : decode cX8_nextRow 14 = .ok (.iadd, 1) := by decide +kernel
theorem dX8_nextRow_15 : decode cX8_nextRow 15 = .ok (.iaload, 1) := by decide +kernel
theorem dX8_nextRow_16 : decode cX8_nextRow 16 = .ok (.if_icmp .le 9, 3) := by decide +kernel
theorem dX8_nextRow_19 : decode cX8_nextRow 19 = .ok (.iinc 3 (-1), 3) := by decide +kernel
theorem dX8_nextRow_22 : decode cX8_nextRow 22 = .ok (.goto (-18), 3) := by decide +kernel
theorem dX8_nextRow_25 : decode cX8_nextRow 25 = .ok (.iload_n 3, 1) := by decide +kernel
theorem dX8_nextRow_26 : decode cX8_nextRow 26 = .ok (.ifCond .ge 5, 3) := by decide +kernel
theorem dX8_nextRow_29 : decode cX8_nextRow 29 = .ok (.iconst 0, 1) := by decide +kernel
theorem dX8_nextRow_30 : decode cX8_nextRow 30 = .ok (.ireturn, 1) := by decide +kernel
theorem dX8_nextRow_31 : decode cX8_nextRow 31 = .ok (.iload_n 2, 1) := by decide +kernel
theorem dX8_nextRow_32 : decode cX8_nextRow 32 = .ok (.iconst 1, 1) := by decide +kernel
theorem dX8_nextRow_33 : decode cX8_nextRow 33 = .ok (.isub, 1) := by decide +kernel
theorem dX8_nextRow_34 : decode cX8_nextRow 34 = .ok (.istore 4, 2) := by decide +kernel
theorem dX8_nextRow_36 : decode cX8_nextRow 36 = .ok (.aload_n 1, 1) := by decide +kernel
theorem dX8_nextRow_37 : decode cX8_nextRow 37 = .ok (.iload 4, 2) := by decide +kernel
theorem dX8_nextRow_39 : decode cX8_nextRow 39 = .ok (.iaload, 1) := by decide +kernel
theorem dX8_nextRow_40 : decode cX8_nextRow 40 = .ok (.aload_n 1, 1) := by decide +kernel
theorem dX8_nextRow_41 : decode cX8_nextRow 41 = .ok (.iload_n 3, 1) := by decide +kernel
theorem dX8_nextRow_42 : decode cX8_nextRow 42 = .ok (.iaload, 1) := by decide +kernel
theorem dX8_nextRow_43 : decode cX8_nextRow 43 = .ok (.if_icmp .ge 9, 3) := by decide +kernel
theorem dX8_nextRow_46 : decode cX8_nextRow 46 = .ok (.iinc 4 (-1), 3) := by decide +kernel
theorem dX8_nextRow_49 : decode cX8_nextRow 49 = .ok (.goto (-13), 3) := by decide +kernel
theorem dX8_nextRow_52 : decode cX8_nextRow 52 = .ok (.aload_n 1, 1) := by decide +kernel
theorem dX8_nextRow_53 : decode cX8_nextRow 53 = .ok (.iload_n 3, 1) := by decide +kernel
theorem dX8_nextRow_54 : decode cX8_nextRow 54 = .ok (.iaload, 1) := by decide +kernel
theorem dX8_nextRow_55 : decode cX8_nextRow 55 = .ok (.istore 5, 2) := by decide +kernel
theorem dX8_nextRow_57 : decode cX8_nextRow 57 = .ok (.aload_n 1, 1) := by decide +kernel
theorem dX8_nextRow_58 : decode cX8_nextRow 58 = .ok (.iload_n 3, 1) := by decide +kernel
theorem dX8_nextRow_59 : decode cX8_nextRow 59 = .ok (.aload_n 1, 1) := by decide +kernel
theorem dX8_nextRow_60 : decode cX8_nextRow 60 = .ok (.iload 4, 2) := by decide +kernel
theorem dX8_nextRow_62 : decode cX8_nextRow 62 = .ok (.iaload, 1) := by decide +kernel
theorem dX8_nextRow_63 : decode cX8_nextRow 63 = .ok (.iastore, 1) := by decide +kernel
theorem dX8_nextRow_64 : decode cX8_nextRow 64 = .ok (.aload_n 1, 1) := by decide +kernel
theorem dX8_nextRow_65 : decode cX8_nextRow 65 = .ok (.iload 4, 2) := by decide +kernel
theorem dX8_nextRow_67 : decode cX8_nextRow 67 = .ok (.iload 5, 2) := by decide +kernel
theorem dX8_nextRow_69 : decode cX8_nextRow 69 = .ok (.iastore, 1) := by decide +kernel
theorem dX8_nextRow_70 : decode cX8_nextRow 70 = .ok (.iload_n 3, 1) := by decide +kernel
theorem dX8_nextRow_71 : decode cX8_nextRow 71 = .ok (.iconst 1, 1) := by decide +kernel
theorem dX8_nextRow_72 : decode cX8_nextRow 72 = .ok (.iadd, 1) := by decide +kernel
theorem dX8_nextRow_73 : decode cX8_nextRow 73 = .ok (.istore 6, 2) := by decide +kernel
theorem dX8_nextRow_75 : decode cX8_nextRow 75 = .ok (.iload_n 2, 1) := by decide +kernel
theorem dX8_nextRow_76 : decode cX8_nextRow 76 = .ok (.iconst 1, 1) := by decide +kernel
theorem dX8_nextRow_77 : decode cX8_nextRow 77 = .ok (.isub, 1) := by decide +kernel
theorem dX8_nextRow_78 : decode cX8_nextRow 78 = .ok (.istore 7, 2) := by decide +kernel
theorem dX8_nextRow_80 : decode cX8_nextRow 80 = .ok (.iload 6, 2) := by decide +kernel
theorem dX8_nextRow_82 : decode cX8_nextRow 82 = .ok (.iload 7, 2) := by decide +kernel
theorem dX8_nextRow_84 : decode cX8_nextRow 84 = .ok (.if_icmp .ge 32, 3) := by decide +kernel
theorem dX8_nextRow_87 : decode cX8_nextRow 87 = .ok (.aload_n 1, 1) := by decide +kernel
theorem dX8_nextRow_88 : decode cX8_nextRow 88 = .ok (.iload 6, 2) := by decide +kernel
theorem dX8_nextRow_90 : decode cX8_nextRow 90 = .ok (.iaload, 1) := by decide +kernel
theorem dX8_nextRow_91 : decode cX8_nextRow 91 = .ok (.istore 8, 2) := by decide +kernel
theorem dX8_nextRow_93 : decode cX8_nextRow 93 = .ok (.aload_n 1, 1) := by decide +kernel
theorem dX8_nextRow_94 : decode cX8_nextRow 94 = .ok (.iload 6, 2) := by decide +kernel
theorem dX8_nextRow_96 : decode cX8_nextRow 96 = .ok (.aload_n 1, 1) := by decide +kernel
theorem dX8_nextRow_97 : decode cX8_nextRow 97 = .ok (.iload 7, 2) := by decide +kernel
theorem dX8_nextRow_99 : decode cX8_nextRow 99 = .ok (.iaload, 1) := by decide +kernel
theorem dX8_nextRow_100 : decode cX8_nextRow 100 = .ok (.iastore, 1) := by decide +kernel
theorem dX8_nextRow_101 : decode cX8_nextRow 101 = .ok (.aload_n 1, 1) := by decide +kernel
theorem dX8_nextRow_102 : decode cX8_nextRow 102 = .ok (.iload 7, 2) := by decide +kernel
theorem dX8_nextRow_104 : decode cX8_nextRow 104 = .ok (.iload 8, 2) := by decide +kernel
theorem dX8_nextRow_106 : decode cX8_nextRow 106 = .ok (.iastore, 1) := by decide +kernel
theorem dX8_nextRow_107 : decode cX8_nextRow 107 = .ok (.iinc 7 (-1), 3) := by decide +kernel
theorem dX8_nextRow_110 : decode cX8_nextRow 110 = .ok (.iinc 6 1, 3) := by decide +kernel
theorem dX8_nextRow_113 : decode cX8_nextRow 113 = .ok (.goto (-33), 3) := by decide +kernel
theorem dX8_nextRow_116 : decode cX8_nextRow 116 = .ok (.iconst 1, 1) := by decide +kernel
theorem dX8_nextRow_117 : decode cX8_nextRow 117 = .ok (.ireturn, 1) := by decide +kernel
theorem dX8_bestRow_0 : decode cX8_bestRow 0 = .ok (.iload_n 1, 1) := by decide +kernel
theorem dX8_bestRow_1 : decode cX8_bestRow 1 = .ok (.iconst (-1), 1) := by decide +kernel
theorem dX8_bestRow_2 : decode cX8_bestRow 2 = .ok (.if_icmp .ge 5, 3) := by decide +kernel
theorem dX8_bestRow_5 : decode cX8_bestRow 5 = .ok (.iconst (-1), 1) := by decide +kernel
theorem dX8_bestRow_6 : decode cX8_bestRow 6 = .ok (.ireturn, 1) := by decide +kernel
theorem dX8_bestRow_7 : decode cX8_bestRow 7 = .ok (.iconst 0, 1) := by decide +kernel
theorem dX8_bestRow_8 : decode cX8_bestRow 8 = .ok (.istore_n 2, 1) := by decide +kernel
theorem dX8_bestRow_9 : decode cX8_bestRow 9 = .ok (.iconst 0, 1) := by decide +kernel
theorem dX8_bestRow_10 : decode cX8_bestRow 10 = .ok (.istore_n 3, 1) := by decide +kernel
theorem dX8_bestRow_11 : decode cX8_bestRow 11 = .ok (.iload_n 3, 1) := by decide +kernel
theorem dX8_bestRow_12 : decode cX8_bestRow 12 = .ok (.aload_n 0, 1) := by decide +kernel
theorem dX8_bestRow_13 : decode cX8_bestRow 13 = .ok (.getfield 57, 3) := by decide +kernel
theorem dX8_bestRow_16 : decode cX8_bestRow 16 = .ok (.if_icmp .ge 32, 3) := by decide +kernel
theorem dX8_bestRow_19 : decode cX8_bestRow 19 = .ok (.aload_n 0, 1) := by decide +kernel
theorem dX8_bestRow_20 : decode cX8_bestRow 20 = .ok (.getfield 29, 3) := by decide +kernel
theorem dX8_bestRow_23 : decode cX8_bestRow 23 = .ok (.bipush 7, 2) := by decide +kernel
theorem dX8_bestRow_25 : decode cX8_bestRow 25 = .ok (.iload_n 3, 1) := by decide +kernel
theorem dX8_bestRow_26 : decode cX8_bestRow 26 = .ok (.iadd, 1) := by decide +kernel
theorem dX8_bestRow_27 : decode cX8_bestRow 27 = .ok (.iaload, 1) := by decide +kernel
theorem dX8_bestRow_28 : decode cX8_bestRow 28 = .ok (.iconst 1, 1) := by decide +kernel
theorem dX8_bestRow_29 : decode cX8_bestRow 29 = .ok (.if_icmp .ne 13, 3) := by decide +kernel
theorem dX8_bestRow_32 : decode cX8_bestRow 32 = .ok (.aload_n 0, 1) := by decide +kernel
theorem dX8_bestRow_33 : decode cX8_bestRow 33 = .ok (.getfield 48, 3) := by decide +kernel
theorem dX8_bestRow_36 : decode cX8_bestRow 36 = .ok (.iload_n 2, 1) := by decide +kernel
theorem dX8_bestRow_37 : decode cX8_bestRow 37 = .ok (.iload_n 3, 1) := by decide +kernel
theorem dX8_bestRow_38 : decode cX8_bestRow 38 = .ok (.iastore, 1) := by decide +kernel
theorem dX8_bestRow_39 : decode cX8_bestRow 39 = .ok (.iinc 2 1, 3) := by decide +kernel
theorem dX8_bestRow_42 : decode cX8_bestRow 42 = .ok (.iinc 3 1, 3) := by decide +kernel
theorem dX8_bestRow_45 : decode cX8_bestRow 45 = .ok (.goto (-34), 3) := by decide +kernel
theorem dX8_bestRow_48 : decode cX8_bestRow 48 = .ok (.iconst (-1), 1) := by decide +kernel
theorem dX8_bestRow_49 : decode cX8_bestRow 49 = .ok (.istore_n 3, 1) := by decide +kernel
theorem dX8_bestRow_50 : decode cX8_bestRow 50 = .ok (.iconst 1, 1) := by decide +kernel
theorem dX8_bestRow_51 : decode cX8_bestRow 51 = .ok (.istore 4, 2) := by decide +kernel
theorem dX8_bestRow_53 : decode cX8_bestRow 53 = .ok (.iload 4, 2) := by decide +kernel
theorem dX8_bestRow_55 : decode cX8_bestRow 55 = .ok (.ifCond .eq 66, 3) := by decide +kernel
theorem dX8_bestRow_58 : decode cX8_bestRow 58 = .ok (.aload_n 0, 1) := by decide +kernel
theorem dX8_bestRow_59 : decode cX8_bestRow 59 = .ok (.iload_n 2, 1) := by decide +kernel
theorem dX8_bestRow_60 : decode cX8_bestRow 60 = .ok (.invokevirtual 207, 3) := by decide +kernel
theorem dX8_bestRow_63 : decode cX8_bestRow 63 = .ok (.istore 5, 2) := by decide +kernel
theorem dX8_bestRow_65 : decode cX8_bestRow 65 = .ok (.iload_n 3, 1) := by decide +kernel
theorem dX8_bestRow_66 : decode cX8_bestRow 66 = .ok (.ifCond .lt 9, 3) := by decide +kernel
theorem dX8_bestRow_69 : decode cX8_bestRow 69 = .ok (.iload 5, 2) := by decide +kernel
theorem dX8_bestRow_71 : decode cX8_bestRow 71 = .ok (.iload_n 3, 1) := by decide +kernel
theorem dX8_bestRow_72 : decode cX8_bestRow 72 = .ok (.if_icmp .ge 35, 3) := by decide +kernel
theorem dX8_bestRow_75 : decode cX8_bestRow 75 = .ok (.iload 5, 2) := by decide +kernel
theorem dX8_bestRow_77 : decode cX8_bestRow 77 = .ok (.istore_n 3, 1) := by decide +kernel
theorem dX8_bestRow_78 : decode cX8_bestRow 78 = .ok (.iconst 0, 1) := by decide +kernel
theorem dX8_bestRow_79 : decode cX8_bestRow 79 = .ok (.istore 6, 2) := by decide +kernel
theorem dX8_bestRow_81 : decode cX8_bestRow 81 = .ok (.iload 6, 2) := by decide +kernel
theorem dX8_bestRow_83 : decode cX8_bestRow 83 = .ok (.iload_n 2, 1) := by decide +kernel
theorem dX8_bestRow_84 : decode cX8_bestRow 84 = .ok (.if_icmp .ge 23, 3) := by decide +kernel
theorem dX8_bestRow_87 : decode cX8_bestRow 87 = .ok (.aload_n 0, 1) := by decide +kernel
theorem dX8_bestRow_88 : decode cX8_bestRow 88 = .ok (.getfield 51, 3) := by decide +kernel
theorem dX8_bestRow_91 : decode cX8_bestRow 91 = .ok (.iload 6, 2) := by decide +kernel
theorem dX8_bestRow_93 : decode cX8_bestRow 93 = .ok (.aload_n 0, 1) := by decide +kernel
theorem dX8_bestRow_94 : decode cX8_bestRow 94 = .ok (.getfield 48, 3) := by decide +kernel
theorem dX8_bestRow_97 : decode cX8_bestRow 97 = .ok (.iload 6, 2) := by decide +kernel
theorem dX8_bestRow_99 : decode cX8_bestRow 99 = .ok (.iaload, 1) := by decide +kernel
theorem dX8_bestRow_100 : decode cX8_bestRow 100 = .ok (.iastore, 1) := by decide +kernel
theorem dX8_bestRow_101 : decode cX8_bestRow 101 = .ok (.iinc 6 1, 3) := by decide +kernel
theorem dX8_bestRow_104 : decode cX8_bestRow 104 = .ok (.goto (-23), 3) := by decide +kernel
theorem dX8_bestRow_107 : decode cX8_bestRow 107 = .ok (.aload_n 0, 1) := by decide +kernel
theorem dX8_bestRow_108 : decode cX8_bestRow 108 = .ok (.aload_n 0, 1) := by decide +kernel
theorem dX8_bestRow_109 : decode cX8_bestRow 109 = .ok (.getfield 48, 3) := by decide +kernel
theorem dX8_bestRow_112 : decode cX8_bestRow 112 = .ok (.iload_n 2, 1) := by decide +kernel
theorem dX8_bestRow_113 : decode cX8_bestRow 113 = .ok (.invokevirtual 210, 3) := by decide +kernel
theorem dX8_bestRow_116 : decode cX8_bestRow 116 = .ok (.istore 4, 2) := by decide +kernel
theorem dX8_bestRow_118 : decode cX8_bestRow 118 = .ok (.goto (-65), 3) := by decide +kernel
theorem dX8_bestRow_121 : decode cX8_bestRow 121 = .ok (.iload_n 1, 1) := by decide +kernel
theorem dX8_bestRow_122 : decode cX8_bestRow 122 = .ok (.ifCond .ge 7, 3) := by decide +kernel
theorem dX8_bestRow_125 : decode cX8_bestRow 125 = .ok (.iload_n 3, 1) := by decide +kernel
theorem dX8_bestRow_126 : decode cX8_bestRow 126 = .ok (.goto 19, 3) := by decide +kernel
theorem dX8_bestRow_129 : decode cX8_bestRow 129 = .ok (.iload_n 1, 1) := by decide +kernel
theorem dX8_bestRow_130 : decode cX8_bestRow 130 = .ok (.iload_n 2, 1) := by decide +kernel
theorem dX8_bestRow_131 : decode cX8_bestRow 131 = .ok (.if_icmp .ge 12, 3) := by decide +kernel
theorem dX8_bestRow_134 : decode cX8_bestRow 134 = .ok (.aload_n 0, 1) := by decide +kernel
theorem dX8_bestRow_135 : decode cX8_bestRow 135 = .ok (.getfield 51, 3) := by decide +kernel
theorem dX8_bestRow_138 : decode cX8_bestRow 138 = .ok (.iload_n 1, 1) := by decide +kernel
theorem dX8_bestRow_139 : decode cX8_bestRow 139 = .ok (.iaload, 1) := by decide +kernel
theorem dX8_bestRow_140 : decode cX8_bestRow 140 = .ok (.goto 5, 3) := by decide +kernel
theorem dX8_bestRow_143 : decode cX8_bestRow 143 = .ok (.bipush (-5), 2) := by decide +kernel
theorem dX8_bestRow_145 : decode cX8_bestRow 145 = .ok (.ireturn, 1) := by decide +kernel
theorem dX8_cutFor_0 : decode cX8_cutFor 0 = .ok (.aload_n 0, 1) := by decide +kernel
theorem dX8_cutFor_1 : decode cX8_cutFor 1 = .ok (.iload_n 1, 1) := by decide +kernel
theorem dX8_cutFor_2 : decode cX8_cutFor 2 = .ok (.invokevirtual 161, 3) := by decide +kernel
theorem dX8_cutFor_5 : decode cX8_cutFor 5 = .ok (.ifCond .ne 5, 3) := by decide +kernel
theorem dX8_cutFor_8 : decode cX8_cutFor 8 = .ok (.iconst (-1), 1) := by decide +kernel
theorem dX8_cutFor_9 : decode cX8_cutFor 9 = .ok (.ireturn, 1) := by decide +kernel
theorem dX8_cutFor_10 : decode cX8_cutFor 10 = .ok (.aload_n 0, 1) := by decide +kernel
theorem dX8_cutFor_11 : decode cX8_cutFor 11 = .ok (.getfield 29, 3) := by decide +kernel
theorem dX8_cutFor_14 : decode cX8_cutFor 14 = .ok (.bipush 7, 2) := by decide +kernel
theorem dX8_cutFor_16 : decode cX8_cutFor 16 = .ok (.iload_n 1, 1) := by decide +kernel
theorem dX8_cutFor_17 : decode cX8_cutFor 17 = .ok (.iadd, 1) := by decide +kernel
theorem dX8_cutFor_18 : decode cX8_cutFor 18 = .ok (.iaload, 1) := by decide +kernel
theorem dX8_cutFor_19 : decode cX8_cutFor 19 = .ok (.iconst 1, 1) := by decide +kernel
theorem dX8_cutFor_20 : decode cX8_cutFor 20 = .ok (.if_icmp .eq 6, 3) := by decide +kernel
theorem dX8_cutFor_23 : decode cX8_cutFor 23 = .ok (.bipush (-2), 2) := by decide +kernel
theorem dX8_cutFor_25 : decode cX8_cutFor 25 = .ok (.ireturn, 1) := by decide +kernel
theorem dX8_cutFor_26 : decode cX8_cutFor 26 = .ok (.aload_n 0, 1) := by decide +kernel
theorem dX8_cutFor_27 : decode cX8_cutFor 27 = .ok (.aload_n 0, 1) := by decide +kernel
theorem dX8_cutFor_28 : decode cX8_cutFor 28 = .ok (.getfield 29, 3) := by decide +kernel
theorem dX8_cutFor_31 : decode cX8_cutFor 31 = .ok (.iconst 2, 1) := by decide +kernel
theorem dX8_cutFor_32 : decode cX8_cutFor 32 = .ok (.invokevirtual 131, 3) := by decide +kernel
theorem dX8_cutFor_35 : decode cX8_cutFor 35 = .ok (.istore_n 2, 1) := by decide +kernel
theorem dX8_cutFor_36 : decode cX8_cutFor 36 = .ok (.iconst (-1), 1) := by decide +kernel
theorem dX8_cutFor_37 : decode cX8_cutFor 37 = .ok (.istore_n 3, 1) := by decide +kernel
theorem dX8_cutFor_38 : decode cX8_cutFor 38 = .ok (.iconst 0, 1) := by decide +kernel
theorem dX8_cutFor_39 : decode cX8_cutFor 39 = .ok (.istore 4, 2) := by decide +kernel
theorem dX8_cutFor_41 : decode cX8_cutFor 41 = .ok (.iconst 0, 1) := by decide +kernel
theorem dX8_cutFor_42 : decode cX8_cutFor 42 = .ok (.istore 5, 2) := by decide +kernel
theorem dX8_cutFor_44 : decode cX8_cutFor 44 = .ok (.iload 5, 2) := by decide +kernel
theorem dX8_cutFor_46 : decode cX8_cutFor 46 = .ok (.iload_n 2, 1) := by decide +kernel
theorem dX8_cutFor_47 : decode cX8_cutFor 47 = .ok (.if_icmp .gt 139, 3) := by decide +kernel
theorem dX8_cutFor_50 : decode cX8_cutFor 50 = .ok (.iload 5, 2) := by decide +kernel
theorem dX8_cutFor_52 : decode cX8_cutFor 52 = .ok (.iload_n 2, 1) := by decide +kernel
theorem dX8_cutFor_53 : decode cX8_cutFor 53 = .ok (.iconst (-1), 1) := by decide +kernel
theorem dX8_cutFor_54 : decode cX8_cutFor 54 = .ok (.ixor, 1) := by decide +kernel
theorem dX8_cutFor_55 : decode cX8_cutFor 55 = .ok (.iand, 1) := by decide +kernel
theorem dX8_cutFor_56 : decode cX8_cutFor 56 = .ok (.ifCond .eq 6, 3) := by decide +kernel
theorem dX8_cutFor_59 : decode cX8_cutFor 59 = .ok (.goto 121, 3) := by decide +kernel
theorem dX8_cutFor_62 : decode cX8_cutFor 62 = .ok (.aload_n 0, 1) := by decide +kernel
theorem dX8_cutFor_63 : decode cX8_cutFor 63 = .ok (.getfield 29, 3) := by decide +kernel
theorem dX8_cutFor_66 : decode cX8_cutFor 66 = .ok (.iconst 0, 1) := by decide +kernel
theorem dX8_cutFor_67 : decode cX8_cutFor 67 = .ok (.aload_n 0, 1) := by decide +kernel
theorem dX8_cutFor_68 : decode cX8_cutFor 68 = .ok (.getfield 32, 3) := by decide +kernel
theorem dX8_cutFor_71 : decode cX8_cutFor 71 = .ok (.iconst 0, 1) := by decide +kernel
theorem dX8_cutFor_72 : decode cX8_cutFor 72 = .ok (.invokestatic 168, 3) := by decide +kernel
theorem dX8_cutFor_75 : decode cX8_cutFor 75 = .ok (.iconst 0, 1) := by decide +kernel
theorem dX8_cutFor_76 : decode cX8_cutFor 76 = .ok (.istore 6, 2) := by decide +kernel
theorem dX8_cutFor_78 : decode cX8_cutFor 78 = .ok (.iconst 0, 1) := by decide +kernel
theorem dX8_cutFor_79 : decode cX8_cutFor 79 = .ok (.istore 7, 2) := by decide +kernel
theorem dX8_cutFor_81 : decode cX8_cutFor 81 = .ok (.iload 7, 2) := by decide +kernel
theorem dX8_cutFor_83 : decode cX8_cutFor 83 = .ok (.aload_n 0, 1) := by decide +kernel
theorem dX8_cutFor_84 : decode cX8_cutFor 84 = .ok (.getfield 57, 3) := by decide +kernel
theorem dX8_cutFor_87 : decode cX8_cutFor 87 = .ok (.if_icmp .ge 45, 3) := by decide +kernel
theorem dX8_cutFor_90 : decode cX8_cutFor 90 = .ok (.iload 5, 2) := by decide +kernel
theorem dX8_cutFor_92 : decode cX8_cutFor 92 = .ok (.iload 7, 2) := by decide +kernel
theorem dX8_cutFor_94 : decode cX8_cutFor 94 = .ok (.invokestatic 201, 3) := by decide +kernel
theorem dX8_cutFor_97 : decode cX8_cutFor 97 = .ok (.ifCond .eq 29, 3) := by decide +kernel
theorem dX8_cutFor_100 : decode cX8_cutFor 100 = .ok (.aload_n 0, 1) := by decide +kernel
theorem dX8_cutFor_101 : decode cX8_cutFor 101 = .ok (.getfield 32, 3) := by decide +kernel
theorem dX8_cutFor_104 : decode cX8_cutFor 104 = .ok (.bipush 7, 2) := by decide +kernel
theorem dX8_cutFor_106 : decode cX8_cutFor 106 = .ok (.iload 7, 2) := by decide +kernel
theorem dX8_cutFor_108 : decode cX8_cutFor 108 = .ok (.iadd, 1) := by decide +kernel
theorem dX8_cutFor_109 : decode cX8_cutFor 109 = .ok (.iconst 4, 1) := by decide +kernel
theorem dX8_cutFor_110 : decode cX8_cutFor 110 = .ok (.iastore, 1) := by decide +kernel
theorem dX8_cutFor_111 : decode cX8_cutFor 111 = .ok (.iload 6, 2) := by decide +kernel
theorem dX8_cutFor_113 : decode cX8_cutFor 113 = .ok (.aload_n 0, 1) := by decide +kernel
theorem dX8_cutFor_114 : decode cX8_cutFor 114 = .ok (.getfield 29, 3) := by decide +kernel
theorem dX8_cutFor_117 : decode cX8_cutFor 117 = .ok (.bipush 14, 2) := by decide +kernel
theorem dX8_cutFor_119 : decode cX8_cutFor 119 = .ok (.iload 7, 2) := by decide +kernel
theorem dX8_cutFor_121 : decode cX8_cutFor 121 = .ok (.iadd, 1) := by decide +kernel
theorem dX8_cutFor_122 : decode cX8_cutFor 122 = .ok (.iaload, 1) := by decide +kernel
theorem dX8_cutFor_123 : decode cX8_cutFor 123 = .ok (.iadd, 1) := by decide +kernel
theorem dX8_cutFor_124 : decode cX8_cutFor 124 = .ok (.istore 6, 2) := by decide +kernel
theorem dX8_cutFor_126 : decode cX8_cutFor 126 = .ok (.iinc 7 1, 3) := by decide +kernel
theorem dX8_cutFor_129 : decode cX8_cutFor 129 = .ok (.goto (-48), 3) := by decide +kernel
theorem dX8_cutFor_132 : decode cX8_cutFor 132 = .ok (.sipush 1000, 3) := by decide +kernel
theorem dX8_cutFor_135 : decode cX8_cutFor 135 = .ok (.iload 5, 2) := by decide +kernel
theorem dX8_cutFor_137 : decode cX8_cutFor 137 = .ok (.invokestatic 135, 3) := by decide +kernel
theorem dX8_cutFor_140 : decode cX8_cutFor 140 = .ok (.imul, 1) := by decide +kernel
theorem dX8_cutFor_141 : decode cX8_cutFor 141 = .ok (.iload 6, 2) := by decide +kernel
theorem dX8_cutFor_143 : decode cX8_cutFor 143 = .ok (.iadd, 1) := by decide +kernel
theorem dX8_cutFor_144 : decode cX8_cutFor 144 = .ok (.istore 7, 2) := by decide +kernel
theorem dX8_cutFor_146 : decode cX8_cutFor 146 = .ok (.aload_n 0, 1) := by decide +kernel
theorem dX8_cutFor_147 : decode cX8_cutFor 147 = .ok (.aload_n 0, 1) := by decide +kernel
theorem dX8_cutFor_148 : decode cX8_cutFor 148 = .ok (.getfield 32, 3) := by decide +kernel
theorem dX8_cutFor_151 : decode cX8_cutFor 151 = .ok (.iload_n 1, 1) := by decide +kernel
theorem dX8_cutFor_152 : decode cX8_cutFor 152 = .ok (.aload_n 0, 1) := by decide +kernel
theorem dX8_cutFor_153 : decode cX8_cutFor 153 = .ok (.getfield 23, 3) := by decide +kernel
theorem dX8_cutFor_156 : decode cX8_cutFor 156 = .ok (.invokevirtual 179, 3) := by decide +kernel
theorem dX8_cutFor_159 : decode cX8_cutFor 159 = .ok (.ifCond .eq 21, 3) := by decide +kernel
theorem dX8_cutFor_162 : decode cX8_cutFor 162 = .ok (.iload_n 3, 1) := by decide +kernel
theorem dX8_cutFor_163 : decode cX8_cutFor 163 = .ok (.ifCond .lt 10, 3) := by decide +kernel
theorem dX8_cutFor_166 : decode cX8_cutFor 166 = .ok (.iload 7, 2) := by decide +kernel
theorem dX8_cutFor_168 : decode cX8_cutFor 168 = .ok (.iload 4, 2) := by decide +kernel
theorem dX8_cutFor_170 : decode cX8_cutFor 170 = .ok (.if_icmp .ge 10, 3) := by decide +kernel
theorem dX8_cutFor_173 : decode cX8_cutFor 173 = .ok (.iload 5, 2) := by decide +kernel
theorem dX8_cutFor_175 : decode cX8_cutFor 175 = .ok (.istore_n 3, 1) := by decide +kernel
theorem dX8_cutFor_176 : decode cX8_cutFor 176 = .ok (.iload 7, 2) := by decide +kernel
theorem dX8_cutFor_178 : decode cX8_cutFor 178 = .ok (.istore 4, 2) := by decide +kernel
theorem dX8_cutFor_180 : decode cX8_cutFor 180 = .ok (.iinc 5 1, 3) := by decide +kernel
theorem dX8_cutFor_183 : decode cX8_cutFor 183 = .ok (.goto (-139), 3) := by decide +kernel
theorem dX8_cutFor_186 : decode cX8_cutFor 186 = .ok (.iload_n 3, 1) := by decide +kernel
theorem dX8_cutFor_187 : decode cX8_cutFor 187 = .ok (.ireturn, 1) := by decide +kernel
theorem dX8_distance_0 : decode cX8_distance 0 = .ok (.iload_n 0, 1) := by decide +kernel
theorem dX8_distance_1 : decode cX8_distance 1 = .ok (.iload_n 1, 1) := by decide +kernel
theorem dX8_distance_2 : decode cX8_distance 2 = .ok (.if_icmp .le 9, 3) := by decide +kernel
theorem dX8_distance_5 : decode cX8_distance 5 = .ok (.iload_n 0, 1) := by decide +kernel
theorem dX8_distance_6 : decode cX8_distance 6 = .ok (.iload_n 1, 1) := by decide +kernel
theorem dX8_distance_7 : decode cX8_distance 7 = .ok (.isub, 1) := by decide +kernel
theorem dX8_distance_8 : decode cX8_distance 8 = .ok (.goto 6, 3) := by decide +kernel
theorem dX8_distance_11 : decode cX8_distance 11 = .ok (.iload_n 1, 1) := by decide +kernel
theorem dX8_distance_12 : decode cX8_distance 12 = .ok (.iload_n 0, 1) := by decide +kernel
theorem dX8_distance_13 : decode cX8_distance 13 = .ok (.isub, 1) := by decide +kernel
theorem dX8_distance_14 : decode cX8_distance 14 = .ok (.ireturn, 1) := by decide +kernel
theorem dX8_longBy_0 : decode cX8_longBy 0 = .ok (.iconst 0, 1) := by decide +kernel
theorem dX8_longBy_1 : decode cX8_longBy 1 = .ok (.istore_n 3, 1) := by decide +kernel
theorem dX8_longBy_2 : decode cX8_longBy 2 = .ok (.iconst 0, 1) := by decide +kernel
theorem dX8_longBy_3 : decode cX8_longBy 3 = .ok (.istore 4, 2) := by decide +kernel
theorem dX8_longBy_5 : decode cX8_longBy 5 = .ok (.iload 4, 2) := by decide +kernel
theorem dX8_longBy_7 : decode cX8_longBy 7 = .ok (.aload_n 0, 1) := by decide +kernel
theorem dX8_longBy_8 : decode cX8_longBy 8 = .ok (.getfield 57, 3) := by decide +kernel
theorem dX8_longBy_11 : decode cX8_longBy 11 = .ok (.if_icmp .ge 35, 3) := by decide +kernel
theorem dX8_longBy_14 : decode cX8_longBy 14 = .ok (.iload_n 3, 1) := by decide +kernel
theorem dX8_longBy_15 : decode cX8_longBy 15 = .ok (.aload_n 1, 1) := by decide +kernel
theorem dX8_longBy_16 : decode cX8_longBy 16 = .ok (.iload_n 2, 1) := by decide +kernel
theorem dX8_longBy_17 : decode cX8_longBy 17 = .ok (.aload_n 0, 1) := by decide +kernel
theorem dX8_longBy_18 : decode cX8_longBy 18 = .ok (.iload 4, 2) := by decide +kernel
theorem dX8_longBy_20 : decode cX8_longBy 20 = .ok (.invokevirtual 121, 3) := by decide +kernel
theorem dX8_longBy_23 : decode cX8_longBy 23 = .ok (.iadd, 1) := by decide +kernel
theorem dX8_longBy_24 : decode cX8_longBy 24 = .ok (.iaload, 1) := by decide +kernel
theorem dX8_longBy_25 : decode cX8_longBy 25 = .ok (.aload_n 1, 1) := by decide +kernel
theorem dX8_longBy_26 : decode cX8_longBy 26 = .ok (.iload_n 2, 1) := by decide +kernel
theorem dX8_longBy_27 : decode cX8_longBy 27 = .ok (.aload_n 0, 1) := by decide +kernel
theorem dX8_longBy_28 : decode cX8_longBy 28 = .ok (.iload 4, 2) := by decide +kernel
theorem dX8_longBy_30 : decode cX8_longBy 30 = .ok (.invokevirtual 125, 3) := by decide +kernel
theorem dX8_longBy_33 : decode cX8_longBy 33 = .ok (.iadd, 1) := by decide +kernel
theorem dX8_longBy_34 : decode cX8_longBy 34 = .ok (.iaload, 1) := by decide +kernel
theorem dX8_longBy_35 : decode cX8_longBy 35 = .ok (.invokestatic 213, 3) := by decide +kernel
theorem dX8_longBy_38 : decode cX8_longBy 38 = .ok (.iadd, 1) := by decide +kernel
theorem dX8_longBy_39 : decode cX8_longBy 39 = .ok (.istore_n 3, 1) := by decide +kernel
theorem dX8_longBy_40 : decode cX8_longBy 40 = .ok (.iinc 4 1, 3) := by decide +kernel
theorem dX8_longBy_43 : decode cX8_longBy 43 = .ok (.goto (-38), 3) := by decide +kernel
theorem dX8_longBy_46 : decode cX8_longBy 46 = .ok (.iload_n 3, 1) := by decide +kernel
theorem dX8_longBy_47 : decode cX8_longBy 47 = .ok (.ireturn, 1) := by decide +kernel
theorem dX8_longCords_0 : decode cX8_longCords 0 = .ok (.aload_n 0, 1) := by decide +kernel
theorem dX8_longCords_1 : decode cX8_longCords 1 = .ok (.aload_n 0, 1) := by decide +kernel
theorem dX8_longCords_2 : decode cX8_longCords 2 = .ok (.getfield 29, 3) := by decide +kernel
theorem dX8_longCords_5 : decode cX8_longCords 5 = .ok (.iconst 1, 1) := by decide +kernel
theorem dX8_longCords_6 : decode cX8_longCords 6 = .ok (.invokevirtual 217, 3) := by decide +kernel
theorem dX8_longCords_9 : decode cX8_longCords 9 = .ok (.ireturn, 1) := by decide +kernel
theorem dX8_change_0 : decode cX8_change 0 = .ok (.bipush (-9), 2) := by decide +kernel
theorem dX8_change_2 : decode cX8_change 2 = .ok (.istore_n 1, 1) := by decide +kernel
theorem dX8_change_3 : decode cX8_change 3 = .ok (.aload_n 0, 1) := by decide +kernel
theorem dX8_change_4 : decode cX8_change 4 = .ok (.invokevirtual 220, 3) := by decide +kernel
theorem dX8_change_7 : decode cX8_change 7 = .ok (.istore_n 2, 1) := by decide +kernel
theorem dX8_change_8 : decode cX8_change 8 = .ok (.iconst 0, 1) := by decide +kernel
theorem dX8_change_9 : decode cX8_change 9 = .ok (.istore_n 3, 1) := by decide +kernel
theorem dX8_change_10 : decode cX8_change 10 = .ok (.iload_n 3, 1) := by decide +kernel
theorem dX8_change_11 : decode cX8_change 11 = .ok (.aload_n 0, 1) := by decide +kernel
theorem dX8_change_12 : decode cX8_change 12 = .ok (.getfield 19, 3) := by decide +kernel
theorem dX8_change_15 : decode cX8_change 15 = .ok (.if_icmp .ge 104, 3) := by decide +kernel
theorem dX8_change_18 : decode cX8_change 18 = .ok (.iload_n 3, 1) := by decide +kernel
theorem dX8_change_19 : decode cX8_change 19 = .ok (.iconst 1, 1) := by decide +kernel
theorem dX8_change_20 : decode cX8_change 20 = .ok (.iadd, 1) := by decide +kernel
theorem dX8_change_21 : decode cX8_change 21 = .ok (.istore 4, 2) := by decide +kernel
theorem dX8_change_23 : decode cX8_change 23 = .ok (.iload 4, 2) := by decide +kernel
theorem dX8_change_25 : decode cX8_change 25 = .ok (.aload_n 0, 1) := by decide +kernel
theorem dX8_change_26 : decode cX8_change 26 = .ok (.getfield 19, 3) := by decide +kernel
theorem dX8_change_29 : decode cX8_change 29 = .ok (.if_icmp .ge 84, 3) := by decide +kernel
theorem dX8_change_32 : decode cX8_change 32 = .ok (.aload_n 0, 1) := by decide +kernel
theorem dX8_change_33 : decode cX8_change 33 = .ok (.getfield 29, 3) := by decide +kernel
theorem dX8_change_36 : decode cX8_change 36 = .ok (.iconst 0, 1) := by decide +kernel
theorem dX8_change_37 : decode cX8_change 37 = .ok (.aload_n 0, 1) := by decide +kernel
theorem dX8_change_38 : decode cX8_change 38 = .ok (.getfield 32, 3) := by decide +kernel
theorem dX8_change_41 : decode cX8_change 41 = .ok (.iconst 0, 1) := by decide +kernel
theorem dX8_change_42 : decode cX8_change 42 = .ok (.invokestatic 168, 3) := by decide +kernel
theorem dX8_change_45 : decode cX8_change 45 = .ok (.aload_n 0, 1) := by decide +kernel
theorem dX8_change_46 : decode cX8_change 46 = .ok (.getfield 32, 3) := by decide +kernel
theorem dX8_change_49 : decode cX8_change 49 = .ok (.iconst 1, 1) := by decide +kernel
theorem dX8_change_50 : decode cX8_change 50 = .ok (.iload_n 3, 1) := by decide +kernel
theorem dX8_change_51 : decode cX8_change 51 = .ok (.iadd, 1) := by decide +kernel
theorem dX8_change_52 : decode cX8_change 52 = .ok (.aload_n 0, 1) := by decide +kernel
theorem dX8_change_53 : decode cX8_change 53 = .ok (.getfield 29, 3) := by decide +kernel
theorem dX8_change_56 : decode cX8_change 56 = .ok (.iconst 1, 1) := by decide +kernel
theorem dX8_change_57 : decode cX8_change 57 = .ok (.iload 4, 2) := by decide +kernel
theorem dX8_change_59 : decode cX8_change 59 = .ok (.iadd, 1) := by decide +kernel
theorem dX8_change_60 : decode cX8_change 60 = .ok (.iaload, 1) := by decide +kernel
theorem dX8_change_61 : decode cX8_change 61 = .ok (.iastore, 1) := by decide +kernel
theorem dX8_change_62 : decode cX8_change 62 = .ok (.aload_n 0, 1) := by decide +kernel
theorem dX8_change_63 : decode cX8_change 63 = .ok (.getfield 32, 3) := by decide +kernel
theorem dX8_change_66 : decode cX8_change 66 = .ok (.iconst 1, 1) := by decide +kernel
theorem dX8_change_67 : decode cX8_change 67 = .ok (.iload 4, 2) := by decide +kernel
theorem dX8_change_69 : decode cX8_change 69 = .ok (.iadd, 1) := by decide +kernel
theorem dX8_change_70 : decode cX8_change 70 = .ok (.aload_n 0, 1) := by decide +kernel
theorem dX8_change_71 : decode cX8_change 71 = .ok (.getfield 29, 3) := by decide +kernel
theorem dX8_change_74 : decode cX8_change 74 = .ok (.iconst 1, 1) := by decide +kernel
theorem dX8_change_75 : decode cX8_change 75 = .ok (.iload_n 3, 1) := by decide +kernel
theorem dX8_change_76 : decode cX8_change 76 = .ok (.iadd, 1) := by decide +kernel
theorem dX8_change_77 : decode cX8_change 77 = .ok (.iaload, 1) := by decide +kernel
theorem dX8_change_78 : decode cX8_change 78 = .ok (.iastore, 1) := by decide +kernel
theorem dX8_change_79 : decode cX8_change 79 = .ok (.aload_n 0, 1) := by decide +kernel
theorem dX8_change_80 : decode cX8_change 80 = .ok (.aload_n 0, 1) := by decide +kernel
theorem dX8_change_81 : decode cX8_change 81 = .ok (.getfield 32, 3) := by decide +kernel
theorem dX8_change_84 : decode cX8_change 84 = .ok (.iconst 1, 1) := by decide +kernel
theorem dX8_change_85 : decode cX8_change 85 = .ok (.invokevirtual 217, 3) := by decide +kernel
theorem dX8_change_88 : decode cX8_change 88 = .ok (.istore 5, 2) := by decide +kernel
theorem dX8_change_90 : decode cX8_change 90 = .ok (.iload 5, 2) := by decide +kernel
theorem dX8_change_92 : decode cX8_change 92 = .ok (.iload_n 2, 1) := by decide +kernel
theorem dX8_change_93 : decode cX8_change 93 = .ok (.if_icmp .ge 14, 3) := by decide +kernel
theorem dX8_change_96 : decode cX8_change 96 = .ok (.bipush 10, 2) := by decide +kernel
theorem dX8_change_98 : decode cX8_change 98 = .ok (.iload_n 3, 1) := by decide +kernel
theorem dX8_change_99 : decode cX8_change 99 = .ok (.imul, 1) := by decide +kernel
theorem dX8_change_100 : decode cX8_change 100 = .ok (.iload 4, 2) := by decide +kernel
theorem dX8_change_102 : decode cX8_change 102 = .ok (.iadd, 1) := by decide +kernel
theorem dX8_change_103 : decode cX8_change 103 = .ok (.istore_n 1, 1) := by decide +kernel
theorem dX8_change_104 : decode cX8_change 104 = .ok (.iload 5, 2) := by decide +kernel
theorem dX8_change_106 : decode cX8_change 106 = .ok (.istore_n 2, 1) := by decide +kernel
theorem dX8_change_107 : decode cX8_change 107 = .ok (.iinc 4 1, 3) := by decide +kernel
theorem dX8_change_110 : decode cX8_change 110 = .ok (.goto (-87), 3) := by decide +kernel
theorem dX8_change_113 : decode cX8_change 113 = .ok (.iinc 3 1, 3) := by decide +kernel
theorem dX8_change_116 : decode cX8_change 116 = .ok (.goto (-106), 3) := by decide +kernel
theorem dX8_change_119 : decode cX8_change 119 = .ok (.iload_n 1, 1) := by decide +kernel
theorem dX8_change_120 : decode cX8_change 120 = .ok (.ireturn, 1) := by decide +kernel
theorem dX8_bestHoles_0 : decode cX8_bestHoles 0 = .ok (.iload_n 1, 1) := by decide +kernel
theorem dX8_bestHoles_1 : decode cX8_bestHoles 1 = .ok (.iconst (-1), 1) := by decide +kernel
theorem dX8_bestHoles_2 : decode cX8_bestHoles 2 = .ok (.aload_n 0, 1) := by decide +kernel
theorem dX8_bestHoles_3 : decode cX8_bestHoles 3 = .ok (.getfield 19, 3) := by decide +kernel
theorem dX8_bestHoles_6 : decode cX8_bestHoles 6 = .ok (.iconst 1, 1) := by decide +kernel
theorem dX8_bestHoles_7 : decode cX8_bestHoles 7 = .ok (.isub, 1) := by decide +kernel
theorem dX8_bestHoles_8 : decode cX8_bestHoles 8 = .ok (.invokestatic 63, 3) := by decide +kernel
theorem dX8_bestHoles_11 : decode cX8_bestHoles 11 = .ok (.ifCond .ne 5, 3) := by decide +kernel
theorem dX8_bestHoles_14 : decode cX8_bestHoles 14 = .ok (.iconst (-1), 1) := by decide +kernel
theorem dX8_bestHoles_15 : decode cX8_bestHoles 15 = .ok (.ireturn, 1) := by decide +kernel
theorem dX8_bestHoles_16 : decode cX8_bestHoles 16 = .ok (.iconst 0, 1) := by decide +kernel
theorem dX8_bestHoles_17 : decode cX8_bestHoles 17 = .ok (.istore_n 2, 1) := by decide +kernel
theorem dX8_bestHoles_18 : decode cX8_bestHoles 18 = .ok (.iload_n 2, 1) := by decide +kernel
theorem dX8_bestHoles_19 : decode cX8_bestHoles 19 = .ok (.aload_n 0, 1) := by decide +kernel
theorem dX8_bestHoles_20 : decode cX8_bestHoles 20 = .ok (.getfield 19, 3) := by decide +kernel
theorem dX8_bestHoles_23 : decode cX8_bestHoles 23 = .ok (.if_icmp .ge 16, 3) := by decide +kernel
theorem dX8_bestHoles_26 : decode cX8_bestHoles 26 = .ok (.aload_n 0, 1) := by decide +kernel
theorem dX8_bestHoles_27 : decode cX8_bestHoles 27 = .ok (.getfield 48, 3) := by decide +kernel
theorem dX8_bestHoles_30 : decode cX8_bestHoles 30 = .ok (.iload_n 2, 1) := by decide +kernel
theorem dX8_bestHoles_31 : decode cX8_bestHoles 31 = .ok (.iload_n 2, 1) := by decide +kernel
theorem dX8_bestHoles_32 : decode cX8_bestHoles 32 = .ok (.iastore, 1) := by decide +kernel
theorem dX8_bestHoles_33 : decode cX8_bestHoles 33 = .ok (.iinc 2 1, 3) := by decide +kernel
theorem dX8_bestHoles_36 : decode cX8_bestHoles 36 = .ok (.goto (-18), 3) := by decide +kernel
theorem dX8_bestHoles_39 : decode cX8_bestHoles 39 = .ok (.iconst (-1), 1) := by decide +kernel
theorem dX8_bestHoles_40 : decode cX8_bestHoles 40 = .ok (.istore_n 2, 1) := by decide +kernel
theorem dX8_bestHoles_41 : decode cX8_bestHoles 41 = .ok (.iconst 1, 1) := by decide +kernel
theorem dX8_bestHoles_42 : decode cX8_bestHoles 42 = .ok (.istore_n 3, 1) := by decide +kernel
theorem dX8_bestHoles_43 : decode cX8_bestHoles 43 = .ok (.iload_n 3, 1) := by decide +kernel
theorem dX8_bestHoles_44 : decode cX8_bestHoles 44 = .ok (.ifCond .eq 75, 3) := by decide +kernel
theorem dX8_bestHoles_47 : decode cX8_bestHoles 47 = .ok (.aload_n 0, 1) := by decide +kernel
theorem dX8_bestHoles_48 : decode cX8_bestHoles 48 = .ok (.aload_n 0, 1) := by decide +kernel
theorem dX8_bestHoles_49 : decode cX8_bestHoles 49 = .ok (.getfield 48, 3) := by decide +kernel
theorem dX8_bestHoles_52 : decode cX8_bestHoles 52 = .ok (.iconst 0, 1) := by decide +kernel
theorem dX8_bestHoles_53 : decode cX8_bestHoles 53 = .ok (.invokevirtual 217, 3) := by decide +kernel
theorem dX8_bestHoles_56 : decode cX8_bestHoles 56 = .ok (.istore 4, 2) := by decide +kernel
theorem dX8_bestHoles_58 : decode cX8_bestHoles 58 = .ok (.iload_n 2, 1) := by decide +kernel
theorem dX8_bestHoles_59 : decode cX8_bestHoles 59 = .ok (.ifCond .lt 9, 3) := by decide +kernel
theorem dX8_bestHoles_62 : decode cX8_bestHoles 62 = .ok (.iload 4, 2) := by decide +kernel
theorem dX8_bestHoles_64 : decode cX8_bestHoles 64 = .ok (.iload_n 2, 1) := by decide +kernel
theorem dX8_bestHoles_65 : decode cX8_bestHoles 65 = .ok (.if_icmp .ge 38, 3) := by decide +kernel
theorem dX8_bestHoles_68 : decode cX8_bestHoles 68 = .ok (.iload 4, 2) := by decide +kernel
theorem dX8_bestHoles_70 : decode cX8_bestHoles 70 = .ok (.istore_n 2, 1) := by decide +kernel
theorem dX8_bestHoles_71 : decode cX8_bestHoles 71 = .ok (.iconst 0, 1) := by decide +kernel
theorem dX8_bestHoles_72 : decode cX8_bestHoles 72 = .ok (.istore 5, 2) := by decide +kernel
theorem dX8_bestHoles_74 : decode cX8_bestHoles 74 = .ok (.iload 5, 2) := by decide +kernel
theorem dX8_bestHoles_76 : decode cX8_bestHoles 76 = .ok (.aload_n 0, 1) := by decide +kernel
theorem dX8_bestHoles_77 : decode cX8_bestHoles 77 = .ok (.getfield 19, 3) := by decide +kernel
theorem dX8_bestHoles_80 : decode cX8_bestHoles 80 = .ok (.if_icmp .ge 23, 3) := by decide +kernel
theorem dX8_bestHoles_83 : decode cX8_bestHoles 83 = .ok (.aload_n 0, 1) := by decide +kernel
theorem dX8_bestHoles_84 : decode cX8_bestHoles 84 = .ok (.getfield 51, 3) := by decide +kernel
theorem dX8_bestHoles_87 : decode cX8_bestHoles 87 = .ok (.iload 5, 2) := by decide +kernel
theorem dX8_bestHoles_89 : decode cX8_bestHoles 89 = .ok (.aload_n 0, 1) := by decide +kernel
theorem dX8_bestHoles_90 : decode cX8_bestHoles 90 = .ok (.getfield 48, 3) := by decide +kernel
theorem dX8_bestHoles_93 : decode cX8_bestHoles 93 = .ok (.iload 5, 2) := by decide +kernel
theorem dX8_bestHoles_95 : decode cX8_bestHoles 95 = .ok (.iaload, 1) := by decide +kernel
theorem dX8_bestHoles_96 : decode cX8_bestHoles 96 = .ok (.iastore, 1) := by decide +kernel
theorem dX8_bestHoles_97 : decode cX8_bestHoles 97 = .ok (.iinc 5 1, 3) := by decide +kernel
theorem dX8_bestHoles_100 : decode cX8_bestHoles 100 = .ok (.goto (-26), 3) := by decide +kernel
theorem dX8_bestHoles_103 : decode cX8_bestHoles 103 = .ok (.aload_n 0, 1) := by decide +kernel
theorem dX8_bestHoles_104 : decode cX8_bestHoles 104 = .ok (.aload_n 0, 1) := by decide +kernel
theorem dX8_bestHoles_105 : decode cX8_bestHoles 105 = .ok (.getfield 48, 3) := by decide +kernel
theorem dX8_bestHoles_108 : decode cX8_bestHoles 108 = .ok (.aload_n 0, 1) := by decide +kernel
theorem dX8_bestHoles_109 : decode cX8_bestHoles 109 = .ok (.getfield 19, 3) := by decide +kernel
theorem dX8_bestHoles_112 : decode cX8_bestHoles 112 = .ok (.invokevirtual 210, 3) := by decide +kernel
theorem dX8_bestHoles_115 : decode cX8_bestHoles 115 = .ok (.istore_n 3, 1) := by decide +kernel
theorem dX8_bestHoles_116 : decode cX8_bestHoles 116 = .ok (.goto (-73), 3) := by decide +kernel
theorem dX8_bestHoles_119 : decode cX8_bestHoles 119 = .ok (.iload_n 1, 1) := by decide +kernel
theorem dX8_bestHoles_120 : decode cX8_bestHoles 120 = .ok (.ifCond .ge 7, 3) := by decide +kernel
theorem dX8_bestHoles_123 : decode cX8_bestHoles 123 = .ok (.iload_n 2, 1) := by decide +kernel
theorem dX8_bestHoles_124 : decode cX8_bestHoles 124 = .ok (.goto 9, 3) := by decide +kernel
theorem dX8_bestHoles_127 : decode cX8_bestHoles 127 = .ok (.aload_n 0, 1) := by decide +kernel
theorem dX8_bestHoles_128 : decode cX8_bestHoles 128 = .ok (.getfield 51, 3) := by decide +kernel
theorem dX8_bestHoles_131 : decode cX8_bestHoles 131 = .ok (.iload_n 1, 1) := by decide +kernel
theorem dX8_bestHoles_132 : decode cX8_bestHoles 132 = .ok (.iaload, 1) := by decide +kernel
theorem dX8_bestHoles_133 : decode cX8_bestHoles 133 = .ok (.ireturn, 1) := by decide +kernel
theorem dX8_atOnce_0 : decode cX8_atOnce 0 = .ok (.iload_n 1, 1) := by decide +kernel
theorem dX8_atOnce_1 : decode cX8_atOnce 1 = .ok (.iconst 0, 1) := by decide +kernel
theorem dX8_atOnce_2 : decode cX8_atOnce 2 = .ok (.iconst 1, 1) := by decide +kernel
theorem dX8_atOnce_3 : decode cX8_atOnce 3 = .ok (.invokestatic 63, 3) := by decide +kernel
theorem dX8_atOnce_6 : decode cX8_atOnce 6 = .ok (.ifCond .ne 5, 3) := by decide +kernel
theorem dX8_atOnce_9 : decode cX8_atOnce 9 = .ok (.iconst (-1), 1) := by decide +kernel
theorem dX8_atOnce_10 : decode cX8_atOnce 10 = .ok (.ireturn, 1) := by decide +kernel
theorem dX8_atOnce_11 : decode cX8_atOnce 11 = .ok (.iconst 0, 1) := by decide +kernel
theorem dX8_atOnce_12 : decode cX8_atOnce 12 = .ok (.istore_n 2, 1) := by decide +kernel
theorem dX8_atOnce_13 : decode cX8_atOnce 13 = .ok (.iconst 0, 1) := by decide +kernel
theorem dX8_atOnce_14 : decode cX8_atOnce 14 = .ok (.istore_n 3, 1) := by decide +kernel
theorem dX8_atOnce_15 : decode cX8_atOnce 15 = .ok (.iconst 0, 1) := by decide +kernel
theorem dX8_atOnce_16 : decode cX8_atOnce 16 = .ok (.istore 4, 2) := by decide +kernel
theorem dX8_atOnce_18 : decode cX8_atOnce 18 = .ok (.iload 4, 2) := by decide +kernel
theorem dX8_atOnce_20 : decode cX8_atOnce 20 = .ok (.bipush 40, 2) := by decide +kernel
theorem dX8_atOnce_22 : decode cX8_atOnce 22 = .ok (.if_icmp .gt 80, 3) := by decide +kernel
theorem dX8_atOnce_25 : decode cX8_atOnce 25 = .ok (.iconst 0, 1) := by decide +kernel
theorem dX8_atOnce_26 : decode cX8_atOnce 26 = .ok (.istore 5, 2) := by decide +kernel
theorem dX8_atOnce_28 : decode cX8_atOnce 28 = .ok (.iconst 0, 1) := by decide +kernel
theorem dX8_atOnce_29 : decode cX8_atOnce 29 = .ok (.istore 6, 2) := by decide +kernel
theorem dX8_atOnce_31 : decode cX8_atOnce 31 = .ok (.iload 6, 2) := by decide +kernel
theorem dX8_atOnce_33 : decode cX8_atOnce 33 = .ok (.aload_n 0, 1) := by decide +kernel
theorem dX8_atOnce_34 : decode cX8_atOnce 34 = .ok (.getfield 57, 3) := by decide +kernel
theorem dX8_atOnce_37 : decode cX8_atOnce 37 = .ok (.if_icmp .ge 33, 3) := by decide +kernel
theorem dX8_atOnce_40 : decode cX8_atOnce 40 = .ok (.iload 5, 2) := by decide +kernel
theorem dX8_atOnce_42 : decode cX8_atOnce 42 = .ok (.aload_n 0, 1) := by decide +kernel
theorem dX8_atOnce_43 : decode cX8_atOnce 43 = .ok (.getfield 26, 3) := by decide +kernel
theorem dX8_atOnce_46 : decode cX8_atOnce 46 = .ok (.iconst 5, 1) := by decide +kernel
theorem dX8_atOnce_47 : decode cX8_atOnce 47 = .ok (.iload 6, 2) := by decide +kernel
theorem dX8_atOnce_49 : decode cX8_atOnce 49 = .ok (.imul, 1) := by decide +kernel
theorem dX8_atOnce_50 : decode cX8_atOnce 50 = .ok (.iaload, 1) := by decide +kernel
theorem dX8_atOnce_51 : decode cX8_atOnce 51 = .ok (.iload 4, 2) := by decide +kernel
theorem dX8_atOnce_53 : decode cX8_atOnce 53 = .ok (.if_icmp .ne 7, 3) := by decide +kernel
theorem dX8_atOnce_56 : decode cX8_atOnce 56 = .ok (.iconst 1, 1) := by decide +kernel
theorem dX8_atOnce_57 : decode cX8_atOnce 57 = .ok (.goto 4, 3) := by decide +kernel
theorem dX8_atOnce_60 : decode cX8_atOnce 60 = .ok (.iconst 0, 1) := by decide +kernel
theorem dX8_atOnce_61 : decode cX8_atOnce 61 = .ok (.iadd, 1) := by decide +kernel
theorem dX8_atOnce_62 : decode cX8_atOnce 62 = .ok (.istore 5, 2) := by decide +kernel
theorem dX8_atOnce_64 : decode cX8_atOnce 64 = .ok (.iinc 6 1, 3) := by decide +kernel
theorem dX8_atOnce_67 : decode cX8_atOnce 67 = .ok (.goto (-36), 3) := by decide +kernel
theorem dX8_atOnce_70 : decode cX8_atOnce 70 = .ok (.iload 5, 2) := by decide +kernel
theorem dX8_atOnce_72 : decode cX8_atOnce 72 = .ok (.iload_n 3, 1) := by decide +kernel
theorem dX8_atOnce_73 : decode cX8_atOnce 73 = .ok (.if_icmp .le 8, 3) := by decide +kernel
theorem dX8_atOnce_76 : decode cX8_atOnce 76 = .ok (.iload 4, 2) := by decide +kernel
theorem dX8_atOnce_78 : decode cX8_atOnce 78 = .ok (.goto 4, 3) := by decide +kernel
theorem dX8_atOnce_81 : decode cX8_atOnce 81 = .ok (.iload_n 2, 1) := by decide +kernel
theorem dX8_atOnce_82 : decode cX8_atOnce 82 = .ok (.istore_n 2, 1) := by decide +kernel
theorem dX8_atOnce_83 : decode cX8_atOnce 83 = .ok (.iload 5, 2) := by decide +kernel
theorem dX8_atOnce_85 : decode cX8_atOnce 85 = .ok (.iload_n 3, 1) := by decide +kernel
theorem dX8_atOnce_86 : decode cX8_atOnce 86 = .ok (.if_icmp .le 8, 3) := by decide +kernel
theorem dX8_atOnce_89 : decode cX8_atOnce 89 = .ok (.iload 5, 2) := by decide +kernel
theorem dX8_atOnce_91 : decode cX8_atOnce 91 = .ok (.goto 4, 3) := by decide +kernel
theorem dX8_atOnce_94 : decode cX8_atOnce 94 = .ok (.iload_n 3, 1) := by decide +kernel
theorem dX8_atOnce_95 : decode cX8_atOnce 95 = .ok (.istore_n 3, 1) := by decide +kernel
theorem dX8_atOnce_96 : decode cX8_atOnce 96 = .ok (.iinc 4 1, 3) := by decide +kernel
theorem dX8_atOnce_99 : decode cX8_atOnce 99 = .ok (.goto (-81), 3) := by decide +kernel
theorem dX8_atOnce_102 : decode cX8_atOnce 102 = .ok (.iload_n 1, 1) := by decide +kernel
theorem dX8_atOnce_103 : decode cX8_atOnce 103 = .ok (.ifCond .ne 7, 3) := by decide +kernel
theorem dX8_atOnce_106 : decode cX8_atOnce 106 = .ok (.iload_n 2, 1) := by decide +kernel
theorem dX8_atOnce_107 : decode cX8_atOnce 107 = .ok (.goto 4, 3) := by decide +kernel
theorem dX8_atOnce_110 : decode cX8_atOnce 110 = .ok (.iload_n 3, 1) := by decide +kernel
theorem dX8_atOnce_111 : decode cX8_atOnce 111 = .ok (.ireturn, 1) := by decide +kernel
theorem dX8_under_0 : decode cX8_under 0 = .ok (.aload_n 0, 1) := by decide +kernel
theorem dX8_under_1 : decode cX8_under 1 = .ok (.iload_n 1, 1) := by decide +kernel
theorem dX8_under_2 : decode cX8_under 2 = .ok (.invokevirtual 161, 3) := by decide +kernel
theorem dX8_under_5 : decode cX8_under 5 = .ok (.ifCond .ne 5, 3) := by decide +kernel
theorem dX8_under_8 : decode cX8_under 8 = .ok (.iconst (-1), 1) := by decide +kernel
theorem dX8_under_9 : decode cX8_under 9 = .ok (.ireturn, 1) := by decide +kernel
theorem dX8_under_10 : decode cX8_under 10 = .ok (.iconst 0, 1) := by decide +kernel
theorem dX8_under_11 : decode cX8_under 11 = .ok (.istore_n 2, 1) := by decide +kernel
theorem dX8_under_12 : decode cX8_under 12 = .ok (.iconst 0, 1) := by decide +kernel
theorem dX8_under_13 : decode cX8_under 13 = .ok (.istore_n 3, 1) := by decide +kernel
theorem dX8_under_14 : decode cX8_under 14 = .ok (.iload_n 3, 1) := by decide +kernel
theorem dX8_under_15 : decode cX8_under 15 = .ok (.aload_n 0, 1) := by decide +kernel
theorem dX8_under_16 : decode cX8_under 16 = .ok (.getfield 57, 3) := by decide +kernel
theorem dX8_under_19 : decode cX8_under 19 = .ok (.if_icmp .ge 46, 3) := by decide +kernel
theorem dX8_under_22 : decode cX8_under 22 = .ok (.iload_n 2, 1) := by decide +kernel
theorem dX8_under_23 : decode cX8_under 23 = .ok (.iload_n 3, 1) := by decide +kernel
theorem dX8_under_24 : decode cX8_under 24 = .ok (.iload_n 1, 1) := by decide +kernel
theorem dX8_under_25 : decode cX8_under 25 = .ok (.if_icmp .eq 31, 3) := by decide +kernel
theorem dX8_under_28 : decode cX8_under 28 = .ok (.aload_n 0, 1) := by decide +kernel
theorem dX8_under_29 : decode cX8_under 29 = .ok (.getfield 29, 3) := by decide +kernel
theorem dX8_under_32 : decode cX8_under 32 = .ok (.bipush 7, 2) := by decide +kernel
theorem dX8_under_34 : decode cX8_under 34 = .ok (.iload_n 3, 1) := by decide +kernel
theorem dX8_under_35 : decode cX8_under 35 = .ok (.iadd, 1) := by decide +kernel
theorem dX8_under_36 : decode cX8_under 36 = .ok (.iaload, 1) := by decide +kernel
theorem dX8_under_37 : decode cX8_under 37 = .ok (.iconst 2, 1) := by decide +kernel
theorem dX8_under_38 : decode cX8_under 38 = .ok (.if_icmp .ne 18, 3) := by decide +kernel
theorem dX8_under_41 : decode cX8_under 41 = .ok (.aload_n 0, 1) := by decide +kernel
theorem dX8_under_42 : decode cX8_under 42 = .ok (.iload_n 1, 1) := by decide +kernel
theorem dX8_under_43 : decode cX8_under 43 = .ok (.iload_n 3, 1) := by decide +kernel
theorem dX8_under_44 : decode cX8_under 44 = .ok (.invokevirtual 154, 3) := by decide +kernel
theorem dX8_under_47 : decode cX8_under 47 = .ok (.ifCond .eq 9, 3) := by decide +kernel
theorem dX8_under_50 : decode cX8_under 50 = .ok (.iconst 1, 1) := by decide +kernel
theorem dX8_under_51 : decode cX8_under 51 = .ok (.iload_n 3, 1) := by decide +kernel
theorem dX8_under_52 : decode cX8_under 52 = .ok (.ishl, 1) := by decide +kernel
theorem dX8_under_53 : decode cX8_under 53 = .ok (.goto 4, 3) := by decide +kernel
theorem dX8_under_56 : decode cX8_under 56 = .ok (.iconst 0, 1) := by decide +kernel
theorem dX8_under_57 : decode cX8_under 57 = .ok (.ior, 1) := by decide +kernel
theorem dX8_under_58 : decode cX8_under 58 = .ok (.istore_n 2, 1) := by decide +kernel
theorem dX8_under_59 : decode cX8_under 59 = .ok (.iinc 3 1, 3) := by decide +kernel
theorem dX8_under_62 : decode cX8_under 62 = .ok (.goto (-48), 3) := by decide +kernel
theorem dX8_under_65 : decode cX8_under 65 = .ok (.iload_n 2, 1) := by decide +kernel
theorem dX8_under_66 : decode cX8_under 66 = .ok (.ireturn, 1) := by decide +kernel
theorem dX8_odds_0 : decode cX8_odds 0 = .ok (.aload_n 0, 1) := by decide +kernel
theorem dX8_odds_1 : decode cX8_odds 1 = .ok (.iload_n 1, 1) := by decide +kernel
theorem dX8_odds_2 : decode cX8_odds 2 = .ok (.invokevirtual 157, 3) := by decide +kernel
theorem dX8_odds_5 : decode cX8_odds 5 = .ok (.ifCond .eq 33, 3) := by decide +kernel
theorem dX8_odds_8 : decode cX8_odds 8 = .ok (.iload_n 2, 1) := by decide +kernel
theorem dX8_odds_9 : decode cX8_odds 9 = .ok (.iconst 0, 1) := by decide +kernel
theorem dX8_odds_10 : decode cX8_odds 10 = .ok (.bipush 10, 2) := by decide +kernel
theorem dX8_odds_12 : decode cX8_odds 12 = .ok (.invokestatic 63, 3) := by decide +kernel
theorem dX8_odds_15 : decode cX8_odds 15 = .ok (.ifCond .eq 23, 3) := by decide +kernel
theorem dX8_odds_18 : decode cX8_odds 18 = .ok (.iload_n 3, 1) := by decide +kernel
theorem dX8_odds_19 : decode cX8_odds 19 = .ok (.iconst 0, 1) := by decide +kernel
theorem dX8_odds_20 : decode cX8_odds 20 = .ok (.bipush 40, 2) := by decide +kernel
theorem dX8_odds_22 : decode cX8_odds 22 = .ok (.invokestatic 63, 3) := by decide +kernel
theorem dX8_odds_25 : decode cX8_odds 25 = .ok (.ifCond .eq 13, 3) := by decide +kernel
theorem dX8_odds_28 : decode cX8_odds 28 = .ok (.iload 4, 2) := by decide +kernel
theorem dX8_odds_30 : decode cX8_odds 30 = .ok (.iconst 0, 1) := by decide +kernel
theorem dX8_odds_31 : decode cX8_odds 31 = .ok (.iconst 1, 1) := by decide +kernel
theorem dX8_odds_32 : decode cX8_odds 32 = .ok (.invokestatic 63, 3) := by decide +kernel
theorem dX8_odds_35 : decode cX8_odds 35 = .ok (.ifCond .ne 5, 3) := by decide +kernel
theorem dX8_odds_38 : decode cX8_odds 38 = .ok (.iconst (-1), 1) := by decide +kernel
theorem dX8_odds_39 : decode cX8_odds 39 = .ok (.ireturn, 1) := by decide +kernel
theorem dX8_odds_40 : decode cX8_odds 40 = .ok (.aload_n 0, 1) := by decide +kernel
theorem dX8_odds_41 : decode cX8_odds 41 = .ok (.aload_n 0, 1) := by decide +kernel
theorem dX8_odds_42 : decode cX8_odds 42 = .ok (.getfield 29, 3) := by decide +kernel
theorem dX8_odds_45 : decode cX8_odds 45 = .ok (.iload_n 1, 1) := by decide +kernel
theorem dX8_odds_46 : decode cX8_odds 46 = .ok (.invokevirtual 138, 3) := by decide +kernel
theorem dX8_odds_49 : decode cX8_odds 49 = .ok (.istore 5, 2) := by decide +kernel
theorem dX8_odds_51 : decode cX8_odds 51 = .ok (.bipush 10, 2) := by decide +kernel
theorem dX8_odds_53 : decode cX8_odds 53 = .ok (.istore 6, 2) := by decide +kernel
theorem dX8_odds_55 : decode cX8_odds 55 = .ok (.iload 5, 2) := by decide +kernel
theorem dX8_odds_57 : decode cX8_odds 57 = .ok (.bipush (-9), 2) := by decide +kernel
theorem dX8_odds_59 : decode cX8_odds 59 = .ok (.if_icmp .eq 49, 3) := by decide +kernel
theorem dX8_odds_62 : decode cX8_odds 62 = .ok (.iload_n 3, 1) := by decide +kernel
theorem dX8_odds_63 : decode cX8_odds 63 = .ok (.aload_n 0, 1) := by decide +kernel
theorem dX8_odds_64 : decode cX8_odds 64 = .ok (.getfield 29, 3) := by decide +kernel
theorem dX8_odds_67 : decode cX8_odds 67 = .ok (.bipush 14, 2) := by decide +kernel
theorem dX8_odds_69 : decode cX8_odds 69 = .ok (.iload 5, 2) := by decide +kernel
theorem dX8_odds_71 : decode cX8_odds 71 = .ok (.iadd, 1) := by decide +kernel
theorem dX8_odds_72 : decode cX8_odds 72 = .ok (.iaload, 1) := by decide +kernel
theorem dX8_odds_73 : decode cX8_odds 73 = .ok (.if_icmp .lt 10, 3) := by decide +kernel
theorem dX8_odds_76 : decode cX8_odds 76 = .ok (.bipush 10, 2) := by decide +kernel
theorem dX8_odds_78 : decode cX8_odds 78 = .ok (.iload_n 2, 1) := by decide +kernel
theorem dX8_odds_79 : decode cX8_odds 79 = .ok (.isub, 1) := by decide +kernel
theorem dX8_odds_80 : decode cX8_odds 80 = .ok (.goto 4, 3) := by decide +kernel
theorem dX8_odds_83 : decode cX8_odds 83 = .ok (.iconst 0, 1) := by decide +kernel
theorem dX8_odds_84 : decode cX8_odds 84 = .ok (.iload_n 3, 1) := by decide +kernel
theorem dX8_odds_85 : decode cX8_odds 85 = .ok (.iconst 2, 1) := by decide +kernel
theorem dX8_odds_86 : decode cX8_odds 86 = .ok (.aload_n 0, 1) := by decide +kernel
theorem dX8_odds_87 : decode cX8_odds 87 = .ok (.getfield 29, 3) := by decide +kernel
theorem dX8_odds_90 : decode cX8_odds 90 = .ok (.bipush 14, 2) := by decide +kernel
theorem dX8_odds_92 : decode cX8_odds 92 = .ok (.iload 5, 2) := by decide +kernel
theorem dX8_odds_94 : decode cX8_odds 94 = .ok (.iadd, 1) := by decide +kernel
theorem dX8_odds_95 : decode cX8_odds 95 = .ok (.iaload, 1) := by decide +kernel
theorem dX8_odds_96 : decode cX8_odds 96 = .ok (.imul, 1) := by decide +kernel
theorem dX8_odds_97 : decode cX8_odds 97 = .ok (.if_icmp .lt 7, 3) := by decide +kernel
theorem dX8_odds_100 : decode cX8_odds 100 = .ok (.iload_n 2, 1) := by decide +kernel
theorem dX8_odds_101 : decode cX8_odds 101 = .ok (.goto 4, 3) := by decide +kernel
theorem dX8_odds_104 : decode cX8_odds 104 = .ok (.iconst 0, 1) := by decide +kernel
theorem dX8_odds_105 : decode cX8_odds 105 = .ok (.iadd, 1) := by decide +kernel
theorem dX8_odds_106 : decode cX8_odds 106 = .ok (.istore 6, 2) := by decide +kernel
theorem dX8_odds_108 : decode cX8_odds 108 = .ok (.iload 6, 2) := by decide +kernel
theorem dX8_odds_110 : decode cX8_odds 110 = .ok (.istore 7, 2) := by decide +kernel
theorem dX8_odds_112 : decode cX8_odds 112 = .ok (.bipush 10, 2) := by decide +kernel
theorem dX8_odds_114 : decode cX8_odds 114 = .ok (.istore 8, 2) := by decide +kernel
theorem dX8_odds_116 : decode cX8_odds 116 = .ok (.iload 8, 2) := by decide +kernel
theorem dX8_odds_118 : decode cX8_odds 118 = .ok (.ifCond .eq 21, 3) := by decide +kernel
theorem dX8_odds_121 : decode cX8_odds 121 = .ok (.iload 7, 2) := by decide +kernel
theorem dX8_odds_123 : decode cX8_odds 123 = .ok (.iload 8, 2) := by decide +kernel
theorem dX8_odds_125 : decode cX8_odds 125 = .ok (.irem, 1) := by decide +kernel
theorem dX8_odds_126 : decode cX8_odds 126 = .ok (.istore 9, 2) := by decide +kernel
theorem dX8_odds_128 : decode cX8_odds 128 = .ok (.iload 8, 2) := by decide +kernel
theorem dX8_odds_130 : decode cX8_odds 130 = .ok (.istore 7, 2) := by decide +kernel
theorem dX8_odds_132 : decode cX8_odds 132 = .ok (.iload 9, 2) := by decide +kernel
theorem dX8_odds_134 : decode cX8_odds 134 = .ok (.istore 8, 2) := by decide +kernel
theorem dX8_odds_136 : decode cX8_odds 136 = .ok (.goto (-20), 3) := by decide +kernel
theorem dX8_odds_139 : decode cX8_odds 139 = .ok (.iload 4, 2) := by decide +kernel
theorem dX8_odds_141 : decode cX8_odds 141 = .ok (.ifCond .ne 8, 3) := by decide +kernel
theorem dX8_odds_144 : decode cX8_odds 144 = .ok (.iload 6, 2) := by decide +kernel
theorem dX8_odds_146 : decode cX8_odds 146 = .ok (.goto 5, 3) := by decide +kernel
theorem dX8_odds_149 : decode cX8_odds 149 = .ok (.bipush 10, 2) := by decide +kernel
theorem dX8_odds_151 : decode cX8_odds 151 = .ok (.iload 7, 2) := by decide +kernel
theorem dX8_odds_153 : decode cX8_odds 153 = .ok (.idiv, 1) := by decide +kernel
theorem dX8_odds_154 : decode cX8_odds 154 = .ok (.ireturn, 1) := by decide +kernel
theorem dX8_rankOf_0 : decode cX8_rankOf 0 = .ok (.aload_n 0, 1) := by decide +kernel
theorem dX8_rankOf_1 : decode cX8_rankOf 1 = .ok (.dup, 1) := by decide +kernel
theorem dX8_rankOf_2 : decode cX8_rankOf 2 = .ok (.getfield 223, 3) := by decide +kernel
theorem dX8_rankOf_5 : decode cX8_rankOf 5 = .ok (.lconst 1, 1) := by decide +kernel
theorem dX8_rankOf_6 : decode cX8_rankOf 6 = .ok (.ladd, 1) := by decide +kernel
theorem dX8_rankOf_7 : decode cX8_rankOf 7 = .ok (.putfield 223, 3) := by decide +kernel
theorem dX8_rankOf_10 : decode cX8_rankOf 10 = .ok (.aload_n 0, 1) := by decide +kernel
theorem dX8_rankOf_11 : decode cX8_rankOf 11 = .ok (.getfield 26, 3) := by decide +kernel
theorem dX8_rankOf_14 : decode cX8_rankOf 14 = .ok (.iconst 5, 1) := by decide +kernel
theorem dX8_rankOf_15 : decode cX8_rankOf 15 = .ok (.iload_n 1, 1) := by decide +kernel
theorem dX8_rankOf_16 : decode cX8_rankOf 16 = .ok (.imul, 1) := by decide +kernel
theorem dX8_rankOf_17 : decode cX8_rankOf 17 = .ok (.iconst 4, 1) := by decide +kernel
theorem dX8_rankOf_18 : decode cX8_rankOf 18 = .ok (.iadd, 1) := by decide +kernel
theorem dX8_rankOf_19 : decode cX8_rankOf 19 = .ok (.iaload, 1) := by decide +kernel
theorem dX8_rankOf_20 : decode cX8_rankOf 20 = .ok (.ireturn, 1) := by decide +kernel
theorem dX8_doctorOf_0 : decode cX8_doctorOf 0 = .ok (.aload_n 0, 1) := by decide +kernel
theorem dX8_doctorOf_1 : decode cX8_doctorOf 1 = .ok (.dup, 1) := by decide +kernel
theorem dX8_doctorOf_2 : decode cX8_doctorOf 2 = .ok (.getfield 223, 3) := by decide +kernel
theorem dX8_doctorOf_5 : decode cX8_doctorOf 5 = .ok (.ldc2_w 227, 3) := by decide +kernel
theorem dX8_doctorOf_8 : decode cX8_doctorOf 8 = .ok (.ladd, 1) := by decide +kernel
theorem dX8_doctorOf_9 : decode cX8_doctorOf 9 = .ok (.putfield 223, 3) := by decide +kernel
theorem dX8_doctorOf_12 : decode cX8_doctorOf 12 = .ok (.aload_n 0, 1) := by decide +kernel
theorem dX8_doctorOf_13 : decode cX8_doctorOf 13 = .ok (.iload_n 1, 1) := by decide +kernel
theorem dX8_doctorOf_14 : decode cX8_doctorOf 14 = .ok (.invokevirtual 229, 3) := by decide +kernel
theorem dX8_doctorOf_17 : decode cX8_doctorOf 17 = .ok (.aload_n 0, 1) := by decide +kernel
theorem dX8_doctorOf_18 : decode cX8_doctorOf 18 = .ok (.getfield 29, 3) := by decide +kernel
theorem dX8_doctorOf_21 : decode cX8_doctorOf 21 = .ok (.bipush 21, 2) := by decide +kernel
theorem dX8_doctorOf_23 : decode cX8_doctorOf 23 = .ok (.iload_n 1, 1) := by decide +kernel
theorem dX8_doctorOf_24 : decode cX8_doctorOf 24 = .ok (.iadd, 1) := by decide +kernel
theorem dX8_doctorOf_25 : decode cX8_doctorOf 25 = .ok (.iaload, 1) := by decide +kernel
theorem dX8_doctorOf_26 : decode cX8_doctorOf 26 = .ok (.iadd, 1) := by decide +kernel
theorem dX8_doctorOf_27 : decode cX8_doctorOf 27 = .ok (.ireturn, 1) := by decide +kernel
theorem dX8_gossipOf_0 : decode cX8_gossipOf 0 = .ok (.aload_n 0, 1) := by decide +kernel
theorem dX8_gossipOf_1 : decode cX8_gossipOf 1 = .ok (.dup, 1) := by decide +kernel
theorem dX8_gossipOf_2 : decode cX8_gossipOf 2 = .ok (.getfield 223, 3) := by decide +kernel
theorem dX8_gossipOf_5 : decode cX8_gossipOf 5 = .ok (.ldc2_w 232, 3) := by decide +kernel
theorem dX8_gossipOf_8 : decode cX8_gossipOf 8 = .ok (.ladd, 1) := by decide +kernel
theorem dX8_gossipOf_9 : decode cX8_gossipOf 9 = .ok (.putfield 223, 3) := by decide +kernel
theorem dX8_gossipOf_12 : decode cX8_gossipOf 12 = .ok (.aload_n 0, 1) := by decide +kernel
theorem dX8_gossipOf_13 : decode cX8_gossipOf 13 = .ok (.iload_n 1, 1) := by decide +kernel
theorem dX8_gossipOf_14 : decode cX8_gossipOf 14 = .ok (.invokevirtual 229, 3) := by decide +kernel
theorem dX8_gossipOf_17 : decode cX8_gossipOf 17 = .ok (.aload_n 0, 1) := by decide +kernel
theorem dX8_gossipOf_18 : decode cX8_gossipOf 18 = .ok (.getfield 26, 3) := by decide +kernel
theorem dX8_gossipOf_21 : decode cX8_gossipOf 21 = .ok (.iconst 5, 1) := by decide +kernel
theorem dX8_gossipOf_22 : decode cX8_gossipOf 22 = .ok (.iload_n 1, 1) := by decide +kernel
theorem dX8_gossipOf_23 : decode cX8_gossipOf 23 = .ok (.imul, 1) := by decide +kernel
theorem dX8_gossipOf_24 : decode cX8_gossipOf 24 = .ok (.iconst 3, 1) := by decide +kernel
theorem dX8_gossipOf_25 : decode cX8_gossipOf 25 = .ok (.iadd, 1) := by decide +kernel
theorem dX8_gossipOf_26 : decode cX8_gossipOf 26 = .ok (.iaload, 1) := by decide +kernel
theorem dX8_gossipOf_27 : decode cX8_gossipOf 27 = .ok (.isub, 1) := by decide +kernel
theorem dX8_gossipOf_28 : decode cX8_gossipOf 28 = .ok (.ireturn, 1) := by decide +kernel
theorem dX8_rate_0 : decode cX8_rate 0 = .ok (.iload_n 1, 1) := by decide +kernel
theorem dX8_rate_1 : decode cX8_rate 1 = .ok (.iconst 0, 1) := by decide +kernel
theorem dX8_rate_2 : decode cX8_rate 2 = .ok (.iconst 5, 1) := by decide +kernel
theorem dX8_rate_3 : decode cX8_rate 3 = .ok (.invokestatic 63, 3) := by decide +kernel
theorem dX8_rate_6 : decode cX8_rate 6 = .ok (.ifCond .eq 11, 3) := by decide +kernel
theorem dX8_rate_9 : decode cX8_rate 9 = .ok (.aload_n 0, 1) := by decide +kernel
theorem dX8_rate_10 : decode cX8_rate 10 = .ok (.iload_n 2, 1) := by decide +kernel
theorem dX8_rate_11 : decode cX8_rate 11 = .ok (.invokevirtual 161, 3) := by decide +kernel
theorem dX8_rate_14 : decode cX8_rate 14 = .ok (.ifCond .ne 6, 3) := by decide +kernel
theorem dX8_rate_17 : decode cX8_rate 17 = .ok (.ldc 234, 2) := by decide +kernel
theorem dX8_rate_19 : decode cX8_rate 19 = .ok (.ireturn, 1) := by decide +kernel
theorem dX8_rate_20 : decode cX8_rate 20 = .ok (.iload_n 1, 1) := by decide +kernel
theorem dX8_rate_21 : decode cX8_rate 21 = .ok (.tableswitch 93 0 4 #[35, 41, 47, 53, 73], 35) := by decide +kernel
theorem dX8_rate_56 : decode cX8_rate 56 = .ok (.aload_n 0, 1) := by decide +kernel
theorem dX8_rate_57 : decode cX8_rate 57 = .ok (.iload_n 2, 1) := by decide +kernel
theorem dX8_rate_58 : decode cX8_rate 58 = .ok (.invokevirtual 229, 3) := by decide +kernel
theorem dX8_rate_61 : decode cX8_rate 61 = .ok (.ireturn, 1) := by decide +kernel
theorem dX8_rate_62 : decode cX8_rate 62 = .ok (.aload_n 0, 1) := by decide +kernel
theorem dX8_rate_63 : decode cX8_rate 63 = .ok (.iload_n 2, 1) := by decide +kernel
theorem dX8_rate_64 : decode cX8_rate 64 = .ok (.invokevirtual 235, 3) := by decide +kernel
theorem dX8_rate_67 : decode cX8_rate 67 = .ok (.ireturn, 1) := by decide +kernel
theorem dX8_rate_68 : decode cX8_rate 68 = .ok (.aload_n 0, 1) := by decide +kernel
theorem dX8_rate_69 : decode cX8_rate 69 = .ok (.iload_n 2, 1) := by decide +kernel
theorem dX8_rate_70 : decode cX8_rate 70 = .ok (.invokevirtual 238, 3) := by decide +kernel
theorem dX8_rate_73 : decode cX8_rate 73 = .ok (.ireturn, 1) := by decide +kernel
theorem dX8_rate_74 : decode cX8_rate 74 = .ok (.aload_n 0, 1) := by decide +kernel
theorem dX8_rate_75 : decode cX8_rate 75 = .ok (.dup, 1) := by decide +kernel
theorem dX8_rate_76 : decode cX8_rate 76 = .ok (.getfield 223, 3) := by decide +kernel
theorem dX8_rate_79 : decode cX8_rate 79 = .ok (.ldc2_w 241, 3) := by decide +kernel
theorem dX8_rate_82 : decode cX8_rate 82 = .ok (.ladd, 1) := by decide +kernel
theorem dX8_rate_83 : decode cX8_rate 83 = .ok (.putfield 223, 3) := by decide +kernel
theorem dX8_rate_86 : decode cX8_rate 86 = .ok (.iconst 2, 1) := by decide +kernel
theorem dX8_rate_87 : decode cX8_rate 87 = .ok (.aload_n 0, 1) := by decide +kernel
theorem dX8_rate_88 : decode cX8_rate 88 = .ok (.iload_n 2, 1) := by decide +kernel
theorem dX8_rate_89 : decode cX8_rate 89 = .ok (.invokevirtual 235, 3) := by decide +kernel
theorem dX8_rate_92 : decode cX8_rate 92 = .ok (.imul, 1) := by decide +kernel
theorem dX8_rate_93 : decode cX8_rate 93 = .ok (.ireturn, 1) := by decide +kernel
theorem dX8_rate_94 : decode cX8_rate 94 = .ok (.aload_n 0, 1) := by decide +kernel
theorem dX8_rate_95 : decode cX8_rate 95 = .ok (.dup, 1) := by decide +kernel
theorem dX8_rate_96 : decode cX8_rate 96 = .ok (.getfield 223, 3) := by decide +kernel
theorem dX8_rate_99 : decode cX8_rate 99 = .ok (.ldc2_w 243, 3) := by decide +kernel
theorem dX8_rate_102 : decode cX8_rate 102 = .ok (.ladd, 1) := by decide +kernel
theorem dX8_rate_103 : decode cX8_rate 103 = .ok (.putfield 223, 3) := by decide +kernel
theorem dX8_rate_106 : decode cX8_rate 106 = .ok (.aload_n 0, 1) := by decide +kernel
theorem dX8_rate_107 : decode cX8_rate 107 = .ok (.iload_n 2, 1) := by decide +kernel
theorem dX8_rate_108 : decode cX8_rate 108 = .ok (.invokevirtual 238, 3) := by decide +kernel
theorem dX8_rate_111 : decode cX8_rate 111 = .ok (.iload_n 2, 1) := by decide +kernel
theorem dX8_rate_112 : decode cX8_rate 112 = .ok (.iadd, 1) := by decide +kernel
theorem dX8_rate_113 : decode cX8_rate 113 = .ok (.ireturn, 1) := by decide +kernel
theorem dX8_rate_114 : decode cX8_rate 114 = .ok (.aload_n 0, 1) := by decide +kernel
theorem dX8_rate_115 : decode cX8_rate 115 = .ok (.dup, 1) := by decide +kernel
theorem dX8_rate_116 : decode cX8_rate 116 = .ok (.getfield 223, 3) := by decide +kernel
theorem dX8_rate_119 : decode cX8_rate 119 = .ok (.ldc2_w 245, 3) := by decide +kernel
theorem dX8_rate_122 : decode cX8_rate 122 = .ok (.ladd, 1) := by decide +kernel
theorem dX8_rate_123 : decode cX8_rate 123 = .ok (.putfield 223, 3) := by decide +kernel
theorem dX8_rate_126 : decode cX8_rate 126 = .ok (.aload_n 0, 1) := by decide +kernel
theorem dX8_rate_127 : decode cX8_rate 127 = .ok (.iload_n 2, 1) := by decide +kernel
theorem dX8_rate_128 : decode cX8_rate 128 = .ok (.invokevirtual 229, 3) := by decide +kernel
theorem dX8_rate_131 : decode cX8_rate 131 = .ok (.aload_n 0, 1) := by decide +kernel
theorem dX8_rate_132 : decode cX8_rate 132 = .ok (.aload_n 0, 1) := by decide +kernel
theorem dX8_rate_133 : decode cX8_rate 133 = .ok (.iload_n 2, 1) := by decide +kernel
theorem dX8_rate_134 : decode cX8_rate 134 = .ok (.invokevirtual 121, 3) := by decide +kernel
theorem dX8_rate_137 : decode cX8_rate 137 = .ok (.invokevirtual 148, 3) := by decide +kernel
theorem dX8_rate_140 : decode cX8_rate 140 = .ok (.aload_n 0, 1) := by decide +kernel
theorem dX8_rate_141 : decode cX8_rate 141 = .ok (.aload_n 0, 1) := by decide +kernel
theorem dX8_rate_142 : decode cX8_rate 142 = .ok (.iload_n 2, 1) := by decide +kernel
theorem dX8_rate_143 : decode cX8_rate 143 = .ok (.invokevirtual 125, 3) := by decide +kernel
theorem dX8_rate_146 : decode cX8_rate 146 = .ok (.invokevirtual 148, 3) := by decide +kernel
theorem dX8_rate_149 : decode cX8_rate 149 = .ok (.invokestatic 213, 3) := by decide +kernel
theorem dX8_rate_152 : decode cX8_rate 152 = .ok (.iadd, 1) := by decide +kernel
theorem dX8_rate_153 : decode cX8_rate 153 = .ok (.ireturn, 1) := by decide +kernel
theorem dX8_keep_0 : decode cX8_keep 0 = .ok (.iload_n 1, 1) := by decide +kernel
theorem dX8_keep_1 : decode cX8_keep 1 = .ok (.iconst 0, 1) := by decide +kernel
theorem dX8_keep_2 : decode cX8_keep 2 = .ok (.iconst 1, 1) := by decide +kernel
theorem dX8_keep_3 : decode cX8_keep 3 = .ok (.invokestatic 63, 3) := by decide +kernel
theorem dX8_keep_6 : decode cX8_keep 6 = .ok (.ifCond .ne 5, 3) := by decide +kernel
theorem dX8_keep_9 : decode cX8_keep 9 = .ok (.iconst (-1), 1) := by decide +kernel
theorem dX8_keep_10 : decode cX8_keep 10 = .ok (.ireturn, 1) := by decide +kernel
theorem dX8_keep_11 : decode cX8_keep 11 = .ok (.aload_n 0, 1) := by decide +kernel
theorem dX8_keep_12 : decode cX8_keep 12 = .ok (.getfield 29, 3) := by decide +kernel
theorem dX8_keep_15 : decode cX8_keep 15 = .ok (.iconst 0, 1) := by decide +kernel
theorem dX8_keep_16 : decode cX8_keep 16 = .ok (.aload_n 0, 1) := by decide +kernel
theorem dX8_keep_17 : decode cX8_keep 17 = .ok (.getfield 35, 3) := by decide +kernel
theorem dX8_keep_20 : decode cX8_keep 20 = .ok (.bipush 28, 2) := by decide +kernel
theorem dX8_keep_22 : decode cX8_keep 22 = .ok (.iload_n 1, 1) := by decide +kernel
theorem dX8_keep_23 : decode cX8_keep 23 = .ok (.imul, 1) := by decide +kernel
theorem dX8_keep_24 : decode cX8_keep 24 = .ok (.invokestatic 168, 3) := by decide +kernel
theorem dX8_keep_27 : decode cX8_keep 27 = .ok (.aload_n 0, 1) := by decide +kernel
theorem dX8_keep_28 : decode cX8_keep 28 = .ok (.getfield 38, 3) := by decide +kernel
theorem dX8_keep_31 : decode cX8_keep 31 = .ok (.iload_n 1, 1) := by decide +kernel
theorem dX8_keep_32 : decode cX8_keep 32 = .ok (.iconst 1, 1) := by decide +kernel
theorem dX8_keep_33 : decode cX8_keep 33 = .ok (.bastore, 1) := by decide +kernel
theorem dX8_keep_34 : decode cX8_keep 34 = .ok (.aload_n 0, 1) := by decide +kernel
theorem dX8_keep_35 : decode cX8_keep 35 = .ok (.getfield 29, 3) := by decide +kernel
theorem dX8_keep_38 : decode cX8_keep 38 = .ok (.iconst 0, 1) := by decide +kernel
theorem dX8_keep_39 : decode cX8_keep 39 = .ok (.iaload, 1) := by decide +kernel
theorem dX8_keep_40 : decode cX8_keep 40 = .ok (.ireturn, 1) := by decide +kernel
theorem dX8_back_0 : decode cX8_back 0 = .ok (.iload_n 1, 1) := by decide +kernel
theorem dX8_back_1 : decode cX8_back 1 = .ok (.iconst 0, 1) := by decide +kernel
theorem dX8_back_2 : decode cX8_back 2 = .ok (.iconst 1, 1) := by decide +kernel
theorem dX8_back_3 : decode cX8_back 3 = .ok (.invokestatic 63, 3) := by decide +kernel
theorem dX8_back_6 : decode cX8_back 6 = .ok (.ifCond .ne 5, 3) := by decide +kernel
theorem dX8_back_9 : decode cX8_back 9 = .ok (.iconst (-1), 1) := by decide +kernel
theorem dX8_back_10 : decode cX8_back 10 = .ok (.ireturn, 1) := by decide +kernel
theorem dX8_back_11 : decode cX8_back 11 = .ok (.aload_n 0, 1) := by decide +kernel
theorem dX8_back_12 : decode cX8_back 12 = .ok (.getfield 38, 3) := by decide +kernel
theorem dX8_back_15 : decode cX8_back 15 = .ok (.iload_n 1, 1) := by decide +kernel
theorem dX8_back_16 : decode cX8_back 16 = .ok (.baload, 1) := by decide +kernel
theorem dX8_back_17 : decode cX8_back 17 = .ok (.ifCond .ne 6, 3) := by decide +kernel
theorem dX8_back_20 : decode cX8_back 20 = .ok (.bipush (-2), 2) := by decide +kernel
theorem dX8_back_22 : decode cX8_back 22 = .ok (.ireturn, 1) := by decide +kernel
theorem dX8_back_23 : decode cX8_back 23 = .ok (.aload_n 0, 1) := by decide +kernel
theorem dX8_back_24 : decode cX8_back 24 = .ok (.getfield 35, 3) := by decide +kernel
theorem dX8_back_27 : decode cX8_back 27 = .ok (.bipush 28, 2) := by decide +kernel
theorem dX8_back_29 : decode cX8_back 29 = .ok (.iload_n 1, 1) := by decide +kernel
theorem dX8_back_30 : decode cX8_back 30 = .ok (.imul, 1) := by decide +kernel
theorem dX8_back_31 : decode cX8_back 31 = .ok (.aload_n 0, 1) := by decide +kernel
theorem dX8_back_32 : decode cX8_back 32 = .ok (.getfield 29, 3) := by decide +kernel
theorem dX8_back_35 : decode cX8_back 35 = .ok (.iconst 0, 1) := by decide +kernel
theorem dX8_back_36 : decode cX8_back 36 = .ok (.invokestatic 168, 3) := by decide +kernel
theorem dX8_back_39 : decode cX8_back 39 = .ok (.aload_n 0, 1) := by decide +kernel
theorem dX8_back_40 : decode cX8_back 40 = .ok (.iconst 0, 1) := by decide +kernel
theorem dX8_back_41 : decode cX8_back 41 = .ok (.putfield 60, 3) := by decide +kernel
theorem dX8_back_44 : decode cX8_back 44 = .ok (.aload_n 0, 1) := by decide +kernel
theorem dX8_back_45 : decode cX8_back 45 = .ok (.getfield 29, 3) := by decide +kernel
theorem dX8_back_48 : decode cX8_back 48 = .ok (.iconst 0, 1) := by decide +kernel
theorem dX8_back_49 : decode cX8_back 49 = .ok (.iaload, 1) := by decide +kernel
theorem dX8_back_50 : decode cX8_back 50 = .ok (.ireturn, 1) := by decide +kernel
theorem dX8_count_0 : decode cX8_count 0 = .ok (.iload_n 1, 1) := by decide +kernel
theorem dX8_count_1 : decode cX8_count 1 = .ok (.tableswitch 51 0 3 #[31, 36, 41, 46], 31) := by decide +kernel
theorem dX8_count_32 : decode cX8_count 32 = .ok (.aload_n 0, 1) := by decide +kernel
theorem dX8_count_33 : decode cX8_count 33 = .ok (.getfield 19, 3) := by decide +kernel
theorem dX8_count_36 : decode cX8_count 36 = .ok (.ireturn, 1) := by decide +kernel
theorem dX8_count_37 : decode cX8_count 37 = .ok (.aload_n 0, 1) := by decide +kernel
theorem dX8_count_38 : decode cX8_count 38 = .ok (.getfield 23, 3) := by decide +kernel
theorem dX8_count_41 : decode cX8_count 41 = .ok (.ireturn, 1) := by decide +kernel
theorem dX8_count_42 : decode cX8_count 42 = .ok (.aload_n 0, 1) := by decide +kernel
theorem dX8_count_43 : decode cX8_count 43 = .ok (.getfield 57, 3) := by decide +kernel
theorem dX8_count_46 : decode cX8_count 46 = .ok (.ireturn, 1) := by decide +kernel
theorem dX8_count_47 : decode cX8_count 47 = .ok (.aload_n 0, 1) := by decide +kernel
theorem dX8_count_48 : decode cX8_count 48 = .ok (.getfield 67, 3) := by decide +kernel
theorem dX8_count_51 : decode cX8_count 51 = .ok (.ireturn, 1) := by decide +kernel
theorem dX8_count_52 : decode cX8_count 52 = .ok (.iconst (-1), 1) := by decide +kernel
theorem dX8_count_53 : decode cX8_count 53 = .ok (.ireturn, 1) := by decide +kernel
theorem dX8_trace_0 : decode cX8_trace 0 = .ok (.aload_n 0, 1) := by decide +kernel
theorem dX8_trace_1 : decode cX8_trace 1 = .ok (.getfield 223, 3) := by decide +kernel
theorem dX8_trace_4 : decode cX8_trace 4 = .ok (.lreturn, 1) := by decide +kernel
theorem dJ6_bitCount_0f7a4_0 : decode cJ6_bitCount_0f7a4 0 = .ok (.iload_n 0, 1) := by decide +kernel
theorem dJ6_bitCount_0f7a4_1 : decode cJ6_bitCount_0f7a4 1 = .ok (.iload_n 0, 1) := by decide +kernel
theorem dJ6_bitCount_0f7a4_2 : decode cJ6_bitCount_0f7a4 2 = .ok (.iconst 1, 1) := by decide +kernel
theorem dJ6_bitCount_0f7a4_3 : decode cJ6_bitCount_0f7a4 3 = .ok (.iushr, 1) := by decide +kernel
theorem dJ6_bitCount_0f7a4_4 : decode cJ6_bitCount_0f7a4 4 = .ok (.ldc_w 265, 3) := by decide +kernel
theorem dJ6_bitCount_0f7a4_7 : decode cJ6_bitCount_0f7a4 7 = .ok (.iand, 1) := by decide +kernel
theorem dJ6_bitCount_0f7a4_8 : decode cJ6_bitCount_0f7a4 8 = .ok (.isub, 1) := by decide +kernel
theorem dJ6_bitCount_0f7a4_9 : decode cJ6_bitCount_0f7a4 9 = .ok (.istore_n 0, 1) := by decide +kernel
theorem dJ6_bitCount_0f7a4_10 : decode cJ6_bitCount_0f7a4 10 = .ok (.iload_n 0, 1) := by decide +kernel
theorem dJ6_bitCount_0f7a4_11 : decode cJ6_bitCount_0f7a4 11 = .ok (.ldc_w 266, 3) := by decide +kernel
theorem dJ6_bitCount_0f7a4_14 : decode cJ6_bitCount_0f7a4 14 = .ok (.iand, 1) := by decide +kernel
theorem dJ6_bitCount_0f7a4_15 : decode cJ6_bitCount_0f7a4 15 = .ok (.iload_n 0, 1) := by decide +kernel
theorem dJ6_bitCount_0f7a4_16 : decode cJ6_bitCount_0f7a4 16 = .ok (.iconst 2, 1) := by decide +kernel
theorem dJ6_bitCount_0f7a4_17 : decode cJ6_bitCount_0f7a4 17 = .ok (.iushr, 1) := by decide +kernel
theorem dJ6_bitCount_0f7a4_18 : decode cJ6_bitCount_0f7a4 18 = .ok (.ldc_w 266, 3) := by decide +kernel
theorem dJ6_bitCount_0f7a4_21 : decode cJ6_bitCount_0f7a4 21 = .ok (.iand, 1) := by decide +kernel
theorem dJ6_bitCount_0f7a4_22 : decode cJ6_bitCount_0f7a4 22 = .ok (.iadd, 1) := by decide +kernel
theorem dJ6_bitCount_0f7a4_23 : decode cJ6_bitCount_0f7a4 23 = .ok (.istore_n 0, 1) := by decide +kernel
theorem dJ6_bitCount_0f7a4_24 : decode cJ6_bitCount_0f7a4 24 = .ok (.iload_n 0, 1) := by decide +kernel
theorem dJ6_bitCount_0f7a4_25 : decode cJ6_bitCount_0f7a4 25 = .ok (.iload_n 0, 1) := by decide +kernel
theorem dJ6_bitCount_0f7a4_26 : decode cJ6_bitCount_0f7a4 26 = .ok (.iconst 4, 1) := by decide +kernel
theorem dJ6_bitCount_0f7a4_27 : decode cJ6_bitCount_0f7a4 27 = .ok (.iushr, 1) := by decide +kernel
theorem dJ6_bitCount_0f7a4_28 : decode cJ6_bitCount_0f7a4 28 = .ok (.iadd, 1) := by decide +kernel
theorem dJ6_bitCount_0f7a4_29 : decode cJ6_bitCount_0f7a4 29 = .ok (.ldc_w 267, 3) := by decide +kernel
theorem dJ6_bitCount_0f7a4_32 : decode cJ6_bitCount_0f7a4 32 = .ok (.iand, 1) := by decide +kernel
theorem dJ6_bitCount_0f7a4_33 : decode cJ6_bitCount_0f7a4 33 = .ok (.istore_n 0, 1) := by decide +kernel
theorem dJ6_bitCount_0f7a4_34 : decode cJ6_bitCount_0f7a4 34 = .ok (.iload_n 0, 1) := by decide +kernel
theorem dJ6_bitCount_0f7a4_35 : decode cJ6_bitCount_0f7a4 35 = .ok (.iload_n 0, 1) := by decide +kernel
theorem dJ6_bitCount_0f7a4_36 : decode cJ6_bitCount_0f7a4 36 = .ok (.bipush 8, 2) := by decide +kernel
theorem dJ6_bitCount_0f7a4_38 : decode cJ6_bitCount_0f7a4 38 = .ok (.iushr, 1) := by decide +kernel
theorem dJ6_bitCount_0f7a4_39 : decode cJ6_bitCount_0f7a4 39 = .ok (.iadd, 1) := by decide +kernel
theorem dJ6_bitCount_0f7a4_40 : decode cJ6_bitCount_0f7a4 40 = .ok (.istore_n 0, 1) := by decide +kernel
theorem dJ6_bitCount_0f7a4_41 : decode cJ6_bitCount_0f7a4 41 = .ok (.iload_n 0, 1) := by decide +kernel
theorem dJ6_bitCount_0f7a4_42 : decode cJ6_bitCount_0f7a4 42 = .ok (.iload_n 0, 1) := by decide +kernel
theorem dJ6_bitCount_0f7a4_43 : decode cJ6_bitCount_0f7a4 43 = .ok (.bipush 16, 2) := by decide +kernel
theorem dJ6_bitCount_0f7a4_45 : decode cJ6_bitCount_0f7a4 45 = .ok (.iushr, 1) := by decide +kernel
theorem dJ6_bitCount_0f7a4_46 : decode cJ6_bitCount_0f7a4 46 = .ok (.iadd, 1) := by decide +kernel
theorem dJ6_bitCount_0f7a4_47 : decode cJ6_bitCount_0f7a4 47 = .ok (.istore_n 0, 1) := by decide +kernel
theorem dJ6_bitCount_0f7a4_48 : decode cJ6_bitCount_0f7a4 48 = .ok (.iload_n 0, 1) := by decide +kernel
theorem dJ6_bitCount_0f7a4_49 : decode cJ6_bitCount_0f7a4 49 = .ok (.bipush 63, 2) := by decide +kernel
theorem dJ6_bitCount_0f7a4_51 : decode cJ6_bitCount_0f7a4 51 = .ok (.iand, 1) := by decide +kernel
theorem dJ6_bitCount_0f7a4_52 : decode cJ6_bitCount_0f7a4 52 = .ok (.ireturn, 1) := by decide +kernel
theorem dJ9_abs_0f7a4_0 : decode cJ9_abs_0f7a4 0 = .ok (.iload_n 0, 1) := by decide +kernel
theorem dJ9_abs_0f7a4_1 : decode cJ9_abs_0f7a4 1 = .ok (.ifCond .ge 8, 3) := by decide +kernel
theorem dJ9_abs_0f7a4_4 : decode cJ9_abs_0f7a4 4 = .ok (.iload_n 0, 1) := by decide +kernel
theorem dJ9_abs_0f7a4_5 : decode cJ9_abs_0f7a4 5 = .ok (.ineg, 1) := by decide +kernel
theorem dJ9_abs_0f7a4_6 : decode cJ9_abs_0f7a4 6 = .ok (.goto 4, 3) := by decide +kernel
theorem dJ9_abs_0f7a4_9 : decode cJ9_abs_0f7a4 9 = .ok (.iload_n 0, 1) := by decide +kernel
theorem dJ9_abs_0f7a4_10 : decode cJ9_abs_0f7a4 10 = .ok (.ireturn, 1) := by decide +kernel
theorem dJ9_max_7cf53_0 : decode cJ9_max_7cf53 0 = .ok (.iload_n 0, 1) := by decide +kernel
theorem dJ9_max_7cf53_1 : decode cJ9_max_7cf53 1 = .ok (.iload_n 1, 1) := by decide +kernel
theorem dJ9_max_7cf53_2 : decode cJ9_max_7cf53 2 = .ok (.if_icmp .lt 7, 3) := by decide +kernel
theorem dJ9_max_7cf53_5 : decode cJ9_max_7cf53 5 = .ok (.iload_n 0, 1) := by decide +kernel
theorem dJ9_max_7cf53_6 : decode cJ9_max_7cf53 6 = .ok (.goto 4, 3) := by decide +kernel
theorem dJ9_max_7cf53_9 : decode cJ9_max_7cf53 9 = .ok (.iload_n 1, 1) := by decide +kernel
theorem dJ9_max_7cf53_10 : decode cJ9_max_7cf53 10 = .ok (.ireturn, 1) := by decide +kernel
theorem dJ9_min_7cf53_0 : decode cJ9_min_7cf53 0 = .ok (.iload_n 0, 1) := by decide +kernel
theorem dJ9_min_7cf53_1 : decode cJ9_min_7cf53 1 = .ok (.iload_n 1, 1) := by decide +kernel
theorem dJ9_min_7cf53_2 : decode cJ9_min_7cf53 2 = .ok (.if_icmp .gt 7, 3) := by decide +kernel
theorem dJ9_min_7cf53_5 : decode cJ9_min_7cf53 5 = .ok (.iload_n 0, 1) := by decide +kernel
theorem dJ9_min_7cf53_6 : decode cJ9_min_7cf53 6 = .ok (.goto 4, 3) := by decide +kernel
theorem dJ9_min_7cf53_9 : decode cJ9_min_7cf53 9 = .ok (.iload_n 1, 1) := by decide +kernel
theorem dJ9_min_7cf53_10 : decode cJ9_min_7cf53 10 = .ok (.ireturn, 1) := by decide +kernel
theorem dL_law_0 : decode cL_law 0 = .ok (.new 7, 3) := by decide +kernel
theorem dL_law_3 : decode cL_law 3 = .ok (.dup, 1) := by decide +kernel
theorem dL_law_4 : decode cL_law 4 = .ok (.invokespecial 9, 3) := by decide +kernel
theorem dL_law_7 : decode cL_law 7 = .ok (.astore_n 1, 1) := by decide +kernel
theorem dL_law_8 : decode cL_law 8 = .ok (.new 10, 3) := by decide +kernel
theorem dL_law_11 : decode cL_law 11 = .ok (.dup, 1) := by decide +kernel
theorem dL_law_12 : decode cL_law 12 = .ok (.invokespecial 12, 3) := by decide +kernel
theorem dL_law_15 : decode cL_law 15 = .ok (.astore_n 2, 1) := by decide +kernel
theorem dL_law_16 : decode cL_law 16 = .ok (.iconst 0, 1) := by decide +kernel
theorem dL_law_17 : decode cL_law 17 = .ok (.istore_n 3, 1) := by decide +kernel
theorem dL_law_18 : decode cL_law 18 = .ok (.iload_n 3, 1) := by decide +kernel
theorem dL_law_19 : decode cL_law 19 = .ok (.aload_n 0, 1) := by decide +kernel
theorem dL_law_20 : decode cL_law 20 = .ok (.arraylength, 1) := by decide +kernel
theorem dL_law_21 : decode cL_law 21 = .ok (.iconst 5, 1) := by decide +kernel
theorem dL_law_22 : decode cL_law 22 = .ok (.isub, 1) := by decide +kernel
theorem dL_law_23 : decode cL_law 23 = .ok (.if_icmp .gt 754, 3) := by decide +kernel
theorem dL_law_26 : decode cL_law 26 = .ok (.aload_n 0, 1) := by decide +kernel
theorem dL_law_27 : decode cL_law 27 = .ok (.iload_n 3, 1) := by decide +kernel
theorem dL_law_28 : decode cL_law 28 = .ok (.iaload, 1) := by decide +kernel
theorem dL_law_29 : decode cL_law 29 = .ok (.bipush 31, 2) := by decide +kernel
theorem dL_law_31 : decode cL_law 31 = .ok (.iand, 1) := by decide +kernel
theorem dL_law_32 : decode cL_law 32 = .ok (.tableswitch 739 0 25 #[120, 143, 156, 169, 202, 235, 258, 271, 294, 317, 350, 363, 406, 429, 452, 475, 488, 501, 524, 547, 570, 623, 656, 679, 702, 725], 120) := by decide +kernel
theorem dL_law_152 : decode cL_law 152 = .ok (.aload_n 1, 1) := by decide +kernel
theorem dL_law_153 : decode cL_law 153 = .ok (.aload_n 0, 1) := by decide +kernel
theorem dL_law_154 : decode cL_law 154 = .ok (.iload_n 3, 1) := by decide +kernel
theorem dL_law_155 : decode cL_law 155 = .ok (.iconst 1, 1) := by decide +kernel
theorem dL_law_156 : decode cL_law 156 = .ok (.iadd, 1) := by decide +kernel
theorem dL_law_157 : decode cL_law 157 = .ok (.iaload, 1) := by decide +kernel
theorem dL_law_158 : decode cL_law 158 = .ok (.invokevirtual 13, 3) := by decide +kernel
theorem dL_law_161 : decode cL_law 161 = .ok (.aload_n 2, 1) := by decide +kernel
theorem dL_law_162 : decode cL_law 162 = .ok (.aload_n 0, 1) := by decide +kernel
theorem dL_law_163 : decode cL_law 163 = .ok (.iload_n 3, 1) := by decide +kernel
theorem dL_law_164 : decode cL_law 164 = .ok (.iconst 1, 1) := by decide +kernel
theorem dL_law_165 : decode cL_law 165 = .ok (.iadd, 1) := by decide +kernel
theorem dL_law_166 : decode cL_law 166 = .ok (.iaload, 1) := by decide +kernel
theorem dL_law_167 : decode cL_law 167 = .ok (.invokevirtual 17, 3) := by decide +kernel
theorem dL_law_170 : decode cL_law 170 = .ok (.if_icmp .eq 601, 3) := by decide +kernel
theorem dL_law_173 : decode cL_law 173 = .ok (.iconst 0, 1) := by decide +kernel
theorem dL_law_174 : decode cL_law 174 = .ok (.ireturn, 1) := by decide +kernel
theorem dL_law_175 : decode cL_law 175 = .ok (.aload_n 1, 1) := by decide +kernel
theorem dL_law_176 : decode cL_law 176 = .ok (.invokevirtual 18, 3) := by decide +kernel
theorem dL_law_179 : decode cL_law 179 = .ok (.aload_n 2, 1) := by decide +kernel
theorem dL_law_180 : decode cL_law 180 = .ok (.invokevirtual 22, 3) := by decide +kernel
theorem dL_law_183 : decode cL_law 183 = .ok (.if_icmp .eq 588, 3) := by decide +kernel
theorem dL_law_186 : decode cL_law 186 = .ok (.iconst 0, 1) := by decide +kernel
theorem dL_law_187 : decode cL_law 187 = .ok (.ireturn, 1) := by decide +kernel
theorem dL_law_188 : decode cL_law 188 = .ok (.aload_n 1, 1) := by decide +kernel
theorem dL_law_189 : decode cL_law 189 = .ok (.invokevirtual 23, 3) := by decide +kernel
theorem dL_law_192 : decode cL_law 192 = .ok (.aload_n 2, 1) := by decide +kernel
theorem dL_law_193 : decode cL_law 193 = .ok (.invokevirtual 26, 3) := by decide +kernel
theorem dL_law_196 : decode cL_law 196 = .ok (.if_icmp .eq 575, 3) := by decide +kernel
theorem dL_law_199 : decode cL_law 199 = .ok (.iconst 0, 1) := by decide +kernel
theorem dL_law_200 : decode cL_law 200 = .ok (.ireturn, 1) := by decide +kernel
theorem dL_law_201 : decode cL_law 201 = .ok (.aload_n 1, 1) := by decide +kernel
theorem dL_law_202 : decode cL_law 202 = .ok (.aload_n 0, 1) := by decide +kernel
theorem dL_law_203 : decode cL_law 203 = .ok (.iload_n 3, 1) := by decide +kernel
theorem dL_law_204 : decode cL_law 204 = .ok (.iconst 1, 1) := by decide +kernel
theorem dL_law_205 : decode cL_law 205 = .ok (.iadd, 1) := by decide +kernel
theorem dL_law_206 : decode cL_law 206 = .ok (.iaload, 1) := by decide +kernel
theorem dL_law_207 : decode cL_law 207 = .ok (.aload_n 0, 1) := by decide +kernel
theorem dL_law_208 : decode cL_law 208 = .ok (.iload_n 3, 1) := by decide +kernel
theorem dL_law_209 : decode cL_law 209 = .ok (.iconst 2, 1) := by decide +kernel
theorem dL_law_210 : decode cL_law 210 = .ok (.iadd, 1) := by decide +kernel
theorem dL_law_211 : decode cL_law 211 = .ok (.iaload, 1) := by decide +kernel
theorem dL_law_212 : decode cL_law 212 = .ok (.invokevirtual 27, 3) := by decide +kernel
theorem dL_law_215 : decode cL_law 215 = .ok (.aload_n 2, 1) := by decide +kernel
theorem dL_law_216 : decode cL_law 216 = .ok (.aload_n 0, 1) := by decide +kernel
theorem dL_law_217 : decode cL_law 217 = .ok (.iload_n 3, 1) := by decide +kernel
theorem dL_law_218 : decode cL_law 218 = .ok (.iconst 1, 1) := by decide +kernel
theorem dL_law_219 : decode cL_law 219 = .ok (.iadd, 1) := by decide +kernel
theorem dL_law_220 : decode cL_law 220 = .ok (.iaload, 1) := by decide +kernel
theorem dL_law_221 : decode cL_law 221 = .ok (.aload_n 0, 1) := by decide +kernel
theorem dL_law_222 : decode cL_law 222 = .ok (.iload_n 3, 1) := by decide +kernel
theorem dL_law_223 : decode cL_law 223 = .ok (.iconst 2, 1) := by decide +kernel
theorem dL_law_224 : decode cL_law 224 = .ok (.iadd, 1) := by decide +kernel
theorem dL_law_225 : decode cL_law 225 = .ok (.iaload, 1) := by decide +kernel
theorem dL_law_226 : decode cL_law 226 = .ok (.invokevirtual 31, 3) := by decide +kernel
theorem dL_law_229 : decode cL_law 229 = .ok (.if_icmp .eq 542, 3) := by decide +kernel
theorem dL_law_232 : decode cL_law 232 = .ok (.iconst 0, 1) := by decide +kernel
theorem dL_law_233 : decode cL_law 233 = .ok (.ireturn, 1) := by decide +kernel
theorem dL_law_234 : decode cL_law 234 = .ok (.aload_n 1, 1) := by decide +kernel
theorem dL_law_235 : decode cL_law 235 = .ok (.aload_n 0, 1) := by decide +kernel
theorem dL_law_236 : decode cL_law 236 = .ok (.iload_n 3, 1) := by decide +kernel
theorem dL_law_237 : decode cL_law 237 = .ok (.iconst 1, 1) := by decide +kernel
theorem dL_law_238 : decode cL_law 238 = .ok (.iadd, 1) := by decide +kernel
theorem dL_law_239 : decode cL_law 239 = .ok (.iaload, 1) := by decide +kernel
theorem dL_law_240 : decode cL_law 240 = .ok (.aload_n 0, 1) := by decide +kernel
theorem dL_law_241 : decode cL_law 241 = .ok (.iload_n 3, 1) := by decide +kernel
theorem dL_law_242 : decode cL_law 242 = .ok (.iconst 2, 1) := by decide +kernel
theorem dL_law_243 : decode cL_law 243 = .ok (.iadd, 1) := by decide +kernel
theorem dL_law_244 : decode cL_law 244 = .ok (.iaload, 1) := by decide +kernel
theorem dL_law_245 : decode cL_law 245 = .ok (.invokevirtual 32, 3) := by decide +kernel
theorem dL_law_248 : decode cL_law 248 = .ok (.aload_n 2, 1) := by decide +kernel
theorem dL_law_249 : decode cL_law 249 = .ok (.aload_n 0, 1) := by decide +kernel
theorem dL_law_250 : decode cL_law 250 = .ok (.iload_n 3, 1) := by decide +kernel
theorem dL_law_251 : decode cL_law 251 = .ok (.iconst 1, 1) := by decide +kernel
theorem dL_law_252 : decode cL_law 252 = .ok (.iadd, 1) := by decide +kernel
theorem dL_law_253 : decode cL_law 253 = .ok (.iaload, 1) := by decide +kernel
theorem dL_law_254 : decode cL_law 254 = .ok (.aload_n 0, 1) := by decide +kernel
theorem dL_law_255 : decode cL_law 255 = .ok (.iload_n 3, 1) := by decide +kernel
theorem dL_law_256 : decode cL_law 256 = .ok (.iconst 2, 1) := by decide +kernel
theorem dL_law_257 : decode cL_law 257 = .ok (.iadd, 1) := by decide +kernel
theorem dL_law_258 : decode cL_law 258 = .ok (.iaload, 1) := by decide +kernel
theorem dL_law_259 : decode cL_law 259 = .ok (.invokevirtual 35, 3) := by decide +kernel
theorem dL_law_262 : decode cL_law 262 = .ok (.if_icmp .eq 509, 3) := by decide +kernel
theorem dL_law_265 : decode cL_law 265 = .ok (.iconst 0, 1) := by decide +kernel
theorem dL_law_266 : decode cL_law 266 = .ok (.ireturn, 1) := by decide +kernel
theorem dL_law_267 : decode cL_law 267 = .ok (.aload_n 1, 1) := by decide +kernel
theorem dL_law_268 : decode cL_law 268 = .ok (.aload_n 0, 1) := by decide +kernel
theorem dL_law_269 : decode cL_law 269 = .ok (.iload_n 3, 1) := by decide +kernel
theorem dL_law_270 : decode cL_law 270 = .ok (.iconst 1, 1) := by decide +kernel
theorem dL_law_271 : decode cL_law 271 = .ok (.iadd, 1) := by decide +kernel
theorem dL_law_272 : decode cL_law 272 = .ok (.iaload, 1) := by decide +kernel
theorem dL_law_273 : decode cL_law 273 = .ok (.invokevirtual 36, 3) := by decide +kernel
theorem dL_law_276 : decode cL_law 276 = .ok (.aload_n 2, 1) := by decide +kernel
theorem dL_law_277 : decode cL_law 277 = .ok (.aload_n 0, 1) := by decide +kernel
theorem dL_law_278 : decode cL_law 278 = .ok (.iload_n 3, 1) := by decide +kernel
theorem dL_law_279 : decode cL_law 279 = .ok (.iconst 1, 1) := by decide +kernel
theorem dL_law_280 : decode cL_law 280 = .ok (.iadd, 1) := by decide +kernel
theorem dL_law_281 : decode cL_law 281 = .ok (.iaload, 1) := by decide +kernel
theorem dL_law_282 : decode cL_law 282 = .ok (.invokevirtual 39, 3) := by decide +kernel
theorem dL_law_285 : decode cL_law 285 = .ok (.if_icmp .eq 486, 3) := by decide +kernel
theorem dL_law_288 : decode cL_law 288 = .ok (.iconst 0, 1) := by decide +kernel
theorem dL_law_289 : decode cL_law 289 = .ok (.ireturn, 1) := by decide +kernel
theorem dL_law_290 : decode cL_law 290 = .ok (.aload_n 1, 1) := by decide +kernel
theorem dL_law_291 : decode cL_law 291 = .ok (.invokevirtual 40, 3) := by decide +kernel
theorem dL_law_294 : decode cL_law 294 = .ok (.aload_n 2, 1) := by decide +kernel
theorem dL_law_295 : decode cL_law 295 = .ok (.invokevirtual 43, 3) := by decide +kernel
theorem dL_law_298 : decode cL_law 298 = .ok (.if_icmp .eq 473, 3) := by decide +kernel
theorem dL_law_301 : decode cL_law 301 = .ok (.iconst 0, 1) := by decide +kernel
theorem dL_law_302 : decode cL_law 302 = .ok (.ireturn, 1) := by decide +kernel
theorem dL_law_303 : decode cL_law 303 = .ok (.aload_n 1, 1) := by decide +kernel
theorem dL_law_304 : decode cL_law 304 = .ok (.aload_n 0, 1) := by decide +kernel
theorem dL_law_305 : decode cL_law 305 = .ok (.iload_n 3, 1) := by decide +kernel
theorem dL_law_306 : decode cL_law 306 = .ok (.iconst 1, 1) := by decide +kernel
theorem dL_law_307 : decode cL_law 307 = .ok (.iadd, 1) := by decide +kernel
theorem dL_law_308 : decode cL_law 308 = .ok (.iaload, 1) := by decide +kernel
theorem dL_law_309 : decode cL_law 309 = .ok (.invokevirtual 44, 3) := by decide +kernel
theorem dL_law_312 : decode cL_law 312 = .ok (.aload_n 2, 1) := by decide +kernel
theorem dL_law_313 : decode cL_law 313 = .ok (.aload_n 0, 1) := by decide +kernel
theorem dL_law_314 : decode cL_law 314 = .ok (.iload_n 3, 1) := by decide +kernel
theorem dL_law_315 : decode cL_law 315 = .ok (.iconst 1, 1) := by decide +kernel
theorem dL_law_316 : decode cL_law 316 = .ok (.iadd, 1) := by decide +kernel
theorem dL_law_317 : decode cL_law 317 = .ok (.iaload, 1) := by decide +kernel
theorem dL_law_318 : decode cL_law 318 = .ok (.invokevirtual 47, 3) := by decide +kernel
theorem dL_law_321 : decode cL_law 321 = .ok (.if_icmp .eq 450, 3) := by decide +kernel
theorem dL_law_324 : decode cL_law 324 = .ok (.iconst 0, 1) := by decide +kernel
theorem dL_law_325 : decode cL_law 325 = .ok (.ireturn, 1) := by decide +kernel
theorem dL_law_326 : decode cL_law 326 = .ok (.aload_n 1, 1) := by decide +kernel
theorem dL_law_327 : decode cL_law 327 = .ok (.aload_n 0, 1) := by decide +kernel
theorem dL_law_328 : decode cL_law 328 = .ok (.iload_n 3, 1) := by decide +kernel
theorem dL_law_329 : decode cL_law 329 = .ok (.iconst 1, 1) := by decide +kernel
theorem dL_law_330 : decode cL_law 330 = .ok (.iadd, 1) := by decide +kernel
theorem dL_law_331 : decode cL_law 331 = .ok (.iaload, 1) := by decide +kernel
theorem dL_law_332 : decode cL_law 332 = .ok (.invokevirtual 48, 3) := by decide +kernel
theorem dL_law_335 : decode cL_law 335 = .ok (.aload_n 2, 1) := by decide +kernel
theorem dL_law_336 : decode cL_law 336 = .ok (.aload_n 0, 1) := by decide +kernel
theorem dL_law_337 : decode cL_law 337 = .ok (.iload_n 3, 1) := by decide +kernel
theorem dL_law_338 : decode cL_law 338 = .ok (.iconst 1, 1) := by decide +kernel
theorem dL_law_339 : decode cL_law 339 = .ok (.iadd, 1) := by decide +kernel
theorem dL_law_340 : decode cL_law 340 = .ok (.iaload, 1) := by decide +kernel
theorem dL_law_341 : decode cL_law 341 = .ok (.invokevirtual 51, 3) := by decide +kernel
theorem dL_law_344 : decode cL_law 344 = .ok (.if_icmp .eq 427, 3) := by decide +kernel
theorem dL_law_347 : decode cL_law 347 = .ok (.iconst 0, 1) := by decide +kernel
theorem dL_law_348 : decode cL_law 348 = .ok (.ireturn, 1) := by decide +kernel
theorem dL_law_349 : decode cL_law 349 = .ok (.aload_n 1, 1) := by decide +kernel
theorem dL_law_350 : decode cL_law 350 = .ok (.aload_n 0, 1) := by decide +kernel
theorem dL_law_351 : decode cL_law 351 = .ok (.iload_n 3, 1) := by decide +kernel
theorem dL_law_352 : decode cL_law 352 = .ok (.iconst 1, 1) := by decide +kernel
theorem dL_law_353 : decode cL_law 353 = .ok (.iadd, 1) := by decide +kernel
theorem dL_law_354 : decode cL_law 354 = .ok (.iaload, 1) := by decide +kernel
theorem dL_law_355 : decode cL_law 355 = .ok (.aload_n 0, 1) := by decide +kernel
theorem dL_law_356 : decode cL_law 356 = .ok (.iload_n 3, 1) := by decide +kernel
theorem dL_law_357 : decode cL_law 357 = .ok (.iconst 2, 1) := by decide +kernel
theorem dL_law_358 : decode cL_law 358 = .ok (.iadd, 1) := by decide +kernel
theorem dL_law_359 : decode cL_law 359 = .ok (.iaload, 1) := by decide +kernel
theorem dL_law_360 : decode cL_law 360 = .ok (.invokevirtual 52, 3) := by decide +kernel
theorem dL_law_363 : decode cL_law 363 = .ok (.aload_n 2, 1) := by decide +kernel
theorem dL_law_364 : decode cL_law 364 = .ok (.aload_n 0, 1) := by decide +kernel
theorem dL_law_365 : decode cL_law 365 = .ok (.iload_n 3, 1) := by decide +kernel
theorem dL_law_366 : decode cL_law 366 = .ok (.iconst 1, 1) := by decide +kernel
theorem dL_law_367 : decode cL_law 367 = .ok (.iadd, 1) := by decide +kernel
theorem dL_law_368 : decode cL_law 368 = .ok (.iaload, 1) := by decide +kernel
theorem dL_law_369 : decode cL_law 369 = .ok (.aload_n 0, 1) := by decide +kernel
theorem dL_law_370 : decode cL_law 370 = .ok (.iload_n 3, 1) := by decide +kernel
theorem dL_law_371 : decode cL_law 371 = .ok (.iconst 2, 1) := by decide +kernel
theorem dL_law_372 : decode cL_law 372 = .ok (.iadd, 1) := by decide +kernel
theorem dL_law_373 : decode cL_law 373 = .ok (.iaload, 1) := by decide +kernel
theorem dL_law_374 : decode cL_law 374 = .ok (.invokevirtual 55, 3) := by decide +kernel
theorem dL_law_377 : decode cL_law 377 = .ok (.if_icmp .eq 394, 3) := by decide +kernel
theorem dL_law_380 : decode cL_law 380 = .ok (.iconst 0, 1) := by decide +kernel
theorem dL_law_381 : decode cL_law 381 = .ok (.ireturn, 1) := by decide +kernel
theorem dL_law_382 : decode cL_law 382 = .ok (.aload_n 1, 1) := by decide +kernel
theorem dL_law_383 : decode cL_law 383 = .ok (.invokevirtual 56, 3) := by decide +kernel
theorem dL_law_386 : decode cL_law 386 = .ok (.aload_n 2, 1) := by decide +kernel
theorem dL_law_387 : decode cL_law 387 = .ok (.invokevirtual 59, 3) := by decide +kernel
theorem dL_law_390 : decode cL_law 390 = .ok (.if_icmp .eq 381, 3) := by decide +kernel
theorem dL_law_393 : decode cL_law 393 = .ok (.iconst 0, 1) := by decide +kernel
theorem dL_law_394 : decode cL_law 394 = .ok (.ireturn, 1) := by decide +kernel
theorem dL_law_395 : decode cL_law 395 = .ok (.aload_n 1, 1) := by decide +kernel
theorem dL_law_396 : decode cL_law 396 = .ok (.aload_n 0, 1) := by decide +kernel
theorem dL_law_397 : decode cL_law 397 = .ok (.iload_n 3, 1) := by decide +kernel
theorem dL_law_398 : decode cL_law 398 = .ok (.iconst 1, 1) := by decide +kernel
theorem dL_law_399 : decode cL_law 399 = .ok (.iadd, 1) := by decide +kernel
theorem dL_law_400 : decode cL_law 400 = .ok (.iaload, 1) := by decide +kernel
theorem dL_law_401 : decode cL_law 401 = .ok (.aload_n 0, 1) := by decide +kernel
theorem dL_law_402 : decode cL_law 402 = .ok (.iload_n 3, 1) := by decide +kernel
theorem dL_law_403 : decode cL_law 403 = .ok (.iconst 2, 1) := by decide +kernel
theorem dL_law_404 : decode cL_law 404 = .ok (.iadd, 1) := by decide +kernel
theorem dL_law_405 : decode cL_law 405 = .ok (.iaload, 1) := by decide +kernel
theorem dL_law_406 : decode cL_law 406 = .ok (.aload_n 0, 1) := by decide +kernel
theorem dL_law_407 : decode cL_law 407 = .ok (.iload_n 3, 1) := by decide +kernel
theorem dL_law_408 : decode cL_law 408 = .ok (.iconst 3, 1) := by decide +kernel
theorem dL_law_409 : decode cL_law 409 = .ok (.iadd, 1) := by decide +kernel
theorem dL_law_410 : decode cL_law 410 = .ok (.iaload, 1) := by decide +kernel
theorem dL_law_411 : decode cL_law 411 = .ok (.invokevirtual 60, 3) := by decide +kernel
theorem dL_law_414 : decode cL_law 414 = .ok (.aload_n 2, 1) := by decide +kernel
theorem dL_law_415 : decode cL_law 415 = .ok (.aload_n 0, 1) := by decide +kernel
theorem dL_law_416 : decode cL_law 416 = .ok (.iload_n 3, 1) := by decide +kernel
theorem dL_law_417 : decode cL_law 417 = .ok (.iconst 1, 1) := by decide +kernel
theorem dL_law_418 : decode cL_law 418 = .ok (.iadd, 1) := by decide +kernel
theorem dL_law_419 : decode cL_law 419 = .ok (.iaload, 1) := by decide +kernel
theorem dL_law_420 : decode cL_law 420 = .ok (.aload_n 0, 1) := by decide +kernel
theorem dL_law_421 : decode cL_law 421 = .ok (.iload_n 3, 1) := by decide +kernel
theorem dL_law_422 : decode cL_law 422 = .ok (.iconst 2, 1) := by decide +kernel
theorem dL_law_423 : decode cL_law 423 = .ok (.iadd, 1) := by decide +kernel
theorem dL_law_424 : decode cL_law 424 = .ok (.iaload, 1) := by decide +kernel
theorem dL_law_425 : decode cL_law 425 = .ok (.aload_n 0, 1) := by decide +kernel
theorem dL_law_426 : decode cL_law 426 = .ok (.iload_n 3, 1) := by decide +kernel
theorem dL_law_427 : decode cL_law 427 = .ok (.iconst 3, 1) := by decide +kernel
theorem dL_law_428 : decode cL_law 428 = .ok (.iadd, 1) := by decide +kernel
theorem dL_law_429 : decode cL_law 429 = .ok (.iaload, 1) := by decide +kernel
theorem dL_law_430 : decode cL_law 430 = .ok (.invokevirtual 64, 3) := by decide +kernel
theorem dL_law_433 : decode cL_law 433 = .ok (.if_icmp .eq 338, 3) := by decide +kernel
theorem dL_law_436 : decode cL_law 436 = .ok (.iconst 0, 1) := by decide +kernel
theorem dL_law_437 : decode cL_law 437 = .ok (.ireturn, 1) := by decide +kernel
theorem dL_law_438 : decode cL_law 438 = .ok (.aload_n 1, 1) := by decide +kernel
theorem dL_law_439 : decode cL_law 439 = .ok (.aload_n 0, 1) := by decide +kernel
theorem dL_law_440 : decode cL_law 440 = .ok (.iload_n 3, 1) := by decide +kernel
theorem dL_law_441 : decode cL_law 441 = .ok (.iconst 1, 1) := by decide +kernel
theorem dL_law_442 : decode cL_law 442 = .ok (.iadd, 1) := by decide +kernel
theorem dL_law_443 : decode cL_law 443 = .ok (.iaload, 1) := by decide +kernel
theorem dL_law_444 : decode cL_law 444 = .ok (.invokevirtual 65, 3) := by decide +kernel
theorem dL_law_447 : decode cL_law 447 = .ok (.aload_n 2, 1) := by decide +kernel
theorem dL_law_448 : decode cL_law 448 = .ok (.aload_n 0, 1) := by decide +kernel
theorem dL_law_449 : decode cL_law 449 = .ok (.iload_n 3, 1) := by decide +kernel
theorem dL_law_450 : decode cL_law 450 = .ok (.iconst 1, 1) := by decide +kernel
theorem dL_law_451 : decode cL_law 451 = .ok (.iadd, 1) := by decide +kernel
theorem dL_law_452 : decode cL_law 452 = .ok (.iaload, 1) := by decide +kernel
theorem dL_law_453 : decode cL_law 453 = .ok (.invokevirtual 68, 3) := by decide +kernel
theorem dL_law_456 : decode cL_law 456 = .ok (.if_icmp .eq 315, 3) := by decide +kernel
theorem dL_law_459 : decode cL_law 459 = .ok (.iconst 0, 1) := by decide +kernel
theorem dL_law_460 : decode cL_law 460 = .ok (.ireturn, 1) := by decide +kernel
theorem dL_law_461 : decode cL_law 461 = .ok (.aload_n 1, 1) := by decide +kernel
theorem dL_law_462 : decode cL_law 462 = .ok (.aload_n 0, 1) := by decide +kernel
theorem dL_law_463 : decode cL_law 463 = .ok (.iload_n 3, 1) := by decide +kernel
theorem dL_law_464 : decode cL_law 464 = .ok (.iconst 1, 1) := by decide +kernel
theorem dL_law_465 : decode cL_law 465 = .ok (.iadd, 1) := by decide +kernel
theorem dL_law_466 : decode cL_law 466 = .ok (.iaload, 1) := by decide +kernel
theorem dL_law_467 : decode cL_law 467 = .ok (.invokevirtual 69, 3) := by decide +kernel
theorem dL_law_470 : decode cL_law 470 = .ok (.aload_n 2, 1) := by decide +kernel
theorem dL_law_471 : decode cL_law 471 = .ok (.aload_n 0, 1) := by decide +kernel
theorem dL_law_472 : decode cL_law 472 = .ok (.iload_n 3, 1) := by decide +kernel
theorem dL_law_473 : decode cL_law 473 = .ok (.iconst 1, 1) := by decide +kernel
theorem dL_law_474 : decode cL_law 474 = .ok (.iadd, 1) := by decide +kernel
theorem dL_law_475 : decode cL_law 475 = .ok (.iaload, 1) := by decide +kernel
theorem dL_law_476 : decode cL_law 476 = .ok (.invokevirtual 72, 3) := by decide +kernel
theorem dL_law_479 : decode cL_law 479 = .ok (.if_icmp .eq 292, 3) := by decide +kernel
theorem dL_law_482 : decode cL_law 482 = .ok (.iconst 0, 1) := by decide +kernel
theorem dL_law_483 : decode cL_law 483 = .ok (.ireturn, 1) := by decide +kernel
theorem dL_law_484 : decode cL_law 484 = .ok (.aload_n 1, 1) := by decide +kernel
theorem dL_law_485 : decode cL_law 485 = .ok (.aload_n 0, 1) := by decide +kernel
theorem dL_law_486 : decode cL_law 486 = .ok (.iload_n 3, 1) := by decide +kernel
theorem dL_law_487 : decode cL_law 487 = .ok (.iconst 1, 1) := by decide +kernel
theorem dL_law_488 : decode cL_law 488 = .ok (.iadd, 1) := by decide +kernel
theorem dL_law_489 : decode cL_law 489 = .ok (.iaload, 1) := by decide +kernel
theorem dL_law_490 : decode cL_law 490 = .ok (.invokevirtual 73, 3) := by decide +kernel
theorem dL_law_493 : decode cL_law 493 = .ok (.aload_n 2, 1) := by decide +kernel
theorem dL_law_494 : decode cL_law 494 = .ok (.aload_n 0, 1) := by decide +kernel
theorem dL_law_495 : decode cL_law 495 = .ok (.iload_n 3, 1) := by decide +kernel
theorem dL_law_496 : decode cL_law 496 = .ok (.iconst 1, 1) := by decide +kernel
theorem dL_law_497 : decode cL_law 497 = .ok (.iadd, 1) := by decide +kernel
theorem dL_law_498 : decode cL_law 498 = .ok (.iaload, 1) := by decide +kernel
theorem dL_law_499 : decode cL_law 499 = .ok (.invokevirtual 76, 3) := by decide +kernel
theorem dL_law_502 : decode cL_law 502 = .ok (.if_icmp .eq 269, 3) := by decide +kernel
theorem dL_law_505 : decode cL_law 505 = .ok (.iconst 0, 1) := by decide +kernel
theorem dL_law_506 : decode cL_law 506 = .ok (.ireturn, 1) := by decide +kernel
theorem dL_law_507 : decode cL_law 507 = .ok (.aload_n 1, 1) := by decide +kernel
theorem dL_law_508 : decode cL_law 508 = .ok (.invokevirtual 77, 3) := by decide +kernel
theorem dL_law_511 : decode cL_law 511 = .ok (.aload_n 2, 1) := by decide +kernel
theorem dL_law_512 : decode cL_law 512 = .ok (.invokevirtual 80, 3) := by decide +kernel
theorem dL_law_515 : decode cL_law 515 = .ok (.if_icmp .eq 256, 3) := by decide +kernel
theorem dL_law_518 : decode cL_law 518 = .ok (.iconst 0, 1) := by decide +kernel
theorem dL_law_519 : decode cL_law 519 = .ok (.ireturn, 1) := by decide +kernel
theorem dL_law_520 : decode cL_law 520 = .ok (.aload_n 1, 1) := by decide +kernel
theorem dL_law_521 : decode cL_law 521 = .ok (.invokevirtual 81, 3) := by decide +kernel
theorem dL_law_524 : decode cL_law 524 = .ok (.aload_n 2, 1) := by decide +kernel
theorem dL_law_525 : decode cL_law 525 = .ok (.invokevirtual 84, 3) := by decide +kernel
theorem dL_law_528 : decode cL_law 528 = .ok (.if_icmp .eq 243, 3) := by decide +kernel
theorem dL_law_531 : decode cL_law 531 = .ok (.iconst 0, 1) := by decide +kernel
theorem dL_law_532 : decode cL_law 532 = .ok (.ireturn, 1) := by decide +kernel
theorem dL_law_533 : decode cL_law 533 = .ok (.aload_n 1, 1) := by decide +kernel
theorem dL_law_534 : decode cL_law 534 = .ok (.aload_n 0, 1) := by decide +kernel
theorem dL_law_535 : decode cL_law 535 = .ok (.iload_n 3, 1) := by decide +kernel
theorem dL_law_536 : decode cL_law 536 = .ok (.iconst 1, 1) := by decide +kernel
theorem dL_law_537 : decode cL_law 537 = .ok (.iadd, 1) := by decide +kernel
theorem dL_law_538 : decode cL_law 538 = .ok (.iaload, 1) := by decide +kernel
theorem dL_law_539 : decode cL_law 539 = .ok (.invokevirtual 85, 3) := by decide +kernel
theorem dL_law_542 : decode cL_law 542 = .ok (.aload_n 2, 1) := by decide +kernel
theorem dL_law_543 : decode cL_law 543 = .ok (.aload_n 0, 1) := by decide +kernel
theorem dL_law_544 : decode cL_law 544 = .ok (.iload_n 3, 1) := by decide +kernel
theorem dL_law_545 : decode cL_law 545 = .ok (.iconst 1, 1) := by decide +kernel
theorem dL_law_546 : decode cL_law 546 = .ok (.iadd, 1) := by decide +kernel
theorem dL_law_547 : decode cL_law 547 = .ok (.iaload, 1) := by decide +kernel
theorem dL_law_548 : decode cL_law 548 = .ok (.invokevirtual 88, 3) := by decide +kernel
theorem dL_law_551 : decode cL_law 551 = .ok (.if_icmp .eq 220, 3) := by decide +kernel
theorem dL_law_554 : decode cL_law 554 = .ok (.iconst 0, 1) := by decide +kernel
theorem dL_law_555 : decode cL_law 555 = .ok (.ireturn, 1) := by decide +kernel
theorem dL_law_556 : decode cL_law 556 = .ok (.aload_n 1, 1) := by decide +kernel
theorem dL_law_557 : decode cL_law 557 = .ok (.aload_n 0, 1) := by decide +kernel
theorem dL_law_558 : decode cL_law 558 = .ok (.iload_n 3, 1) := by decide +kernel
theorem dL_law_559 : decode cL_law 559 = .ok (.iconst 1, 1) := by decide +kernel
theorem dL_law_560 : decode cL_law 560 = .ok (.iadd, 1) := by decide +kernel
theorem dL_law_561 : decode cL_law 561 = .ok (.iaload, 1) := by decide +kernel
theorem dL_law_562 : decode cL_law 562 = .ok (.invokevirtual 89, 3) := by decide +kernel
theorem dL_law_565 : decode cL_law 565 = .ok (.aload_n 2, 1) := by decide +kernel
theorem dL_law_566 : decode cL_law 566 = .ok (.aload_n 0, 1) := by decide +kernel
theorem dL_law_567 : decode cL_law 567 = .ok (.iload_n 3, 1) := by decide +kernel
theorem dL_law_568 : decode cL_law 568 = .ok (.iconst 1, 1) := by decide +kernel
theorem dL_law_569 : decode cL_law 569 = .ok (.iadd, 1) := by decide +kernel
theorem dL_law_570 : decode cL_law 570 = .ok (.iaload, 1) := by decide +kernel
theorem dL_law_571 : decode cL_law 571 = .ok (.invokevirtual 92, 3) := by decide +kernel
theorem dL_law_574 : decode cL_law 574 = .ok (.if_icmp .eq 197, 3) := by decide +kernel
theorem dL_law_577 : decode cL_law 577 = .ok (.iconst 0, 1) := by decide +kernel
theorem dL_law_578 : decode cL_law 578 = .ok (.ireturn, 1) := by decide +kernel
theorem dL_law_579 : decode cL_law 579 = .ok (.aload_n 1, 1) := by decide +kernel
theorem dL_law_580 : decode cL_law 580 = .ok (.aload_n 0, 1) := by decide +kernel
theorem dL_law_581 : decode cL_law 581 = .ok (.iload_n 3, 1) := by decide +kernel
theorem dL_law_582 : decode cL_law 582 = .ok (.iconst 1, 1) := by decide +kernel
theorem dL_law_583 : decode cL_law 583 = .ok (.iadd, 1) := by decide +kernel
theorem dL_law_584 : decode cL_law 584 = .ok (.iaload, 1) := by decide +kernel
theorem dL_law_585 : decode cL_law 585 = .ok (.invokevirtual 93, 3) := by decide +kernel
theorem dL_law_588 : decode cL_law 588 = .ok (.aload_n 2, 1) := by decide +kernel
theorem dL_law_589 : decode cL_law 589 = .ok (.aload_n 0, 1) := by decide +kernel
theorem dL_law_590 : decode cL_law 590 = .ok (.iload_n 3, 1) := by decide +kernel
theorem dL_law_591 : decode cL_law 591 = .ok (.iconst 1, 1) := by decide +kernel
theorem dL_law_592 : decode cL_law 592 = .ok (.iadd, 1) := by decide +kernel
theorem dL_law_593 : decode cL_law 593 = .ok (.iaload, 1) := by decide +kernel
theorem dL_law_594 : decode cL_law 594 = .ok (.invokevirtual 96, 3) := by decide +kernel
theorem dL_law_597 : decode cL_law 597 = .ok (.if_icmp .eq 174, 3) := by decide +kernel
theorem dL_law_600 : decode cL_law 600 = .ok (.iconst 0, 1) := by decide +kernel
theorem dL_law_601 : decode cL_law 601 = .ok (.ireturn, 1) := by decide +kernel
theorem dL_law_602 : decode cL_law 602 = .ok (.aload_n 1, 1) := by decide +kernel
theorem dL_law_603 : decode cL_law 603 = .ok (.aload_n 0, 1) := by decide +kernel
theorem dL_law_604 : decode cL_law 604 = .ok (.iload_n 3, 1) := by decide +kernel
theorem dL_law_605 : decode cL_law 605 = .ok (.iconst 1, 1) := by decide +kernel
theorem dL_law_606 : decode cL_law 606 = .ok (.iadd, 1) := by decide +kernel
theorem dL_law_607 : decode cL_law 607 = .ok (.iaload, 1) := by decide +kernel
theorem dL_law_608 : decode cL_law 608 = .ok (.aload_n 0, 1) := by decide +kernel
theorem dL_law_609 : decode cL_law 609 = .ok (.iload_n 3, 1) := by decide +kernel
theorem dL_law_610 : decode cL_law 610 = .ok (.iconst 2, 1) := by decide +kernel
theorem dL_law_611 : decode cL_law 611 = .ok (.iadd, 1) := by decide +kernel
theorem dL_law_612 : decode cL_law 612 = .ok (.iaload, 1) := by decide +kernel
theorem dL_law_613 : decode cL_law 613 = .ok (.aload_n 0, 1) := by decide +kernel
theorem dL_law_614 : decode cL_law 614 = .ok (.iload_n 3, 1) := by decide +kernel
theorem dL_law_615 : decode cL_law 615 = .ok (.iconst 3, 1) := by decide +kernel
theorem dL_law_616 : decode cL_law 616 = .ok (.iadd, 1) := by decide +kernel
theorem dL_law_617 : decode cL_law 617 = .ok (.iaload, 1) := by decide +kernel
theorem dL_law_618 : decode cL_law 618 = .ok (.aload_n 0, 1) := by decide +kernel
theorem dL_law_619 : decode cL_law 619 = .ok (.iload_n 3, 1) := by decide +kernel
theorem dL_law_620 : decode cL_law 620 = .ok (.iconst 4, 1) := by decide +kernel
theorem dL_law_621 : decode cL_law 621 = .ok (.iadd, 1) := by decide +kernel
theorem dL_law_622 : decode cL_law 622 = .ok (.iaload, 1) := by decide +kernel
theorem dL_law_623 : decode cL_law 623 = .ok (.invokevirtual 97, 3) := by decide +kernel
theorem dL_law_626 : decode cL_law 626 = .ok (.aload_n 2, 1) := by decide +kernel
theorem dL_law_627 : decode cL_law 627 = .ok (.aload_n 0, 1) := by decide +kernel
theorem dL_law_628 : decode cL_law 628 = .ok (.iload_n 3, 1) := by decide +kernel
theorem dL_law_629 : decode cL_law 629 = .ok (.iconst 1, 1) := by decide +kernel
theorem dL_law_630 : decode cL_law 630 = .ok (.iadd, 1) := by decide +kernel
theorem dL_law_631 : decode cL_law 631 = .ok (.iaload, 1) := by decide +kernel
theorem dL_law_632 : decode cL_law 632 = .ok (.aload_n 0, 1) := by decide +kernel
theorem dL_law_633 : decode cL_law 633 = .ok (.iload_n 3, 1) := by decide +kernel
theorem dL_law_634 : decode cL_law 634 = .ok (.iconst 2, 1) := by decide +kernel
theorem dL_law_635 : decode cL_law 635 = .ok (.iadd, 1) := by decide +kernel
theorem dL_law_636 : decode cL_law 636 = .ok (.iaload, 1) := by decide +kernel
theorem dL_law_637 : decode cL_law 637 = .ok (.aload_n 0, 1) := by decide +kernel
theorem dL_law_638 : decode cL_law 638 = .ok (.iload_n 3, 1) := by decide +kernel
theorem dL_law_639 : decode cL_law 639 = .ok (.iconst 3, 1) := by decide +kernel
theorem dL_law_640 : decode cL_law 640 = .ok (.iadd, 1) := by decide +kernel
theorem dL_law_641 : decode cL_law 641 = .ok (.iaload, 1) := by decide +kernel
theorem dL_law_642 : decode cL_law 642 = .ok (.aload_n 0, 1) := by decide +kernel
theorem dL_law_643 : decode cL_law 643 = .ok (.iload_n 3, 1) := by decide +kernel
theorem dL_law_644 : decode cL_law 644 = .ok (.iconst 4, 1) := by decide +kernel
theorem dL_law_645 : decode cL_law 645 = .ok (.iadd, 1) := by decide +kernel
theorem dL_law_646 : decode cL_law 646 = .ok (.iaload, 1) := by decide +kernel
theorem dL_law_647 : decode cL_law 647 = .ok (.invokevirtual 101, 3) := by decide +kernel
theorem dL_law_650 : decode cL_law 650 = .ok (.if_icmp .eq 121, 3) := by decide +kernel
theorem dL_law_653 : decode cL_law 653 = .ok (.iconst 0, 1) := by decide +kernel
theorem dL_law_654 : decode cL_law 654 = .ok (.ireturn, 1) := by decide +kernel
theorem dL_law_655 : decode cL_law 655 = .ok (.aload_n 1, 1) := by decide +kernel
theorem dL_law_656 : decode cL_law 656 = .ok (.aload_n 0, 1) := by decide +kernel
theorem dL_law_657 : decode cL_law 657 = .ok (.iload_n 3, 1) := by decide +kernel
theorem dL_law_658 : decode cL_law 658 = .ok (.iconst 1, 1) := by decide +kernel
theorem dL_law_659 : decode cL_law 659 = .ok (.iadd, 1) := by decide +kernel
theorem dL_law_660 : decode cL_law 660 = .ok (.iaload, 1) := by decide +kernel
theorem dL_law_661 : decode cL_law 661 = .ok (.aload_n 0, 1) := by decide +kernel
theorem dL_law_662 : decode cL_law 662 = .ok (.iload_n 3, 1) := by decide +kernel
theorem dL_law_663 : decode cL_law 663 = .ok (.iconst 2, 1) := by decide +kernel
theorem dL_law_664 : decode cL_law 664 = .ok (.iadd, 1) := by decide +kernel
theorem dL_law_665 : decode cL_law 665 = .ok (.iaload, 1) := by decide +kernel
theorem dL_law_666 : decode cL_law 666 = .ok (.invokevirtual 102, 3) := by decide +kernel
theorem dL_law_669 : decode cL_law 669 = .ok (.aload_n 2, 1) := by decide +kernel
theorem dL_law_670 : decode cL_law 670 = .ok (.aload_n 0, 1) := by decide +kernel
theorem dL_law_671 : decode cL_law 671 = .ok (.iload_n 3, 1) := by decide +kernel
theorem dL_law_672 : decode cL_law 672 = .ok (.iconst 1, 1) := by decide +kernel
theorem dL_law_673 : decode cL_law 673 = .ok (.iadd, 1) := by decide +kernel
theorem dL_law_674 : decode cL_law 674 = .ok (.iaload, 1) := by decide +kernel
theorem dL_law_675 : decode cL_law 675 = .ok (.aload_n 0, 1) := by decide +kernel
theorem dL_law_676 : decode cL_law 676 = .ok (.iload_n 3, 1) := by decide +kernel
theorem dL_law_677 : decode cL_law 677 = .ok (.iconst 2, 1) := by decide +kernel
theorem dL_law_678 : decode cL_law 678 = .ok (.iadd, 1) := by decide +kernel
theorem dL_law_679 : decode cL_law 679 = .ok (.iaload, 1) := by decide +kernel
theorem dL_law_680 : decode cL_law 680 = .ok (.invokevirtual 105, 3) := by decide +kernel
theorem dL_law_683 : decode cL_law 683 = .ok (.if_icmp .eq 88, 3) := by decide +kernel
theorem dL_law_686 : decode cL_law 686 = .ok (.iconst 0, 1) := by decide +kernel
theorem dL_law_687 : decode cL_law 687 = .ok (.ireturn, 1) := by decide +kernel
theorem dL_law_688 : decode cL_law 688 = .ok (.aload_n 1, 1) := by decide +kernel
theorem dL_law_689 : decode cL_law 689 = .ok (.aload_n 0, 1) := by decide +kernel
theorem dL_law_690 : decode cL_law 690 = .ok (.iload_n 3, 1) := by decide +kernel
theorem dL_law_691 : decode cL_law 691 = .ok (.iconst 1, 1) := by decide +kernel
theorem dL_law_692 : decode cL_law 692 = .ok (.iadd, 1) := by decide +kernel
theorem dL_law_693 : decode cL_law 693 = .ok (.iaload, 1) := by decide +kernel
theorem dL_law_694 : decode cL_law 694 = .ok (.invokevirtual 106, 3) := by decide +kernel
theorem dL_law_697 : decode cL_law 697 = .ok (.aload_n 2, 1) := by decide +kernel
theorem dL_law_698 : decode cL_law 698 = .ok (.aload_n 0, 1) := by decide +kernel
theorem dL_law_699 : decode cL_law 699 = .ok (.iload_n 3, 1) := by decide +kernel
theorem dL_law_700 : decode cL_law 700 = .ok (.iconst 1, 1) := by decide +kernel
theorem dL_law_701 : decode cL_law 701 = .ok (.iadd, 1) := by decide +kernel
theorem dL_law_702 : decode cL_law 702 = .ok (.iaload, 1) := by decide +kernel
theorem dL_law_703 : decode cL_law 703 = .ok (.invokevirtual 109, 3) := by decide +kernel
theorem dL_law_706 : decode cL_law 706 = .ok (.if_icmp .eq 65, 3) := by decide +kernel
theorem dL_law_709 : decode cL_law 709 = .ok (.iconst 0, 1) := by decide +kernel
theorem dL_law_710 : decode cL_law 710 = .ok (.ireturn, 1) := by decide +kernel
theorem dL_law_711 : decode cL_law 711 = .ok (.aload_n 1, 1) := by decide +kernel
theorem dL_law_712 : decode cL_law 712 = .ok (.aload_n 0, 1) := by decide +kernel
theorem dL_law_713 : decode cL_law 713 = .ok (.iload_n 3, 1) := by decide +kernel
theorem dL_law_714 : decode cL_law 714 = .ok (.iconst 1, 1) := by decide +kernel
theorem dL_law_715 : decode cL_law 715 = .ok (.iadd, 1) := by decide +kernel
theorem dL_law_716 : decode cL_law 716 = .ok (.iaload, 1) := by decide +kernel
theorem dL_law_717 : decode cL_law 717 = .ok (.invokevirtual 110, 3) := by decide +kernel
theorem dL_law_720 : decode cL_law 720 = .ok (.aload_n 2, 1) := by decide +kernel
theorem dL_law_721 : decode cL_law 721 = .ok (.aload_n 0, 1) := by decide +kernel
theorem dL_law_722 : decode cL_law 722 = .ok (.iload_n 3, 1) := by decide +kernel
theorem dL_law_723 : decode cL_law 723 = .ok (.iconst 1, 1) := by decide +kernel
theorem dL_law_724 : decode cL_law 724 = .ok (.iadd, 1) := by decide +kernel
theorem dL_law_725 : decode cL_law 725 = .ok (.iaload, 1) := by decide +kernel
theorem dL_law_726 : decode cL_law 726 = .ok (.invokevirtual 113, 3) := by decide +kernel
theorem dL_law_729 : decode cL_law 729 = .ok (.if_icmp .eq 42, 3) := by decide +kernel
theorem dL_law_732 : decode cL_law 732 = .ok (.iconst 0, 1) := by decide +kernel
theorem dL_law_733 : decode cL_law 733 = .ok (.ireturn, 1) := by decide +kernel
theorem dL_law_734 : decode cL_law 734 = .ok (.aload_n 1, 1) := by decide +kernel
theorem dL_law_735 : decode cL_law 735 = .ok (.aload_n 0, 1) := by decide +kernel
theorem dL_law_736 : decode cL_law 736 = .ok (.iload_n 3, 1) := by decide +kernel
theorem dL_law_737 : decode cL_law 737 = .ok (.iconst 1, 1) := by decide +kernel
theorem dL_law_738 : decode cL_law 738 = .ok (.iadd, 1) := by decide +kernel
theorem dL_law_739 : decode cL_law 739 = .ok (.iaload, 1) := by decide +kernel
theorem dL_law_740 : decode cL_law 740 = .ok (.invokevirtual 114, 3) := by decide +kernel
theorem dL_law_743 : decode cL_law 743 = .ok (.aload_n 2, 1) := by decide +kernel
theorem dL_law_744 : decode cL_law 744 = .ok (.aload_n 0, 1) := by decide +kernel
theorem dL_law_745 : decode cL_law 745 = .ok (.iload_n 3, 1) := by decide +kernel
theorem dL_law_746 : decode cL_law 746 = .ok (.iconst 1, 1) := by decide +kernel
theorem dL_law_747 : decode cL_law 747 = .ok (.iadd, 1) := by decide +kernel
theorem dL_law_748 : decode cL_law 748 = .ok (.iaload, 1) := by decide +kernel
theorem dL_law_749 : decode cL_law 749 = .ok (.invokevirtual 117, 3) := by decide +kernel
theorem dL_law_752 : decode cL_law 752 = .ok (.if_icmp .eq 19, 3) := by decide +kernel
theorem dL_law_755 : decode cL_law 755 = .ok (.iconst 0, 1) := by decide +kernel
theorem dL_law_756 : decode cL_law 756 = .ok (.ireturn, 1) := by decide +kernel
theorem dL_law_757 : decode cL_law 757 = .ok (.aload_n 1, 1) := by decide +kernel
theorem dL_law_758 : decode cL_law 758 = .ok (.invokevirtual 118, 3) := by decide +kernel
theorem dL_law_761 : decode cL_law 761 = .ok (.aload_n 2, 1) := by decide +kernel
theorem dL_law_762 : decode cL_law 762 = .ok (.invokevirtual 122, 3) := by decide +kernel
theorem dL_law_765 : decode cL_law 765 = .ok (.lcmp, 1) := by decide +kernel
theorem dL_law_766 : decode cL_law 766 = .ok (.ifCond .eq 5, 3) := by decide +kernel
theorem dL_law_769 : decode cL_law 769 = .ok (.iconst 0, 1) := by decide +kernel
theorem dL_law_770 : decode cL_law 770 = .ok (.ireturn, 1) := by decide +kernel
theorem dL_law_771 : decode cL_law 771 = .ok (.iinc 3 5, 3) := by decide +kernel
theorem dL_law_774 : decode cL_law 774 = .ok (.goto (-756), 3) := by decide +kernel
theorem dL_law_777 : decode cL_law 777 = .ok (.iconst 1, 1) := by decide +kernel
theorem dL_law_778 : decode cL_law 778 = .ok (.ireturn, 1) := by decide +kernel
end
section
/-! THE MINI MACHINE: ints as exact integers (each sum's range is a side condition), cells by their places, one world a system -/
abbrev jV : Type := Int ⊕ Nat ⊕ Int64 ⊕ Unit
abbrev jI (x : Int) : jV := .inl x
abbrev jR (k : Nat) : jV := .inr (.inl k)
abbrev jL (w : Int64) : jV := .inr (.inr (.inl w))
abbrev jU : jV := .inr (.inr (.inr ()))
abbrev jH : Type := (Nat → Nat → Int) × (Nat → Int64)
/-- a cell of the layout: a row (booleans? its length), or an object (its number, its fields: none a long, some none an int, some (some k) the cell at place k) -/
abbrev jC : Type := (Bool × Nat) ⊕ (Nat × List (Option (Option Nat)))
abbrev jS : Type := List vw_C × List (String × Nat × MethodName × String) × List jC
abbrev jG : Type := Launch × va_G × (ClassId × ClassId) × (Nat → Nat)
/-- a method: its name, code, locals, answer's type, room -/
abbrev jM : Type := MethodName × ByteArray × Nat × Option FieldType × Room
/-- the words that every method is given: all of the tables' that a call hands on -/
def jW : List Cond := lw_tbl.filter goodWord
abbrev j_ws (M : jM) : List Cond := Cond.code M.1 M.2.1 M.2.2.1 M.2.2.2.1 :: jW
theorem jW_in {w : Cond} (h : w ∈ lw_tbl) (hg : goodWord w = true) : w ∈ jW := List.mem_filter.mpr ⟨h, hg⟩
theorem jW_t {w : Cond} (i : Nat) (h : tables_1[i]? = some w) (hg : goodWord w = true) : w ∈ jW := jW_in (List.mem_append_right _ (List.mem_of_getElem? h)) hg
theorem jW_s {w : Cond} (i : Nat) (h : (k2_sels lw_privs)[i]? = some w) (hg : goodWord w = true) : w ∈ jW := jW_in (List.mem_append_left _ (List.mem_of_getElem? h)) hg
theorem jW_good : ∀ w ∈ jW, (w.onTables && w.keeps) = true ∨ ∃ ty, w = .arrayClass ty := fun w h => good_of_word (List.mem_filter.mp h).2
abbrev jQ : Type := Option jV → jH → Prop
abbrev j_rg (x : Int) : Prop := -2147483648 ≤ x ∧ x ≤ 2147483647
def j_ok (a : jV) : Prop := match a with
  | .inl x => j_rg x
  | _ => True
def j_Rg (h : jH) : Prop := ∀ k j, j_rg (h.1 k j)
def j_v (ad : Nat → Nat) (a : jV) : Value := match a with
  | .inl x => .int (Int32.ofInt x)
  | .inr (.inl k) => .ref (ad k)
  | .inr (.inr (.inl w)) => .long w
  | .inr (.inr (.inr _)) => .null
def j_un (a : jV) : Bool := match a with
  | .inl _ => false
  | .inr (.inl _) => false
  | _ => true
def j_f (ad : Nat → Nat) (h : jH) (k j : Nat) (f : Option (Option Nat)) : Value := match f with
  | none => .long (h.2 k)
  | some none => .int (Int32.ofInt (h.1 k j))
  | some (some r) => .ref (ad r)
def j_E (G : jG) (h : jH) (k : Nat) (c : jC) : va_E := match c with
  | .inl (b, n) => .inl (if b then G.2.2.1.2 else G.2.2.1.1, n, .inl (fun j => Int32.ofInt (h.1 k j)))
  | .inr (ci, fs) => .inr (ci, fs.mapIdx (fun j f => j_f G.2.2.2 h k j f))
def j_w (G : jG) (lay : List jC) (h : jH) : va_W := lay.mapIdx (fun k c => (G.2.2.2 k, j_E G h k c))
abbrev j_ty (G : jG) : List (ClassId × FieldType) := [(G.2.2.1.1, .int), (G.2.2.1.2, .boolean)]
def j_N (S : jS) (U : State) : Prop := ∀ q ∈ S.2.1, va_Nw (.methodLinkNest q.1 q.2.1 q.2.2.1 q.2.2.2) U
def j_lv (G : jG) (ls : Array Slot) (nL : Nat) (lv : List jV) : Prop := ls.size = nL ∧ lv_wf ls ∧ ∀ (i : Nat) (a : jV), lv[i]? = some a → j_un a = false → ls[i]? = some (.val (j_v G.2.2.2 a))
def j_X (S : jS) (G : jG) (M : jM) (p : Program) (s : State) (m : MethodId) (args : Array Value) (meth : Method) (c : Code) : Prop :=
  p.tables.exec = Jvm.exec ∧ c.code = M.2.1 ∧ meth.sig.returnType = M.2.2.2.1 ∧ c.maxLocals = M.2.2.1 ∧ s.vm.findClass M.1.cls = some m.cls ∧ (∀ w ∈ jW, w.before args s = true) ∧ meth.locks = false ∧ va_K G.2.1 S.1 (j_ty G) s ∧ j_N S s
/-- what holds behind a method: its answer and its world -/
def j_Q (S : jS) (G : jG) (A : Nat → Prop) (Q : jQ) : Array Value → State → Outcome → State → Prop := fun _ st oc t =>
  (∃ (r : Option jV) (h' : jH), Q r h' ∧ j_Rg h' ∧ (∀ a, r = some a → j_ok a) ∧ oc = .returned (r.map (j_v G.2.2.2)) ∧ va_P G.2.1 S.1 (j_w G S.2.2 h') t.heap ∧ va_K G.2.1 S.1 (j_ty G) t ∧ va_D A (j_w G S.2.2 h')) ∧ va_F A st t
/-- the machine, now at pc with these locals, this stack and this world, comes to the method's end with Q -/
def WV (S : jS) (G : jG) (M : jM) (Q : jQ) (pc : Nat) (lv st : List jV) (h : jH) : Prop :=
  j_Rg h → (∀ a ∈ lv, j_ok a) → (∀ a ∈ st, j_ok a) → ∀ (p : Program) (e : Env) (s : State) (m : MethodId) (args : Array Value) (below : List Frame) (meth : Method) (c : Code) (H : Heap) (locs : List Loc) (ls : Array Slot) (A : Nat → Prop),
    j_X S G M p s m args meth c → (∀ q, s.heap.size ≤ q → A q) → va_P G.2.1 S.1 (j_w G S.2.2 h) H → va_D A (j_w G S.2.2 h) → va_S A s.heap H locs → j_lv G ls M.2.2.1 lv →
    W p G.1 e M.2.2.2.2 s m args below meth c H locs 0 0 (MQ below (j_Q S G A Q) args s 0 0 A) (F0 m pc ls (st.map (j_v G.2.2.2)))
/-- a method's contract over the whole world -/
def CT (S : jS) (M : jM) (av : List jV) (h : jH) (post : jQ) : Prop :=
  ∀ (G : jG) (sz : Nat), j_Rg h → (∀ a ∈ av, j_ok a) → Met G.1 M.1 (j_ws M) M.2.2.2.2 (va_Pc (av.map (j_v G.2.2.2)) (fun U => U.heap.size = sz ∧ va_P G.2.1 S.1 (j_w G S.2.2 h) U.heap ∧ va_K G.2.1 S.1 (j_ty G) U ∧ j_N S U ∧ va_D (fun _ => True) (j_w G S.2.2 h)))
    (j_Q S G (va_A (j_w G S.2.2 h) sz) post) 0 0 (va_A (j_w G S.2.2 h) sz)
abbrev jPi (post : Int → jH → Prop) : jQ := fun o h' => ∃ r : Int, o = some (jI r) ∧ post r h'
abbrev jPv (post : jH → Prop) : jQ := fun o h' => o = none ∧ post h'
abbrev jPl (post : Int64 → jH → Prop) : jQ := fun o h' => ∃ r : Int64, o = some (jL r) ∧ post r h'
def j_up (h : jH) (k j : Nat) (x : Int) : jH := (fun a b => if a = k ∧ b = j then x else h.1 a b, h.2)
def j_upl (h : jH) (k : Nat) (w : Int64) : jH := (h.1, fun a => if a = k then w else h.2 a)
/-- n places of the row at a, from i on, into the row at b, from j on -/
def j_cp (h : jH) (a i b j n : Nat) : jH := (fun k x => if k = b ∧ j ≤ x ∧ x < j + n then h.1 a (i + (x - j)) else h.1 k x, h.2)
/-! numbers -/
theorem j_cst {n : Int} (h : decide (-2147483648 ≤ n ∧ n ≤ 2147483647) = true) : j_rg n := (of_decide_eq_true h : -2147483648 ≤ n ∧ n ≤ 2147483647)
theorem j_ti {x : Int} (h : j_rg x) : (Int32.ofInt x).toInt = x := Int32.toInt_ofInt_of_le (by have := h.1; omega) (by have := h.2; omega)
theorem j_le {x y : Int} (hx : j_rg x) (hy : j_rg y) : (Int32.ofInt x ≤ Int32.ofInt y) = (x ≤ y) := by
  rw [Int32.le_iff_toInt_le, j_ti hx, j_ti hy]
theorem j_lt {x y : Int} (hx : j_rg x) (hy : j_rg y) : (Int32.ofInt x < Int32.ofInt y) = (x < y) := by
  rw [Int32.lt_iff_toInt_lt, j_ti hx, j_ti hy]
theorem j_eq {x y : Int} (hx : j_rg x) (hy : j_rg y) : (Int32.ofInt x = Int32.ofInt y) = (x = y) := by
  rw [← Int32.toInt_inj, j_ti hx, j_ti hy]
theorem j_of0 : (0 : Int32) = Int32.ofInt 0 := by decide
theorem j_cl {x : Int} (h : j_rg x) : (Int32.ofInt x).toNatClampNeg = x.toNat := by
  show (Int32.ofInt x).toInt.toNat = x.toNat
  rw [j_ti h]
theorem j_in {x : Int} {n : Nat} (h : j_rg x) (h0 : 0 ≤ x) (hn : x < n) : vp_in (Int32.ofInt x) n := by
  rw [vp_in_iff, j_ti h]
  exact ⟨h0, hn⟩
/-! the world -/
theorem j_w_at {G : jG} {lay : List jC} {h : jH} {k : Nat} {c : jC} (hk : lay[k]? = some c) : (j_w G lay h)[k]? = some (G.2.2.2 k, j_E G h k c) := by
  simp [j_w, List.getElem?_mapIdx, hk]
theorem j_w_set {G : jG} {lay : List jC} {h h' : jH} {k : Nat} {c : jC} (hk : lay[k]? = some c) (h1 : ∀ a, a ≠ k → h'.1 a = h.1 a) (h2 : ∀ a, a ≠ k → h'.2 a = h.2 a) : (j_w G lay h).set k (G.2.2.2 k, j_E G h' k c) = j_w G lay h' := by
  apply List.ext_getElem?
  intro i
  by_cases hi : i = k
  · subst hi
    have hl : i < lay.length := (List.getElem?_eq_some_iff.mp hk).1
    rw [List.getElem?_set_self (by simpa [j_w] using hl)]
    exact (j_w_at hk).symm
  · rw [List.getElem?_set_ne (fun e => hi e.symm)]
    simp only [j_w, List.getElem?_mapIdx]
    cases lay[i]? with
    | none => rfl
    | some d =>
      simp only [Option.map_some, Option.some.injEq, Prod.mk.injEq, true_and]
      rcases d with ⟨b, n⟩ | ⟨ci, fs⟩
      · simp only [j_E, h1 i hi]
      · simp only [j_E, j_f, h1 i hi, h2 i hi]
theorem j_w_len {G : jG} {lay : List jC} {h : jH} : (j_w G lay h).length = lay.length := by simp [j_w]
theorem j_w_ad {G : jG} {lay : List jC} {h h' : jH} {sz q : Nat} : va_A (j_w G lay h) sz q ↔ va_A (j_w G lay h') sz q := by
  have key : ∀ h h' : jH, va_A (j_w G lay h) sz q → va_A (j_w G lay h') sz q := by
    intro h h' hq
    rcases hq with ⟨k, e, he⟩ | hq
    · left
      cases hc : lay[k]? with
      | none => simp [j_w, List.getElem?_mapIdx, hc] at he
      | some c =>
        rw [j_w_at hc] at he
        have := (Prod.mk.inj (Option.some.inj he)).1
        exact ⟨k, _, by rw [j_w_at hc, this]⟩
    · exact Or.inr hq
  exact ⟨key h h', key h' h⟩
theorem j_N.moved {S : jS} {s U : State} (hW : s.WarmedH U.vm) (h : j_N S s) : j_N S U := fun q hq => va_Nw.warmM hW (h q hq)
/-! locals -/
def j_ll (G : jG) (lv : List jV) : List (Nat × Value) := (lv.zipIdx.filter (fun q => !j_un q.1)).map (fun q => (q.2, j_v G.2.2.2 q.1))
theorem j_lv_has {G : jG} {ls : Array Slot} {nL : Nat} {lv : List jV} (h : j_lv G ls nL lv) : lv_has ls nL (j_ll G lv) := by
  refine ⟨h.1, h.2.1, fun q hq => ?_⟩
  obtain ⟨⟨a, i⟩, h1, rfl⟩ := List.mem_map.mp hq
  obtain ⟨h2, h3⟩ := List.mem_filter.mp h1
  have h4 := List.mem_zipIdx_iff_getElem?.mp h2
  exact h.2.2 i a h4 (by simpa using h3)
theorem j_lv_at {G : jG} {ls : Array Slot} {nL : Nat} {lv : List jV} (h : j_lv G ls nL lv) {i : Nat} {a : jV} (hi : lv[i]? = some a) (hu : j_un a = false) : ls[i]? = some (.val (j_v G.2.2.2 a)) := h.2.2 i a hi hu
theorem j_v_cat {ad : Nat → Nat} {a : jV} (h : j_un a = false) : (j_v ad a).category = 1 := by
  rcases a with x | k | w | u
  · rfl
  · rfl
  · cases h
  · cases h
theorem j_lv_set {G : jG} {ls' : Array Slot} {nL : Nat} {lv : List jV} {i : Nat} {a : jV} (hs : lv_has ls' nL ((i, j_v G.2.2.2 a) :: (j_ll G lv).filter (fun q => !(q.1 == i) && !(q.1 + 1 == i && q.2.category == 2)))) : j_lv G ls' nL (lv.set i a) := by
  refine ⟨hs.1, hs.2.1, fun k b hk hu => ?_⟩
  by_cases hki : i = k
  · subst hki
    have : b = a := by
      rw [List.getElem?_set] at hk
      simp at hk
      exact hk.2.symm
    subst this
    exact hs.2.2 (i, _) List.mem_cons_self
  · rw [List.getElem?_set_ne hki] at hk
    refine hs.2.2 (k, j_v G.2.2.2 b) (List.mem_cons_of_mem _ (List.mem_filter.mpr ⟨List.mem_map.mpr ⟨(b, k), List.mem_filter.mpr ⟨List.mem_zipIdx_iff_getElem?.mpr hk, by simp [hu]⟩, rfl⟩, ?_⟩))
    have h1 : (k == i) = false := by simpa using fun e : k = i => hki e.symm
    have h2 : ((j_v G.2.2.2 b).category == 2) = false := by rw [j_v_cat hu]; rfl
    simp [h1, h2]
theorem j_ok_set {lv : List jV} {i : Nat} {a : jV} (h : ∀ b ∈ lv, j_ok b) (ha : j_ok a) : ∀ b ∈ lv.set i a, j_ok b := by
  intro b hb
  rcases List.mem_or_eq_of_mem_set hb with h1 | h1
  · exact h b h1
  · rw [h1]; exact ha
end
section
/-! THE ROWS: an instruction a row, over the mini machine -/
theorem j_oc {a : jV} {st : List jV} (ha : j_ok a) (hs : ∀ b ∈ st, j_ok b) : ∀ b ∈ a :: st, j_ok b := fun b hb => by
  rcases List.mem_cons.mp hb with rfl | h
  · exact ha
  · exact hs b h
theorem j_ot {a : jV} {st : List jV} (hs : ∀ b ∈ a :: st, j_ok b) : ∀ b ∈ st, j_ok b := fun b hb => hs b (List.mem_cons_of_mem _ hb)
theorem j_oh {a : jV} {st : List jV} (hs : ∀ b ∈ a :: st, j_ok b) : j_ok a := hs a List.mem_cons_self
theorem j_oI {x : Int} {st : List jV} (ha : j_rg x) (hs : ∀ b ∈ st, j_ok b) : ∀ b ∈ jI x :: st, j_ok b := j_oc (a := jI x) ha hs
theorem j_oR {x : Nat} {st : List jV} (hs : ∀ b ∈ st, j_ok b) : ∀ b ∈ jR x :: st, j_ok b := j_oc (a := jR x) trivial hs
theorem j_oL {x : Int64} {st : List jV} (hs : ∀ b ∈ st, j_ok b) : ∀ b ∈ jL x :: st, j_ok b := j_oc (a := jL x) trivial hs
theorem j_hI {x : Int} {st : List jV} (hs : ∀ b ∈ jI x :: st, j_ok b) : j_rg x := j_oh (a := jI x) hs
section RW1
variable {S : jS} {G : jG} {M : jM} {Q : jQ} {pc : Nat} {lv st : List jV} {h : jH}
/-- what WV knows of ranges may be taken out -/
theorem WV.rng (k : j_Rg h → (∀ a ∈ lv, j_ok a) → (∀ a ∈ st, j_ok a) → WV S G M Q pc lv st h) : WV S G M Q pc lv st h := fun a b c => k a b c a b c
theorem WV.post {Q2 : jQ} (hq : ∀ r h', Q r h' → Q2 r h') (k : WV S G M Q pc lv st h) : WV S G M Q2 pc lv st h := by
  intro hR hl hs p e s m args below meth c H locs ls A hX hA hP hD hS hv T hT X
  obtain ⟨t, a1, o, b1, b2, ⟨⟨r, h', q1, q2⟩, q3⟩, b4⟩ := k hR hl hs p e s m args below meth c H locs ls A hX hA hP hD hS hv T hT X
  exact ⟨t, a1, o, b1, b2, ⟨⟨r, h', hq r h' q1, q2⟩, q3⟩, b4⟩
/-- a row that changes the stack alone -/
theorem j_st {pc' : Nat} {st' : List jV} (hok : j_Rg h → (∀ a ∈ lv, j_ok a) → (∀ a ∈ st, j_ok a) → ∀ a ∈ st', j_ok a)
    (hw : ∀ {p : Program} {e : Env} {s : State} {m : MethodId} {args : Array Value} {below : List Frame} {meth : Method} {c : Code} {H : Heap} {locs : List Loc} {ls : Array Slot} {Z : State → Prop}, j_X S G M p s m args meth c → j_lv G ls M.2.2.1 lv → va_P G.2.1 S.1 (j_w G S.2.2 h) H → (∀ a ∈ st, j_ok a) → W p G.1 e M.2.2.2.2 s m args below meth c H locs 0 0 Z (F0 m pc' ls (st'.map (j_v G.2.2.2))) → W p G.1 e M.2.2.2.2 s m args below meth c H locs 0 0 Z (F0 m pc ls (st.map (j_v G.2.2.2))))
    (k : WV S G M Q pc' lv st' h) : WV S G M Q pc lv st h := by
  intro hR hl hs p e s m args below meth c H locs ls A hX hA hP hD hS hv
  exact hw hX hv hP hs (k hR hl (hok hR hl hs) p e s m args below meth c H locs ls A hX hA hP hD hS hv)
theorem s_iconst {n : Int} (d : decode M.2.1 pc = .ok (.iconst n, 1)) (hr : j_rg n) (k : WV S G M Q (pc + 1) lv (jI n :: st) h) : WV S G M Q pc lv st h :=
  j_st (fun _ _ hs => j_oI hr hs) (fun hX _ _ _ w => lv_iconst hX.1 hX.2.1 d rfl w) k
theorem s_bipush {n : Int} (d : decode M.2.1 pc = .ok (.bipush n, 2)) (hv : (Int8.ofInt n).toInt32 = Int32.ofInt n) (hr : j_rg n) (k : WV S G M Q (pc + 2) lv (jI n :: st) h) : WV S G M Q pc lv st h :=
  j_st (fun _ _ hs => j_oI hr hs) (fun hX _ _ _ w => lv_bipush hX.1 hX.2.1 d hv w) k
theorem s_sipush {n : Int} (d : decode M.2.1 pc = .ok (.sipush n, 3)) (hv : (Int16.ofInt n).toInt32 = Int32.ofInt n) (hr : j_rg n) (k : WV S G M Q (pc + 3) lv (jI n :: st) h) : WV S G M Q pc lv st h :=
  j_st (fun _ _ hs => j_oI hr hs) (fun hX _ _ _ w => lv_sipush hX.1 hX.2.1 d hv w) k
theorem s_ldc {idx : Nat} {n : Int} (d : decode M.2.1 pc = .ok (.ldc idx, 2)) (hw : Cond.constant M.1.cls idx (Int32.ofInt n) ∈ jW) (hr : j_rg n) (k : WV S G M Q (pc + 2) lv (jI n :: st) h) : WV S G M Q pc lv st h :=
  j_st (fun _ _ hs => j_oI hr hs) (fun hX _ _ _ w => lv_ldc hX.1 hX.2.1 hX.2.2.2.2.1 (hX.2.2.2.2.2.1 _ hw) d w) k
theorem s_ldcw {idx : Nat} {n : Int} (d : decode M.2.1 pc = .ok (.ldc_w idx, 3)) (hw : Cond.constant M.1.cls idx (Int32.ofInt n) ∈ jW) (hr : j_rg n) (k : WV S G M Q (pc + 3) lv (jI n :: st) h) : WV S G M Q pc lv st h :=
  j_st (fun _ _ hs => j_oI hr hs) (fun hX _ _ _ w => lv_ldcw hX.1 hX.2.1 hX.2.2.2.2.1 (hX.2.2.2.2.2.1 _ hw) d w) k
theorem s_ldc2 {idx : Nat} {n : Int64} (d : decode M.2.1 pc = .ok (.ldc2_w idx, 3)) (hw : Cond.constantLong M.1.cls idx n ∈ jW) (k : WV S G M Q (pc + 3) lv (jL n :: st) h) : WV S G M Q pc lv st h :=
  j_st (fun _ _ hs => j_oL hs) (fun hX _ _ _ w => lv_ldc2 hX.1 hX.2.1 hX.2.2.2.2.1 (hX.2.2.2.2.2.1 _ hw) d w) k
theorem s_lconst {n : Fin 2} {v : Int64} (d : decode M.2.1 pc = .ok (.lconst n, 1)) (hv : Int64.ofNat (n : Nat) = v) (k : WV S G M Q (pc + 1) lv (jL v :: st) h) : WV S G M Q pc lv st h :=
  j_st (fun _ _ hs => j_oL hs) (fun hX _ _ _ w => lv_lconst hX.1 hX.2.1 d hv w) k
theorem s_iload_n {i : Fin 4} {x : Int} (d : decode M.2.1 pc = .ok (.iload_n i, 1)) (hl : lv[(i : Nat)]? = some (jI x)) (k : WV S G M Q (pc + 1) lv (jI x :: st) h) : WV S G M Q pc lv st h :=
  j_st (fun _ hv hs => j_oI (hv _ (List.mem_of_getElem? hl)) hs) (fun hX hv _ _ w => lv_iload_n hX.1 hX.2.1 d rfl (j_lv_at hv hl rfl) w) k
theorem s_iload {i : Nat} {x : Int} (d : decode M.2.1 pc = .ok (.iload i, 2)) (hl : lv[i]? = some (jI x)) (k : WV S G M Q (pc + 2) lv (jI x :: st) h) : WV S G M Q pc lv st h :=
  j_st (fun _ hv hs => j_oI (hv _ (List.mem_of_getElem? hl)) hs) (fun hX hv _ _ w => lv_iload hX.1 hX.2.1 d (j_lv_at hv hl rfl) w) k
theorem s_aload_n {i : Fin 4} {x : Nat} (d : decode M.2.1 pc = .ok (.aload_n i, 1)) (hl : lv[(i : Nat)]? = some (jR x)) (k : WV S G M Q (pc + 1) lv (jR x :: st) h) : WV S G M Q pc lv st h :=
  j_st (fun _ _ hs => j_oR hs) (fun hX hv _ _ w => lv_aload_n hX.1 hX.2.1 d rfl (j_lv_at hv hl rfl) w) k
/-- a row that changes the locals alone -/
theorem s_istore_n {i : Fin 4} {x : Int} {lv' : List jV} (d : decode M.2.1 pc = .ok (.istore_n i, 1)) (hn : (i : Nat) < M.2.2.1) (hl : lv.set (i : Nat) (jI x) = lv') (k : WV S G M Q (pc + 1) lv' st h) : WV S G M Q pc lv (jI x :: st) h := by
  subst hl
  intro hR hl hs p e s m args below meth c H locs ls A hX hA hP hD hS hv
  refine lv_istore_n hX.1 hX.2.1 d rfl (j_lv_has hv) hn rfl (fun ls' hl' => ?_)
  exact k hR (j_ok_set hl (j_oh hs)) (j_ot hs) p e s m args below meth c H locs ls' A hX hA hP hD hS (j_lv_set hl')
theorem s_istore {i : Nat} {x : Int} {lv' : List jV} (d : decode M.2.1 pc = .ok (.istore i, 2)) (hn : i < M.2.2.1) (hl : lv.set i (jI x) = lv') (k : WV S G M Q (pc + 2) lv' st h) : WV S G M Q pc lv (jI x :: st) h := by
  subst hl
  intro hR hl hs p e s m args below meth c H locs ls A hX hA hP hD hS hv
  refine lv_istore hX.1 hX.2.1 d (j_lv_has hv) hn rfl (fun ls' hl' => ?_)
  exact k hR (j_ok_set hl (j_oh hs)) (j_ot hs) p e s m args below meth c H locs ls' A hX hA hP hD hS (j_lv_set hl')
theorem s_iinc {i : Nat} {n x : Int} {lv' : List jV} (d : decode M.2.1 pc = .ok (.iinc i n, 3)) (hx : lv[i]? = some (jI x)) (hn : i < M.2.2.1) (hr : j_rg (x + n)) (hl : lv.set i (jI (x + n)) = lv') (k : WV S G M Q (pc + 3) lv' st h) : WV S G M Q pc lv st h := by
  subst hl
  intro hR hl hs p e s m args below meth c H locs ls A hX hA hP hD hS hv
  have hh := j_lv_has hv
  have hm : (i, j_v G.2.2.2 (jI x)) ∈ j_ll G lv := List.mem_map.mpr ⟨(jI x, i), List.mem_filter.mpr ⟨List.mem_zipIdx_iff_getElem?.mpr hx, rfl⟩, rfl⟩
  obtain ⟨q, hq⟩ := List.getElem?_of_mem hm
  refine lv_iinc (v := Int32.ofInt (x + n)) hX.1 hX.2.1 d hh (k := q) (x := Int32.ofInt x) hq (by rw [Int32.ofInt_add]) hn rfl (fun ls' hl' => ?_)
  exact k hR (j_ok_set hl hr) hs p e s m args below meth c H locs ls' A hX hA hP hD hS (j_lv_set (a := jI (x + n)) hl')
/-! stack -/
theorem s_dup {a : jV} (d : decode M.2.1 pc = .ok (.dup, 1)) (hu : j_un a = false) (k : WV S G M Q (pc + 1) lv (a :: a :: st) h) : WV S G M Q pc lv (a :: st) h :=
  j_st (fun _ _ hs => j_oc (j_oh hs) hs) (fun hX _ _ _ w => lv_dup hX.1 hX.2.1 d (j_v_cat hu) w) k
theorem s_dup2 {a b : jV} (d : decode M.2.1 pc = .ok (.dup2, 1)) (hu : j_un a = false) (hu2 : j_un b = false) (k : WV S G M Q (pc + 1) lv (a :: b :: a :: b :: st) h) : WV S G M Q pc lv (a :: b :: st) h :=
  j_st (fun _ _ hs => j_oc (j_oh hs) (j_oc (j_oh (j_ot hs)) hs)) (fun hX _ _ _ w => lv_dup2_11 hX.1 hX.2.1 d (j_v_cat hu) (j_v_cat hu2) w) k
/-! sums -/
theorem s_iadd {x y : Int} (d : decode M.2.1 pc = .ok (.iadd, 1)) (hr : j_rg (x + y)) (k : WV S G M Q (pc + 1) lv (jI (x + y) :: st) h) : WV S G M Q pc lv (jI y :: jI x :: st) h :=
  j_st (fun _ _ hs => j_oI hr (j_ot (j_ot hs))) (fun hX _ _ _ w => lv_iadd hX.1 hX.2.1 d (by rw [← Int32.ofInt_add]; exact w)) k
theorem s_isub {x y : Int} (d : decode M.2.1 pc = .ok (.isub, 1)) (hr : j_rg (x - y)) (k : WV S G M Q (pc + 1) lv (jI (x - y) :: st) h) : WV S G M Q pc lv (jI y :: jI x :: st) h :=
  j_st (fun _ _ hs => j_oI hr (j_ot (j_ot hs))) (fun hX _ _ _ w => lv_isub hX.1 hX.2.1 d (by rw [← Int32.ofInt_sub]; exact w)) k
theorem s_imul {x y : Int} (d : decode M.2.1 pc = .ok (.imul, 1)) (hr : j_rg (x * y)) (k : WV S G M Q (pc + 1) lv (jI (x * y) :: st) h) : WV S G M Q pc lv (jI y :: jI x :: st) h :=
  j_st (fun _ _ hs => j_oI hr (j_ot (j_ot hs))) (fun hX _ _ _ w => lv_imul hX.1 hX.2.1 d (by rw [← Int32.ofInt_mul]; exact w)) k
theorem s_ineg {x : Int} (d : decode M.2.1 pc = .ok (.ineg, 1)) (hr : j_rg (-x)) (k : WV S G M Q (pc + 1) lv (jI (-x) :: st) h) : WV S G M Q pc lv (jI x :: st) h :=
  j_st (fun _ _ hs => j_oI hr (j_ot hs)) (fun hX _ _ _ w => lv_ineg hX.1 hX.2.1 d (by rw [← Int32.ofInt_neg]; exact w)) k
theorem s_ladd {x y : Int64} (d : decode M.2.1 pc = .ok (.ladd, 1)) (k : WV S G M Q (pc + 1) lv (jL (x + y) :: st) h) : WV S G M Q pc lv (jL y :: jL x :: st) h :=
  j_st (fun _ _ hs => j_oL (j_ot (j_ot hs))) (fun hX _ _ _ w => lv_ladd hX.1 hX.2.1 d w) k
/-! bits: the machine's own words, as integers -/
def b_and (x y : Int) : Int := (Int32.ofInt x &&& Int32.ofInt y).toInt
def b_or (x y : Int) : Int := (Int32.ofInt x ||| Int32.ofInt y).toInt
def b_xor (x y : Int) : Int := (Int32.ofInt x ^^^ Int32.ofInt y).toInt
def b_shl (x y : Int) : Int := (Int32.ofInt x <<< (Int32.ofInt y &&& 31)).toInt
def b_shr (x y : Int) : Int := (Int32.ofInt x >>> (Int32.ofInt y &&& 31)).toInt
def b_ushr (x y : Int) : Int := ((Int32.ofInt x).toUInt32 >>> ((Int32.ofInt y).toUInt32 &&& Int32.toUInt32 31)).toInt32.toInt
theorem j_rg32 (x : Int32) : j_rg x.toInt := ⟨by have := Int32.le_toInt x; omega, by have := Int32.toInt_lt x; omega⟩
theorem s_iand {x y : Int} (d : decode M.2.1 pc = .ok (.iand, 1)) (k : WV S G M Q (pc + 1) lv (jI (b_and x y) :: st) h) : WV S G M Q pc lv (jI y :: jI x :: st) h :=
  j_st (fun _ _ hs => j_oI (j_rg32 _) (j_ot (j_ot hs))) (fun hX _ _ _ w => lv_iand hX.1 hX.2.1 d (by have w := w; simp only [List.map_cons, j_v, b_and, Int32.ofInt_toInt] at w; exact w)) k
theorem s_ior {x y : Int} (d : decode M.2.1 pc = .ok (.ior, 1)) (k : WV S G M Q (pc + 1) lv (jI (b_or x y) :: st) h) : WV S G M Q pc lv (jI y :: jI x :: st) h :=
  j_st (fun _ _ hs => j_oI (j_rg32 _) (j_ot (j_ot hs))) (fun hX _ _ _ w => lv_ior hX.1 hX.2.1 d (by have w := w; simp only [List.map_cons, j_v, b_or, Int32.ofInt_toInt] at w; exact w)) k
theorem s_ixor {x y : Int} (d : decode M.2.1 pc = .ok (.ixor, 1)) (k : WV S G M Q (pc + 1) lv (jI (b_xor x y) :: st) h) : WV S G M Q pc lv (jI y :: jI x :: st) h :=
  j_st (fun _ _ hs => j_oI (j_rg32 _) (j_ot (j_ot hs))) (fun hX _ _ _ w => lv_ixor hX.1 hX.2.1 d (by have w := w; simp only [List.map_cons, j_v, b_xor, Int32.ofInt_toInt] at w; exact w)) k
theorem s_ishl {x y : Int} (d : decode M.2.1 pc = .ok (.ishl, 1)) (k : WV S G M Q (pc + 1) lv (jI (b_shl x y) :: st) h) : WV S G M Q pc lv (jI y :: jI x :: st) h :=
  j_st (fun _ _ hs => j_oI (j_rg32 _) (j_ot (j_ot hs))) (fun hX _ _ _ w => lv_ishl hX.1 hX.2.1 d (by have w := w; simp only [List.map_cons, j_v, b_shl, Int32.ofInt_toInt] at w; exact w)) k
theorem s_ishr {x y : Int} (d : decode M.2.1 pc = .ok (.ishr, 1)) (k : WV S G M Q (pc + 1) lv (jI (b_shr x y) :: st) h) : WV S G M Q pc lv (jI y :: jI x :: st) h :=
  j_st (fun _ _ hs => j_oI (j_rg32 _) (j_ot (j_ot hs))) (fun hX _ _ _ w => lv_ishr hX.1 hX.2.1 d (by have w := w; simp only [List.map_cons, j_v, b_shr, Int32.ofInt_toInt] at w; exact w)) k
theorem s_iushr {x y : Int} (d : decode M.2.1 pc = .ok (.iushr, 1)) (k : WV S G M Q (pc + 1) lv (jI (b_ushr x y) :: st) h) : WV S G M Q pc lv (jI y :: jI x :: st) h :=
  j_st (fun _ _ hs => j_oI (j_rg32 _) (j_ot (j_ot hs))) (fun hX _ _ _ w => lv_iushr hX.1 hX.2.1 d rfl (by have w := w; simp only [List.map_cons, j_v, b_ushr, Int32.ofInt_toInt] at w; exact w)) k
/-! a division's divisor is above 0 -/
theorem j_dv {x y : Int} (hx : j_rg x) (hy : j_rg y) (h0 : 0 < y) : Int32.ofInt x / Int32.ofInt y = Int32.ofInt (x.tdiv y) ∧ j_rg (x.tdiv y) ∧ ¬ Int32.ofInt y = 0 := by
  have hne : Int32.ofInt y ≠ -1 := by
    intro e
    have e := congrArg Int32.toInt e
    rw [j_ti hy, show (-1 : Int32).toInt = -1 by decide] at e
    omega
  have e : (Int32.ofInt x / Int32.ofInt y).toInt = x.tdiv y := by
    rw [Int32.toInt_div_of_ne_right _ _ hne, j_ti hx, j_ti hy]
  refine ⟨?_, ?_, ?_⟩
  · rw [← e, Int32.ofInt_toInt]
  · rw [← e]; exact j_rg32 _
  · intro e
    rw [j_of0, j_eq hy (j_cst rfl)] at e
    omega
theorem s_idiv {x y : Int} (d : decode M.2.1 pc = .ok (.idiv, 1)) (h0 : 0 < y) (k : WV S G M Q (pc + 1) lv (jI (x.tdiv y) :: st) h) : WV S G M Q pc lv (jI y :: jI x :: st) h :=
  j_st (fun _ _ hs => j_oI (j_dv (j_hI (j_ot hs)) (j_hI hs) h0).2.1 (j_ot (j_ot hs))) (fun hX _ _ hs w => lv_idiv hX.1 hX.2.1 d (j_dv (j_hI (j_ot hs)) (j_hI hs) h0).2.2 (by rw [(j_dv (j_hI (j_ot hs)) (j_hI hs) h0).1]; exact w)) k
theorem j_rm {x y : Int} (hx : j_rg x) (hy : j_rg y) (h0 : 0 < y) : Int32.ofInt x - Int32.ofInt x / Int32.ofInt y * Int32.ofInt y = Int32.ofInt (x.tmod y) ∧ j_rg (x.tmod y) := by
  obtain ⟨e1, e2, e3⟩ := j_dv hx hy h0
  have e : x.tmod y = x - x.tdiv y * y := by rw [Int.tmod_def, Int.mul_comm]
  refine ⟨?_, ?_⟩
  · rw [e1, ← Int32.ofInt_mul, ← Int32.ofInt_sub, e]
  · have a1 := Int.tmod_lt_of_pos x h0
    have a2 : -y < x.tmod y := by
      have := Int.lt_tmod_of_pos x h0
      omega
    have := hy.2
    exact ⟨by omega, by omega⟩
theorem s_irem {x y : Int} (d : decode M.2.1 pc = .ok (.irem, 1)) (h0 : 0 < y) (k : WV S G M Q (pc + 1) lv (jI (x.tmod y) :: st) h) : WV S G M Q pc lv (jI y :: jI x :: st) h :=
  j_st (fun _ _ hs => j_oI (j_rm (j_hI (j_ot hs)) (j_hI hs) h0).2 (j_ot (j_ot hs))) (fun hX _ _ hs w => lv_irem hX.1 hX.2.1 d (j_dv (j_hI (j_ot hs)) (j_hI hs) h0).2.2 (by rw [(j_rm (j_hI (j_ot hs)) (j_hI hs) h0).1]; exact w)) k
theorem s_goto {off : Int} {tgt : Nat} (d : decode M.2.1 pc = .ok (.goto off, 3)) (ht : (pc : Int) + off = (tgt : Int)) (k : WV S G M Q tgt lv st h) : WV S G M Q pc lv st h :=
  j_st (fun _ _ hs => hs) (fun hX _ _ _ w => lv_goto hX.1 hX.2.1 d ht w) k
end RW1
end
section
/-! branches, fields, rows of numbers, ends -/
section RW2
variable {S : jS} {G : jG} {M : jM} {Q : jQ} {pc : Nat} {lv st : List jV} {h : jH}
theorem s_icmp_lt {x y off : Int} {tgt : Nat} (d : decode M.2.1 pc = .ok (.if_icmp .lt off, 3)) (ht : (pc : Int) + off = (tgt : Int)) (kt : x < y → WV S G M Q tgt lv st h) (kf : ¬ x < y → WV S G M Q (pc + 3) lv st h) : WV S G M Q pc lv (jI y :: jI x :: st) h := by
  intro hR hl hs p e s m args below meth c H locs ls A hX hA hP hD hS hv
  have e1 := j_lt (j_hI (j_ot hs)) (j_hI hs)
  exact lv_icmp_lt hX.1 hX.2.1 d ht (fun q => kt (e1 ▸ q) hR hl (j_ot (j_ot hs)) p e s m args below meth c H locs ls A hX hA hP hD hS hv) (fun q => kf (e1 ▸ q) hR hl (j_ot (j_ot hs)) p e s m args below meth c H locs ls A hX hA hP hD hS hv)
theorem s_icmp_ge {x y off : Int} {tgt : Nat} (d : decode M.2.1 pc = .ok (.if_icmp .ge off, 3)) (ht : (pc : Int) + off = (tgt : Int)) (kt : y ≤ x → WV S G M Q tgt lv st h) (kf : ¬ y ≤ x → WV S G M Q (pc + 3) lv st h) : WV S G M Q pc lv (jI y :: jI x :: st) h := by
  intro hR hl hs p e s m args below meth c H locs ls A hX hA hP hD hS hv
  have e1 := j_le (j_hI hs) (j_hI (j_ot hs))
  exact lv_icmp_ge hX.1 hX.2.1 d ht (fun q => kt (e1 ▸ q) hR hl (j_ot (j_ot hs)) p e s m args below meth c H locs ls A hX hA hP hD hS hv) (fun q => kf (e1 ▸ q) hR hl (j_ot (j_ot hs)) p e s m args below meth c H locs ls A hX hA hP hD hS hv)
theorem s_icmp_gt {x y off : Int} {tgt : Nat} (d : decode M.2.1 pc = .ok (.if_icmp .gt off, 3)) (ht : (pc : Int) + off = (tgt : Int)) (kt : y < x → WV S G M Q tgt lv st h) (kf : ¬ y < x → WV S G M Q (pc + 3) lv st h) : WV S G M Q pc lv (jI y :: jI x :: st) h := by
  intro hR hl hs p e s m args below meth c H locs ls A hX hA hP hD hS hv
  have e1 := j_lt (j_hI hs) (j_hI (j_ot hs))
  exact lv_icmp_gt hX.1 hX.2.1 d ht (fun q => kt (e1 ▸ q) hR hl (j_ot (j_ot hs)) p e s m args below meth c H locs ls A hX hA hP hD hS hv) (fun q => kf (e1 ▸ q) hR hl (j_ot (j_ot hs)) p e s m args below meth c H locs ls A hX hA hP hD hS hv)
theorem s_icmp_le {x y off : Int} {tgt : Nat} (d : decode M.2.1 pc = .ok (.if_icmp .le off, 3)) (ht : (pc : Int) + off = (tgt : Int)) (kt : x ≤ y → WV S G M Q tgt lv st h) (kf : ¬ x ≤ y → WV S G M Q (pc + 3) lv st h) : WV S G M Q pc lv (jI y :: jI x :: st) h := by
  intro hR hl hs p e s m args below meth c H locs ls A hX hA hP hD hS hv
  have e1 := j_le (j_hI (j_ot hs)) (j_hI hs)
  exact lv_icmp_le hX.1 hX.2.1 d ht (fun q => kt (e1 ▸ q) hR hl (j_ot (j_ot hs)) p e s m args below meth c H locs ls A hX hA hP hD hS hv) (fun q => kf (e1 ▸ q) hR hl (j_ot (j_ot hs)) p e s m args below meth c H locs ls A hX hA hP hD hS hv)
theorem s_icmp_eq {x y off : Int} {tgt : Nat} (d : decode M.2.1 pc = .ok (.if_icmp .eq off, 3)) (ht : (pc : Int) + off = (tgt : Int)) (kt : x = y → WV S G M Q tgt lv st h) (kf : ¬ x = y → WV S G M Q (pc + 3) lv st h) : WV S G M Q pc lv (jI y :: jI x :: st) h := by
  intro hR hl hs p e s m args below meth c H locs ls A hX hA hP hD hS hv
  have e1 := j_eq (j_hI (j_ot hs)) (j_hI hs)
  exact lv_icmp_eq hX.1 hX.2.1 d ht (fun q => kt (e1 ▸ q) hR hl (j_ot (j_ot hs)) p e s m args below meth c H locs ls A hX hA hP hD hS hv) (fun q => kf (e1 ▸ q) hR hl (j_ot (j_ot hs)) p e s m args below meth c H locs ls A hX hA hP hD hS hv)
theorem s_icmp_ne {x y off : Int} {tgt : Nat} (d : decode M.2.1 pc = .ok (.if_icmp .ne off, 3)) (ht : (pc : Int) + off = (tgt : Int)) (kt : ¬ x = y → WV S G M Q tgt lv st h) (kf : x = y → WV S G M Q (pc + 3) lv st h) : WV S G M Q pc lv (jI y :: jI x :: st) h := by
  intro hR hl hs p e s m args below meth c H locs ls A hX hA hP hD hS hv
  have e1 := j_eq (j_hI (j_ot hs)) (j_hI hs)
  exact lv_icmp_ne hX.1 hX.2.1 d ht (fun q => kt (e1 ▸ q) hR hl (j_ot (j_ot hs)) p e s m args below meth c H locs ls A hX hA hP hD hS hv) (fun q => kf (e1 ▸ q) hR hl (j_ot (j_ot hs)) p e s m args below meth c H locs ls A hX hA hP hD hS hv)
theorem s_if_lt {x off : Int} {tgt : Nat} (d : decode M.2.1 pc = .ok (.ifCond .lt off, 3)) (ht : (pc : Int) + off = (tgt : Int)) (kt : x < 0 → WV S G M Q tgt lv st h) (kf : ¬ x < 0 → WV S G M Q (pc + 3) lv st h) : WV S G M Q pc lv (jI x :: st) h := by
  intro hR hl hs p e s m args below meth c H locs ls A hX hA hP hD hS hv
  have e1 := j_lt (j_hI hs) (j_cst (n := 0) rfl)
  rw [← j_of0] at e1
  exact lv_if_lt hX.1 hX.2.1 d ht (fun q => kt (e1 ▸ q) hR hl (j_ot hs) p e s m args below meth c H locs ls A hX hA hP hD hS hv) (fun q => kf (e1 ▸ q) hR hl (j_ot hs) p e s m args below meth c H locs ls A hX hA hP hD hS hv)
theorem s_if_ge {x off : Int} {tgt : Nat} (d : decode M.2.1 pc = .ok (.ifCond .ge off, 3)) (ht : (pc : Int) + off = (tgt : Int)) (kt : 0 ≤ x → WV S G M Q tgt lv st h) (kf : ¬ 0 ≤ x → WV S G M Q (pc + 3) lv st h) : WV S G M Q pc lv (jI x :: st) h := by
  intro hR hl hs p e s m args below meth c H locs ls A hX hA hP hD hS hv
  have e1 := j_le (j_cst (n := 0) rfl) (j_hI hs)
  rw [← j_of0] at e1
  exact lv_if_ge hX.1 hX.2.1 d ht (fun q => kt (e1 ▸ q) hR hl (j_ot hs) p e s m args below meth c H locs ls A hX hA hP hD hS hv) (fun q => kf (e1 ▸ q) hR hl (j_ot hs) p e s m args below meth c H locs ls A hX hA hP hD hS hv)
theorem s_if_gt {x off : Int} {tgt : Nat} (d : decode M.2.1 pc = .ok (.ifCond .gt off, 3)) (ht : (pc : Int) + off = (tgt : Int)) (kt : 0 < x → WV S G M Q tgt lv st h) (kf : ¬ 0 < x → WV S G M Q (pc + 3) lv st h) : WV S G M Q pc lv (jI x :: st) h := by
  intro hR hl hs p e s m args below meth c H locs ls A hX hA hP hD hS hv
  have e1 := j_lt (j_cst (n := 0) rfl) (j_hI hs)
  rw [← j_of0] at e1
  exact lv_if_gt hX.1 hX.2.1 d ht (fun q => kt (e1 ▸ q) hR hl (j_ot hs) p e s m args below meth c H locs ls A hX hA hP hD hS hv) (fun q => kf (e1 ▸ q) hR hl (j_ot hs) p e s m args below meth c H locs ls A hX hA hP hD hS hv)
theorem s_if_le {x off : Int} {tgt : Nat} (d : decode M.2.1 pc = .ok (.ifCond .le off, 3)) (ht : (pc : Int) + off = (tgt : Int)) (kt : x ≤ 0 → WV S G M Q tgt lv st h) (kf : ¬ x ≤ 0 → WV S G M Q (pc + 3) lv st h) : WV S G M Q pc lv (jI x :: st) h := by
  intro hR hl hs p e s m args below meth c H locs ls A hX hA hP hD hS hv
  have e1 := j_le (j_hI hs) (j_cst (n := 0) rfl)
  rw [← j_of0] at e1
  exact lv_if_le hX.1 hX.2.1 d ht (fun q => kt (e1 ▸ q) hR hl (j_ot hs) p e s m args below meth c H locs ls A hX hA hP hD hS hv) (fun q => kf (e1 ▸ q) hR hl (j_ot hs) p e s m args below meth c H locs ls A hX hA hP hD hS hv)
theorem s_if_eq {x off : Int} {tgt : Nat} (d : decode M.2.1 pc = .ok (.ifCond .eq off, 3)) (ht : (pc : Int) + off = (tgt : Int)) (kt : x = 0 → WV S G M Q tgt lv st h) (kf : ¬ x = 0 → WV S G M Q (pc + 3) lv st h) : WV S G M Q pc lv (jI x :: st) h := by
  intro hR hl hs p e s m args below meth c H locs ls A hX hA hP hD hS hv
  have e1 := j_eq (j_hI hs) (j_cst (n := 0) rfl)
  rw [← j_of0] at e1
  exact lv_if_eq hX.1 hX.2.1 d ht (fun q => kt (e1 ▸ q) hR hl (j_ot hs) p e s m args below meth c H locs ls A hX hA hP hD hS hv) (fun q => kf (e1 ▸ q) hR hl (j_ot hs) p e s m args below meth c H locs ls A hX hA hP hD hS hv)
theorem s_if_ne {x off : Int} {tgt : Nat} (d : decode M.2.1 pc = .ok (.ifCond .ne off, 3)) (ht : (pc : Int) + off = (tgt : Int)) (kt : ¬ x = 0 → WV S G M Q tgt lv st h) (kf : x = 0 → WV S G M Q (pc + 3) lv st h) : WV S G M Q pc lv (jI x :: st) h := by
  intro hR hl hs p e s m args below meth c H locs ls A hX hA hP hD hS hv
  have e1 := j_eq (j_hI hs) (j_cst (n := 0) rfl)
  rw [← j_of0] at e1
  exact lv_if_ne hX.1 hX.2.1 d ht (fun q => kt (e1 ▸ q) hR hl (j_ot hs) p e s m args below meth c H locs ls A hX hA hP hD hS hv) (fun q => kf (e1 ▸ q) hR hl (j_ot hs) p e s m args below meth c H locs ls A hX hA hP hD hS hv)
/-- a switch over a table: the number is in it, or not -/
theorem s_table {dflt lo hi x : Int} {offs : Array Int} {len : Nat} (d : decode M.2.1 pc = .ok (.tableswitch dflt lo hi offs, len)) (tg : Nat → Nat) (td : Nat) (htd : (pc : Int) + dflt = (td : Int)) (hsz : lo + offs.size = hi + 1) (htg : ∀ i, i < offs.size → (pc : Int) + offs.getD i 0 = (tg i : Int))
    (kt : ∀ i : Nat, i < offs.size → x = lo + i → WV S G M Q (tg i) lv st h) (kf : x < lo ∨ hi < x → WV S G M Q td lv st h) : WV S G M Q pc lv (jI x :: st) h := by
  intro hR hl hs p e s m args below meth c H locs ls A hX hA hP hD hS hv
  have e1 := j_ti (j_hI hs)
  by_cases hx : x < lo ∨ hi < x
  · exact lv_tableOut hX.1 hX.2.1 d (by rw [e1]; exact hx) htd (kf hx hR hl (j_ot hs) p e s m args below meth c H locs ls A hX hA hP hD hS hv)
  · have h1 : (x - lo).toNat < offs.size := by omega
    refine lv_tableIn (off := offs.getD (x - lo).toNat 0) hX.1 hX.2.1 d (by rw [e1]; omega) (by rw [e1]; omega) ?_ (htg _ h1) (kt (x - lo).toNat h1 (by omega) hR hl (j_ot hs) p e s m args below meth c H locs ls A hX hA hP hD hS hv)
    rw [e1, Array.getD_eq_getD_getElem?, Array.getElem?_eq_getElem h1]
    rfl
theorem s_lookup {dflt x off : Int} {ps : Array (Int × Int)} {len tgt : Nat} (d : decode M.2.1 pc = .ok (.lookupswitch dflt ps, len)) (hp : (ps.toList.zip (ps.toList.drop 1)).all (fun (a, next) => a.1 < next.1) = true) (ho : Op.lookupswitch.offset ps.toList dflt x = off) (ht : (pc : Int) + off = (tgt : Int)) (k : WV S G M Q tgt lv st h) : WV S G M Q pc lv (jI x :: st) h :=
  j_st (fun _ _ hs => j_ot hs) (fun hX _ _ hs w => lv_lookup hX.1 hX.2.1 d hp (by rw [j_ti (j_hI hs)]; exact ho) ht w) k
/-! fields -/
def j_fl (cl : List vw_C) (own : String) (idx ci j : Nat) : Prop := ∃ (C : String) (T : u_T) (N : Nat), cl[ci]? = some (C, T, N) ∧ j < N ∧ (∀ w ∈ u_ws C T N, w ∈ jW) ∧ Cond.fieldLink own idx (T j).1 (T j).2.1 (T j).2.2.1 ∈ jW
def j_fp (cl : List vw_C) (own : String) (idx ci j : Nat) (ty : FieldType) : Prop := ∃ (C : String) (T : u_T) (N : Nat) (ty0 : Nat → FieldType), cl[ci]? = some (C, T, N) ∧ j < N ∧ (∀ w ∈ u_ws C T N, w ∈ jW) ∧ Cond.fieldLink own idx (T j).1 (T j).2.1 (T j).2.2.1 ∈ jW ∧ (∀ k, k < N → parseFieldDescriptor (T k).2.2.1 = some (ty0 k)) ∧ (∀ a, a < N → ∀ b, b < N → a ≠ b → (T a).2.1 ≠ (T b).2.1) ∧ (T j).2.2.2 = false ∧ parseFieldDescriptor (T j).2.2.1 = some ty
theorem j_get {idx k ci j : Nat} {fs : List (Option (Option Nat))} {f : Option (Option Nat)} {a : jV} (d : decode M.2.1 pc = .ok (.getfield idx, 3)) (hf : j_fl S.1 M.1.cls idx ci j) (hc : S.2.2[k]? = some (.inr (ci, fs))) (hj : fs[j]? = some f) (ha : ∀ ad, j_f ad h k j f = j_v ad a) (hok : j_Rg h → j_ok a) (kk : WV S G M Q (pc + 3) lv (a :: st) h) : WV S G M Q pc lv (jR k :: st) h := by
  obtain ⟨C, T, N, h1, h2, h3, h4⟩ := hf
  refine j_st (fun hR _ hs => j_oc (hok hR) (j_ot hs)) (fun hX _ hP _ w => ?_) kk
  obtain ⟨x1, x2, x3, x4, x5, x6, x7, x8, x9⟩ := hX
  refine va_get (D := G.2.1) (ci := ci) (v := j_v G.2.2.2 a) x1 x2 x6 h3 x5 x8 hP k (j_w_at hc) h1 j h2 (x6 _ h4) (fun _ q => q) ?_ d w
  rw [List.getElem?_mapIdx, hj, ← ha]
  rfl
theorem s_geti {idx k ci j : Nat} {fs : List (Option (Option Nat))} {x : Int} (d : decode M.2.1 pc = .ok (.getfield idx, 3)) (hf : j_fl S.1 M.1.cls idx ci j) (hc : S.2.2[k]? = some (.inr (ci, fs))) (hj : fs[j]? = some (some none)) (hx : h.1 k j = x) (kk : WV S G M Q (pc + 3) lv (jI x :: st) h) : WV S G M Q pc lv (jR k :: st) h :=
  j_get (a := jI x) d hf hc hj (fun ad => by subst hx; rfl) (fun hR => by subst hx; exact hR k j) kk
theorem s_getl {idx k ci j : Nat} {fs : List (Option (Option Nat))} {x : Int64} (d : decode M.2.1 pc = .ok (.getfield idx, 3)) (hf : j_fl S.1 M.1.cls idx ci j) (hc : S.2.2[k]? = some (.inr (ci, fs))) (hj : fs[j]? = some none) (hx : h.2 k = x) (kk : WV S G M Q (pc + 3) lv (jL x :: st) h) : WV S G M Q pc lv (jR k :: st) h :=
  j_get (a := jL x) d hf hc hj (fun ad => by subst hx; rfl) (fun hR => trivial) kk
theorem s_getr {idx k ci j r : Nat} {fs : List (Option (Option Nat))} (d : decode M.2.1 pc = .ok (.getfield idx, 3)) (hf : j_fl S.1 M.1.cls idx ci j) (hc : S.2.2[k]? = some (.inr (ci, fs))) (hj : fs[j]? = some (some (some r))) (kk : WV S G M Q (pc + 3) lv (jR r :: st) h) : WV S G M Q pc lv (jR k :: st) h :=
  j_get (a := jR r) d hf hc hj (fun ad => rfl) (fun hR => trivial) kk
theorem j_up_Rg {k j : Nat} {x : Int} (hR : j_Rg h) (hx : j_rg x) : j_Rg (j_up h k j x) := by
  intro a b
  show j_rg (if a = k ∧ b = j then x else h.1 a b)
  split
  · exact hx
  · exact hR a b
theorem j_set_fs {ad : Nat → Nat} {h' : jH} {k j : Nat} {fs : List (Option (Option Nat))} {f : Option (Option Nat)} (hj : fs[j]? = some f) (ho : ∀ (i : Nat) (g : Option (Option Nat)), fs[i]? = some g → i ≠ j → j_f ad h' k i g = j_f ad h k i g) : (fs.mapIdx (fun i g => j_f ad h k i g)).set j (j_f ad h' k j f) = fs.mapIdx (fun i g => j_f ad h' k i g) := by
  apply List.ext_getElem?
  intro i
  by_cases hi : i = j
  · subst hi
    have hl : i < fs.length := (List.getElem?_eq_some_iff.mp hj).1
    rw [List.getElem?_set_self (by simpa using hl), List.getElem?_mapIdx, hj]
    rfl
  · rw [List.getElem?_set_ne (fun e => hi e.symm), List.getElem?_mapIdx, List.getElem?_mapIdx]
    cases hg : fs[i]? with
    | none => rfl
    | some g => simp only [Option.map_some, ho i g hg hi]
theorem j_put {idx k ci j : Nat} {fs : List (Option (Option Nat))} {f : Option (Option Nat)} {a : jV} {ty : FieldType} {h' : jH} (d : decode M.2.1 pc = .ok (.putfield idx, 3)) (hf : j_fp S.1 M.1.cls idx ci j ty) (hc : S.2.2[k]? = some (.inr (ci, fs))) (hj : fs[j]? = some f) (ha : ∀ ad, j_f ad h' k j f = j_v ad a) (hn : ∀ ad, narrow ty (j_v ad a) = j_v ad a) (hfit : ∀ ad, fits ty (j_v ad a) = true)
    (ho : ∀ (ad : Nat → Nat) (i : Nat) (g : Option (Option Nat)), fs[i]? = some g → i ≠ j → j_f ad h' k i g = j_f ad h k i g) (h1' : ∀ q, q ≠ k → h'.1 q = h.1 q) (h2' : ∀ q, q ≠ k → h'.2 q = h.2 q) (hok : j_Rg h → j_ok a → j_Rg h') (kk : WV S G M Q (pc + 3) lv st h') : WV S G M Q pc lv (a :: jR k :: st) h := by
  obtain ⟨C, T, N, ty0, h1, h2, h3, h4, h5, h6, h7, h8⟩ := hf
  intro hR hl hs p e s m args below meth c H locs ls A hX hA hP hD hS hv
  have hX0 := hX
  obtain ⟨x1, x2, x3, x4, x5, x6, x7, x8, x9⟩ := hX
  have hfl : j < fs.length := (List.getElem?_eq_some_iff.mp hj).1
  refine va_put (D := G.2.1) (ci := ci) (v := j_v G.2.2.2 a) (ty := ty) x1 x2 x6 h3 ty0 h5 h6 x5 x8 hP hD hS k (j_w_at hc) h1 j h2 (x6 _ h4) (fun _ q => q) h7 h8 (hn _) (hfit _) (by simpa using hfl) d (fun H1 locs1 hP1 hD1 hS1 => ?_)
  have e1 : (j_w G S.2.2 h).set k (G.2.2.2 k, .inr (ci, (fs.mapIdx (fun i g => j_f G.2.2.2 h k i g)).set j (j_v G.2.2.2 a))) = j_w G S.2.2 h' := by
    rw [← ha, j_set_fs hj (ho _)]
    exact j_w_set hc h1' h2'
  rw [e1] at hP1 hD1
  exact kk (hok hR (j_oh hs)) hl (j_ot (j_ot hs)) p e s m args below meth c H1 locs1 ls A hX0 hA hP1 hD1 hS1 hv
theorem j_up_o {k j : Nat} {x : Int} {fs : List (Option (Option Nat))} (ad : Nat → Nat) (i : Nat) (g : Option (Option Nat)) (_ : fs[i]? = some g) (hi : i ≠ j) : j_f ad (j_up h k j x) k i g = j_f ad h k i g := by
  rcases g with _ | _ | r
  · rfl
  · simp [j_f, j_up, hi]
  · rfl
theorem s_puti {idx k ci j : Nat} {fs : List (Option (Option Nat))} {x : Int} (d : decode M.2.1 pc = .ok (.putfield idx, 3)) (hf : j_fp S.1 M.1.cls idx ci j .int) (hc : S.2.2[k]? = some (.inr (ci, fs))) (hj : fs[j]? = some (some none)) (kk : WV S G M Q (pc + 3) lv st (j_up h k j x)) : WV S G M Q pc lv (jI x :: jR k :: st) h :=
  j_put (a := jI x) (h' := j_up h k j x) d hf hc hj (fun ad => by simp [j_f, j_up, j_v]) (fun _ => rfl) (fun _ => rfl) (fun ad i g hg hi => j_up_o ad i g hg hi) (fun q hq => by funext b; simp [j_up, hq]) (fun q hq => rfl) (fun hR ho => j_up_Rg hR ho) kk
theorem s_putz {idx k ci j : Nat} {fs : List (Option (Option Nat))} {x : Int} (d : decode M.2.1 pc = .ok (.putfield idx, 3)) (hf : j_fp S.1 M.1.cls idx ci j .boolean) (hc : S.2.2[k]? = some (.inr (ci, fs))) (hj : fs[j]? = some (some none)) (hz : x = 0 ∨ x = 1) (kk : WV S G M Q (pc + 3) lv st (j_up h k j x)) : WV S G M Q pc lv (jI x :: jR k :: st) h :=
  j_put (a := jI x) (h' := j_up h k j x) d hf hc hj (fun ad => by simp [j_f, j_up, j_v]) (fun _ => by rcases hz with rfl | rfl <;> rfl) (fun _ => by rcases hz with rfl | rfl <;> rfl) (fun ad i g hg hi => j_up_o ad i g hg hi) (fun q hq => by funext b; simp [j_up, hq]) (fun q hq => rfl) (fun hR ho => j_up_Rg hR ho) kk
theorem s_putl {idx k ci j : Nat} {fs : List (Option (Option Nat))} {x : Int64} (d : decode M.2.1 pc = .ok (.putfield idx, 3)) (hf : j_fp S.1 M.1.cls idx ci j .long) (hc : S.2.2[k]? = some (.inr (ci, fs))) (hj : fs[j]? = some none) (hone : ∀ i, fs[i]? = some none → i = j) (kk : WV S G M Q (pc + 3) lv st (j_upl h k x)) : WV S G M Q pc lv (jL x :: jR k :: st) h :=
  j_put (a := jL x) (h' := j_upl h k x) d hf hc hj (fun ad => by simp [j_f, j_upl, j_v]) (fun _ => rfl) (fun _ => rfl) (fun ad i g hg hi => by
    rcases g with _ | _ | r
    · exact absurd (hone i hg) hi
    · rfl
    · rfl) (fun q hq => rfl) (fun q hq => by simp [j_upl, hq]) (fun hR ho => hR) kk
end RW2
end
section
/-! rows of numbers, ends, calls -/
section RW3
variable {S : jS} {G : jG} {M : jM} {Q : jQ} {pc : Nat} {lv st : List jV} {h : jH}
theorem s_iald {k n : Nat} {i x : Int} (d : decode M.2.1 pc = .ok (.iaload, 1)) (hc : S.2.2[k]? = some (.inl (false, n))) (hin : 0 ≤ i ∧ i < n) (hx : h.1 k i.toNat = x) (kk : WV S G M Q (pc + 1) lv (jI x :: st) h) : WV S G M Q pc lv (jI i :: jR k :: st) h := by
  subst hx
  refine j_st (fun hR _ hs => j_oI (hR _ _) (j_ot (j_ot hs))) (fun hX _ hP hs w => ?_) kk
  obtain ⟨x1, x2, x3, x4, x5, x6, x7, x8, x9⟩ := hX
  have hr := j_hI hs
  refine va_iald x1 x2 x8 hP k 0 (j_w_at hc) rfl (j_in hr hin.1 hin.2) d ?_
  rw [j_cl hr]
  exact w
theorem s_zald {k n : Nat} {i x : Int} (d : decode M.2.1 pc = .ok (.baload, 1)) (hc : S.2.2[k]? = some (.inl (true, n))) (hin : 0 ≤ i ∧ i < n) (hx : h.1 k i.toNat = x) (kk : WV S G M Q (pc + 1) lv (jI x :: st) h) : WV S G M Q pc lv (jI i :: jR k :: st) h := by
  subst hx
  refine j_st (fun hR _ hs => j_oI (hR _ _) (j_ot (j_ot hs))) (fun hX _ hP hs w => ?_) kk
  obtain ⟨x1, x2, x3, x4, x5, x6, x7, x8, x9⟩ := hX
  have hr := j_hI hs
  refine va_zald x1 x2 x8 hP k 1 (j_w_at hc) rfl (j_in hr hin.1 hin.2) d ?_
  rw [j_cl hr]
  exact w
theorem s_alen {k n : Nat} {b : Bool} {v : Int} (d : decode M.2.1 pc = .ok (.arraylength, 1)) (hc : S.2.2[k]? = some (.inl (b, n))) (hv : (n : Int) = v) (hr : j_rg v) (kk : WV S G M Q (pc + 1) lv (jI v :: st) h) : WV S G M Q pc lv (jR k :: st) h := by
  refine j_st (fun hR _ hs => j_oI hr (j_ot hs)) (fun hX _ hP hs w => ?_) kk
  obtain ⟨x1, x2, x3, x4, x5, x6, x7, x8, x9⟩ := hX
  have e : Int32.ofNat n = Int32.ofInt v := by rw [← hv, Int32.ofInt_eq_ofNat]
  cases b with
  | false => exact va_alen x1 x2 x8 hP k 0 (j_w_at hc) (ty := .int) rfl e d w
  | true => exact va_alen x1 x2 x8 hP k 1 (j_w_at hc) (ty := .boolean) rfl e d w
theorem j_up_row {k j : Nat} {x : Int} : (fun b => Int32.ofInt ((j_up h k j x).1 k b)) = upd (fun b => Int32.ofInt (h.1 k b)) j (Int32.ofInt x) := by
  funext b
  by_cases hb : b = j
  · subst hb; simp [j_up, upd]
  · simp [j_up, upd, hb]
theorem s_iast {k n : Nat} {i x : Int} (d : decode M.2.1 pc = .ok (.iastore, 1)) (hc : S.2.2[k]? = some (.inl (false, n))) (hin : 0 ≤ i ∧ i < n) (kk : WV S G M Q (pc + 1) lv st (j_up h k i.toNat x)) : WV S G M Q pc lv (jI x :: jI i :: jR k :: st) h := by
  intro hR hl hs p e s m args below meth c H locs ls A hX hA hP hD hS hv
  have hX0 := hX
  obtain ⟨x1, x2, x3, x4, x5, x6, x7, x8, x9⟩ := hX
  have hr := j_hI (j_ot hs)
  refine va_iast x1 x2 x8 hP hD hS k 0 (j_w_at hc) rfl (j_in hr hin.1 hin.2) d (fun H1 locs1 hP1 hD1 hS1 => ?_)
  have e1 : (j_w G S.2.2 h).set k (G.2.2.2 k, .inl (if false = true then G.2.2.1.2 else G.2.2.1.1, n, .inl (upd (fun j => Int32.ofInt (h.1 k j)) (Int32.ofInt i).toNatClampNeg (Int32.ofInt x)))) = j_w G S.2.2 (j_up h k i.toNat x) := by
    rw [j_cl hr, ← j_up_row]
    exact j_w_set hc (fun q hq => by funext b; simp [j_up, hq]) (fun q hq => rfl)
  rw [e1] at hP1 hD1
  exact kk (j_up_Rg hR (j_hI hs)) hl (j_ot (j_ot (j_ot hs))) p e s m args below meth c H1 locs1 ls A hX0 hA hP1 hD1 hS1 hv
theorem j_narz {x : Int} (hz : x = 0 ∨ x = 1) : vp_nar .boolean (Int32.ofInt x) = Int32.ofInt x := by
  rcases hz with rfl | rfl <;> rfl
theorem s_zast {k n : Nat} {i x : Int} (d : decode M.2.1 pc = .ok (.bastore, 1)) (hc : S.2.2[k]? = some (.inl (true, n))) (hin : 0 ≤ i ∧ i < n) (hz : x = 0 ∨ x = 1) (kk : WV S G M Q (pc + 1) lv st (j_up h k i.toNat x)) : WV S G M Q pc lv (jI x :: jI i :: jR k :: st) h := by
  intro hR hl hs p e s m args below meth c H locs ls A hX hA hP hD hS hv
  have hX0 := hX
  obtain ⟨x1, x2, x3, x4, x5, x6, x7, x8, x9⟩ := hX
  have hr := j_hI (j_ot hs)
  refine va_zast x1 x2 x8 hP hD hS k 1 (j_w_at hc) rfl (j_in hr hin.1 hin.2) d (fun H1 locs1 hP1 hD1 hS1 => ?_)
  have e1 : (j_w G S.2.2 h).set k (G.2.2.2 k, .inl (if true = true then G.2.2.1.2 else G.2.2.1.1, n, .inl (upd (fun j => Int32.ofInt (h.1 k j)) (Int32.ofInt i).toNatClampNeg (vp_nar .boolean (Int32.ofInt x))))) = j_w G S.2.2 (j_up h k i.toNat x) := by
    rw [j_narz hz, j_cl hr, ← j_up_row]
    exact j_w_set hc (fun q hq => by funext b; simp [j_up, hq]) (fun q hq => rfl)
  rw [e1] at hP1 hD1
  exact kk (j_up_Rg hR (j_hI hs)) hl (j_ot (j_ot (j_ot hs))) p e s m args below meth c H1 locs1 ls A hX0 hA hP1 hD1 hS1 hv
/-! ends -/
theorem s_iret {x : Int} (d : decode M.2.1 pc = .ok (.ireturn, 1)) (ht : M.2.2.2.1 = some .int) (hq : Q (some (jI x)) h) : WV S G M Q pc lv [jI x] h := by
  intro hR hl hs p e s m args below meth c H locs ls A hX hA hP hD hS hv
  obtain ⟨x1, x2, x3, x4, x5, x6, x7, x8, x9⟩ := hX
  have hr : meth.sig.returnType = some .int := x3.trans ht
  exact W.iret (v := Int32.ofInt x) x1 x2 hr (fun t ht hW => ⟨⟨some (jI x), h, hq, hR, fun a ha => by cases ha; exact j_oh hs, rfl, by rw [ht]; exact hP, va_K.moved hW.alike x8, hD⟩, hS.F ht⟩) hS.2.2 d x7
theorem s_zret {x : Int} (d : decode M.2.1 pc = .ok (.ireturn, 1)) (ht : M.2.2.2.1 = some .boolean) (hz : x = 0 ∨ x = 1) (hq : Q (some (jI x)) h) : WV S G M Q pc lv [jI x] h := by
  intro hR hl hs p e s m args below meth c H locs ls A hX hA hP hD hS hv
  obtain ⟨x1, x2, x3, x4, x5, x6, x7, x8, x9⟩ := hX
  have hr : meth.sig.returnType = some .boolean := x3.trans ht
  exact W.zret (v := Int32.ofInt x) x1 x2 hr (by rcases hz with rfl | rfl <;> rfl) (fun t ht hW => ⟨⟨some (jI x), h, hq, hR, fun a ha => by cases ha; exact j_oh hs, rfl, by rw [ht]; exact hP, va_K.moved hW.alike x8, hD⟩, hS.F ht⟩) hS.2.2 d x7
theorem s_lret {x : Int64} (d : decode M.2.1 pc = .ok (.lreturn, 1)) (ht : M.2.2.2.1 = some .long) (hq : Q (some (jL x)) h) : WV S G M Q pc lv [jL x] h := by
  intro hR hl hs p e s m args below meth c H locs ls A hX hA hP hD hS hv
  obtain ⟨x1, x2, x3, x4, x5, x6, x7, x8, x9⟩ := hX
  have hr : meth.sig.returnType = some .long := x3.trans ht
  exact W.lret (v := x) x1 x2 hr (fun t ht hW => ⟨⟨some (jL x), h, hq, hR, fun a ha => by cases ha; trivial, rfl, by rw [ht]; exact hP, va_K.moved hW.alike x8, hD⟩, hS.F ht⟩) hS.2.2 d x7
theorem s_vret (d : decode M.2.1 pc = .ok (.return_, 1)) (ht : M.2.2.2.1 = none) (hq : Q none h) : WV S G M Q pc lv [] h := by
  intro hR hl hs p e s m args below meth c H locs ls A hX hA hP hD hS hv
  obtain ⟨x1, x2, x3, x4, x5, x6, x7, x8, x9⟩ := hX
  have hr : meth.sig.returnType = none := x3.trans ht
  exact W.vret x1 x2 hr (fun t ht hW => ⟨⟨none, h, hq, hR, fun a ha => (by cases ha), rfl, by rw [ht]; exact hP, va_K.moved hW.alike x8, hD⟩, hS.F ht⟩) hS.2.2 d x7
end RW3
/-! a contract out of a walk -/
theorem j_sl (G : jG) (av : List jV) (hu : ∀ a ∈ av, j_un a = false) : lg_sl (av.map (j_v G.2.2.2)) = av.map (fun a => Slot.val (j_v G.2.2.2 a)) := by
  induction av with
  | nil => rfl
  | cons a t ih =>
    have h1 := j_v_cat (ad := G.2.2.2) (hu a List.mem_cons_self)
    have h2 := ih (fun b hb => hu b (List.mem_cons_of_mem _ hb))
    simp only [lg_sl, List.map_cons, List.flatMap_cons, h1] at h2 ⊢
    rw [h2]
    rfl
theorem j_lva (G : jG) : ∀ (av : List jV) (i : Nat), (∀ a ∈ av, j_un a = false) → ∀ (k : Nat) (a : jV), av[k]? = some a → (i + k, j_v G.2.2.2 a) ∈ lv_args i (av.map (j_v G.2.2.2)) := by
  intro av
  induction av with
  | nil => intro i _ k a h; simp at h
  | cons b t ih =>
    intro i hu k a h
    have h1 := j_v_cat (ad := G.2.2.2) (hu b List.mem_cons_self)
    simp only [List.map_cons, lv_args, h1]
    cases k with
    | zero =>
      simp at h
      subst h
      exact List.mem_cons_self
    | succ k =>
      have := ih (i + 1) (fun c hc => hu c (List.mem_cons_of_mem _ hc)) k a (by simpa using h)
      rw [show i + (k + 1) = i + 1 + k by omega]
      exact List.mem_cons_of_mem _ this
theorem CT.of {S : jS} {M : jM} {av : List jV} {h : jH} {post : jQ} (hy : plainName M.1.cls = true) (hu : ∀ a ∈ av, j_un a = false) (hl : av.length ≤ M.2.2.1) (lv : List jV) (hlv : av ++ List.replicate (M.2.2.1 - av.length) jU = lv) (k : ∀ G, WV S G M post 0 lv [] h) : CT S M av h post := by
  intro G sz hR hok
  subst hlv
  refine Met.ofW (cc := M.2.1) (maxL := M.2.2.1) (ret := M.2.2.2.1) hy rfl ?_
  intro p e s m args below meth c s₁ B hml hv
  obtain ⟨rfl, hsz, hP, hK, hN, hD0⟩ := hv
  have hts := atoms_spec (ws := j_ws M) B.pre
  have hown : s.vm.findClass M.1.cls = some m.cls := findClass_of_methodNamed B.named
  subst hsz
  have hD := hD0.self (sz := s.heap.size)
  have hle : (lg_sl (av.map (j_v G.2.2.2))).length ≤ M.2.2.1 := by rw [j_sl G av hu]; simpa using hl
  have hl := lv_entry (av.map (j_v G.2.2.2)) (n := M.2.2.1) hle
  rw [lg_entry_eq]
  generalize (lg_sl (av.map (j_v G.2.2.2)) ++ List.replicate (M.2.2.1 - (lg_sl (av.map (j_v G.2.2.2))).length) Slot.unset).toArray = ls at hl ⊢
  have hlv : j_lv G ls M.2.2.1 (av ++ List.replicate (M.2.2.1 - av.length) jU) := by
    refine ⟨hl.1, hl.2.1, fun i a hi hua => ?_⟩
    by_cases hii : i < av.length
    · rw [List.getElem?_append_left hii] at hi
      have := j_lva G av 0 hu i a hi
      rw [Nat.zero_add] at this
      exact hl.2.2 _ this
    · rw [List.getElem?_append_right (by omega), List.getElem?_replicate] at hi
      split at hi
      · cases hi; cases hua
      · cases hi
  exact k G hR (fun a ha => by
    rcases List.mem_append.mp ha with h1 | h1
    · exact hok a h1
    · rw [(List.mem_replicate.mp h1).2]; trivial) (fun a ha => by cases ha) p e s m _ below meth c s.heap [] ls _ ⟨B.exec, B.bytes, B.returns, hml, hown, fun w hw => hts w (List.mem_cons_of_mem _ hw), B.notSynchronized, hK, hN⟩ (fun q hq => Or.inr hq) hP hD va_S.rf hlv
/-! calls -/
/-- what a call of y at entry idx of own's pool needs: an instance method of the object's own class -/
def j_mv (own : String) (idx n : Nat) (M : jM) : Prop := Cond.methodLink own idx M.1 ∈ jW ∧ Cond.instanceMethod M.1 ∈ jW ∧ Cond.selects M.1.cls M.1 M.1 ∈ jW ∧ Cond.initialized M.1.cls ∈ jW ∧ Cond.code M.1 M.2.1 M.2.2.1 M.2.2.2.1 ∈ jW ∧ M.1.cls ≠ "java/lang/invoke/MethodHandle" ∧ M.1.cls ≠ "java/lang/invoke/VarHandle" ∧ (parseMethodDescriptor M.1.desc).map (fun d => d.parameters.length) = some n
def j_ms (own : String) (idx n : Nat) (M : jM) : Prop := Cond.methodLink own idx M.1 ∈ jW ∧ Cond.static M.1 ∈ jW ∧ Cond.initialized M.1.cls ∈ jW ∧ Cond.code M.1 M.2.1 M.2.2.1 M.2.2.2.1 ∈ jW ∧ M.1.cls ≠ "java/lang/invoke/MethodHandle" ∧ M.1.cls ≠ "java/lang/invoke/VarHandle" ∧ (parseMethodDescriptor M.1.desc).map (fun d => d.parameters.length) = some n
/-- a call's room -/
def j_rm2 (M M' : jM) : Prop := M'.2.2.2.2.cells = 0 ∧ M'.2.2.2.2.slots = 0 ∧ M'.2.2.2.2.frames + 1 ≤ M.2.2.2.2.frames ∧ 8 + (M'.2.2.1 + 11) + M'.2.2.2.2.locals ≤ M.2.2.2.2.locals
theorem j_good (M : jM) (hc : Cond.code M.1 M.2.1 M.2.2.1 M.2.2.2.1 ∈ jW) : GoodIn jW (j_ws M) := by
  intro w hw
  rcases List.mem_cons.mp hw with rfl | hw
  · exact ⟨hc, jW_good _ hc⟩
  · exact ⟨hw, jW_good w hw⟩
theorem j_cats (ad : Nat → Nat) (st : List jV) : ((st.map (j_v ad)).map fun v => v.category).sum ≤ 2 * st.length := by
  induction st with
  | nil => simp
  | cons a t ih =>
    have : (j_v ad a).category ≤ 2 := by rcases lv_cat (j_v ad a) with h | h <;> omega
    simp only [List.map_cons, List.sum_cons, List.length_cons]
    omega
section RW4
variable {S : jS} {G : jG} {M M' : jM} {Q : jQ} {pc : Nat} {lv st : List jV} {h : jH}
/-- behind a call's run -/
theorem j_back {post : jQ} {p : Program} {e : Env} {s : State} {m : MethodId} {args : Array Value} {below : List Frame} {meth : Method} {c : Code} {H : Heap} {locs : List Loc} {ls : Array Slot} {A : Nat → Prop} {st0 : List Value} {a : Array Value}
    (hr : va_Run p G.1 e M.2.2.2.2 s m args below meth c H locs 0 0 0 0 (F0 m pc ls st0) (st.map (j_v G.2.2.2)) (j_Q S G (va_A (j_w G S.2.2 h) H.size) post a) (va_A (j_w G S.2.2 h) H.size))
    (hl : ∀ a ∈ lv, j_ok a) (hs : ∀ a ∈ st, j_ok a) (hX : j_X S G M p s m args meth c) (hA : ∀ q, s.heap.size ≤ q → A q) (hD : va_D A (j_w G S.2.2 h)) (hS : va_S A s.heap H locs) (hv : j_lv G ls M.2.2.1 lv)
    (kk : ∀ (r : Option jV) (h' : jH), post r h' → WV S G M Q (pc + 3) lv (r.toList ++ st) h') : W p G.1 e M.2.2.2.2 s m args below meth c H locs 0 0 (MQ below (j_Q S G A Q) args s 0 0 A) (F0 m pc ls st0) := by
  have hF : ∀ q, va_A (j_w G S.2.2 h) H.size q → A q := by
    intro q hq
    rcases hq with ⟨k, e, hk⟩ | hq
    · exact hD.2 k _ hk
    · exact hA q (Nat.le_trans hS.1 hq)
  intro T hT X
  obtain ⟨v, st₀, t, T', L, h0, X', hL, e1, e2, ⟨⟨r, h', q1, q2, q3, q4, q5, q6, q7⟩, hz, hk⟩, stp⟩ := hr T hT X
  rw [h0] at hz hk
  cases q4
  have hS' : va_S A s.heap T'.heap (locs ++ L) := ⟨Nat.le_trans hS.1 (by rw [e1]; exact hz), fun q h1 h2 => by rw [e1, hk q (Nat.lt_of_lt_of_le h1 hS.1) (fun z => h2 (hF q z))]; exact hS.2.1 q h1 h2, fun q hq => by
    rcases List.mem_append.mp hq with h | h
    · exact hS.2.2 q h
    · exact hF _ (hL q h)⟩
  have hw := kk r h' q1 q2 hl (fun a ha => by
    rcases List.mem_append.mp ha with h1 | h1
    · exact q3 a (by cases r with
        | none => cases h1
        | some b => rw [List.mem_singleton.mp h1])
    · exact hs a h1) p e s m args below meth c T'.heap (locs ++ L) ls A hX hA (by rw [e1]; exact q5) (q7.weaken (fun k q _ hq => hF q.1 hq)) hS' hv
  have hst : (r.map (j_v G.2.2.2)).toList ++ st.map (j_v G.2.2.2) = (r.toList ++ st).map (j_v G.2.2.2) := by cases r <;> simp
  obtain ⟨t2, a1, b1⟩ := hw T' rfl X'
  refine ⟨t2, stp t2 ?_, b1⟩
  rw [← hst] at a1
  exact a1
theorem j_pre {av : List jV} {s : State} {H : Heap} {A : Nat → Prop} (hK : va_K G.2.1 S.1 (j_ty G) s) (hN : j_N S s) (hP : va_P G.2.1 S.1 (j_w G S.2.2 h) H) (hD : va_D A (j_w G S.2.2 h)) : PreS s H (va_Pc (av.map (j_v G.2.2.2)) (fun U => U.heap.size = H.size ∧ va_P G.2.1 S.1 (j_w G S.2.2 h) U.heap ∧ va_K G.2.1 S.1 (j_ty G) U ∧ j_N S U ∧ va_D (fun _ => True) (j_w G S.2.2 h))) (av.map (j_v G.2.2.2)) :=
  ⟨fun a U g mk q => by
    obtain ⟨q0, q1, qP, qK, qN, qD⟩ := q
    exact ⟨q0, q1, qP, va_K.moved (u := U) (U := U.calling g mk a) (Vm.Alike.refl U.vm) qK, fun z hz => va_Nw.same rfl rfl (qN z hz), qD⟩, fun U hU hW => ⟨rfl, by rw [hU], by rw [hU]; exact hP, va_K.moved hW.alike hK, hN.moved hW, hD.weaken (fun _ _ _ _ => trivial)⟩⟩
theorem s_callV {idx k ci : Nat} {as : List jV} {fs : List (Option (Option Nat))} {q : vw_C} {post : jQ} (d : decode M.2.1 pc = .ok (.invokevirtual idx, 3)) (hm : j_mv M.1.cls idx as.length M') (hrm : j_rm2 M M') (hc : S.2.2[k]? = some (.inr (ci, fs))) (hcl : S.1[ci]? = some q) (hq : q.1 = M'.1.cls) (hlen : 2 * st.length ≤ 8) (st0 : List jV) (hst : as.reverse ++ jR k :: st = st0)
    (hct : CT S M' (jR k :: as) h post) (kk : ∀ (r : Option jV) (h' : jH), post r h' → WV S G M Q (pc + 3) lv (r.toList ++ st) h') : WV S G M Q pc lv st0 h := by
  subst hst
  intro hR hl hs p e s m args below meth c H locs ls A hX hA hP hD hS hv
  have hX0 := hX
  obtain ⟨x1, x2, x3, x4, x5, x6, x7, x8, x9⟩ := hX
  obtain ⟨m1, m2, m3, m4, m5, m6, m7, m8⟩ := hm
  obtain ⟨r1, r2, r3, r4⟩ := hrm
  have hs1 : ∀ a ∈ jR k :: st, j_ok a := fun a ha => hs a (List.mem_append_right _ ha)
  have hpre := j_pre (av := jR k :: as) x8 x9 hP hD
  have cw : CallW M.2.2.2.2 s args M.1.cls M'.1.cls idx M'.1 M'.2.1 M'.2.2.1 M'.2.2.2.1 (j_ws M') M'.2.2.2.2 0 0 as.length := ⟨callB_of as.length x6 (j_good M' m5) rfl r1 r2 (x6 _ m4) (x6 _ m1) ⟨m6, m7, m8⟩ ⟨r3, r4⟩, x6 _ m2, x6 _ m3⟩
  have hrun := va_runV (e := e) (below := below) (meth := meth) (As := as.map (j_v G.2.2.2)) (rest := st.map (j_v G.2.2.2)) (b := G.2.2.2 k) (g := F0 m pc ls ((as.reverse ++ jR k :: st).map (j_v G.2.2.2))) (locs := locs) (cells := 0) (slots := 0) ⟨x1, x2, x4, x5, x6⟩ (hct G H.size hR (fun a ha => by
    rcases List.mem_cons.mp ha with rfl | ha
    · trivial
    · exact hs a (List.mem_append_left _ (List.mem_reverse.mpr ha)))) cw ⟨hpre.1, by rw [← hq]; exact va_recv x8 hP hcl (j_w_at hc), hpre.2⟩ rfl (by simp) hv.1 (by simp [j_v]) (lv_room (by have := j_cats G.2.2.2 st; omega)) d ⟨Nat.zero_le _, Nat.zero_le _⟩
  exact j_back hrun hl (j_ot hs1) hX0 hA hD hS hv kk
theorem s_callS {idx : Nat} {as : List jV} {post : jQ} (d : decode M.2.1 pc = .ok (.invokestatic idx, 3)) (hm : j_ms M.1.cls idx as.length M') (hrm : j_rm2 M M') (hlen : 2 * st.length ≤ 8) (st0 : List jV) (hst : as.reverse ++ st = st0)
    (hct : CT S M' as h post) (kk : ∀ (r : Option jV) (h' : jH), post r h' → WV S G M Q (pc + 3) lv (r.toList ++ st) h') : WV S G M Q pc lv st0 h := by
  subst hst
  intro hR hl hs p e s m args below meth c H locs ls A hX hA hP hD hS hv
  have hX0 := hX
  obtain ⟨x1, x2, x3, x4, x5, x6, x7, x8, x9⟩ := hX
  obtain ⟨m1, m2, m4, m5, m6, m7, m8⟩ := hm
  obtain ⟨r1, r2, r3, r4⟩ := hrm
  have hpre := j_pre (av := as) x8 x9 hP hD
  have hrun := va_runS (e := e) (below := below) (meth := meth) (As := as.map (j_v G.2.2.2)) (rest := st.map (j_v G.2.2.2)) (g := F0 m pc ls ((as.reverse ++ st).map (j_v G.2.2.2))) (locs := locs) (cells := 0) (slots := 0) ⟨x1, x2, x4, x5, x6⟩ (hct G H.size hR (fun a ha => hs a (List.mem_append_left _ (List.mem_reverse.mpr ha)))) ⟨callB_of as.length x6 (j_good M' m5) rfl r1 r2 (x6 _ m4) (x6 _ m1) ⟨m6, m7, m8⟩ ⟨r3, r4⟩, x6 _ m2⟩ hpre rfl (by simp) hv.1 (by simp) (lv_room (by have := j_cats G.2.2.2 st; omega)) d ⟨Nat.zero_le _, Nat.zero_le _⟩
  exact j_back hrun hl (fun a ha => hs a (List.mem_append_right _ ha)) hX0 hA hD hS hv kk
end RW4
end
section
/-! a nest mate's static method; Math; arraycopy -/
def j_mn (S : jS) (own : String) (idx n : Nat) (M : jM) (host : String) : Prop := (own, idx, M.1, host) ∈ S.2.1 ∧ Cond.static M.1 ∈ jW ∧ Cond.initialized M.1.cls ∈ jW ∧ Cond.code M.1 M.2.1 M.2.2.1 M.2.2.2.1 ∈ jW ∧ M.1.cls ≠ "java/lang/invoke/MethodHandle" ∧ M.1.cls ≠ "java/lang/invoke/VarHandle" ∧ (parseMethodDescriptor M.1.desc).map (fun d => d.parameters.length) = some n
def j_mm (own : String) (idx : Nat) (y : MethodName) (cc : ByteArray) (n : Nat) : Prop := Cond.methodLink own idx y ∈ jW ∧ Cond.static y ∈ jW ∧ Cond.initialized "java/lang/Math" ∈ jW ∧ Cond.code y cc n (some .int) ∈ jW
def j_ma (own : String) (idx : Nat) : Prop := Cond.methodLink own idx arraycopyName ∈ jW ∧ Cond.native arraycopyName ∈ jW ∧ Cond.static arraycopyName ∈ jW ∧ Cond.initialized "java/lang/System" ∈ jW
section RW5
variable {S : jS} {G : jG} {M M' : jM} {Q : jQ} {pc : Nat} {lv st : List jV} {h : jH}
theorem s_callSN {idx : Nat} {host : String} {as : List jV} {post : jQ} (d : decode M.2.1 pc = .ok (.invokestatic idx, 3)) (hm : j_mn S M.1.cls idx as.length M' host) (hrm : j_rm2 M M') (hlen : 2 * st.length ≤ 8) (st0 : List jV) (hst : as.reverse ++ st = st0)
    (hct : CT S M' as h post) (kk : ∀ (r : Option jV) (h' : jH), post r h' → WV S G M Q (pc + 3) lv (r.toList ++ st) h') : WV S G M Q pc lv st0 h := by
  subst hst
  intro hR hl hs p e s m args below meth c H locs ls A hX hA hP hD hS hv
  have hX0 := hX
  obtain ⟨x1, x2, x3, x4, x5, x6, x7, x8, x9⟩ := hX
  obtain ⟨m1, m2, m4, m5, m6, m7, m8⟩ := hm
  obtain ⟨r1, r2, r3, r4⟩ := hrm
  have hpre := j_pre (av := as) x8 x9 hP hD
  have hnw : va_Nw (.methodLinkNest M.1.cls idx M'.1 host) s := x9 _ m1
  have hrun := va_runSN (e := e) (below := below) (meth := meth) (As := as.map (j_v G.2.2.2)) (rest := st.map (j_v G.2.2.2)) (g := F0 m pc ls ((as.reverse ++ st).map (j_v G.2.2.2))) (locs := locs) (cells := 0) (slots := 0) ⟨x1, x2, x4, x5, x6⟩ (hct G H.size hR (fun a ha => hs a (List.mem_append_left _ (List.mem_reverse.mpr ha)))) ⟨va_cnB as.length x6 (j_good M' m5) rfl r1 r2 hnw (x6 _ m4) ⟨m6, m7, m8⟩ ⟨r3, r4⟩, x6 _ m2, trivial⟩ hpre rfl (by simp) hv.1 (by simp) (lv_room (by have := j_cats G.2.2.2 st; omega)) d ⟨Nat.zero_le _, Nat.zero_le _⟩
  exact j_back hrun hl (fun a ha => hs a (List.mem_append_right _ ha)) hX0 hA hD hS hv kk
theorem j_ite32 {p q : Prop} {dp : Decidable p} {dq : Decidable q} (hpq : p ↔ q) (x y : Int) : (if p then Int32.ofInt x else Int32.ofInt y) = Int32.ofInt (if q then x else y) := by
  by_cases h : p
  · rw [if_pos h, if_pos (hpq.mp h)]
  · rw [if_neg h, if_neg (fun z => h (hpq.mpr z))]
theorem s_max {idx : Nat} {x y : Int} (d : decode M.2.1 pc = .ok (.invokestatic idx, 3)) (hm : j_mm M.1.cls idx Lib.Math.max.name Lib.Math.max.code 2) (hrm : 1 ≤ M.2.2.2.2.frames ∧ 2 * st.length + 13 ≤ M.2.2.2.2.locals) (kk : WV S G M Q (pc + 3) lv (jI (max x y) :: st) h) : WV S G M Q pc lv (jI y :: jI x :: st) h := by
  refine WV.rng (fun _ _ hs0 => ?_)
  refine j_st (fun hR _ hs => j_oI (by rw [Int.max_def]; split; exact j_hI hs; exact j_hI (j_ot hs)) (j_ot (j_ot hs))) (fun {p e s m args below meth c H locs ls Z} hX hv hP hs w => ?_) kk
  obtain ⟨x1, x2, x3, x4, x5, x6, x7, x8, x9⟩ := hX
  refine va_mmax x1 x2 (x4.trans hv.1.symm) x5 (x6 _ hm.1) (x6 _ hm.2.1) (x6 _ hm.2.2.1) (x6 _ hm.2.2.2) hrm.1 (by have := j_cats G.2.2.2 st; omega) (Nat.zero_le _) (Nat.zero_le _) d ?_
  have e : (if Int32.ofInt x < Int32.ofInt y then Int32.ofInt y else Int32.ofInt x) = Int32.ofInt (max x y) := by
    rw [j_ite32 (q := x < y) (dq := inferInstance) (by rw [j_lt (j_hI (j_ot hs)) (j_hI hs)])]
    congr 1
    split <;> omega
  rw [e]
  exact w
theorem s_min {idx : Nat} {x y : Int} (d : decode M.2.1 pc = .ok (.invokestatic idx, 3)) (hm : j_mm M.1.cls idx Lib.Math.min.name Lib.Math.min.code 2) (hrm : 1 ≤ M.2.2.2.2.frames ∧ 2 * st.length + 13 ≤ M.2.2.2.2.locals) (kk : WV S G M Q (pc + 3) lv (jI (min x y) :: st) h) : WV S G M Q pc lv (jI y :: jI x :: st) h := by
  refine j_st (fun hR _ hs => j_oI (by rw [Int.min_def]; split; exact j_hI (j_ot hs); exact j_hI hs) (j_ot (j_ot hs))) (fun {p e s m args below meth c H locs ls Z} hX hv hP hs w => ?_) kk
  obtain ⟨x1, x2, x3, x4, x5, x6, x7, x8, x9⟩ := hX
  refine va_mmin x1 x2 (x4.trans hv.1.symm) x5 (x6 _ hm.1) (x6 _ hm.2.1) (x6 _ hm.2.2.1) (x6 _ hm.2.2.2) hrm.1 (by have := j_cats G.2.2.2 st; omega) (Nat.zero_le _) (Nat.zero_le _) d ?_
  have e : (if Int32.ofInt y < Int32.ofInt x then Int32.ofInt y else Int32.ofInt x) = Int32.ofInt (min x y) := by
    rw [j_ite32 (q := y < x) (dq := inferInstance) (by rw [j_lt (j_hI hs) (j_hI (j_ot hs))])]
    congr 1
    split <;> omega
  rw [e]
  exact w
theorem s_abs {idx : Nat} {x : Int} (d : decode M.2.1 pc = .ok (.invokestatic idx, 3)) (hm : j_mm M.1.cls idx Lib.Math.abs.name Lib.Math.abs.code 1) (hrm : 1 ≤ M.2.2.2.2.frames ∧ 2 * st.length + 13 ≤ M.2.2.2.2.locals) (hr : j_rg (-x)) (kk : WV S G M Q (pc + 3) lv (jI (if 0 ≤ x then x else -x) :: st) h) : WV S G M Q pc lv (jI x :: st) h := by
  refine j_st (fun hR _ hs => j_oI (by split; exact j_hI hs; exact hr) (j_ot hs)) (fun {p e s m args below meth c H locs ls Z} hX hv hP hs w => ?_) kk
  obtain ⟨x1, x2, x3, x4, x5, x6, x7, x8, x9⟩ := hX
  refine va_mabs x1 x2 (x4.trans hv.1.symm) x5 (x6 _ hm.1) (x6 _ hm.2.1) (x6 _ hm.2.2.1) (x6 _ hm.2.2.2) hrm.1 (by have := j_cats G.2.2.2 st; omega) (Nat.zero_le _) (Nat.zero_le _) d ?_
  have e : (if 0 ≤ Int32.ofInt x then Int32.ofInt x else 0 - Int32.ofInt x) = Int32.ofInt (if 0 ≤ x then x else -x) := by
    rw [show (0 : Int32) - Int32.ofInt x = Int32.ofInt (-x) by rw [j_of0, ← Int32.ofInt_sub]; congr 1; omega]
    exact j_ite32 (q := 0 ≤ x) (by rw [j_of0, j_le (j_cst rfl) (j_hI hs)]) x (-x)
  rw [e]
  exact w
theorem s_copy {idx a b n0 n1 : Nat} {sp dp n : Int} (d : decode M.2.1 pc = .ok (.invokestatic idx, 3)) (hm : j_ma M.1.cls idx) (hrm : 1 ≤ M.2.2.2.2.frames ∧ 2 * st.length + (nativeFrameWords "java/lang/System" "arraycopy" 5 + 11) ≤ M.2.2.2.2.locals) (ha : S.2.2[a]? = some (.inl (false, n0))) (hb : S.2.2[b]? = some (.inl (false, n1))) (hin : 0 ≤ sp ∧ 0 ≤ dp ∧ 0 ≤ n ∧ sp + n ≤ n0 ∧ dp + n ≤ n1)
    (kk : WV S G M Q (pc + 3) lv st (j_cp h a sp.toNat b dp.toNat n.toNat)) : WV S G M Q pc lv (jI n :: jI dp :: jR b :: jI sp :: jR a :: st) h := by
  intro hR hl hs p e s m args below meth c H locs ls A hX hA hP hD hS hv
  have hX0 := hX
  obtain ⟨x1, x2, x3, x4, x5, x6, x7, x8, x9⟩ := hX
  have r1 := j_hI hs
  have r2 := j_hI (j_ot hs)
  have r3 := j_hI (j_ot (j_ot (j_ot hs)))
  obtain ⟨i1, i2, i3, i4, i5⟩ := hin
  have nn : ∀ z : Int, j_rg z → 0 ≤ z → ¬ Int32.ofInt z < 0 := fun z hz h0 => by
    rw [j_of0, j_lt hz (j_cst rfl)]
    omega
  refine va_copyi x1 x2 (x4.trans hv.1.symm) x5 (x6 _ hm.1) (x6 _ hm.2.1) (x6 _ hm.2.2.1) (x6 _ hm.2.2.2) x8 hP hD hS a b 0 0 (ty := .int) (j_w_at ha) (j_w_at hb) rfl rfl rfl (nn _ r3 i1) (nn _ r2 i2) (nn _ r1 i3) (by rw [j_cl r3, j_cl r1]; omega) (by rw [j_cl r2, j_cl r1]; omega) (fun i hi => rfl) hrm.1 (by have := j_cats G.2.2.2 st; omega) d (fun H1 locs1 hP1 hD1 hS1 => ?_)
  have e1 : (j_w G S.2.2 h).set b (G.2.2.2 b, .inl (if false = true then G.2.2.1.2 else G.2.2.1.1, n1, .inl (va_cpy (fun j => Int32.ofInt (h.1 a j)) (fun j => Int32.ofInt (h.1 b j)) (Int32.ofInt sp).toNatClampNeg (Int32.ofInt dp).toNatClampNeg (Int32.ofInt n).toNatClampNeg))) = j_w G S.2.2 (j_cp h a sp.toNat b dp.toNat n.toNat) := by
    rw [j_cl r1, j_cl r2, j_cl r3]
    have : va_cpy (fun j => Int32.ofInt (h.1 a j)) (fun j => Int32.ofInt (h.1 b j)) sp.toNat dp.toNat n.toNat = fun j => Int32.ofInt ((j_cp h a sp.toNat b dp.toNat n.toNat).1 b j) := by
      funext j
      simp only [va_cpy, j_cp, true_and]
      split <;> rfl
    rw [this]
    exact j_w_set hb (fun q hq => by funext x; simp [j_cp, hq]) (fun q hq => rfl)
  rw [e1] at hP1 hD1
  refine kk (fun k j => ?_) hl (j_ot (j_ot (j_ot (j_ot (j_ot hs))))) p e s m args below meth c H1 locs1 ls A hX0 hA hP1 hD1 hS1 hv
  show j_rg (if k = b ∧ dp.toNat ≤ j ∧ j < dp.toNat + n.toNat then h.1 a (sp.toNat + (j - dp.toNat)) else h.1 k j)
  split
  · exact hR _ _
  · exact hR _ _
end RW5
end
section
theorem jW_l (ws : List Cond) (ps : List Nat) (hp : ws = ps.filterMap (fun i => tables_1[i]?)) (hg : ws.all goodWord = true) : ∀ w ∈ ws, w ∈ jW := by
  intro w hw
  have h1 := List.all_eq_true.mp hg w hw
  rw [hp] at hw
  obtain ⟨i, -, hi⟩ := List.mem_filterMap.mp hw
  exact jW_t i hi h1
def layX : List jC := [.inr (7, [some (some 1), some (some 2), some (some 9), some (some 17), some (some 22), some (some 24), some (some 25), some (some 26), some (some 33), some (some 39), some none, none]), .inl (false, 200), .inr (6, [some none, some none, some none, some (some 3), some (some 4), some (some 5), some (some 6), some (some 7), some (some 8)]), .inl (false, 6), .inl (false, 7), .inl (false, 7), .inl (false, 7), .inl (false, 7), .inl (false, 7), .inr (4, [some (some 10), some (some 1), some none, some none, some none, some none, some none]), .inr (6, [some none, some none, some none, some (some 11), some (some 12), some (some 13), some (some 14), some (some 15), some (some 16)]), .inl (false, 6), .inl (false, 7), .inl (false, 7), .inl (false, 7), .inl (false, 7), .inl (false, 7), .inr (2, [some (some 2), some none, some (some 18), some (some 19), some (some 20), some (some 21)]), .inl (false, 6), .inl (false, 7), .inl (false, 7), .inl (false, 7), .inr (3, [some (some 23), some none, some none]), .inl (false, 280), .inl (false, 56), .inl (true, 2), .inr (0, [some (some 2), some (some 28), some (some 27), some none, some none]), .inl (false, 7), .inr (2, [some (some 2), some none, some (some 29), some (some 30), some (some 31), some (some 32)]), .inl (false, 6), .inl (false, 7), .inl (false, 7), .inl (false, 7), .inr (5, [some (some 2), some (some 34), some (some 35), some none, some none, some (some 36), some (some 37), some (some 38)]), .inl (false, 7), .inl (false, 7), .inl (false, 7), .inl (false, 7), .inl (false, 7), .inr (1, [some (some 2), some (some 40), some (some 41), some none]), .inl (false, 6), .inl (false, 6)]
def layM : List jC := [.inr (8, [some none, some (some 1), some none, some none, some none, some none, some none, some none, some none, some none, some (some 2), some none, some (some 3), some none, some none, some none, some (some 4), some (some 5), some (some 6), some (some 7), some (some 8), some (some 9), some none, some (some 10), some (some 11), some (some 12), some none, some none, none]), .inl (false, 200), .inl (false, 6), .inl (false, 35), .inl (false, 35), .inl (false, 28), .inl (false, 28), .inl (false, 56), .inl (true, 2), .inl (false, 280), .inl (false, 7), .inl (false, 7), .inl (false, 7)]
def layT : List jC := [.inr (6, [some none, some none, some none, some (some 1), some (some 2), some (some 3), some (some 4), some (some 5), some (some 6)]), .inl (false, 6), .inl (false, 7), .inl (false, 7), .inl (false, 7), .inl (false, 7), .inl (false, 7)]
def jnst : List (String × Nat × MethodName × String) := [(RX5, 55, yX7_nextRow, "BoardCords"), (RX1, 45, yX7_exchange, "BoardCords"), (RX1, 55, yX7_nextRow, "BoardCords")]
def Sx : jS := (vwCl, jnst, layX)
def Sm : jS := (vwCl, [], layM)
def St : jS := (vwCl, [], layT)
theorem inW_X0 : ∀ w ∈ u_ws RX0 TX0 5, w ∈ jW := jW_l _ [190, 192, 194, 196, 198] (by decide +kernel) (by decide +kernel)
theorem inW_X1 : ∀ w ∈ u_ws RX1 TX1 4, w ∈ jW := jW_l _ [248, 250, 252, 254] (by decide +kernel) (by decide +kernel)
theorem inW_X2 : ∀ w ∈ u_ws RX2 TX2 6, w ∈ jW := jW_l _ [144, 146, 148, 150, 152, 154] (by decide +kernel) (by decide +kernel)
theorem inW_X3 : ∀ w ∈ u_ws RX3 TX3 3, w ∈ jW := jW_l _ [167, 169, 171] (by decide +kernel) (by decide +kernel)
theorem inW_X4 : ∀ w ∈ u_ws RX4 TX4 7, w ∈ jW := jW_l _ [110, 112, 114, 116, 118, 120, 122] (by decide +kernel) (by decide +kernel)
theorem inW_X5 : ∀ w ∈ u_ws RX5 TX5 8, w ∈ jW := jW_l _ [219, 221, 223, 225, 227, 229, 231, 233] (by decide +kernel) (by decide +kernel)
theorem inW_X6 : ∀ w ∈ u_ws RX6 TX6 9, w ∈ jW := jW_l _ [74, 76, 78, 80, 82, 84, 86, 88, 90] (by decide +kernel) (by decide +kernel)
theorem inW_X7 : ∀ w ∈ u_ws RX7 TX7 12, w ∈ jW := jW_l _ [280, 282, 284, 286, 288, 290, 292, 294, 296, 298, 300, 302] (by decide +kernel) (by decide +kernel)
theorem inW_X8 : ∀ w ∈ u_ws RX8 TX8 29, w ∈ jW := jW_l _ [758, 760, 762, 764, 766, 768, 770, 772, 774, 776, 778, 780, 782, 784, 786, 788, 790, 792, 794, 796, 798, 800, 802, 804, 806, 808, 810, 812, 814] (by decide +kernel) (by decide +kernel)
theorem fl_X0_9 : j_fl vwCl RX0 9 0 2 := ⟨RX0, TX0, 5, rfl, by decide, inW_X0, jW_t 185 (by decide +kernel) rfl⟩
theorem fl_X0_15 : j_fl vwCl RX0 15 0 3 := ⟨RX0, TX0, 5, rfl, by decide, inW_X0, jW_t 186 (by decide +kernel) rfl⟩
theorem fl_X0_19 : j_fl vwCl RX0 19 0 0 := ⟨RX0, TX0, 5, rfl, by decide, inW_X0, jW_t 182 (by decide +kernel) rfl⟩
theorem fl_X0_28 : j_fl vwCl RX0 28 0 1 := ⟨RX0, TX0, 5, rfl, by decide, inW_X0, jW_t 183 (by decide +kernel) rfl⟩
theorem fl_X0_40 : j_fl vwCl RX0 40 0 4 := ⟨RX0, TX0, 5, rfl, by decide, inW_X0, jW_t 188 (by decide +kernel) rfl⟩
theorem fl_X0_60 : j_fl vwCl RX0 60 6 2 := ⟨RX6, TX6, 9, rfl, by decide, inW_X6, jW_t 43 (by decide +kernel) rfl⟩
theorem fl_X0_69 : j_fl vwCl RX0 69 6 4 := ⟨RX6, TX6, 9, rfl, by decide, inW_X6, jW_t 51 (by decide +kernel) rfl⟩
theorem fl_X0_72 : j_fl vwCl RX0 72 6 8 := ⟨RX6, TX6, 9, rfl, by decide, inW_X6, jW_t 71 (by decide +kernel) rfl⟩
theorem fl_X0_75 : j_fl vwCl RX0 75 6 7 := ⟨RX6, TX6, 9, rfl, by decide, inW_X6, jW_t 65 (by decide +kernel) rfl⟩
theorem fl_X1_9 : j_fl vwCl RX1 9 1 1 := ⟨RX1, TX1, 4, rfl, by decide, inW_X1, jW_t 243 (by decide +kernel) rfl⟩
theorem fl_X1_15 : j_fl vwCl RX1 15 1 2 := ⟨RX1, TX1, 4, rfl, by decide, inW_X1, jW_t 244 (by decide +kernel) rfl⟩
theorem fl_X1_18 : j_fl vwCl RX1 18 1 0 := ⟨RX1, TX1, 4, rfl, by decide, inW_X1, jW_t 242 (by decide +kernel) rfl⟩
theorem fl_X1_22 : j_fl vwCl RX1 22 6 2 := ⟨RX6, TX6, 9, rfl, by decide, inW_X6, jW_t 40 (by decide +kernel) rfl⟩
theorem fl_X1_42 : j_fl vwCl RX1 42 6 0 := ⟨RX6, TX6, 9, rfl, by decide, inW_X6, jW_t 32 (by decide +kernel) rfl⟩
theorem fl_X1_52 : j_fl vwCl RX1 52 1 3 := ⟨RX1, TX1, 4, rfl, by decide, inW_X1, jW_t 246 (by decide +kernel) rfl⟩
theorem fl_X2_9 : j_fl vwCl RX2 9 2 2 := ⟨RX2, TX2, 6, rfl, by decide, inW_X2, jW_t 134 (by decide +kernel) rfl⟩
theorem fl_X2_15 : j_fl vwCl RX2 15 2 3 := ⟨RX2, TX2, 6, rfl, by decide, inW_X2, jW_t 136 (by decide +kernel) rfl⟩
theorem fl_X2_18 : j_fl vwCl RX2 18 2 4 := ⟨RX2, TX2, 6, rfl, by decide, inW_X2, jW_t 139 (by decide +kernel) rfl⟩
theorem fl_X2_21 : j_fl vwCl RX2 21 2 5 := ⟨RX2, TX2, 6, rfl, by decide, inW_X2, jW_t 142 (by decide +kernel) rfl⟩
theorem fl_X2_24 : j_fl vwCl RX2 24 2 0 := ⟨RX2, TX2, 6, rfl, by decide, inW_X2, jW_t 131 (by decide +kernel) rfl⟩
theorem fl_X2_28 : j_fl vwCl RX2 28 2 1 := ⟨RX2, TX2, 6, rfl, by decide, inW_X2, jW_t 132 (by decide +kernel) rfl⟩
theorem fl_X2_32 : j_fl vwCl RX2 32 6 3 := ⟨RX6, TX6, 9, rfl, by decide, inW_X6, jW_t 48 (by decide +kernel) rfl⟩
theorem fl_X2_44 : j_fl vwCl RX2 44 6 2 := ⟨RX6, TX6, 9, rfl, by decide, inW_X6, jW_t 42 (by decide +kernel) rfl⟩
theorem fl_X2_47 : j_fl vwCl RX2 47 6 4 := ⟨RX6, TX6, 9, rfl, by decide, inW_X6, jW_t 50 (by decide +kernel) rfl⟩
theorem fl_X2_50 : j_fl vwCl RX2 50 6 5 := ⟨RX6, TX6, 9, rfl, by decide, inW_X6, jW_t 56 (by decide +kernel) rfl⟩
theorem fl_X2_53 : j_fl vwCl RX2 53 6 6 := ⟨RX6, TX6, 9, rfl, by decide, inW_X6, jW_t 61 (by decide +kernel) rfl⟩
theorem fl_X2_76 : j_fl vwCl RX2 76 6 7 := ⟨RX6, TX6, 9, rfl, by decide, inW_X6, jW_t 69 (by decide +kernel) rfl⟩
theorem fl_X2_83 : j_fl vwCl RX2 83 6 1 := ⟨RX6, TX6, 9, rfl, by decide, inW_X6, jW_t 39 (by decide +kernel) rfl⟩
theorem fl_X3_11 : j_fl vwCl RX3 11 3 0 := ⟨RX3, TX3, 3, rfl, by decide, inW_X3, jW_t 163 (by decide +kernel) rfl⟩
theorem fl_X3_15 : j_fl vwCl RX3 15 3 1 := ⟨RX3, TX3, 3, rfl, by decide, inW_X3, jW_t 164 (by decide +kernel) rfl⟩
theorem fl_X3_19 : j_fl vwCl RX3 19 3 2 := ⟨RX3, TX3, 3, rfl, by decide, inW_X3, jW_t 165 (by decide +kernel) rfl⟩
theorem fl_X4_12 : j_fl vwCl RX4 12 4 0 := ⟨RX4, TX4, 7, rfl, by decide, inW_X4, jW_t 102 (by decide +kernel) rfl⟩
theorem fl_X4_18 : j_fl vwCl RX4 18 4 1 := ⟨RX4, TX4, 7, rfl, by decide, inW_X4, jW_t 104 (by decide +kernel) rfl⟩
theorem fl_X4_28 : j_fl vwCl RX4 28 4 2 := ⟨RX4, TX4, 7, rfl, by decide, inW_X4, jW_t 105 (by decide +kernel) rfl⟩
theorem fl_X4_32 : j_fl vwCl RX4 32 4 3 := ⟨RX4, TX4, 7, rfl, by decide, inW_X4, jW_t 106 (by decide +kernel) rfl⟩
theorem fl_X4_35 : j_fl vwCl RX4 35 4 4 := ⟨RX4, TX4, 7, rfl, by decide, inW_X4, jW_t 107 (by decide +kernel) rfl⟩
theorem fl_X4_38 : j_fl vwCl RX4 38 4 5 := ⟨RX4, TX4, 7, rfl, by decide, inW_X4, jW_t 108 (by decide +kernel) rfl⟩
theorem fl_X4_41 : j_fl vwCl RX4 41 4 6 := ⟨RX4, TX4, 7, rfl, by decide, inW_X4, jW_t 109 (by decide +kernel) rfl⟩
theorem fl_X4_67 : j_fl vwCl RX4 67 6 2 := ⟨RX6, TX6, 9, rfl, by decide, inW_X6, jW_t 45 (by decide +kernel) rfl⟩
theorem fl_X4_84 : j_fl vwCl RX4 84 6 0 := ⟨RX6, TX6, 9, rfl, by decide, inW_X6, jW_t 33 (by decide +kernel) rfl⟩
theorem fl_X4_94 : j_fl vwCl RX4 94 6 4 := ⟨RX6, TX6, 9, rfl, by decide, inW_X6, jW_t 53 (by decide +kernel) rfl⟩
theorem fl_X4_97 : j_fl vwCl RX4 97 6 5 := ⟨RX6, TX6, 9, rfl, by decide, inW_X6, jW_t 58 (by decide +kernel) rfl⟩
theorem fl_X4_100 : j_fl vwCl RX4 100 6 6 := ⟨RX6, TX6, 9, rfl, by decide, inW_X6, jW_t 63 (by decide +kernel) rfl⟩
theorem fl_X4_103 : j_fl vwCl RX4 103 6 7 := ⟨RX6, TX6, 9, rfl, by decide, inW_X6, jW_t 68 (by decide +kernel) rfl⟩
theorem fl_X4_105 : j_fl vwCl RX4 105 6 8 := ⟨RX6, TX6, 9, rfl, by decide, inW_X6, jW_t 73 (by decide +kernel) rfl⟩
theorem fl_X5_9 : j_fl vwCl RX5 9 5 1 := ⟨RX5, TX5, 8, rfl, by decide, inW_X5, jW_t 209 (by decide +kernel) rfl⟩
theorem fl_X5_15 : j_fl vwCl RX5 15 5 2 := ⟨RX5, TX5, 8, rfl, by decide, inW_X5, jW_t 210 (by decide +kernel) rfl⟩
theorem fl_X5_18 : j_fl vwCl RX5 18 5 5 := ⟨RX5, TX5, 8, rfl, by decide, inW_X5, jW_t 216 (by decide +kernel) rfl⟩
theorem fl_X5_21 : j_fl vwCl RX5 21 5 6 := ⟨RX5, TX5, 8, rfl, by decide, inW_X5, jW_t 217 (by decide +kernel) rfl⟩
theorem fl_X5_24 : j_fl vwCl RX5 24 5 7 := ⟨RX5, TX5, 8, rfl, by decide, inW_X5, jW_t 218 (by decide +kernel) rfl⟩
theorem fl_X5_27 : j_fl vwCl RX5 27 5 0 := ⟨RX5, TX5, 8, rfl, by decide, inW_X5, jW_t 208 (by decide +kernel) rfl⟩
theorem fl_X5_38 : j_fl vwCl RX5 38 5 4 := ⟨RX5, TX5, 8, rfl, by decide, inW_X5, jW_t 214 (by decide +kernel) rfl⟩
theorem fl_X5_46 : j_fl vwCl RX5 46 5 3 := ⟨RX5, TX5, 8, rfl, by decide, inW_X5, jW_t 212 (by decide +kernel) rfl⟩
theorem fl_X5_59 : j_fl vwCl RX5 59 6 2 := ⟨RX6, TX6, 9, rfl, by decide, inW_X6, jW_t 44 (by decide +kernel) rfl⟩
theorem fl_X5_64 : j_fl vwCl RX5 64 6 5 := ⟨RX6, TX6, 9, rfl, by decide, inW_X6, jW_t 55 (by decide +kernel) rfl⟩
theorem fl_X5_67 : j_fl vwCl RX5 67 6 6 := ⟨RX6, TX6, 9, rfl, by decide, inW_X6, jW_t 60 (by decide +kernel) rfl⟩
theorem fl_X5_70 : j_fl vwCl RX5 70 2 3 := ⟨RX2, TX2, 6, rfl, by decide, inW_X2, jW_t 137 (by decide +kernel) rfl⟩
theorem fl_X5_75 : j_fl vwCl RX5 75 2 4 := ⟨RX2, TX2, 6, rfl, by decide, inW_X2, jW_t 140 (by decide +kernel) rfl⟩
theorem fl_X5_84 : j_fl vwCl RX5 84 6 1 := ⟨RX6, TX6, 9, rfl, by decide, inW_X6, jW_t 36 (by decide +kernel) rfl⟩
theorem fl_X5_87 : j_fl vwCl RX5 87 6 7 := ⟨RX6, TX6, 9, rfl, by decide, inW_X6, jW_t 66 (by decide +kernel) rfl⟩
theorem fl_X6_9 : j_fl vwCl RX6 9 6 3 := ⟨RX6, TX6, 9, rfl, by decide, inW_X6, jW_t 47 (by decide +kernel) rfl⟩
theorem fl_X6_15 : j_fl vwCl RX6 15 6 4 := ⟨RX6, TX6, 9, rfl, by decide, inW_X6, jW_t 49 (by decide +kernel) rfl⟩
theorem fl_X6_18 : j_fl vwCl RX6 18 6 5 := ⟨RX6, TX6, 9, rfl, by decide, inW_X6, jW_t 54 (by decide +kernel) rfl⟩
theorem fl_X6_21 : j_fl vwCl RX6 21 6 6 := ⟨RX6, TX6, 9, rfl, by decide, inW_X6, jW_t 59 (by decide +kernel) rfl⟩
theorem fl_X6_24 : j_fl vwCl RX6 24 6 7 := ⟨RX6, TX6, 9, rfl, by decide, inW_X6, jW_t 64 (by decide +kernel) rfl⟩
theorem fl_X6_27 : j_fl vwCl RX6 27 6 8 := ⟨RX6, TX6, 9, rfl, by decide, inW_X6, jW_t 70 (by decide +kernel) rfl⟩
theorem fl_X6_33 : j_fl vwCl RX6 33 6 0 := ⟨RX6, TX6, 9, rfl, by decide, inW_X6, jW_t 31 (by decide +kernel) rfl⟩
theorem fl_X6_37 : j_fl vwCl RX6 37 6 1 := ⟨RX6, TX6, 9, rfl, by decide, inW_X6, jW_t 35 (by decide +kernel) rfl⟩
theorem fl_X6_40 : j_fl vwCl RX6 40 6 2 := ⟨RX6, TX6, 9, rfl, by decide, inW_X6, jW_t 41 (by decide +kernel) rfl⟩
theorem fl_X7_9 : j_fl vwCl RX7 9 7 0 := ⟨RX7, TX7, 12, rfl, by decide, inW_X7, jW_t 268 (by decide +kernel) rfl⟩
theorem fl_X7_16 : j_fl vwCl RX7 16 7 1 := ⟨RX7, TX7, 12, rfl, by decide, inW_X7, jW_t 269 (by decide +kernel) rfl⟩
theorem fl_X7_25 : j_fl vwCl RX7 25 7 2 := ⟨RX7, TX7, 12, rfl, by decide, inW_X7, jW_t 270 (by decide +kernel) rfl⟩
theorem fl_X7_34 : j_fl vwCl RX7 34 7 3 := ⟨RX7, TX7, 12, rfl, by decide, inW_X7, jW_t 271 (by decide +kernel) rfl⟩
theorem fl_X7_41 : j_fl vwCl RX7 41 7 4 := ⟨RX7, TX7, 12, rfl, by decide, inW_X7, jW_t 272 (by decide +kernel) rfl⟩
theorem fl_X7_45 : j_fl vwCl RX7 45 7 5 := ⟨RX7, TX7, 12, rfl, by decide, inW_X7, jW_t 273 (by decide +kernel) rfl⟩
theorem fl_X7_48 : j_fl vwCl RX7 48 7 6 := ⟨RX7, TX7, 12, rfl, by decide, inW_X7, jW_t 274 (by decide +kernel) rfl⟩
theorem fl_X7_55 : j_fl vwCl RX7 55 7 7 := ⟨RX7, TX7, 12, rfl, by decide, inW_X7, jW_t 275 (by decide +kernel) rfl⟩
theorem fl_X7_62 : j_fl vwCl RX7 62 7 8 := ⟨RX7, TX7, 12, rfl, by decide, inW_X7, jW_t 276 (by decide +kernel) rfl⟩
theorem fl_X7_69 : j_fl vwCl RX7 69 7 9 := ⟨RX7, TX7, 12, rfl, by decide, inW_X7, jW_t 277 (by decide +kernel) rfl⟩
theorem fl_X7_73 : j_fl vwCl RX7 73 7 10 := ⟨RX7, TX7, 12, rfl, by decide, inW_X7, jW_t 278 (by decide +kernel) rfl⟩
theorem fl_X7_77 : j_fl vwCl RX7 77 7 11 := ⟨RX7, TX7, 12, rfl, by decide, inW_X7, jW_t 279 (by decide +kernel) rfl⟩
theorem fl_X7_88 : j_fl vwCl RX7 88 4 0 := ⟨RX4, TX4, 7, rfl, by decide, inW_X4, jW_t 103 (by decide +kernel) rfl⟩
theorem fl_X7_101 : j_fl vwCl RX7 101 2 2 := ⟨RX2, TX2, 6, rfl, by decide, inW_X2, jW_t 135 (by decide +kernel) rfl⟩
theorem fl_X7_110 : j_fl vwCl RX7 110 6 4 := ⟨RX6, TX6, 9, rfl, by decide, inW_X6, jW_t 52 (by decide +kernel) rfl⟩
theorem fl_X7_113 : j_fl vwCl RX7 113 6 5 := ⟨RX6, TX6, 9, rfl, by decide, inW_X6, jW_t 57 (by decide +kernel) rfl⟩
theorem fl_X7_116 : j_fl vwCl RX7 116 6 6 := ⟨RX6, TX6, 9, rfl, by decide, inW_X6, jW_t 62 (by decide +kernel) rfl⟩
theorem fl_X7_119 : j_fl vwCl RX7 119 6 7 := ⟨RX6, TX6, 9, rfl, by decide, inW_X6, jW_t 67 (by decide +kernel) rfl⟩
theorem fl_X7_122 : j_fl vwCl RX7 122 6 8 := ⟨RX6, TX6, 9, rfl, by decide, inW_X6, jW_t 72 (by decide +kernel) rfl⟩
theorem fl_X7_125 : j_fl vwCl RX7 125 2 3 := ⟨RX2, TX2, 6, rfl, by decide, inW_X2, jW_t 138 (by decide +kernel) rfl⟩
theorem fl_X7_128 : j_fl vwCl RX7 128 2 4 := ⟨RX2, TX2, 6, rfl, by decide, inW_X2, jW_t 141 (by decide +kernel) rfl⟩
theorem fl_X7_131 : j_fl vwCl RX7 131 2 5 := ⟨RX2, TX2, 6, rfl, by decide, inW_X2, jW_t 143 (by decide +kernel) rfl⟩
theorem fl_X7_134 : j_fl vwCl RX7 134 2 1 := ⟨RX2, TX2, 6, rfl, by decide, inW_X2, jW_t 133 (by decide +kernel) rfl⟩
theorem fl_X7_147 : j_fl vwCl RX7 147 3 2 := ⟨RX3, TX3, 3, rfl, by decide, inW_X3, jW_t 166 (by decide +kernel) rfl⟩
theorem fl_X7_150 : j_fl vwCl RX7 150 6 1 := ⟨RX6, TX6, 9, rfl, by decide, inW_X6, jW_t 38 (by decide +kernel) rfl⟩
theorem fl_X7_190 : j_fl vwCl RX7 190 0 1 := ⟨RX0, TX0, 5, rfl, by decide, inW_X0, jW_t 184 (by decide +kernel) rfl⟩
theorem fl_X7_196 : j_fl vwCl RX7 196 0 3 := ⟨RX0, TX0, 5, rfl, by decide, inW_X0, jW_t 187 (by decide +kernel) rfl⟩
theorem fl_X7_199 : j_fl vwCl RX7 199 0 4 := ⟨RX0, TX0, 5, rfl, by decide, inW_X0, jW_t 189 (by decide +kernel) rfl⟩
theorem fl_X7_206 : j_fl vwCl RX7 206 5 4 := ⟨RX5, TX5, 8, rfl, by decide, inW_X5, jW_t 215 (by decide +kernel) rfl⟩
theorem fl_X7_209 : j_fl vwCl RX7 209 5 3 := ⟨RX5, TX5, 8, rfl, by decide, inW_X5, jW_t 213 (by decide +kernel) rfl⟩
theorem fl_X7_212 : j_fl vwCl RX7 212 5 2 := ⟨RX5, TX5, 8, rfl, by decide, inW_X5, jW_t 211 (by decide +kernel) rfl⟩
theorem fl_X7_227 : j_fl vwCl RX7 227 1 3 := ⟨RX1, TX1, 4, rfl, by decide, inW_X1, jW_t 247 (by decide +kernel) rfl⟩
theorem fl_X7_228 : j_fl vwCl RX7 228 1 2 := ⟨RX1, TX1, 4, rfl, by decide, inW_X1, jW_t 245 (by decide +kernel) rfl⟩
theorem fl_X7_285 : j_fl vwCl RX7 285 6 0 := ⟨RX6, TX6, 9, rfl, by decide, inW_X6, jW_t 34 (by decide +kernel) rfl⟩
theorem fl_X7_288 : j_fl vwCl RX7 288 6 2 := ⟨RX6, TX6, 9, rfl, by decide, inW_X6, jW_t 46 (by decide +kernel) rfl⟩
theorem fl_X8_7 : j_fl vwCl RX8 7 8 1 := ⟨RX8, TX8, 29, rfl, by decide, inW_X8, jW_t 731 (by decide +kernel) rfl⟩
theorem fl_X8_13 : j_fl vwCl RX8 13 8 10 := ⟨RX8, TX8, 29, rfl, by decide, inW_X8, jW_t 740 (by decide +kernel) rfl⟩
theorem fl_X8_16 : j_fl vwCl RX8 16 8 12 := ⟨RX8, TX8, 29, rfl, by decide, inW_X8, jW_t 742 (by decide +kernel) rfl⟩
theorem fl_X8_19 : j_fl vwCl RX8 19 8 13 := ⟨RX8, TX8, 29, rfl, by decide, inW_X8, jW_t 743 (by decide +kernel) rfl⟩
theorem fl_X8_23 : j_fl vwCl RX8 23 8 14 := ⟨RX8, TX8, 29, rfl, by decide, inW_X8, jW_t 744 (by decide +kernel) rfl⟩
theorem fl_X8_26 : j_fl vwCl RX8 26 8 16 := ⟨RX8, TX8, 29, rfl, by decide, inW_X8, jW_t 746 (by decide +kernel) rfl⟩
theorem fl_X8_29 : j_fl vwCl RX8 29 8 17 := ⟨RX8, TX8, 29, rfl, by decide, inW_X8, jW_t 747 (by decide +kernel) rfl⟩
theorem fl_X8_32 : j_fl vwCl RX8 32 8 18 := ⟨RX8, TX8, 29, rfl, by decide, inW_X8, jW_t 748 (by decide +kernel) rfl⟩
theorem fl_X8_35 : j_fl vwCl RX8 35 8 19 := ⟨RX8, TX8, 29, rfl, by decide, inW_X8, jW_t 749 (by decide +kernel) rfl⟩
theorem fl_X8_38 : j_fl vwCl RX8 38 8 20 := ⟨RX8, TX8, 29, rfl, by decide, inW_X8, jW_t 750 (by decide +kernel) rfl⟩
theorem fl_X8_42 : j_fl vwCl RX8 42 8 21 := ⟨RX8, TX8, 29, rfl, by decide, inW_X8, jW_t 751 (by decide +kernel) rfl⟩
theorem fl_X8_45 : j_fl vwCl RX8 45 8 23 := ⟨RX8, TX8, 29, rfl, by decide, inW_X8, jW_t 753 (by decide +kernel) rfl⟩
theorem fl_X8_48 : j_fl vwCl RX8 48 8 24 := ⟨RX8, TX8, 29, rfl, by decide, inW_X8, jW_t 754 (by decide +kernel) rfl⟩
theorem fl_X8_51 : j_fl vwCl RX8 51 8 25 := ⟨RX8, TX8, 29, rfl, by decide, inW_X8, jW_t 755 (by decide +kernel) rfl⟩
theorem fl_X8_57 : j_fl vwCl RX8 57 8 15 := ⟨RX8, TX8, 29, rfl, by decide, inW_X8, jW_t 745 (by decide +kernel) rfl⟩
theorem fl_X8_60 : j_fl vwCl RX8 60 8 22 := ⟨RX8, TX8, 29, rfl, by decide, inW_X8, jW_t 752 (by decide +kernel) rfl⟩
theorem fl_X8_67 : j_fl vwCl RX8 67 8 0 := ⟨RX8, TX8, 29, rfl, by decide, inW_X8, jW_t 730 (by decide +kernel) rfl⟩
theorem fl_X8_70 : j_fl vwCl RX8 70 8 2 := ⟨RX8, TX8, 29, rfl, by decide, inW_X8, jW_t 732 (by decide +kernel) rfl⟩
theorem fl_X8_73 : j_fl vwCl RX8 73 8 3 := ⟨RX8, TX8, 29, rfl, by decide, inW_X8, jW_t 733 (by decide +kernel) rfl⟩
theorem fl_X8_76 : j_fl vwCl RX8 76 8 5 := ⟨RX8, TX8, 29, rfl, by decide, inW_X8, jW_t 735 (by decide +kernel) rfl⟩
theorem fl_X8_79 : j_fl vwCl RX8 79 8 4 := ⟨RX8, TX8, 29, rfl, by decide, inW_X8, jW_t 734 (by decide +kernel) rfl⟩
theorem fl_X8_85 : j_fl vwCl RX8 85 8 7 := ⟨RX8, TX8, 29, rfl, by decide, inW_X8, jW_t 737 (by decide +kernel) rfl⟩
theorem fl_X8_96 : j_fl vwCl RX8 96 8 11 := ⟨RX8, TX8, 29, rfl, by decide, inW_X8, jW_t 741 (by decide +kernel) rfl⟩
theorem fl_X8_99 : j_fl vwCl RX8 99 8 6 := ⟨RX8, TX8, 29, rfl, by decide, inW_X8, jW_t 736 (by decide +kernel) rfl⟩
theorem fl_X8_102 : j_fl vwCl RX8 102 8 9 := ⟨RX8, TX8, 29, rfl, by decide, inW_X8, jW_t 739 (by decide +kernel) rfl⟩
theorem fl_X8_106 : j_fl vwCl RX8 106 8 8 := ⟨RX8, TX8, 29, rfl, by decide, inW_X8, jW_t 738 (by decide +kernel) rfl⟩
theorem fl_X8_194 : j_fl vwCl RX8 194 8 27 := ⟨RX8, TX8, 29, rfl, by decide, inW_X8, jW_t 756 (by decide +kernel) rfl⟩
theorem fl_X8_223 : j_fl vwCl RX8 223 8 28 := ⟨RX8, TX8, 29, rfl, by decide, inW_X8, jW_t 757 (by decide +kernel) rfl⟩
theorem fp_X0_15 : j_fp vwCl RX0 15 0 3 .int := ⟨RX0, TX0, 5, tyX0, rfl, by decide, inW_X0, jW_t 186 (by decide +kernel) rfl, tyX0_ok, nmX0, rfl, tyX0_ok 3 (by decide)⟩
theorem fp_X0_40 : j_fp vwCl RX0 40 0 4 .boolean := ⟨RX0, TX0, 5, tyX0, rfl, by decide, inW_X0, jW_t 188 (by decide +kernel) rfl, tyX0_ok, nmX0, rfl, tyX0_ok 4 (by decide)⟩
theorem fp_X1_52 : j_fp vwCl RX1 52 1 3 .int := ⟨RX1, TX1, 4, tyX1, rfl, by decide, inW_X1, jW_t 246 (by decide +kernel) rfl, tyX1_ok, nmX1, rfl, tyX1_ok 3 (by decide)⟩
theorem fp_X2_28 : j_fp vwCl RX2 28 2 1 .int := ⟨RX2, TX2, 6, tyX2, rfl, by decide, inW_X2, jW_t 132 (by decide +kernel) rfl, tyX2_ok, nmX2, rfl, tyX2_ok 1 (by decide)⟩
theorem fp_X3_15 : j_fp vwCl RX3 15 3 1 .int := ⟨RX3, TX3, 3, tyX3, rfl, by decide, inW_X3, jW_t 164 (by decide +kernel) rfl, tyX3_ok, nmX3, rfl, tyX3_ok 1 (by decide)⟩
theorem fp_X3_19 : j_fp vwCl RX3 19 3 2 .int := ⟨RX3, TX3, 3, tyX3, rfl, by decide, inW_X3, jW_t 165 (by decide +kernel) rfl, tyX3_ok, nmX3, rfl, tyX3_ok 2 (by decide)⟩
theorem fp_X4_28 : j_fp vwCl RX4 28 4 2 .int := ⟨RX4, TX4, 7, tyX4, rfl, by decide, inW_X4, jW_t 105 (by decide +kernel) rfl, tyX4_ok, nmX4, rfl, tyX4_ok 2 (by decide)⟩
theorem fp_X4_32 : j_fp vwCl RX4 32 4 3 .int := ⟨RX4, TX4, 7, tyX4, rfl, by decide, inW_X4, jW_t 106 (by decide +kernel) rfl, tyX4_ok, nmX4, rfl, tyX4_ok 3 (by decide)⟩
theorem fp_X4_35 : j_fp vwCl RX4 35 4 4 .int := ⟨RX4, TX4, 7, tyX4, rfl, by decide, inW_X4, jW_t 107 (by decide +kernel) rfl, tyX4_ok, nmX4, rfl, tyX4_ok 4 (by decide)⟩
theorem fp_X4_38 : j_fp vwCl RX4 38 4 5 .int := ⟨RX4, TX4, 7, tyX4, rfl, by decide, inW_X4, jW_t 108 (by decide +kernel) rfl, tyX4_ok, nmX4, rfl, tyX4_ok 5 (by decide)⟩
theorem fp_X4_41 : j_fp vwCl RX4 41 4 6 .boolean := ⟨RX4, TX4, 7, tyX4, rfl, by decide, inW_X4, jW_t 109 (by decide +kernel) rfl, tyX4_ok, nmX4, rfl, tyX4_ok 6 (by decide)⟩
theorem fp_X4_67 : j_fp vwCl RX4 67 6 2 .int := ⟨RX6, TX6, 9, tyX6, rfl, by decide, inW_X6, jW_t 45 (by decide +kernel) rfl, tyX6_ok, nmX6, rfl, tyX6_ok 2 (by decide)⟩
theorem fp_X4_84 : j_fp vwCl RX4 84 6 0 .int := ⟨RX6, TX6, 9, tyX6, rfl, by decide, inW_X6, jW_t 33 (by decide +kernel) rfl, tyX6_ok, nmX6, rfl, tyX6_ok 0 (by decide)⟩
theorem fp_X4_87 : j_fp vwCl RX4 87 6 1 .int := ⟨RX6, TX6, 9, tyX6, rfl, by decide, inW_X6, jW_t 37 (by decide +kernel) rfl, tyX6_ok, nmX6, rfl, tyX6_ok 1 (by decide)⟩
theorem fp_X5_38 : j_fp vwCl RX5 38 5 4 .int := ⟨RX5, TX5, 8, tyX5, rfl, by decide, inW_X5, jW_t 214 (by decide +kernel) rfl, tyX5_ok, nmX5, rfl, tyX5_ok 4 (by decide)⟩
theorem fp_X5_46 : j_fp vwCl RX5 46 5 3 .int := ⟨RX5, TX5, 8, tyX5, rfl, by decide, inW_X5, jW_t 212 (by decide +kernel) rfl, tyX5_ok, nmX5, rfl, tyX5_ok 3 (by decide)⟩
theorem fp_X6_33 : j_fp vwCl RX6 33 6 0 .int := ⟨RX6, TX6, 9, tyX6, rfl, by decide, inW_X6, jW_t 31 (by decide +kernel) rfl, tyX6_ok, nmX6, rfl, tyX6_ok 0 (by decide)⟩
theorem fp_X6_37 : j_fp vwCl RX6 37 6 1 .int := ⟨RX6, TX6, 9, tyX6, rfl, by decide, inW_X6, jW_t 35 (by decide +kernel) rfl, tyX6_ok, nmX6, rfl, tyX6_ok 1 (by decide)⟩
theorem fp_X6_40 : j_fp vwCl RX6 40 6 2 .int := ⟨RX6, TX6, 9, tyX6, rfl, by decide, inW_X6, jW_t 41 (by decide +kernel) rfl, tyX6_ok, nmX6, rfl, tyX6_ok 2 (by decide)⟩
theorem fp_X7_73 : j_fp vwCl RX7 73 7 10 .int := ⟨RX7, TX7, 12, tyX7, rfl, by decide, inW_X7, jW_t 278 (by decide +kernel) rfl, tyX7_ok, nmX7, rfl, tyX7_ok 10 (by decide)⟩
theorem fp_X7_77 : j_fp vwCl RX7 77 7 11 .long := ⟨RX7, TX7, 12, tyX7, rfl, by decide, inW_X7, jW_t 279 (by decide +kernel) rfl, tyX7_ok, nmX7, rfl, tyX7_ok 11 (by decide)⟩
theorem fp_X8_19 : j_fp vwCl RX8 19 8 13 .int := ⟨RX8, TX8, 29, tyX8, rfl, by decide, inW_X8, jW_t 743 (by decide +kernel) rfl, tyX8_ok, nmX8, rfl, tyX8_ok 13 (by decide)⟩
theorem fp_X8_23 : j_fp vwCl RX8 23 8 14 .int := ⟨RX8, TX8, 29, tyX8, rfl, by decide, inW_X8, jW_t 744 (by decide +kernel) rfl, tyX8_ok, nmX8, rfl, tyX8_ok 14 (by decide)⟩
theorem fp_X8_57 : j_fp vwCl RX8 57 8 15 .int := ⟨RX8, TX8, 29, tyX8, rfl, by decide, inW_X8, jW_t 745 (by decide +kernel) rfl, tyX8_ok, nmX8, rfl, tyX8_ok 15 (by decide)⟩
theorem fp_X8_60 : j_fp vwCl RX8 60 8 22 .int := ⟨RX8, TX8, 29, tyX8, rfl, by decide, inW_X8, jW_t 752 (by decide +kernel) rfl, tyX8_ok, nmX8, rfl, tyX8_ok 22 (by decide)⟩
theorem fp_X8_67 : j_fp vwCl RX8 67 8 0 .int := ⟨RX8, TX8, 29, tyX8, rfl, by decide, inW_X8, jW_t 730 (by decide +kernel) rfl, tyX8_ok, nmX8, rfl, tyX8_ok 0 (by decide)⟩
theorem fp_X8_70 : j_fp vwCl RX8 70 8 2 .int := ⟨RX8, TX8, 29, tyX8, rfl, by decide, inW_X8, jW_t 732 (by decide +kernel) rfl, tyX8_ok, nmX8, rfl, tyX8_ok 2 (by decide)⟩
theorem fp_X8_73 : j_fp vwCl RX8 73 8 3 .int := ⟨RX8, TX8, 29, tyX8, rfl, by decide, inW_X8, jW_t 733 (by decide +kernel) rfl, tyX8_ok, nmX8, rfl, tyX8_ok 3 (by decide)⟩
theorem fp_X8_76 : j_fp vwCl RX8 76 8 5 .int := ⟨RX8, TX8, 29, tyX8, rfl, by decide, inW_X8, jW_t 735 (by decide +kernel) rfl, tyX8_ok, nmX8, rfl, tyX8_ok 5 (by decide)⟩
theorem fp_X8_79 : j_fp vwCl RX8 79 8 4 .int := ⟨RX8, TX8, 29, tyX8, rfl, by decide, inW_X8, jW_t 734 (by decide +kernel) rfl, tyX8_ok, nmX8, rfl, tyX8_ok 4 (by decide)⟩
theorem fp_X8_85 : j_fp vwCl RX8 85 8 7 .int := ⟨RX8, TX8, 29, tyX8, rfl, by decide, inW_X8, jW_t 737 (by decide +kernel) rfl, tyX8_ok, nmX8, rfl, tyX8_ok 7 (by decide)⟩
theorem fp_X8_96 : j_fp vwCl RX8 96 8 11 .int := ⟨RX8, TX8, 29, tyX8, rfl, by decide, inW_X8, jW_t 741 (by decide +kernel) rfl, tyX8_ok, nmX8, rfl, tyX8_ok 11 (by decide)⟩
theorem fp_X8_99 : j_fp vwCl RX8 99 8 6 .int := ⟨RX8, TX8, 29, tyX8, rfl, by decide, inW_X8, jW_t 736 (by decide +kernel) rfl, tyX8_ok, nmX8, rfl, tyX8_ok 6 (by decide)⟩
theorem fp_X8_102 : j_fp vwCl RX8 102 8 9 .boolean := ⟨RX8, TX8, 29, tyX8, rfl, by decide, inW_X8, jW_t 739 (by decide +kernel) rfl, tyX8_ok, nmX8, rfl, tyX8_ok 9 (by decide)⟩
theorem fp_X8_106 : j_fp vwCl RX8 106 8 8 .int := ⟨RX8, TX8, 29, tyX8, rfl, by decide, inW_X8, jW_t 738 (by decide +kernel) rfl, tyX8_ok, nmX8, rfl, tyX8_ok 8 (by decide)⟩
theorem fp_X8_194 : j_fp vwCl RX8 194 8 27 .int := ⟨RX8, TX8, 29, tyX8, rfl, by decide, inW_X8, jW_t 756 (by decide +kernel) rfl, tyX8_ok, nmX8, rfl, tyX8_ok 27 (by decide)⟩
theorem fp_X8_223 : j_fp vwCl RX8 223 8 28 .long := ⟨RX8, TX8, 29, tyX8, rfl, by decide, inW_X8, jW_t 757 (by decide +kernel) rfl, tyX8_ok, nmX8, rfl, tyX8_ok 28 (by decide)⟩
abbrev M_X0_init : jM := (yX0_init, cX0_init, 2, none, { frames := 2, cells := 0, slots := 0, locals := 41 })
abbrev M_X0_go : jM := (yX0_go, cX0_go, 7, none, { frames := 5, cells := 0, slots := 0, locals := 112 })
abbrev M_X0_sort : jM := (yX0_sort, cX0_sort, 4, none, { frames := 1, cells := 0, slots := 0, locals := 22 })
abbrev M_X0_key : jM := (yX0_key, cX0_key, 3, (some .int), { frames := 0, cells := 0, slots := 0, locals := 0 })
abbrev M_X0_plugAll : jM := (yX0_plugAll, cX0_plugAll, 3, none, { frames := 4, cells := 0, slots := 0, locals := 90 })
abbrev M_X0_lowest : jM := (yX0_lowest, cX0_lowest, 2, (some .int), { frames := 0, cells := 0, slots := 0, locals := 0 })
abbrev M_X1_init : jM := (yX1_init, cX1_init, 2, none, { frames := 1, cells := 0, slots := 0, locals := 20 })
abbrev M_X1_inAll : jM := (yX1_inAll, cX1_inAll, 4, (some .int), { frames := 2, cells := 0, slots := 0, locals := 46 })
abbrev M_X1_bestExchange : jM := (yX1_bestExchange, cX1_bestExchange, 7, (some .int), { frames := 3, cells := 0, slots := 0, locals := 69 })
abbrev M_X1_find : jM := (yX1_find, cX1_find, 3, none, { frames := 3, cells := 0, slots := 0, locals := 69 })
abbrev M_X2_init : jM := (yX2_init, cX2_init, 2, none, { frames := 1, cells := 0, slots := 0, locals := 20 })
abbrev M_X2_begin : jM := (yX2_begin, cX2_begin, 2, none, { frames := 1, cells := 0, slots := 0, locals := 40 })
abbrev M_X2_letFall : jM := (yX2_letFall, cX2_letFall, 2, none, { frames := 0, cells := 0, slots := 0, locals := 0 })
abbrev M_X2_those : jM := (yX2_those, cX2_those, 4, (some .int), { frames := 0, cells := 0, slots := 0, locals := 0 })
abbrev M_X2_engagedBy : jM := (yX2_engagedBy, cX2_engagedBy, 3, (some .int), { frames := 0, cells := 0, slots := 0, locals := 0 })
abbrev M_X2_linesFree : jM := (yX2_linesFree, cX2_linesFree, 4, (some .boolean), { frames := 1, cells := 0, slots := 0, locals := 22 })
abbrev M_X2_hasRoom : jM := (yX2_hasRoom, cX2_hasRoom, 4, (some .boolean), { frames := 2, cells := 0, slots := 0, locals := 45 })
abbrev M_X2_canBePlugged : jM := (yX2_canBePlugged, cX2_canBePlugged, 3, (some .boolean), { frames := 3, cells := 0, slots := 0, locals := 68 })
abbrev M_X2_lacksCord : jM := (yX2_lacksCord, cX2_lacksCord, 4, (some .boolean), { frames := 2, cells := 0, slots := 0, locals := 45 })
abbrev M_X2_plug : jM := (yX2_plug, cX2_plug, 2, none, { frames := 0, cells := 0, slots := 0, locals := 0 })
abbrev M_X2_pull : jM := (yX2_pull, cX2_pull, 2, none, { frames := 0, cells := 0, slots := 0, locals := 0 })
abbrev M_X2_passMinute : jM := (yX2_passMinute, cX2_passMinute, 2, none, { frames := 1, cells := 0, slots := 0, locals := 21 })
abbrev M_X2_waitedOf : jM := (yX2_waitedOf, cX2_waitedOf, 2, (some .int), { frames := 1, cells := 0, slots := 0, locals := 24 })
abbrev M_X2_leftOf : jM := (yX2_leftOf, cX2_leftOf, 2, (some .int), { frames := 1, cells := 0, slots := 0, locals := 24 })
abbrev M_X2_sumOf : jM := (yX2_sumOf, cX2_sumOf, 5, (some .int), { frames := 0, cells := 0, slots := 0, locals := 0 })
abbrev M_X2_leastCut : jM := (yX2_leastCut, cX2_leastCut, 6, (some .int), { frames := 3, cells := 0, slots := 0, locals := 68 })
abbrev M_X2_cutsLess : jM := (yX2_cutsLess, cX2_cutsLess, 4, (some .boolean), { frames := 2, cells := 0, slots := 0, locals := 45 })
abbrev M_X2_cross : jM := (yX2_cross, cX2_cross, 3, (some .boolean), { frames := 2, cells := 0, slots := 0, locals := 48 })
abbrev M_X2_isBetween : jM := (yX2_isBetween, cX2_isBetween, 5, (some .boolean), { frames := 1, cells := 0, slots := 0, locals := 24 })
abbrev M_X2_crossedBy : jM := (yX2_crossedBy, cX2_crossedBy, 4, (some .int), { frames := 3, cells := 0, slots := 0, locals := 70 })
abbrev M_X2_crossings : jM := (yX2_crossings, cX2_crossings, 3, (some .int), { frames := 4, cells := 0, slots := 0, locals := 93 })
abbrev M_X2_save : jM := (yX2_save, cX2_save, 4, none, { frames := 1, cells := 0, slots := 0, locals := 40 })
abbrev M_X2_load : jM := (yX2_load, cX2_load, 4, none, { frames := 1, cells := 0, slots := 0, locals := 40 })
abbrev M_X2_become : jM := (yX2_become, cX2_become, 2, none, { frames := 1, cells := 0, slots := 0, locals := 40 })
abbrev M_X3_init : jM := (yX3_init, cX3_init, 1, none, { frames := 1, cells := 0, slots := 0, locals := 20 })
abbrev M_X3_add : jM := (yX3_add, cX3_add, 2, none, { frames := 2, cells := 0, slots := 0, locals := 63 })
abbrev M_X3_takeBack : jM := (yX3_takeBack, cX3_takeBack, 2, none, { frames := 2, cells := 0, slots := 0, locals := 63 })
abbrev M_X3_forget : jM := (yX3_forget, cX3_forget, 1, none, { frames := 0, cells := 0, slots := 0, locals := 0 })
abbrev M_X4_init : jM := (yX4_init, cX4_init, 2, none, { frames := 2, cells := 0, slots := 0, locals := 41 })
abbrev M_X4_read : jM := (yX4_read, cX4_read, 3, (some .int), { frames := 4, cells := 0, slots := 0, locals := 95 })
abbrev M_X4_readItem : jM := (yX4_readItem, cX4_readItem, 3, none, { frames := 3, cells := 0, slots := 0, locals := 73 })
abbrev M_X4_readLines : jM := (yX4_readLines, cX4_readLines, 1, none, { frames := 2, cells := 0, slots := 0, locals := 51 })
abbrev M_X4_readCords : jM := (yX4_readCords, cX4_readCords, 1, none, { frames := 2, cells := 0, slots := 0, locals := 51 })
abbrev M_X4_readHole : jM := (yX4_readHole, cX4_readHole, 3, none, { frames := 2, cells := 0, slots := 0, locals := 51 })
abbrev M_X4_readCall : jM := (yX4_readCall, cX4_readCall, 2, none, { frames := 2, cells := 0, slots := 0, locals := 51 })
abbrev M_X4_readNumber : jM := (yX4_readNumber, cX4_readNumber, 8, (some .int), { frames := 1, cells := 0, slots := 0, locals := 24 })
abbrev M_X4_readEnd : jM := (yX4_readEnd, cX4_readEnd, 1, none, { frames := 1, cells := 0, slots := 0, locals := 21 })
abbrev M_X4_skipBlanks : jM := (yX4_skipBlanks, cX4_skipBlanks, 1, none, { frames := 0, cells := 0, slots := 0, locals := 0 })
abbrev M_X4_letterHere : jM := (yX4_letterHere, cX4_letterHere, 1, (some .int), { frames := 0, cells := 0, slots := 0, locals := 0 })
abbrev M_X4_isDigit : jM := (yX4_isDigit, cX4_isDigit, 1, (some .boolean), { frames := 0, cells := 0, slots := 0, locals := 0 })
abbrev M_X4_failAt : jM := (yX4_failAt, cX4_failAt, 2, none, { frames := 0, cells := 0, slots := 0, locals := 0 })
abbrev M_X5_init : jM := (yX5_init, cX5_init, 2, none, { frames := 1, cells := 0, slots := 0, locals := 20 })
abbrev M_X5_find : jM := (yX5_find, cX5_find, 4, none, { frames := 2, cells := 0, slots := 0, locals := 66 })
abbrev M_X5_prepare : jM := (yX5_prepare, cX5_prepare, 3, none, { frames := 0, cells := 0, slots := 0, locals := 0 })
abbrev M_X5_waitsFor : jM := (yX5_waitsFor, cX5_waitsFor, 7, (some .int), { frames := 1, cells := 0, slots := 0, locals := 40 })
abbrev M_X5_plugAlong : jM := (yX5_plugAlong, cX5_plugAlong, 7, (some .int), { frames := 0, cells := 0, slots := 0, locals := 0 })
abbrev M_X5_nextEnd : jM := (yX5_nextEnd, cX5_nextEnd, 4, (some .int), { frames := 0, cells := 0, slots := 0, locals := 0 })
abbrev M_X6_init : jM := (yX6_init, cX6_init, 1, none, { frames := 1, cells := 0, slots := 0, locals := 21 })
abbrev M_X6_asAtFirst : jM := (yX6_asAtFirst, cX6_asAtFirst, 2, none, { frames := 0, cells := 0, slots := 0, locals := 0 })
abbrev M_X6_hasLine : jM := (yX6_hasLine, cX6_hasLine, 2, (some .boolean), { frames := 0, cells := 0, slots := 0, locals := 0 })
abbrev M_X6_hasCall : jM := (yX6_hasCall, cX6_hasCall, 2, (some .boolean), { frames := 0, cells := 0, slots := 0, locals := 0 })
abbrev M_X6_giveHole : jM := (yX6_giveHole, cX6_giveHole, 4, none, { frames := 0, cells := 0, slots := 0, locals := 0 })
abbrev M_X6_shareLine : jM := (yX6_shareLine, cX6_shareLine, 3, (some .boolean), { frames := 0, cells := 0, slots := 0, locals := 0 })
abbrev M_X6_fallingAt : jM := (yX6_fallingAt, cX6_fallingAt, 4, (some .int), { frames := 0, cells := 0, slots := 0, locals := 0 })
abbrev M_X6_apart : jM := (yX6_apart, cX6_apart, 3, (some .int), { frames := 1, cells := 0, slots := 0, locals := 24 })
abbrev M_X6_become : jM := (yX6_become, cX6_become, 2, none, { frames := 1, cells := 0, slots := 0, locals := 40 })
abbrev M_X7_init : jM := (yX7_init, cX7_init, 1, none, { frames := 3, cells := 0, slots := 0, locals := 62 })
abbrev M_X7_type : jM := (yX7_type, cX7_type, 2, (some .int), { frames := 0, cells := 0, slots := 0, locals := 0 })
abbrev M_X7_clear : jM := (yX7_clear, cX7_clear, 2, (some .int), { frames := 0, cells := 0, slots := 0, locals := 0 })
abbrev M_X7_board : jM := (yX7_board, cX7_board, 3, (some .int), { frames := 5, cells := 0, slots := 0, locals := 117 })
abbrev M_X7_line : jM := (yX7_line, cX7_line, 3, (some .int), { frames := 1, cells := 0, slots := 0, locals := 22 })
abbrev M_X7_call : jM := (yX7_call, cX7_call, 3, (some .int), { frames := 1, cells := 0, slots := 0, locals := 21 })
abbrev M_X7_now : jM := (yX7_now, cX7_now, 2, (some .int), { frames := 5, cells := 0, slots := 0, locals := 115 })
abbrev M_X7_freeCords : jM := (yX7_freeCords, cX7_freeCords, 1, (some .int), { frames := 1, cells := 0, slots := 0, locals := 23 })
abbrev M_X7_minute : jM := (yX7_minute, cX7_minute, 1, (some .int), { frames := 3, cells := 0, slots := 0, locals := 84 })
abbrev M_X7_plugs : jM := (yX7_plugs, cX7_plugs, 2, (some .int), { frames := 4, cells := 0, slots := 0, locals := 90 })
abbrev M_X7_pulls : jM := (yX7_pulls, cX7_pulls, 3, (some .int), { frames := 3, cells := 0, slots := 0, locals := 84 })
abbrev M_X7_swaps : jM := (yX7_swaps, cX7_swaps, 3, (some .int), { frames := 3, cells := 0, slots := 0, locals := 84 })
abbrev M_X7_undo : jM := (yX7_undo, cX7_undo, 1, (some .int), { frames := 3, cells := 0, slots := 0, locals := 84 })
abbrev M_X7_byRule : jM := (yX7_byRule, cX7_byRule, 4, (some .int), { frames := 6, cells := 0, slots := 0, locals := 138 })
abbrev M_X7_enough : jM := (yX7_enough, cX7_enough, 3, (some .int), { frames := 6, cells := 0, slots := 0, locals := 138 })
abbrev M_X7_isRule : jM := (yX7_isRule, cX7_isRule, 1, (some .boolean), { frames := 0, cells := 0, slots := 0, locals := 0 })
abbrev M_X7_bestRow : jM := (yX7_bestRow, cX7_bestRow, 2, (some .int), { frames := 3, cells := 0, slots := 0, locals := 89 })
abbrev M_X7_cutFor : jM := (yX7_cutFor, cX7_cutFor, 2, (some .int), { frames := 4, cells := 0, slots := 0, locals := 93 })
abbrev M_X7_longCords : jM := (yX7_longCords, cX7_longCords, 1, (some .int), { frames := 3, cells := 0, slots := 0, locals := 69 })
abbrev M_X7_change : jM := (yX7_change, cX7_change, 1, (some .int), { frames := 4, cells := 0, slots := 0, locals := 95 })
abbrev M_X7_bestHoles : jM := (yX7_bestHoles, cX7_bestHoles, 2, (some .int), { frames := 4, cells := 0, slots := 0, locals := 91 })
abbrev M_X7_atOnce : jM := (yX7_atOnce, cX7_atOnce, 6, (some .int), { frames := 1, cells := 0, slots := 0, locals := 23 })
abbrev M_X7_under : jM := (yX7_under, cX7_under, 2, (some .int), { frames := 4, cells := 0, slots := 0, locals := 93 })
abbrev M_X7_odds : jM := (yX7_odds, cX7_odds, 7, (some .int), { frames := 2, cells := 0, slots := 0, locals := 44 })
abbrev M_X7_tenthsFree : jM := (yX7_tenthsFree, cX7_tenthsFree, 4, (some .int), { frames := 1, cells := 0, slots := 0, locals := 21 })
abbrev M_X7_commonDivisor : jM := (yX7_commonDivisor, cX7_commonDivisor, 2, (some .int), { frames := 0, cells := 0, slots := 0, locals := 0 })
abbrev M_X7_rate : jM := (yX7_rate, cX7_rate, 3, (some .int), { frames := 3, cells := 0, slots := 0, locals := 67 })
abbrev M_X7_asCall : jM := (yX7_asCall, cX7_asCall, 2, (some .int), { frames := 0, cells := 0, slots := 0, locals := 0 })
abbrev M_X7_asDoctor : jM := (yX7_asDoctor, cX7_asDoctor, 2, (some .int), { frames := 1, cells := 0, slots := 0, locals := 21 })
abbrev M_X7_asGossip : jM := (yX7_asGossip, cX7_asGossip, 2, (some .int), { frames := 1, cells := 0, slots := 0, locals := 21 })
abbrev M_X7_asFire : jM := (yX7_asFire, cX7_asFire, 2, (some .int), { frames := 2, cells := 0, slots := 0, locals := 42 })
abbrev M_X7_asWife : jM := (yX7_asWife, cX7_asWife, 2, (some .int), { frames := 2, cells := 0, slots := 0, locals := 42 })
abbrev M_X7_asWrong : jM := (yX7_asWrong, cX7_asWrong, 2, (some .int), { frames := 2, cells := 0, slots := 0, locals := 46 })
abbrev M_X7_keep : jM := (yX7_keep, cX7_keep, 2, (some .int), { frames := 2, cells := 0, slots := 0, locals := 63 })
abbrev M_X7_back : jM := (yX7_back, cX7_back, 2, (some .int), { frames := 2, cells := 0, slots := 0, locals := 63 })
abbrev M_X7_isImage : jM := (yX7_isImage, cX7_isImage, 1, (some .boolean), { frames := 0, cells := 0, slots := 0, locals := 0 })
abbrev M_X7_count : jM := (yX7_count, cX7_count, 2, (some .int), { frames := 0, cells := 0, slots := 0, locals := 0 })
abbrev M_X7_trace : jM := (yX7_trace, cX7_trace, 1, (some .long), { frames := 0, cells := 0, slots := 0, locals := 0 })
abbrev M_X7_exchange : jM := (yX7_exchange, cX7_exchange, 4, none, { frames := 0, cells := 0, slots := 0, locals := 0 })
abbrev M_X7_nextRow : jM := (yX7_nextRow, cX7_nextRow, 6, (some .boolean), { frames := 1, cells := 0, slots := 0, locals := 23 })
abbrev M_X8_init : jM := (yX8_init, cX8_init, 2, none, { frames := 1, cells := 0, slots := 0, locals := 21 })
abbrev M_X8_in : jM := (yX8_in, cX8_in, 3, (some .boolean), { frames := 0, cells := 0, slots := 0, locals := 0 })
abbrev M_X8_has : jM := (yX8_has, cX8_has, 2, (some .boolean), { frames := 0, cells := 0, slots := 0, locals := 0 })
abbrev M_X8_begin : jM := (yX8_begin, cX8_begin, 2, none, { frames := 0, cells := 0, slots := 0, locals := 0 })
abbrev M_X8_isLine : jM := (yX8_isLine, cX8_isLine, 2, (some .boolean), { frames := 1, cells := 0, slots := 0, locals := 22 })
abbrev M_X8_isCall : jM := (yX8_isCall, cX8_isCall, 2, (some .boolean), { frames := 1, cells := 0, slots := 0, locals := 22 })
abbrev M_X8_type : jM := (yX8_type, cX8_type, 2, (some .int), { frames := 1, cells := 0, slots := 0, locals := 22 })
abbrev M_X8_clear : jM := (yX8_clear, cX8_clear, 2, (some .int), { frames := 0, cells := 0, slots := 0, locals := 0 })
abbrev M_X8_nextToken : jM := (yX8_nextToken, cX8_nextToken, 1, none, { frames := 1, cells := 0, slots := 0, locals := 22 })
abbrev M_X8_isNumber : jM := (yX8_isNumber, cX8_isNumber, 3, (some .boolean), { frames := 2, cells := 0, slots := 0, locals := 42 })
abbrev M_X8_isEnd : jM := (yX8_isEnd, cX8_isEnd, 1, (some .boolean), { frames := 2, cells := 0, slots := 0, locals := 42 })
abbrev M_X8_isHole : jM := (yX8_isHole, cX8_isHole, 3, (some .boolean), { frames := 3, cells := 0, slots := 0, locals := 64 })
abbrev M_X8_isCallItem : jM := (yX8_isCallItem, cX8_isCallItem, 4, (some .boolean), { frames := 3, cells := 0, slots := 0, locals := 64 })
abbrev M_X8_isItem : jM := (yX8_isItem, cX8_isItem, 1, (some .boolean), { frames := 4, cells := 0, slots := 0, locals := 87 })
abbrev M_X8_isRead : jM := (yX8_isRead, cX8_isRead, 2, (some .boolean), { frames := 5, cells := 0, slots := 0, locals := 107 })
abbrev M_X8_board : jM := (yX8_board, cX8_board, 2, (some .int), { frames := 6, cells := 0, slots := 0, locals := 128 })
abbrev M_X8_fromOf : jM := (yX8_fromOf, cX8_fromOf, 2, (some .int), { frames := 0, cells := 0, slots := 0, locals := 0 })
abbrev M_X8_toOf : jM := (yX8_toOf, cX8_toOf, 2, (some .int), { frames := 0, cells := 0, slots := 0, locals := 0 })
abbrev M_X8_isOn : jM := (yX8_isOn, cX8_isOn, 3, (some .boolean), { frames := 1, cells := 0, slots := 0, locals := 21 })
abbrev M_X8_talkerOn : jM := (yX8_talkerOn, cX8_talkerOn, 5, (some .int), { frames := 2, cells := 0, slots := 0, locals := 43 })
abbrev M_X8_setOf : jM := (yX8_setOf, cX8_setOf, 5, (some .int), { frames := 0, cells := 0, slots := 0, locals := 0 })
abbrev M_X8_bits : jM := (yX8_bits, cX8_bits, 3, (some .int), { frames := 0, cells := 0, slots := 0, locals := 0 })
abbrev M_X8_freeCords : jM := (yX8_freeCords, cX8_freeCords, 3, (some .int), { frames := 1, cells := 0, slots := 0, locals := 24 })
abbrev M_X8_areFree : jM := (yX8_areFree, cX8_areFree, 3, (some .boolean), { frames := 3, cells := 0, slots := 0, locals := 67 })
abbrev M_X8_canPlug : jM := (yX8_canPlug, cX8_canPlug, 4, (some .boolean), { frames := 4, cells := 0, slots := 0, locals := 89 })
abbrev M_X8_plug : jM := (yX8_plug, cX8_plug, 3, none, { frames := 0, cells := 0, slots := 0, locals := 0 })
abbrev M_X8_isBetween : jM := (yX8_isBetween, cX8_isBetween, 3, (some .boolean), { frames := 0, cells := 0, slots := 0, locals := 0 })
abbrev M_X8_holeOf : jM := (yX8_holeOf, cX8_holeOf, 2, (some .int), { frames := 0, cells := 0, slots := 0, locals := 0 })
abbrev M_X8_cross : jM := (yX8_cross, cX8_cross, 5, (some .boolean), { frames := 2, cells := 0, slots := 0, locals := 43 })
abbrev M_X8_crossed : jM := (yX8_crossed, cX8_crossed, 4, (some .int), { frames := 3, cells := 0, slots := 0, locals := 67 })
abbrev M_X8_line : jM := (yX8_line, cX8_line, 3, (some .int), { frames := 3, cells := 0, slots := 0, locals := 67 })
abbrev M_X8_call : jM := (yX8_call, cX8_call, 3, (some .int), { frames := 2, cells := 0, slots := 0, locals := 43 })
abbrev M_X8_now : jM := (yX8_now, cX8_now, 2, (some .int), { frames := 4, cells := 0, slots := 0, locals := 90 })
abbrev M_X8_copy : jM := (yX8_copy, cX8_copy, 5, none, { frames := 0, cells := 0, slots := 0, locals := 0 })
abbrev M_X8_note : jM := (yX8_note, cX8_note, 2, none, { frames := 1, cells := 0, slots := 0, locals := 24 })
abbrev M_X8_pass : jM := (yX8_pass, cX8_pass, 3, none, { frames := 0, cells := 0, slots := 0, locals := 0 })
abbrev M_X8_minute : jM := (yX8_minute, cX8_minute, 1, (some .int), { frames := 2, cells := 0, slots := 0, locals := 45 })
abbrev M_X8_plugs : jM := (yX8_plugs, cX8_plugs, 2, (some .int), { frames := 5, cells := 0, slots := 0, locals := 112 })
abbrev M_X8_pulls : jM := (yX8_pulls, cX8_pulls, 2, (some .int), { frames := 2, cells := 0, slots := 0, locals := 45 })
abbrev M_X8_swaps : jM := (yX8_swaps, cX8_swaps, 4, (some .int), { frames := 3, cells := 0, slots := 0, locals := 67 })
abbrev M_X8_undo : jM := (yX8_undo, cX8_undo, 1, (some .int), { frames := 1, cells := 0, slots := 0, locals := 24 })
abbrev M_X8_isAhead : jM := (yX8_isAhead, cX8_isAhead, 6, (some .boolean), { frames := 0, cells := 0, slots := 0, locals := 0 })
abbrev M_X8_layOrder : jM := (yX8_layOrder, cX8_layOrder, 5, none, { frames := 1, cells := 0, slots := 0, locals := 25 })
abbrev M_X8_plugAll : jM := (yX8_plugAll, cX8_plugAll, 5, none, { frames := 5, cells := 0, slots := 0, locals := 112 })
abbrev M_X8_byRule : jM := (yX8_byRule, cX8_byRule, 8, (some .int), { frames := 6, cells := 0, slots := 0, locals := 136 })
abbrev M_X8_isEnough : jM := (yX8_isEnough, cX8_isEnough, 4, (some .boolean), { frames := 6, cells := 0, slots := 0, locals := 136 })
abbrev M_X8_enough : jM := (yX8_enough, cX8_enough, 3, (some .int), { frames := 7, cells := 0, slots := 0, locals := 159 })
abbrev M_X8_waitedBy : jM := (yX8_waitedBy, cX8_waitedBy, 4, (some .int), { frames := 6, cells := 0, slots := 0, locals := 136 })
abbrev M_X8_nextRow : jM := (yX8_nextRow, cX8_nextRow, 9, (some .boolean), { frames := 0, cells := 0, slots := 0, locals := 0 })
abbrev M_X8_bestRow : jM := (yX8_bestRow, cX8_bestRow, 7, (some .int), { frames := 7, cells := 0, slots := 0, locals := 159 })
abbrev M_X8_cutFor : jM := (yX8_cutFor, cX8_cutFor, 8, (some .int), { frames := 5, cells := 0, slots := 0, locals := 112 })
abbrev M_X8_distance : jM := (yX8_distance, cX8_distance, 2, (some .int), { frames := 0, cells := 0, slots := 0, locals := 0 })
abbrev M_X8_longBy : jM := (yX8_longBy, cX8_longBy, 5, (some .int), { frames := 1, cells := 0, slots := 0, locals := 21 })
abbrev M_X8_longCords : jM := (yX8_longCords, cX8_longCords, 1, (some .int), { frames := 2, cells := 0, slots := 0, locals := 45 })
abbrev M_X8_change : jM := (yX8_change, cX8_change, 6, (some .int), { frames := 3, cells := 0, slots := 0, locals := 65 })
abbrev M_X8_bestHoles : jM := (yX8_bestHoles, cX8_bestHoles, 6, (some .int), { frames := 2, cells := 0, slots := 0, locals := 45 })
abbrev M_X8_atOnce : jM := (yX8_atOnce, cX8_atOnce, 7, (some .int), { frames := 1, cells := 0, slots := 0, locals := 22 })
abbrev M_X8_under : jM := (yX8_under, cX8_under, 4, (some .int), { frames := 3, cells := 0, slots := 0, locals := 67 })
abbrev M_X8_odds : jM := (yX8_odds, cX8_odds, 10, (some .int), { frames := 3, cells := 0, slots := 0, locals := 67 })
abbrev M_X8_rankOf : jM := (yX8_rankOf, cX8_rankOf, 2, (some .int), { frames := 0, cells := 0, slots := 0, locals := 0 })
abbrev M_X8_doctorOf : jM := (yX8_doctorOf, cX8_doctorOf, 2, (some .int), { frames := 1, cells := 0, slots := 0, locals := 21 })
abbrev M_X8_gossipOf : jM := (yX8_gossipOf, cX8_gossipOf, 2, (some .int), { frames := 1, cells := 0, slots := 0, locals := 21 })
abbrev M_X8_rate : jM := (yX8_rate, cX8_rate, 3, (some .int), { frames := 2, cells := 0, slots := 0, locals := 43 })
abbrev M_X8_keep : jM := (yX8_keep, cX8_keep, 2, (some .int), { frames := 1, cells := 0, slots := 0, locals := 24 })
abbrev M_X8_back : jM := (yX8_back, cX8_back, 2, (some .int), { frames := 1, cells := 0, slots := 0, locals := 24 })
abbrev M_X8_count : jM := (yX8_count, cX8_count, 2, (some .int), { frames := 0, cells := 0, slots := 0, locals := 0 })
abbrev M_X8_trace : jM := (yX8_trace, cX8_trace, 1, (some .long), { frames := 0, cells := 0, slots := 0, locals := 0 })
abbrev M_J6_bitCount_0f7a4 : jM := (yJ6_bitCount_0f7a4, cJ6_bitCount_0f7a4, 1, (some .int), { frames := 0, cells := 0, slots := 0, locals := 0 })
theorem mv_X0_32 : j_mv RX0 32 1 M_X2_become := ⟨jW_t 520 (by decide +kernel) rfl, jW_t 521 (by decide +kernel) rfl, jW_t 522 (by decide +kernel) rfl, jW_t 4 (by decide +kernel) rfl, jW_t 523 (by decide +kernel) rfl, by decide +kernel, by decide +kernel, by decide +kernel⟩
theorem mv_X0_36 : j_mv RX0 36 1 M_X0_sort := ⟨jW_t 524 (by decide +kernel) rfl, jW_t 526 (by decide +kernel) rfl, jW_s 16 (by decide +kernel) rfl, jW_t 6 (by decide +kernel) rfl, jW_t 527 (by decide +kernel) rfl, by decide +kernel, by decide +kernel, by decide +kernel⟩
theorem mv_X0_44 : j_mv RX0 44 1 M_X2_those := ⟨jW_t 532 (by decide +kernel) rfl, jW_t 406 (by decide +kernel) rfl, jW_t 407 (by decide +kernel) rfl, jW_t 4 (by decide +kernel) rfl, jW_t 408 (by decide +kernel) rfl, by decide +kernel, by decide +kernel, by decide +kernel⟩
theorem mv_X0_48 : j_mv RX0 48 1 M_X0_plugAll := ⟨jW_t 533 (by decide +kernel) rfl, jW_t 535 (by decide +kernel) rfl, jW_s 18 (by decide +kernel) rfl, jW_t 6 (by decide +kernel) rfl, jW_t 536 (by decide +kernel) rfl, by decide +kernel, by decide +kernel, by decide +kernel⟩
theorem mv_X0_51 : j_mv RX0 51 1 M_X2_lacksCord := ⟨jW_t 539 (by decide +kernel) rfl, jW_t 540 (by decide +kernel) rfl, jW_t 541 (by decide +kernel) rfl, jW_t 4 (by decide +kernel) rfl, jW_t 542 (by decide +kernel) rfl, by decide +kernel, by decide +kernel, by decide +kernel⟩
theorem mv_X0_54 : j_mv RX0 54 0 M_X2_passMinute := ⟨jW_t 543 (by decide +kernel) rfl, jW_t 458 (by decide +kernel) rfl, jW_t 459 (by decide +kernel) rfl, jW_t 4 (by decide +kernel) rfl, jW_t 460 (by decide +kernel) rfl, by decide +kernel, by decide +kernel, by decide +kernel⟩
theorem ms_X0_57 : j_ms RX0 57 1 M_X0_lowest := ⟨jW_t 544 (by decide +kernel) rfl, jW_t 545 (by decide +kernel) rfl, jW_t 6 (by decide +kernel) rfl, jW_t 546 (by decide +kernel) rfl, by decide +kernel, by decide +kernel, by decide +kernel⟩
theorem mv_X0_65 : j_mv RX0 65 2 M_X0_key := ⟨jW_t 528 (by decide +kernel) rfl, jW_t 530 (by decide +kernel) rfl, jW_s 17 (by decide +kernel) rfl, jW_t 6 (by decide +kernel) rfl, jW_t 531 (by decide +kernel) rfl, by decide +kernel, by decide +kernel, by decide +kernel⟩
theorem mv_X0_78 : j_mv RX0 78 2 M_X2_canBePlugged := ⟨jW_t 537 (by decide +kernel) rfl, jW_t 466 (by decide +kernel) rfl, jW_t 467 (by decide +kernel) rfl, jW_t 4 (by decide +kernel) rfl, jW_t 468 (by decide +kernel) rfl, by decide +kernel, by decide +kernel, by decide +kernel⟩
theorem mv_X0_82 : j_mv RX0 82 1 M_X2_plug := ⟨jW_t 538 (by decide +kernel) rfl, jW_t 479 (by decide +kernel) rfl, jW_t 480 (by decide +kernel) rfl, jW_t 4 (by decide +kernel) rfl, jW_t 481 (by decide +kernel) rfl, by decide +kernel, by decide +kernel, by decide +kernel⟩
theorem mv_X1_28 : j_mv RX1 28 2 M_X6_apart := ⟨jW_t 612 (by decide +kernel) rfl, jW_t 613 (by decide +kernel) rfl, jW_t 614 (by decide +kernel) rfl, jW_t 2 (by decide +kernel) rfl, jW_t 615 (by decide +kernel) rfl, by decide +kernel, by decide +kernel, by decide +kernel⟩
theorem ma_X1_32 : j_ma RX1 32 := ⟨jW_t 627 (by decide +kernel) rfl, jW_t 263 (by decide +kernel) rfl, jW_t 262 (by decide +kernel) rfl, jW_t 9 (by decide +kernel) rfl⟩
theorem mv_X1_38 : j_mv RX1 38 1 M_X1_inAll := ⟨jW_t 628 (by decide +kernel) rfl, jW_t 609 (by decide +kernel) rfl, jW_t 610 (by decide +kernel) rfl, jW_t 8 (by decide +kernel) rfl, jW_t 611 (by decide +kernel) rfl, by decide +kernel, by decide +kernel, by decide +kernel⟩
theorem mn_X1_45 : j_mn Sx RX1 45 3 M_X7_exchange "BoardCords" := ⟨by decide +kernel, jW_t 495 (by decide +kernel) rfl, jW_t 1 (by decide +kernel) rfl, jW_t 496 (by decide +kernel) rfl, by decide +kernel, by decide +kernel, by decide +kernel⟩
theorem mn_X1_55 : j_mn Sx RX1 55 2 M_X7_nextRow "BoardCords" := ⟨by decide +kernel, jW_t 586 (by decide +kernel) rfl, jW_t 1 (by decide +kernel) rfl, jW_t 587 (by decide +kernel) rfl, by decide +kernel, by decide +kernel, by decide +kernel⟩
theorem ma_X2_35 : j_ma RX2 35 := ⟨jW_t 261 (by decide +kernel) rfl, jW_t 263 (by decide +kernel) rfl, jW_t 262 (by decide +kernel) rfl, jW_t 9 (by decide +kernel) rfl⟩
theorem mv_X2_41 : j_mv RX2 41 0 M_X2_letFall := ⟨jW_t 264 (by decide +kernel) rfl, jW_t 266 (by decide +kernel) rfl, jW_s 0 (by decide +kernel) rfl, jW_t 4 (by decide +kernel) rfl, jW_t 267 (by decide +kernel) rfl, by decide +kernel, by decide +kernel, by decide +kernel⟩
theorem mv_X2_56 : j_mv RX2 56 2 M_X6_shareLine := ⟨jW_t 431 (by decide +kernel) rfl, jW_t 432 (by decide +kernel) rfl, jW_t 433 (by decide +kernel) rfl, jW_t 2 (by decide +kernel) rfl, jW_t 434 (by decide +kernel) rfl, by decide +kernel, by decide +kernel, by decide +kernel⟩
theorem ms_X2_60 : j_ms RX2 60 1 M_J6_bitCount_0f7a4 := ⟨jW_t 443 (by decide +kernel) rfl, jW_t 414 (by decide +kernel) rfl, jW_t 12 (by decide +kernel) rfl, jW_t 415 (by decide +kernel) rfl, by decide +kernel, by decide +kernel, by decide +kernel⟩
theorem mv_X2_66 : j_mv RX2 66 2 M_X2_linesFree := ⟨jW_t 474 (by decide +kernel) rfl, jW_t 476 (by decide +kernel) rfl, jW_s 15 (by decide +kernel) rfl, jW_t 4 (by decide +kernel) rfl, jW_t 477 (by decide +kernel) rfl, by decide +kernel, by decide +kernel, by decide +kernel⟩
theorem mv_X2_69 : j_mv RX2 69 1 M_X2_those := ⟨jW_t 469 (by decide +kernel) rfl, jW_t 406 (by decide +kernel) rfl, jW_t 407 (by decide +kernel) rfl, jW_t 4 (by decide +kernel) rfl, jW_t 408 (by decide +kernel) rfl, by decide +kernel, by decide +kernel, by decide +kernel⟩
theorem mv_X2_72 : j_mv RX2 72 3 M_X2_hasRoom := ⟨jW_t 470 (by decide +kernel) rfl, jW_t 472 (by decide +kernel) rfl, jW_s 14 (by decide +kernel) rfl, jW_t 4 (by decide +kernel) rfl, jW_t 473 (by decide +kernel) rfl, by decide +kernel, by decide +kernel, by decide +kernel⟩
theorem mv_X2_79 : j_mv RX2 79 2 M_X2_sumOf := ⟨jW_t 551 (by decide +kernel) rfl, jW_t 553 (by decide +kernel) rfl, jW_s 19 (by decide +kernel) rfl, jW_t 4 (by decide +kernel) rfl, jW_t 554 (by decide +kernel) rfl, by decide +kernel, by decide +kernel, by decide +kernel⟩
theorem mv_X2_86 : j_mv RX2 86 2 M_X2_cutsLess := ⟨jW_t 596 (by decide +kernel) rfl, jW_t 598 (by decide +kernel) rfl, jW_s 24 (by decide +kernel) rfl, jW_t 4 (by decide +kernel) rfl, jW_t 599 (by decide +kernel) rfl, by decide +kernel, by decide +kernel, by decide +kernel⟩
theorem mv_X2_89 : j_mv RX2 89 1 M_X2_leftOf := ⟨jW_t 600 (by decide +kernel) rfl, jW_t 602 (by decide +kernel) rfl, jW_s 25 (by decide +kernel) rfl, jW_t 4 (by decide +kernel) rfl, jW_t 603 (by decide +kernel) rfl, by decide +kernel, by decide +kernel, by decide +kernel⟩
theorem mv_X2_92 : j_mv RX2 92 2 M_X2_isBetween := ⟨jW_t 435 (by decide +kernel) rfl, jW_t 437 (by decide +kernel) rfl, jW_s 13 (by decide +kernel) rfl, jW_t 4 (by decide +kernel) rfl, jW_t 438 (by decide +kernel) rfl, by decide +kernel, by decide +kernel, by decide +kernel⟩
theorem mm_X2_95 : j_mm RX2 95 Lib.Math.min.name Lib.Math.min.code 2 := ⟨jW_t 439 (by decide +kernel) rfl, jW_t 322 (by decide +kernel) rfl, jW_t 11 (by decide +kernel) rfl, jW_t 323 (by decide +kernel) rfl⟩
theorem mm_X2_101 : j_mm RX2 101 Lib.Math.max.name Lib.Math.max.code 2 := ⟨jW_t 440 (by decide +kernel) rfl, jW_t 441 (by decide +kernel) rfl, jW_t 11 (by decide +kernel) rfl, jW_t 442 (by decide +kernel) rfl⟩
theorem mv_X2_104 : j_mv RX2 104 2 M_X2_cross := ⟨jW_t 427 (by decide +kernel) rfl, jW_t 429 (by decide +kernel) rfl, jW_s 12 (by decide +kernel) rfl, jW_t 4 (by decide +kernel) rfl, jW_t 430 (by decide +kernel) rfl, by decide +kernel, by decide +kernel, by decide +kernel⟩
theorem mv_X2_107 : j_mv RX2 107 1 M_X2_crossedBy := ⟨jW_t 423 (by decide +kernel) rfl, jW_t 424 (by decide +kernel) rfl, jW_t 425 (by decide +kernel) rfl, jW_t 4 (by decide +kernel) rfl, jW_t 426 (by decide +kernel) rfl, by decide +kernel, by decide +kernel, by decide +kernel⟩
theorem mv_X3_22 : j_mv RX3 22 2 M_X2_save := ⟨jW_t 452 (by decide +kernel) rfl, jW_t 453 (by decide +kernel) rfl, jW_t 454 (by decide +kernel) rfl, jW_t 4 (by decide +kernel) rfl, jW_t 455 (by decide +kernel) rfl, by decide +kernel, by decide +kernel, by decide +kernel⟩
theorem mm_X3_26 : j_mm RX3 26 Lib.Math.min.name Lib.Math.min.code 2 := ⟨jW_t 456 (by decide +kernel) rfl, jW_t 322 (by decide +kernel) rfl, jW_t 11 (by decide +kernel) rfl, jW_t 323 (by decide +kernel) rfl⟩
theorem mv_X3_32 : j_mv RX3 32 2 M_X2_load := ⟨jW_t 505 (by decide +kernel) rfl, jW_t 506 (by decide +kernel) rfl, jW_t 507 (by decide +kernel) rfl, jW_t 4 (by decide +kernel) rfl, jW_t 508 (by decide +kernel) rfl, by decide +kernel, by decide +kernel, by decide +kernel⟩
theorem mm_X4_22 : j_mm RX4 22 Lib.Math.min.name Lib.Math.min.code 2 := ⟨jW_t 321 (by decide +kernel) rfl, jW_t 322 (by decide +kernel) rfl, jW_t 11 (by decide +kernel) rfl, jW_t 323 (by decide +kernel) rfl⟩
theorem mv_X4_45 : j_mv RX4 45 0 M_X6_asAtFirst := ⟨jW_t 324 (by decide +kernel) rfl, jW_t 28 (by decide +kernel) rfl, jW_t 29 (by decide +kernel) rfl, jW_t 2 (by decide +kernel) rfl, jW_t 30 (by decide +kernel) rfl, by decide +kernel, by decide +kernel, by decide +kernel⟩
theorem mv_X4_48 : j_mv RX4 48 0 M_X4_skipBlanks := ⟨jW_t 325 (by decide +kernel) rfl, jW_t 327 (by decide +kernel) rfl, jW_s 1 (by decide +kernel) rfl, jW_t 3 (by decide +kernel) rfl, jW_t 328 (by decide +kernel) rfl, by decide +kernel, by decide +kernel, by decide +kernel⟩
theorem mv_X4_51 : j_mv RX4 51 0 M_X4_readItem := ⟨jW_t 329 (by decide +kernel) rfl, jW_t 331 (by decide +kernel) rfl, jW_s 2 (by decide +kernel) rfl, jW_t 3 (by decide +kernel) rfl, jW_t 332 (by decide +kernel) rfl, by decide +kernel, by decide +kernel, by decide +kernel⟩
theorem mv_X4_54 : j_mv RX4 54 0 M_X4_letterHere := ⟨jW_t 333 (by decide +kernel) rfl, jW_t 335 (by decide +kernel) rfl, jW_s 3 (by decide +kernel) rfl, jW_t 3 (by decide +kernel) rfl, jW_t 336 (by decide +kernel) rfl, by decide +kernel, by decide +kernel, by decide +kernel⟩
theorem mv_X4_58 : j_mv RX4 58 0 M_X4_readLines := ⟨jW_t 337 (by decide +kernel) rfl, jW_t 339 (by decide +kernel) rfl, jW_s 4 (by decide +kernel) rfl, jW_t 3 (by decide +kernel) rfl, jW_t 340 (by decide +kernel) rfl, by decide +kernel, by decide +kernel, by decide +kernel⟩
theorem mv_X4_61 : j_mv RX4 61 0 M_X4_readCords := ⟨jW_t 352 (by decide +kernel) rfl, jW_t 354 (by decide +kernel) rfl, jW_s 7 (by decide +kernel) rfl, jW_t 3 (by decide +kernel) rfl, jW_t 355 (by decide +kernel) rfl, by decide +kernel, by decide +kernel, by decide +kernel⟩
theorem mv_X4_64 : j_mv RX4 64 0 M_X4_readHole := ⟨jW_t 356 (by decide +kernel) rfl, jW_t 358 (by decide +kernel) rfl, jW_s 8 (by decide +kernel) rfl, jW_t 3 (by decide +kernel) rfl, jW_t 359 (by decide +kernel) rfl, by decide +kernel, by decide +kernel, by decide +kernel⟩
theorem mv_X4_70 : j_mv RX4 70 0 M_X4_readCall := ⟨jW_t 364 (by decide +kernel) rfl, jW_t 366 (by decide +kernel) rfl, jW_s 9 (by decide +kernel) rfl, jW_t 3 (by decide +kernel) rfl, jW_t 367 (by decide +kernel) rfl, by decide +kernel, by decide +kernel, by decide +kernel⟩
theorem mv_X4_73 : j_mv RX4 73 1 M_X4_failAt := ⟨jW_t 348 (by decide +kernel) rfl, jW_t 350 (by decide +kernel) rfl, jW_s 6 (by decide +kernel) rfl, jW_t 3 (by decide +kernel) rfl, jW_t 351 (by decide +kernel) rfl, by decide +kernel, by decide +kernel, by decide +kernel⟩
theorem mv_X4_77 : j_mv RX4 77 0 M_X4_readEnd := ⟨jW_t 368 (by decide +kernel) rfl, jW_t 370 (by decide +kernel) rfl, jW_s 10 (by decide +kernel) rfl, jW_t 3 (by decide +kernel) rfl, jW_t 371 (by decide +kernel) rfl, by decide +kernel, by decide +kernel, by decide +kernel⟩
theorem mv_X4_80 : j_mv RX4 80 3 M_X4_readNumber := ⟨jW_t 341 (by decide +kernel) rfl, jW_t 343 (by decide +kernel) rfl, jW_s 5 (by decide +kernel) rfl, jW_t 3 (by decide +kernel) rfl, jW_t 344 (by decide +kernel) rfl, by decide +kernel, by decide +kernel, by decide +kernel⟩
theorem mv_X4_90 : j_mv RX4 90 2 M_X6_giveHole := ⟨jW_t 360 (by decide +kernel) rfl, jW_t 361 (by decide +kernel) rfl, jW_t 362 (by decide +kernel) rfl, jW_t 2 (by decide +kernel) rfl, jW_t 363 (by decide +kernel) rfl, by decide +kernel, by decide +kernel, by decide +kernel⟩
theorem ms_X4_108 : j_ms RX4 108 1 M_X4_isDigit := ⟨jW_t 345 (by decide +kernel) rfl, jW_t 346 (by decide +kernel) rfl, jW_t 3 (by decide +kernel) rfl, jW_t 347 (by decide +kernel) rfl, by decide +kernel, by decide +kernel, by decide +kernel⟩
theorem mv_X5_31 : j_mv RX5 31 1 M_X5_prepare := ⟨jW_t 567 (by decide +kernel) rfl, jW_t 569 (by decide +kernel) rfl, jW_s 20 (by decide +kernel) rfl, jW_t 7 (by decide +kernel) rfl, jW_t 570 (by decide +kernel) rfl, by decide +kernel, by decide +kernel, by decide +kernel⟩
theorem mv_X5_42 : j_mv RX5 42 1 M_X5_waitsFor := ⟨jW_t 572 (by decide +kernel) rfl, jW_t 574 (by decide +kernel) rfl, jW_s 21 (by decide +kernel) rfl, jW_t 7 (by decide +kernel) rfl, jW_t 575 (by decide +kernel) rfl, by decide +kernel, by decide +kernel, by decide +kernel⟩
theorem ma_X5_49 : j_ma RX5 49 := ⟨jW_t 576 (by decide +kernel) rfl, jW_t 263 (by decide +kernel) rfl, jW_t 262 (by decide +kernel) rfl, jW_t 9 (by decide +kernel) rfl⟩
theorem mn_X5_55 : j_mn Sx RX5 55 2 M_X7_nextRow "BoardCords" := ⟨by decide +kernel, jW_t 586 (by decide +kernel) rfl, jW_t 1 (by decide +kernel) rfl, jW_t 587 (by decide +kernel) rfl, by decide +kernel, by decide +kernel, by decide +kernel⟩
theorem mv_X5_78 : j_mv RX5 78 1 M_X5_plugAlong := ⟨jW_t 577 (by decide +kernel) rfl, jW_t 579 (by decide +kernel) rfl, jW_s 22 (by decide +kernel) rfl, jW_t 7 (by decide +kernel) rfl, jW_t 580 (by decide +kernel) rfl, by decide +kernel, by decide +kernel, by decide +kernel⟩
theorem mv_X5_81 : j_mv RX5 81 1 M_X5_nextEnd := ⟨jW_t 581 (by decide +kernel) rfl, jW_t 583 (by decide +kernel) rfl, jW_s 23 (by decide +kernel) rfl, jW_t 7 (by decide +kernel) rfl, jW_t 584 (by decide +kernel) rfl, by decide +kernel, by decide +kernel, by decide +kernel⟩
theorem mm_X6_43 : j_mm RX6 43 Lib.Math.abs.name Lib.Math.abs.code 1 := ⟨jW_t 616 (by decide +kernel) rfl, jW_t 617 (by decide +kernel) rfl, jW_t 11 (by decide +kernel) rfl, jW_t 618 (by decide +kernel) rfl⟩
theorem ma_X6_49 : j_ma RX6 49 := ⟨jW_t 376 (by decide +kernel) rfl, jW_t 263 (by decide +kernel) rfl, jW_t 262 (by decide +kernel) rfl, jW_t 9 (by decide +kernel) rfl⟩
theorem mv_X7_84 : j_mv RX7 84 1 M_X4_read := ⟨jW_t 317 (by decide +kernel) rfl, jW_t 318 (by decide +kernel) rfl, jW_t 319 (by decide +kernel) rfl, jW_t 3 (by decide +kernel) rfl, jW_t 320 (by decide +kernel) rfl, by decide +kernel, by decide +kernel, by decide +kernel⟩
theorem mv_X7_91 : j_mv RX7 91 1 M_X6_become := ⟨jW_t 372 (by decide +kernel) rfl, jW_t 373 (by decide +kernel) rfl, jW_t 374 (by decide +kernel) rfl, jW_t 2 (by decide +kernel) rfl, jW_t 375 (by decide +kernel) rfl, by decide +kernel, by decide +kernel, by decide +kernel⟩
theorem mv_X7_81 : j_mv RX7 81 0 M_X2_begin := ⟨jW_t 257 (by decide +kernel) rfl, jW_t 258 (by decide +kernel) rfl, jW_t 259 (by decide +kernel) rfl, jW_t 4 (by decide +kernel) rfl, jW_t 260 (by decide +kernel) rfl, by decide +kernel, by decide +kernel, by decide +kernel⟩
theorem mv_X7_94 : j_mv RX7 94 0 M_X3_forget := ⟨jW_t 377 (by decide +kernel) rfl, jW_t 378 (by decide +kernel) rfl, jW_t 379 (by decide +kernel) rfl, jW_t 5 (by decide +kernel) rfl, jW_t 380 (by decide +kernel) rfl, by decide +kernel, by decide +kernel, by decide +kernel⟩
theorem mv_X7_97 : j_mv RX7 97 1 M_X6_hasLine := ⟨jW_t 385 (by decide +kernel) rfl, jW_t 386 (by decide +kernel) rfl, jW_t 387 (by decide +kernel) rfl, jW_t 2 (by decide +kernel) rfl, jW_t 388 (by decide +kernel) rfl, by decide +kernel, by decide +kernel, by decide +kernel⟩
theorem mv_X7_104 : j_mv RX7 104 1 M_X2_engagedBy := ⟨jW_t 389 (by decide +kernel) rfl, jW_t 390 (by decide +kernel) rfl, jW_t 391 (by decide +kernel) rfl, jW_t 4 (by decide +kernel) rfl, jW_t 392 (by decide +kernel) rfl, by decide +kernel, by decide +kernel, by decide +kernel⟩
theorem mv_X7_107 : j_mv RX7 107 1 M_X6_hasCall := ⟨jW_t 397 (by decide +kernel) rfl, jW_t 398 (by decide +kernel) rfl, jW_t 399 (by decide +kernel) rfl, jW_t 2 (by decide +kernel) rfl, jW_t 400 (by decide +kernel) rfl, by decide +kernel, by decide +kernel, by decide +kernel⟩
theorem mv_X7_137 : j_mv RX7 137 1 M_X2_those := ⟨jW_t 405 (by decide +kernel) rfl, jW_t 406 (by decide +kernel) rfl, jW_t 407 (by decide +kernel) rfl, jW_t 4 (by decide +kernel) rfl, jW_t 408 (by decide +kernel) rfl, by decide +kernel, by decide +kernel, by decide +kernel⟩
theorem mv_X7_140 : j_mv RX7 140 0 M_X7_freeCords := ⟨jW_t 409 (by decide +kernel) rfl, jW_t 411 (by decide +kernel) rfl, jW_s 11 (by decide +kernel) rfl, jW_t 1 (by decide +kernel) rfl, jW_t 412 (by decide +kernel) rfl, by decide +kernel, by decide +kernel, by decide +kernel⟩
theorem mv_X7_144 : j_mv RX7 144 0 M_X2_crossings := ⟨jW_t 419 (by decide +kernel) rfl, jW_t 420 (by decide +kernel) rfl, jW_t 421 (by decide +kernel) rfl, jW_t 4 (by decide +kernel) rfl, jW_t 422 (by decide +kernel) rfl, by decide +kernel, by decide +kernel, by decide +kernel⟩
theorem ms_X7_153 : j_ms RX7 153 1 M_J6_bitCount_0f7a4 := ⟨jW_t 413 (by decide +kernel) rfl, jW_t 414 (by decide +kernel) rfl, jW_t 12 (by decide +kernel) rfl, jW_t 415 (by decide +kernel) rfl, by decide +kernel, by decide +kernel, by decide +kernel⟩
theorem mv_X7_158 : j_mv RX7 158 1 M_X3_add := ⟨jW_t 448 (by decide +kernel) rfl, jW_t 449 (by decide +kernel) rfl, jW_t 450 (by decide +kernel) rfl, jW_t 5 (by decide +kernel) rfl, jW_t 451 (by decide +kernel) rfl, by decide +kernel, by decide +kernel, by decide +kernel⟩
theorem mv_X7_162 : j_mv RX7 162 0 M_X2_passMinute := ⟨jW_t 457 (by decide +kernel) rfl, jW_t 458 (by decide +kernel) rfl, jW_t 459 (by decide +kernel) rfl, jW_t 4 (by decide +kernel) rfl, jW_t 460 (by decide +kernel) rfl, by decide +kernel, by decide +kernel, by decide +kernel⟩
theorem mv_X7_165 : j_mv RX7 165 2 M_X2_canBePlugged := ⟨jW_t 465 (by decide +kernel) rfl, jW_t 466 (by decide +kernel) rfl, jW_t 467 (by decide +kernel) rfl, jW_t 4 (by decide +kernel) rfl, jW_t 468 (by decide +kernel) rfl, by decide +kernel, by decide +kernel, by decide +kernel⟩
theorem mv_X7_169 : j_mv RX7 169 1 M_X2_plug := ⟨jW_t 478 (by decide +kernel) rfl, jW_t 479 (by decide +kernel) rfl, jW_t 480 (by decide +kernel) rfl, jW_t 4 (by decide +kernel) rfl, jW_t 481 (by decide +kernel) rfl, by decide +kernel, by decide +kernel, by decide +kernel⟩
theorem mv_X7_173 : j_mv RX7 173 1 M_X2_pull := ⟨jW_t 486 (by decide +kernel) rfl, jW_t 487 (by decide +kernel) rfl, jW_t 488 (by decide +kernel) rfl, jW_t 4 (by decide +kernel) rfl, jW_t 489 (by decide +kernel) rfl, by decide +kernel, by decide +kernel, by decide +kernel⟩
theorem ms_X7_176 : j_ms RX7 176 3 M_X7_exchange := ⟨jW_t 494 (by decide +kernel) rfl, jW_t 495 (by decide +kernel) rfl, jW_t 1 (by decide +kernel) rfl, jW_t 496 (by decide +kernel) rfl, by decide +kernel, by decide +kernel, by decide +kernel⟩
theorem mv_X7_180 : j_mv RX7 180 1 M_X3_takeBack := ⟨jW_t 501 (by decide +kernel) rfl, jW_t 502 (by decide +kernel) rfl, jW_t 503 (by decide +kernel) rfl, jW_t 5 (by decide +kernel) rfl, jW_t 504 (by decide +kernel) rfl, by decide +kernel, by decide +kernel, by decide +kernel⟩
theorem ms_X7_183 : j_ms RX7 183 1 M_X7_isRule := ⟨jW_t 513 (by decide +kernel) rfl, jW_t 514 (by decide +kernel) rfl, jW_t 1 (by decide +kernel) rfl, jW_t 515 (by decide +kernel) rfl, by decide +kernel, by decide +kernel, by decide +kernel⟩
theorem mv_X7_186 : j_mv RX7 186 4 M_X0_go := ⟨jW_t 516 (by decide +kernel) rfl, jW_t 517 (by decide +kernel) rfl, jW_t 518 (by decide +kernel) rfl, jW_t 6 (by decide +kernel) rfl, jW_t 519 (by decide +kernel) rfl, by decide +kernel, by decide +kernel, by decide +kernel⟩
theorem mv_X7_193 : j_mv RX7 193 1 M_X2_waitedOf := ⟨jW_t 547 (by decide +kernel) rfl, jW_t 548 (by decide +kernel) rfl, jW_t 549 (by decide +kernel) rfl, jW_t 4 (by decide +kernel) rfl, jW_t 550 (by decide +kernel) rfl, by decide +kernel, by decide +kernel, by decide +kernel⟩
theorem mv_X7_203 : j_mv RX7 203 1 M_X5_find := ⟨jW_t 563 (by decide +kernel) rfl, jW_t 564 (by decide +kernel) rfl, jW_t 565 (by decide +kernel) rfl, jW_t 7 (by decide +kernel) rfl, jW_t 566 (by decide +kernel) rfl, by decide +kernel, by decide +kernel, by decide +kernel⟩
theorem mv_X7_215 : j_mv RX7 215 1 M_X2_leastCut := ⟨jW_t 592 (by decide +kernel) rfl, jW_t 593 (by decide +kernel) rfl, jW_t 594 (by decide +kernel) rfl, jW_t 4 (by decide +kernel) rfl, jW_t 595 (by decide +kernel) rfl, by decide +kernel, by decide +kernel, by decide +kernel⟩
theorem mv_X7_218 : j_mv RX7 218 1 M_X1_inAll := ⟨jW_t 608 (by decide +kernel) rfl, jW_t 609 (by decide +kernel) rfl, jW_t 610 (by decide +kernel) rfl, jW_t 8 (by decide +kernel) rfl, jW_t 611 (by decide +kernel) rfl, by decide +kernel, by decide +kernel, by decide +kernel⟩
theorem mv_X7_222 : j_mv RX7 222 1 M_X1_bestExchange := ⟨jW_t 623 (by decide +kernel) rfl, jW_t 624 (by decide +kernel) rfl, jW_t 625 (by decide +kernel) rfl, jW_t 8 (by decide +kernel) rfl, jW_t 626 (by decide +kernel) rfl, by decide +kernel, by decide +kernel, by decide +kernel⟩
theorem mv_X7_225 : j_mv RX7 225 0 M_X1_find := ⟨jW_t 634 (by decide +kernel) rfl, jW_t 635 (by decide +kernel) rfl, jW_t 636 (by decide +kernel) rfl, jW_t 8 (by decide +kernel) rfl, jW_t 637 (by decide +kernel) rfl, by decide +kernel, by decide +kernel, by decide +kernel⟩
theorem mv_X7_229 : j_mv RX7 229 1 M_X6_fallingAt := ⟨jW_t 644 (by decide +kernel) rfl, jW_t 645 (by decide +kernel) rfl, jW_t 646 (by decide +kernel) rfl, jW_t 2 (by decide +kernel) rfl, jW_t 647 (by decide +kernel) rfl, by decide +kernel, by decide +kernel, by decide +kernel⟩
theorem mv_X7_232 : j_mv RX7 232 1 M_X2_crossedBy := ⟨jW_t 652 (by decide +kernel) rfl, jW_t 424 (by decide +kernel) rfl, jW_t 425 (by decide +kernel) rfl, jW_t 4 (by decide +kernel) rfl, jW_t 426 (by decide +kernel) rfl, by decide +kernel, by decide +kernel, by decide +kernel⟩
theorem mv_X7_235 : j_mv RX7 235 3 M_X7_tenthsFree := ⟨jW_t 657 (by decide +kernel) rfl, jW_t 659 (by decide +kernel) rfl, jW_s 26 (by decide +kernel) rfl, jW_t 1 (by decide +kernel) rfl, jW_t 660 (by decide +kernel) rfl, by decide +kernel, by decide +kernel, by decide +kernel⟩
theorem ms_X7_239 : j_ms RX7 239 1 M_X7_commonDivisor := ⟨jW_t 661 (by decide +kernel) rfl, jW_t 662 (by decide +kernel) rfl, jW_t 1 (by decide +kernel) rfl, jW_t 663 (by decide +kernel) rfl, by decide +kernel, by decide +kernel, by decide +kernel⟩
theorem mv_X7_243 : j_mv RX7 243 1 M_X7_asCall := ⟨jW_t 669 (by decide +kernel) rfl, jW_t 671 (by decide +kernel) rfl, jW_s 27 (by decide +kernel) rfl, jW_t 1 (by decide +kernel) rfl, jW_t 672 (by decide +kernel) rfl, by decide +kernel, by decide +kernel, by decide +kernel⟩
theorem mv_X7_246 : j_mv RX7 246 1 M_X7_asDoctor := ⟨jW_t 673 (by decide +kernel) rfl, jW_t 675 (by decide +kernel) rfl, jW_s 28 (by decide +kernel) rfl, jW_t 1 (by decide +kernel) rfl, jW_t 676 (by decide +kernel) rfl, by decide +kernel, by decide +kernel, by decide +kernel⟩
theorem mv_X7_249 : j_mv RX7 249 1 M_X7_asGossip := ⟨jW_t 678 (by decide +kernel) rfl, jW_t 680 (by decide +kernel) rfl, jW_s 29 (by decide +kernel) rfl, jW_t 1 (by decide +kernel) rfl, jW_t 681 (by decide +kernel) rfl, by decide +kernel, by decide +kernel, by decide +kernel⟩
theorem mv_X7_252 : j_mv RX7 252 1 M_X7_asFire := ⟨jW_t 683 (by decide +kernel) rfl, jW_t 685 (by decide +kernel) rfl, jW_s 30 (by decide +kernel) rfl, jW_t 1 (by decide +kernel) rfl, jW_t 686 (by decide +kernel) rfl, by decide +kernel, by decide +kernel, by decide +kernel⟩
theorem mv_X7_255 : j_mv RX7 255 1 M_X7_asWife := ⟨jW_t 688 (by decide +kernel) rfl, jW_t 690 (by decide +kernel) rfl, jW_s 31 (by decide +kernel) rfl, jW_t 1 (by decide +kernel) rfl, jW_t 691 (by decide +kernel) rfl, by decide +kernel, by decide +kernel, by decide +kernel⟩
theorem mv_X7_258 : j_mv RX7 258 1 M_X7_asWrong := ⟨jW_t 693 (by decide +kernel) rfl, jW_t 695 (by decide +kernel) rfl, jW_s 32 (by decide +kernel) rfl, jW_t 1 (by decide +kernel) rfl, jW_t 696 (by decide +kernel) rfl, by decide +kernel, by decide +kernel, by decide +kernel⟩
theorem mv_X7_271 : j_mv RX7 271 2 M_X6_apart := ⟨jW_t 698 (by decide +kernel) rfl, jW_t 613 (by decide +kernel) rfl, jW_t 614 (by decide +kernel) rfl, jW_t 2 (by decide +kernel) rfl, jW_t 615 (by decide +kernel) rfl, by decide +kernel, by decide +kernel, by decide +kernel⟩
theorem ms_X7_275 : j_ms RX7 275 1 M_X7_isImage := ⟨jW_t 703 (by decide +kernel) rfl, jW_t 704 (by decide +kernel) rfl, jW_t 1 (by decide +kernel) rfl, jW_t 705 (by decide +kernel) rfl, by decide +kernel, by decide +kernel, by decide +kernel⟩
theorem mv_X7_278 : j_mv RX7 278 2 M_X2_save := ⟨jW_t 706 (by decide +kernel) rfl, jW_t 453 (by decide +kernel) rfl, jW_t 454 (by decide +kernel) rfl, jW_t 4 (by decide +kernel) rfl, jW_t 455 (by decide +kernel) rfl, by decide +kernel, by decide +kernel, by decide +kernel⟩
theorem mv_X7_282 : j_mv RX7 282 2 M_X2_load := ⟨jW_t 711 (by decide +kernel) rfl, jW_t 506 (by decide +kernel) rfl, jW_t 507 (by decide +kernel) rfl, jW_t 4 (by decide +kernel) rfl, jW_t 508 (by decide +kernel) rfl, by decide +kernel, by decide +kernel, by decide +kernel⟩
theorem ms_X8_63 : j_ms RX8 63 3 M_X8_in := ⟨jW_t 821 (by decide +kernel) rfl, jW_t 822 (by decide +kernel) rfl, jW_t 10 (by decide +kernel) rfl, jW_t 823 (by decide +kernel) rfl, by decide +kernel, by decide +kernel, by decide +kernel⟩
theorem mv_X8_82 : j_mv RX8 82 0 M_X8_nextToken := ⟨jW_t 836 (by decide +kernel) rfl, jW_t 838 (by decide +kernel) rfl, jW_s 35 (by decide +kernel) rfl, jW_t 10 (by decide +kernel) rfl, jW_t 839 (by decide +kernel) rfl, by decide +kernel, by decide +kernel, by decide +kernel⟩
theorem mv_X8_88 : j_mv RX8 88 2 M_X8_isNumber := ⟨jW_t 844 (by decide +kernel) rfl, jW_t 846 (by decide +kernel) rfl, jW_s 37 (by decide +kernel) rfl, jW_t 10 (by decide +kernel) rfl, jW_t 847 (by decide +kernel) rfl, by decide +kernel, by decide +kernel, by decide +kernel⟩
theorem mv_X8_92 : j_mv RX8 92 0 M_X8_isEnd := ⟨jW_t 848 (by decide +kernel) rfl, jW_t 850 (by decide +kernel) rfl, jW_s 38 (by decide +kernel) rfl, jW_t 10 (by decide +kernel) rfl, jW_t 851 (by decide +kernel) rfl, by decide +kernel, by decide +kernel, by decide +kernel⟩
theorem mv_X8_109 : j_mv RX8 109 0 M_X8_isHole := ⟨jW_t 852 (by decide +kernel) rfl, jW_t 854 (by decide +kernel) rfl, jW_s 39 (by decide +kernel) rfl, jW_t 10 (by decide +kernel) rfl, jW_t 855 (by decide +kernel) rfl, by decide +kernel, by decide +kernel, by decide +kernel⟩
theorem mv_X8_112 : j_mv RX8 112 0 M_X8_isCallItem := ⟨jW_t 856 (by decide +kernel) rfl, jW_t 858 (by decide +kernel) rfl, jW_s 40 (by decide +kernel) rfl, jW_t 10 (by decide +kernel) rfl, jW_t 859 (by decide +kernel) rfl, by decide +kernel, by decide +kernel, by decide +kernel⟩
theorem mv_X8_115 : j_mv RX8 115 0 M_X8_isItem := ⟨jW_t 840 (by decide +kernel) rfl, jW_t 842 (by decide +kernel) rfl, jW_s 36 (by decide +kernel) rfl, jW_t 10 (by decide +kernel) rfl, jW_t 843 (by decide +kernel) rfl, by decide +kernel, by decide +kernel, by decide +kernel⟩
theorem mv_X8_118 : j_mv RX8 118 0 M_X8_isRead := ⟨jW_t 832 (by decide +kernel) rfl, jW_t 834 (by decide +kernel) rfl, jW_s 34 (by decide +kernel) rfl, jW_t 10 (by decide +kernel) rfl, jW_t 835 (by decide +kernel) rfl, by decide +kernel, by decide +kernel, by decide +kernel⟩
theorem mv_X8_54 : j_mv RX8 54 0 M_X8_begin := ⟨jW_t 726 (by decide +kernel) rfl, jW_t 728 (by decide +kernel) rfl, jW_s 33 (by decide +kernel) rfl, jW_t 10 (by decide +kernel) rfl, jW_t 729 (by decide +kernel) rfl, by decide +kernel, by decide +kernel, by decide +kernel⟩
theorem mv_X8_121 : j_mv RX8 121 1 M_X8_fromOf := ⟨jW_t 880 (by decide +kernel) rfl, jW_t 882 (by decide +kernel) rfl, jW_s 45 (by decide +kernel) rfl, jW_t 10 (by decide +kernel) rfl, jW_t 883 (by decide +kernel) rfl, by decide +kernel, by decide +kernel, by decide +kernel⟩
theorem mv_X8_125 : j_mv RX8 125 1 M_X8_toOf := ⟨jW_t 884 (by decide +kernel) rfl, jW_t 886 (by decide +kernel) rfl, jW_s 46 (by decide +kernel) rfl, jW_t 10 (by decide +kernel) rfl, jW_t 887 (by decide +kernel) rfl, by decide +kernel, by decide +kernel, by decide +kernel⟩
theorem mv_X8_128 : j_mv RX8 128 2 M_X8_isOn := ⟨jW_t 876 (by decide +kernel) rfl, jW_t 878 (by decide +kernel) rfl, jW_s 44 (by decide +kernel) rfl, jW_t 10 (by decide +kernel) rfl, jW_t 879 (by decide +kernel) rfl, by decide +kernel, by decide +kernel, by decide +kernel⟩
theorem mv_X8_131 : j_mv RX8 131 2 M_X8_setOf := ⟨jW_t 900 (by decide +kernel) rfl, jW_t 902 (by decide +kernel) rfl, jW_s 48 (by decide +kernel) rfl, jW_t 10 (by decide +kernel) rfl, jW_t 903 (by decide +kernel) rfl, by decide +kernel, by decide +kernel, by decide +kernel⟩
theorem ms_X8_135 : j_ms RX8 135 1 M_X8_bits := ⟨jW_t 908 (by decide +kernel) rfl, jW_t 909 (by decide +kernel) rfl, jW_t 10 (by decide +kernel) rfl, jW_t 910 (by decide +kernel) rfl, by decide +kernel, by decide +kernel, by decide +kernel⟩
theorem mv_X8_138 : j_mv RX8 138 2 M_X8_talkerOn := ⟨jW_t 872 (by decide +kernel) rfl, jW_t 874 (by decide +kernel) rfl, jW_s 43 (by decide +kernel) rfl, jW_t 10 (by decide +kernel) rfl, jW_t 875 (by decide +kernel) rfl, by decide +kernel, by decide +kernel, by decide +kernel⟩
theorem mv_X8_141 : j_mv RX8 141 2 M_X8_freeCords := ⟨jW_t 904 (by decide +kernel) rfl, jW_t 906 (by decide +kernel) rfl, jW_s 49 (by decide +kernel) rfl, jW_t 10 (by decide +kernel) rfl, jW_t 907 (by decide +kernel) rfl, by decide +kernel, by decide +kernel, by decide +kernel⟩
theorem mv_X8_144 : j_mv RX8 144 2 M_X8_areFree := ⟨jW_t 945 (by decide +kernel) rfl, jW_t 947 (by decide +kernel) rfl, jW_s 55 (by decide +kernel) rfl, jW_t 10 (by decide +kernel) rfl, jW_t 948 (by decide +kernel) rfl, by decide +kernel, by decide +kernel, by decide +kernel⟩
theorem mv_X8_148 : j_mv RX8 148 1 M_X8_holeOf := ⟨jW_t 868 (by decide +kernel) rfl, jW_t 870 (by decide +kernel) rfl, jW_s 42 (by decide +kernel) rfl, jW_t 10 (by decide +kernel) rfl, jW_t 871 (by decide +kernel) rfl, by decide +kernel, by decide +kernel, by decide +kernel⟩
theorem ms_X8_151 : j_ms RX8 151 3 M_X8_isBetween := ⟨jW_t 919 (by decide +kernel) rfl, jW_t 920 (by decide +kernel) rfl, jW_t 10 (by decide +kernel) rfl, jW_t 921 (by decide +kernel) rfl, by decide +kernel, by decide +kernel, by decide +kernel⟩
theorem mv_X8_154 : j_mv RX8 154 2 M_X8_cross := ⟨jW_t 915 (by decide +kernel) rfl, jW_t 917 (by decide +kernel) rfl, jW_s 51 (by decide +kernel) rfl, jW_t 10 (by decide +kernel) rfl, jW_t 918 (by decide +kernel) rfl, by decide +kernel, by decide +kernel, by decide +kernel⟩
theorem mv_X8_157 : j_mv RX8 157 1 M_X8_isLine := ⟨jW_t 864 (by decide +kernel) rfl, jW_t 866 (by decide +kernel) rfl, jW_s 41 (by decide +kernel) rfl, jW_t 10 (by decide +kernel) rfl, jW_t 867 (by decide +kernel) rfl, by decide +kernel, by decide +kernel, by decide +kernel⟩
theorem mv_X8_161 : j_mv RX8 161 1 M_X8_isCall := ⟨jW_t 892 (by decide +kernel) rfl, jW_t 894 (by decide +kernel) rfl, jW_s 47 (by decide +kernel) rfl, jW_t 10 (by decide +kernel) rfl, jW_t 895 (by decide +kernel) rfl, by decide +kernel, by decide +kernel, by decide +kernel⟩
theorem mv_X8_164 : j_mv RX8 164 0 M_X8_crossed := ⟨jW_t 911 (by decide +kernel) rfl, jW_t 913 (by decide +kernel) rfl, jW_s 50 (by decide +kernel) rfl, jW_t 10 (by decide +kernel) rfl, jW_t 914 (by decide +kernel) rfl, by decide +kernel, by decide +kernel, by decide +kernel⟩
theorem ms_X8_168 : j_ms RX8 168 4 M_X8_copy := ⟨jW_t 930 (by decide +kernel) rfl, jW_t 931 (by decide +kernel) rfl, jW_t 10 (by decide +kernel) rfl, jW_t 932 (by decide +kernel) rfl, by decide +kernel, by decide +kernel, by decide +kernel⟩
theorem mv_X8_172 : j_mv RX8 172 0 M_X8_note := ⟨jW_t 926 (by decide +kernel) rfl, jW_t 928 (by decide +kernel) rfl, jW_s 52 (by decide +kernel) rfl, jW_t 10 (by decide +kernel) rfl, jW_t 929 (by decide +kernel) rfl, by decide +kernel, by decide +kernel, by decide +kernel⟩
theorem mv_X8_175 : j_mv RX8 175 1 M_X8_pass := ⟨jW_t 933 (by decide +kernel) rfl, jW_t 935 (by decide +kernel) rfl, jW_s 53 (by decide +kernel) rfl, jW_t 10 (by decide +kernel) rfl, jW_t 936 (by decide +kernel) rfl, by decide +kernel, by decide +kernel, by decide +kernel⟩
theorem mv_X8_179 : j_mv RX8 179 3 M_X8_canPlug := ⟨jW_t 941 (by decide +kernel) rfl, jW_t 943 (by decide +kernel) rfl, jW_s 54 (by decide +kernel) rfl, jW_t 10 (by decide +kernel) rfl, jW_t 944 (by decide +kernel) rfl, by decide +kernel, by decide +kernel, by decide +kernel⟩
theorem mv_X8_183 : j_mv RX8 183 2 M_X8_plug := ⟨jW_t 949 (by decide +kernel) rfl, jW_t 951 (by decide +kernel) rfl, jW_s 56 (by decide +kernel) rfl, jW_t 10 (by decide +kernel) rfl, jW_t 952 (by decide +kernel) rfl, by decide +kernel, by decide +kernel, by decide +kernel⟩
theorem mv_X8_187 : j_mv RX8 187 3 M_X8_isAhead := ⟨jW_t 973 (by decide +kernel) rfl, jW_t 975 (by decide +kernel) rfl, jW_s 58 (by decide +kernel) rfl, jW_t 10 (by decide +kernel) rfl, jW_t 976 (by decide +kernel) rfl, by decide +kernel, by decide +kernel, by decide +kernel⟩
theorem mv_X8_190 : j_mv RX8 190 1 M_X8_layOrder := ⟨jW_t 969 (by decide +kernel) rfl, jW_t 971 (by decide +kernel) rfl, jW_s 57 (by decide +kernel) rfl, jW_t 10 (by decide +kernel) rfl, jW_t 972 (by decide +kernel) rfl, by decide +kernel, by decide +kernel, by decide +kernel⟩
theorem mv_X8_197 : j_mv RX8 197 3 M_X8_plugAll := ⟨jW_t 977 (by decide +kernel) rfl, jW_t 979 (by decide +kernel) rfl, jW_s 59 (by decide +kernel) rfl, jW_t 10 (by decide +kernel) rfl, jW_t 980 (by decide +kernel) rfl, by decide +kernel, by decide +kernel, by decide +kernel⟩
theorem ms_X8_201 : j_ms RX8 201 2 M_X8_has := ⟨jW_t 981 (by decide +kernel) rfl, jW_t 982 (by decide +kernel) rfl, jW_t 10 (by decide +kernel) rfl, jW_t 983 (by decide +kernel) rfl, by decide +kernel, by decide +kernel, by decide +kernel⟩
theorem mv_X8_204 : j_mv RX8 204 1 M_X8_isEnough := ⟨jW_t 988 (by decide +kernel) rfl, jW_t 990 (by decide +kernel) rfl, jW_s 60 (by decide +kernel) rfl, jW_t 10 (by decide +kernel) rfl, jW_t 991 (by decide +kernel) rfl, by decide +kernel, by decide +kernel, by decide +kernel⟩
theorem mv_X8_207 : j_mv RX8 207 1 M_X8_waitedBy := ⟨jW_t 996 (by decide +kernel) rfl, jW_t 998 (by decide +kernel) rfl, jW_s 61 (by decide +kernel) rfl, jW_t 10 (by decide +kernel) rfl, jW_t 999 (by decide +kernel) rfl, by decide +kernel, by decide +kernel, by decide +kernel⟩
theorem mv_X8_210 : j_mv RX8 210 2 M_X8_nextRow := ⟨jW_t 1000 (by decide +kernel) rfl, jW_t 1002 (by decide +kernel) rfl, jW_s 62 (by decide +kernel) rfl, jW_t 10 (by decide +kernel) rfl, jW_t 1003 (by decide +kernel) rfl, by decide +kernel, by decide +kernel, by decide +kernel⟩
theorem ms_X8_213 : j_ms RX8 213 2 M_X8_distance := ⟨jW_t 1016 (by decide +kernel) rfl, jW_t 1017 (by decide +kernel) rfl, jW_t 10 (by decide +kernel) rfl, jW_t 1018 (by decide +kernel) rfl, by decide +kernel, by decide +kernel, by decide +kernel⟩
theorem mv_X8_217 : j_mv RX8 217 2 M_X8_longBy := ⟨jW_t 1012 (by decide +kernel) rfl, jW_t 1014 (by decide +kernel) rfl, jW_s 63 (by decide +kernel) rfl, jW_t 10 (by decide +kernel) rfl, jW_t 1015 (by decide +kernel) rfl, by decide +kernel, by decide +kernel, by decide +kernel⟩
theorem mv_X8_220 : j_mv RX8 220 0 M_X8_longCords := ⟨jW_t 1023 (by decide +kernel) rfl, jW_t 1009 (by decide +kernel) rfl, jW_t 1010 (by decide +kernel) rfl, jW_t 10 (by decide +kernel) rfl, jW_t 1011 (by decide +kernel) rfl, by decide +kernel, by decide +kernel, by decide +kernel⟩
theorem mv_X8_229 : j_mv RX8 229 1 M_X8_rankOf := ⟨jW_t 1045 (by decide +kernel) rfl, jW_t 1047 (by decide +kernel) rfl, jW_s 64 (by decide +kernel) rfl, jW_t 10 (by decide +kernel) rfl, jW_t 1048 (by decide +kernel) rfl, by decide +kernel, by decide +kernel, by decide +kernel⟩
theorem mv_X8_235 : j_mv RX8 235 1 M_X8_doctorOf := ⟨jW_t 1049 (by decide +kernel) rfl, jW_t 1051 (by decide +kernel) rfl, jW_s 65 (by decide +kernel) rfl, jW_t 10 (by decide +kernel) rfl, jW_t 1052 (by decide +kernel) rfl, by decide +kernel, by decide +kernel, by decide +kernel⟩
theorem mv_X8_238 : j_mv RX8 238 1 M_X8_gossipOf := ⟨jW_t 1054 (by decide +kernel) rfl, jW_t 1056 (by decide +kernel) rfl, jW_s 66 (by decide +kernel) rfl, jW_t 10 (by decide +kernel) rfl, jW_t 1057 (by decide +kernel) rfl, by decide +kernel, by decide +kernel, by decide +kernel⟩
theorem kc_J6_265 : Cond.constant RJ6 265 (Int32.ofInt 1431655765) ∈ jW := jW_t 416 (by decide +kernel) rfl
theorem kc_J6_266 : Cond.constant RJ6 266 (Int32.ofInt 858993459) ∈ jW := jW_t 417 (by decide +kernel) rfl
theorem kc_J6_267 : Cond.constant RJ6 267 (Int32.ofInt 252645135) ∈ jW := jW_t 418 (by decide +kernel) rfl
theorem kc_X5_37 : Cond.constant RX5 37 (Int32.ofInt 2147483647) ∈ jW := jW_t 571 (by decide +kernel) rfl
theorem kc_X1_51 : Cond.constant RX1 51 (Int32.ofInt 2147483647) ∈ jW := jW_t 638 (by decide +kernel) rfl
theorem kc_X7_242 : Cond.constant RX7 242 (Int32.ofInt (-1000000)) ∈ jW := jW_t 668 (by decide +kernel) rfl
theorem kc_X8_234 : Cond.constant RX8 234 (Int32.ofInt (-1000000)) ∈ jW := jW_t 1044 (by decide +kernel) rfl
theorem kl_X7_261 : Cond.constantLong RX7 261 10 ∈ jW := jW_t 677 (by decide +kernel) rfl
theorem kl_X7_263 : Cond.constantLong RX7 263 100 ∈ jW := jW_t 682 (by decide +kernel) rfl
theorem kl_X7_265 : Cond.constantLong RX7 265 1000 ∈ jW := jW_t 687 (by decide +kernel) rfl
theorem kl_X7_267 : Cond.constantLong RX7 267 10000 ∈ jW := jW_t 692 (by decide +kernel) rfl
theorem kl_X7_269 : Cond.constantLong RX7 269 100000 ∈ jW := jW_t 697 (by decide +kernel) rfl
theorem kl_X8_227 : Cond.constantLong RX8 227 10 ∈ jW := jW_t 1053 (by decide +kernel) rfl
theorem kl_X8_232 : Cond.constantLong RX8 232 100 ∈ jW := jW_t 1058 (by decide +kernel) rfl
theorem kl_X8_241 : Cond.constantLong RX8 241 1000 ∈ jW := jW_t 1059 (by decide +kernel) rfl
theorem kl_X8_243 : Cond.constantLong RX8 243 10000 ∈ jW := jW_t 1060 (by decide +kernel) rfl
theorem kl_X8_245 : Cond.constantLong RX8 245 100000 ∈ jW := jW_t 1061 (by decide +kernel) rfl
end
