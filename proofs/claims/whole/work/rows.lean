section
-- ===== PART A: goes FIRST, ahead of the names: the tables' words, and 'selects' of the private methods out of them =====
/-- a private method of a class that the tables say can be made, by its rows of tables_1 -/
def lw_okq (q : MethodName × Nat) : Prop := (q.1.cls ≠ "java/lang/invoke/MethodHandle" ∧ q.1.cls ≠ "java/lang/invoke/VarHandle") ∧ Cond.instantiable q.1.cls q.2 ∈ tables_1 ∧ Cond.privateMethod q.1 ∈ tables_1 ∧ Cond.instanceMethod q.1 ∈ tables_1
theorem lw_p0 : lw_okq (⟨"BoardCords$Moment", "letFall", "()V"⟩, 6) := ⟨⟨by decide +kernel, by decide +kernel⟩, List.mem_of_getElem? (i := 126) (by decide +kernel), List.mem_of_getElem? (i := 265) (by decide +kernel), List.mem_of_getElem? (i := 266) (by decide +kernel)⟩
theorem lw_p1 : lw_okq (⟨"BoardCords$Reader", "skipBlanks", "()V"⟩, 7) := ⟨⟨by decide +kernel, by decide +kernel⟩, List.mem_of_getElem? (i := 95) (by decide +kernel), List.mem_of_getElem? (i := 326) (by decide +kernel), List.mem_of_getElem? (i := 327) (by decide +kernel)⟩
theorem lw_p2 : lw_okq (⟨"BoardCords$Reader", "readItem", "()V"⟩, 7) := ⟨⟨by decide +kernel, by decide +kernel⟩, List.mem_of_getElem? (i := 95) (by decide +kernel), List.mem_of_getElem? (i := 330) (by decide +kernel), List.mem_of_getElem? (i := 331) (by decide +kernel)⟩
theorem lw_p3 : lw_okq (⟨"BoardCords$Reader", "letterHere", "()I"⟩, 7) := ⟨⟨by decide +kernel, by decide +kernel⟩, List.mem_of_getElem? (i := 95) (by decide +kernel), List.mem_of_getElem? (i := 334) (by decide +kernel), List.mem_of_getElem? (i := 335) (by decide +kernel)⟩
theorem lw_p4 : lw_okq (⟨"BoardCords$Reader", "readLines", "()V"⟩, 7) := ⟨⟨by decide +kernel, by decide +kernel⟩, List.mem_of_getElem? (i := 95) (by decide +kernel), List.mem_of_getElem? (i := 338) (by decide +kernel), List.mem_of_getElem? (i := 339) (by decide +kernel)⟩
theorem lw_p5 : lw_okq (⟨"BoardCords$Reader", "readNumber", "(III)I"⟩, 7) := ⟨⟨by decide +kernel, by decide +kernel⟩, List.mem_of_getElem? (i := 95) (by decide +kernel), List.mem_of_getElem? (i := 342) (by decide +kernel), List.mem_of_getElem? (i := 343) (by decide +kernel)⟩
theorem lw_p6 : lw_okq (⟨"BoardCords$Reader", "failAt", "(I)V"⟩, 7) := ⟨⟨by decide +kernel, by decide +kernel⟩, List.mem_of_getElem? (i := 95) (by decide +kernel), List.mem_of_getElem? (i := 349) (by decide +kernel), List.mem_of_getElem? (i := 350) (by decide +kernel)⟩
theorem lw_p7 : lw_okq (⟨"BoardCords$Reader", "readCords", "()V"⟩, 7) := ⟨⟨by decide +kernel, by decide +kernel⟩, List.mem_of_getElem? (i := 95) (by decide +kernel), List.mem_of_getElem? (i := 353) (by decide +kernel), List.mem_of_getElem? (i := 354) (by decide +kernel)⟩
theorem lw_p8 : lw_okq (⟨"BoardCords$Reader", "readHole", "()V"⟩, 7) := ⟨⟨by decide +kernel, by decide +kernel⟩, List.mem_of_getElem? (i := 95) (by decide +kernel), List.mem_of_getElem? (i := 357) (by decide +kernel), List.mem_of_getElem? (i := 358) (by decide +kernel)⟩
theorem lw_p9 : lw_okq (⟨"BoardCords$Reader", "readCall", "()V"⟩, 7) := ⟨⟨by decide +kernel, by decide +kernel⟩, List.mem_of_getElem? (i := 95) (by decide +kernel), List.mem_of_getElem? (i := 365) (by decide +kernel), List.mem_of_getElem? (i := 366) (by decide +kernel)⟩
theorem lw_p10 : lw_okq (⟨"BoardCords$Reader", "readEnd", "()V"⟩, 7) := ⟨⟨by decide +kernel, by decide +kernel⟩, List.mem_of_getElem? (i := 95) (by decide +kernel), List.mem_of_getElem? (i := 369) (by decide +kernel), List.mem_of_getElem? (i := 370) (by decide +kernel)⟩
theorem lw_p11 : lw_okq (⟨"BoardCords", "freeCords", "()I"⟩, 12) := ⟨⟨by decide +kernel, by decide +kernel⟩, List.mem_of_getElem? (i := 14) (by decide +kernel), List.mem_of_getElem? (i := 410) (by decide +kernel), List.mem_of_getElem? (i := 411) (by decide +kernel)⟩
theorem lw_p12 : lw_okq (⟨"BoardCords$Moment", "cross", "(II)Z"⟩, 6) := ⟨⟨by decide +kernel, by decide +kernel⟩, List.mem_of_getElem? (i := 126) (by decide +kernel), List.mem_of_getElem? (i := 428) (by decide +kernel), List.mem_of_getElem? (i := 429) (by decide +kernel)⟩
theorem lw_p13 : lw_okq (⟨"BoardCords$Moment", "isBetween", "(II)Z"⟩, 6) := ⟨⟨by decide +kernel, by decide +kernel⟩, List.mem_of_getElem? (i := 126) (by decide +kernel), List.mem_of_getElem? (i := 436) (by decide +kernel), List.mem_of_getElem? (i := 437) (by decide +kernel)⟩
theorem lw_p14 : lw_okq (⟨"BoardCords$Moment", "hasRoom", "(III)Z"⟩, 6) := ⟨⟨by decide +kernel, by decide +kernel⟩, List.mem_of_getElem? (i := 126) (by decide +kernel), List.mem_of_getElem? (i := 471) (by decide +kernel), List.mem_of_getElem? (i := 472) (by decide +kernel)⟩
theorem lw_p15 : lw_okq (⟨"BoardCords$Moment", "linesFree", "(II)Z"⟩, 6) := ⟨⟨by decide +kernel, by decide +kernel⟩, List.mem_of_getElem? (i := 126) (by decide +kernel), List.mem_of_getElem? (i := 475) (by decide +kernel), List.mem_of_getElem? (i := 476) (by decide +kernel)⟩
def lw_privs_1 : List (MethodName × Nat) := [(⟨"BoardCords$Moment", "letFall", "()V"⟩, 6), (⟨"BoardCords$Reader", "skipBlanks", "()V"⟩, 7), (⟨"BoardCords$Reader", "readItem", "()V"⟩, 7), (⟨"BoardCords$Reader", "letterHere", "()I"⟩, 7), (⟨"BoardCords$Reader", "readLines", "()V"⟩, 7), (⟨"BoardCords$Reader", "readNumber", "(III)I"⟩, 7), (⟨"BoardCords$Reader", "failAt", "(I)V"⟩, 7), (⟨"BoardCords$Reader", "readCords", "()V"⟩, 7), (⟨"BoardCords$Reader", "readHole", "()V"⟩, 7), (⟨"BoardCords$Reader", "readCall", "()V"⟩, 7), (⟨"BoardCords$Reader", "readEnd", "()V"⟩, 7), (⟨"BoardCords", "freeCords", "()I"⟩, 12), (⟨"BoardCords$Moment", "cross", "(II)Z"⟩, 6), (⟨"BoardCords$Moment", "isBetween", "(II)Z"⟩, 6), (⟨"BoardCords$Moment", "hasRoom", "(III)Z"⟩, 6), (⟨"BoardCords$Moment", "linesFree", "(II)Z"⟩, 6)]
theorem lw_r1 : ∀ q ∈ lw_privs_1, lw_okq q := List.forall_mem_cons.mpr ⟨lw_p0, List.forall_mem_cons.mpr ⟨lw_p1, List.forall_mem_cons.mpr ⟨lw_p2, List.forall_mem_cons.mpr ⟨lw_p3, List.forall_mem_cons.mpr ⟨lw_p4, List.forall_mem_cons.mpr ⟨lw_p5, List.forall_mem_cons.mpr ⟨lw_p6, List.forall_mem_cons.mpr ⟨lw_p7, List.forall_mem_cons.mpr ⟨lw_p8, List.forall_mem_cons.mpr ⟨lw_p9, List.forall_mem_cons.mpr ⟨lw_p10, List.forall_mem_cons.mpr ⟨lw_p11, List.forall_mem_cons.mpr ⟨lw_p12, List.forall_mem_cons.mpr ⟨lw_p13, List.forall_mem_cons.mpr ⟨lw_p14, List.forall_mem_cons.mpr ⟨lw_p15, fun _ h => absurd h List.not_mem_nil⟩⟩⟩⟩⟩⟩⟩⟩⟩⟩⟩⟩⟩⟩⟩⟩
theorem lw_p16 : lw_okq (⟨"BoardCords$Day", "sort", "(I)V"⟩, 5) := ⟨⟨by decide +kernel, by decide +kernel⟩, List.mem_of_getElem? (i := 175) (by decide +kernel), List.mem_of_getElem? (i := 525) (by decide +kernel), List.mem_of_getElem? (i := 526) (by decide +kernel)⟩
theorem lw_p17 : lw_okq (⟨"BoardCords$Day", "key", "(II)I"⟩, 5) := ⟨⟨by decide +kernel, by decide +kernel⟩, List.mem_of_getElem? (i := 175) (by decide +kernel), List.mem_of_getElem? (i := 529) (by decide +kernel), List.mem_of_getElem? (i := 530) (by decide +kernel)⟩
theorem lw_p18 : lw_okq (⟨"BoardCords$Day", "plugAll", "(I)V"⟩, 5) := ⟨⟨by decide +kernel, by decide +kernel⟩, List.mem_of_getElem? (i := 175) (by decide +kernel), List.mem_of_getElem? (i := 534) (by decide +kernel), List.mem_of_getElem? (i := 535) (by decide +kernel)⟩
theorem lw_p19 : lw_okq (⟨"BoardCords$Moment", "sumOf", "([II)I"⟩, 6) := ⟨⟨by decide +kernel, by decide +kernel⟩, List.mem_of_getElem? (i := 126) (by decide +kernel), List.mem_of_getElem? (i := 552) (by decide +kernel), List.mem_of_getElem? (i := 553) (by decide +kernel)⟩
theorem lw_p20 : lw_okq (⟨"BoardCords$RowSearch", "prepare", "(LBoardCords$Moment;)V"⟩, 8) := ⟨⟨by decide +kernel, by decide +kernel⟩, List.mem_of_getElem? (i := 203) (by decide +kernel), List.mem_of_getElem? (i := 568) (by decide +kernel), List.mem_of_getElem? (i := 569) (by decide +kernel)⟩
theorem lw_p21 : lw_okq (⟨"BoardCords$RowSearch", "waitsFor", "(I)I"⟩, 8) := ⟨⟨by decide +kernel, by decide +kernel⟩, List.mem_of_getElem? (i := 203) (by decide +kernel), List.mem_of_getElem? (i := 573) (by decide +kernel), List.mem_of_getElem? (i := 574) (by decide +kernel)⟩
theorem lw_p22 : lw_okq (⟨"BoardCords$RowSearch", "plugAlong", "(I)I"⟩, 8) := ⟨⟨by decide +kernel, by decide +kernel⟩, List.mem_of_getElem? (i := 203) (by decide +kernel), List.mem_of_getElem? (i := 578) (by decide +kernel), List.mem_of_getElem? (i := 579) (by decide +kernel)⟩
theorem lw_p23 : lw_okq (⟨"BoardCords$RowSearch", "nextEnd", "(I)I"⟩, 8) := ⟨⟨by decide +kernel, by decide +kernel⟩, List.mem_of_getElem? (i := 203) (by decide +kernel), List.mem_of_getElem? (i := 582) (by decide +kernel), List.mem_of_getElem? (i := 583) (by decide +kernel)⟩
theorem lw_p24 : lw_okq (⟨"BoardCords$Moment", "cutsLess", "(II)Z"⟩, 6) := ⟨⟨by decide +kernel, by decide +kernel⟩, List.mem_of_getElem? (i := 126) (by decide +kernel), List.mem_of_getElem? (i := 597) (by decide +kernel), List.mem_of_getElem? (i := 598) (by decide +kernel)⟩
theorem lw_p25 : lw_okq (⟨"BoardCords$Moment", "leftOf", "(I)I"⟩, 6) := ⟨⟨by decide +kernel, by decide +kernel⟩, List.mem_of_getElem? (i := 126) (by decide +kernel), List.mem_of_getElem? (i := 601) (by decide +kernel), List.mem_of_getElem? (i := 602) (by decide +kernel)⟩
theorem lw_p26 : lw_okq (⟨"BoardCords", "tenthsFree", "(III)I"⟩, 12) := ⟨⟨by decide +kernel, by decide +kernel⟩, List.mem_of_getElem? (i := 14) (by decide +kernel), List.mem_of_getElem? (i := 658) (by decide +kernel), List.mem_of_getElem? (i := 659) (by decide +kernel)⟩
theorem lw_p27 : lw_okq (⟨"BoardCords", "asCall", "(I)I"⟩, 12) := ⟨⟨by decide +kernel, by decide +kernel⟩, List.mem_of_getElem? (i := 14) (by decide +kernel), List.mem_of_getElem? (i := 670) (by decide +kernel), List.mem_of_getElem? (i := 671) (by decide +kernel)⟩
theorem lw_p28 : lw_okq (⟨"BoardCords", "asDoctor", "(I)I"⟩, 12) := ⟨⟨by decide +kernel, by decide +kernel⟩, List.mem_of_getElem? (i := 14) (by decide +kernel), List.mem_of_getElem? (i := 674) (by decide +kernel), List.mem_of_getElem? (i := 675) (by decide +kernel)⟩
theorem lw_p29 : lw_okq (⟨"BoardCords", "asGossip", "(I)I"⟩, 12) := ⟨⟨by decide +kernel, by decide +kernel⟩, List.mem_of_getElem? (i := 14) (by decide +kernel), List.mem_of_getElem? (i := 679) (by decide +kernel), List.mem_of_getElem? (i := 680) (by decide +kernel)⟩
theorem lw_p30 : lw_okq (⟨"BoardCords", "asFire", "(I)I"⟩, 12) := ⟨⟨by decide +kernel, by decide +kernel⟩, List.mem_of_getElem? (i := 14) (by decide +kernel), List.mem_of_getElem? (i := 684) (by decide +kernel), List.mem_of_getElem? (i := 685) (by decide +kernel)⟩
theorem lw_p31 : lw_okq (⟨"BoardCords", "asWife", "(I)I"⟩, 12) := ⟨⟨by decide +kernel, by decide +kernel⟩, List.mem_of_getElem? (i := 14) (by decide +kernel), List.mem_of_getElem? (i := 689) (by decide +kernel), List.mem_of_getElem? (i := 690) (by decide +kernel)⟩
def lw_privs_2 : List (MethodName × Nat) := [(⟨"BoardCords$Day", "sort", "(I)V"⟩, 5), (⟨"BoardCords$Day", "key", "(II)I"⟩, 5), (⟨"BoardCords$Day", "plugAll", "(I)V"⟩, 5), (⟨"BoardCords$Moment", "sumOf", "([II)I"⟩, 6), (⟨"BoardCords$RowSearch", "prepare", "(LBoardCords$Moment;)V"⟩, 8), (⟨"BoardCords$RowSearch", "waitsFor", "(I)I"⟩, 8), (⟨"BoardCords$RowSearch", "plugAlong", "(I)I"⟩, 8), (⟨"BoardCords$RowSearch", "nextEnd", "(I)I"⟩, 8), (⟨"BoardCords$Moment", "cutsLess", "(II)Z"⟩, 6), (⟨"BoardCords$Moment", "leftOf", "(I)I"⟩, 6), (⟨"BoardCords", "tenthsFree", "(III)I"⟩, 12), (⟨"BoardCords", "asCall", "(I)I"⟩, 12), (⟨"BoardCords", "asDoctor", "(I)I"⟩, 12), (⟨"BoardCords", "asGossip", "(I)I"⟩, 12), (⟨"BoardCords", "asFire", "(I)I"⟩, 12), (⟨"BoardCords", "asWife", "(I)I"⟩, 12)]
theorem lw_r2 : ∀ q ∈ lw_privs_2, lw_okq q := List.forall_mem_cons.mpr ⟨lw_p16, List.forall_mem_cons.mpr ⟨lw_p17, List.forall_mem_cons.mpr ⟨lw_p18, List.forall_mem_cons.mpr ⟨lw_p19, List.forall_mem_cons.mpr ⟨lw_p20, List.forall_mem_cons.mpr ⟨lw_p21, List.forall_mem_cons.mpr ⟨lw_p22, List.forall_mem_cons.mpr ⟨lw_p23, List.forall_mem_cons.mpr ⟨lw_p24, List.forall_mem_cons.mpr ⟨lw_p25, List.forall_mem_cons.mpr ⟨lw_p26, List.forall_mem_cons.mpr ⟨lw_p27, List.forall_mem_cons.mpr ⟨lw_p28, List.forall_mem_cons.mpr ⟨lw_p29, List.forall_mem_cons.mpr ⟨lw_p30, List.forall_mem_cons.mpr ⟨lw_p31, fun _ h => absurd h List.not_mem_nil⟩⟩⟩⟩⟩⟩⟩⟩⟩⟩⟩⟩⟩⟩⟩⟩
theorem lw_p32 : lw_okq (⟨"BoardCords", "asWrong", "(I)I"⟩, 12) := ⟨⟨by decide +kernel, by decide +kernel⟩, List.mem_of_getElem? (i := 14) (by decide +kernel), List.mem_of_getElem? (i := 694) (by decide +kernel), List.mem_of_getElem? (i := 695) (by decide +kernel)⟩
theorem lw_p33 : lw_okq (⟨"BoardCordsModel", "begin", "()V"⟩, 29) := ⟨⟨by decide +kernel, by decide +kernel⟩, List.mem_of_getElem? (i := 721) (by decide +kernel), List.mem_of_getElem? (i := 727) (by decide +kernel), List.mem_of_getElem? (i := 728) (by decide +kernel)⟩
theorem lw_p34 : lw_okq (⟨"BoardCordsModel", "isRead", "()Z"⟩, 29) := ⟨⟨by decide +kernel, by decide +kernel⟩, List.mem_of_getElem? (i := 721) (by decide +kernel), List.mem_of_getElem? (i := 833) (by decide +kernel), List.mem_of_getElem? (i := 834) (by decide +kernel)⟩
theorem lw_p35 : lw_okq (⟨"BoardCordsModel", "nextToken", "()V"⟩, 29) := ⟨⟨by decide +kernel, by decide +kernel⟩, List.mem_of_getElem? (i := 721) (by decide +kernel), List.mem_of_getElem? (i := 837) (by decide +kernel), List.mem_of_getElem? (i := 838) (by decide +kernel)⟩
theorem lw_p36 : lw_okq (⟨"BoardCordsModel", "isItem", "()Z"⟩, 29) := ⟨⟨by decide +kernel, by decide +kernel⟩, List.mem_of_getElem? (i := 721) (by decide +kernel), List.mem_of_getElem? (i := 841) (by decide +kernel), List.mem_of_getElem? (i := 842) (by decide +kernel)⟩
theorem lw_p37 : lw_okq (⟨"BoardCordsModel", "isNumber", "(II)Z"⟩, 29) := ⟨⟨by decide +kernel, by decide +kernel⟩, List.mem_of_getElem? (i := 721) (by decide +kernel), List.mem_of_getElem? (i := 845) (by decide +kernel), List.mem_of_getElem? (i := 846) (by decide +kernel)⟩
theorem lw_p38 : lw_okq (⟨"BoardCordsModel", "isEnd", "()Z"⟩, 29) := ⟨⟨by decide +kernel, by decide +kernel⟩, List.mem_of_getElem? (i := 721) (by decide +kernel), List.mem_of_getElem? (i := 849) (by decide +kernel), List.mem_of_getElem? (i := 850) (by decide +kernel)⟩
theorem lw_p39 : lw_okq (⟨"BoardCordsModel", "isHole", "()Z"⟩, 29) := ⟨⟨by decide +kernel, by decide +kernel⟩, List.mem_of_getElem? (i := 721) (by decide +kernel), List.mem_of_getElem? (i := 853) (by decide +kernel), List.mem_of_getElem? (i := 854) (by decide +kernel)⟩
theorem lw_p40 : lw_okq (⟨"BoardCordsModel", "isCallItem", "()Z"⟩, 29) := ⟨⟨by decide +kernel, by decide +kernel⟩, List.mem_of_getElem? (i := 721) (by decide +kernel), List.mem_of_getElem? (i := 857) (by decide +kernel), List.mem_of_getElem? (i := 858) (by decide +kernel)⟩
theorem lw_p41 : lw_okq (⟨"BoardCordsModel", "isLine", "(I)Z"⟩, 29) := ⟨⟨by decide +kernel, by decide +kernel⟩, List.mem_of_getElem? (i := 721) (by decide +kernel), List.mem_of_getElem? (i := 865) (by decide +kernel), List.mem_of_getElem? (i := 866) (by decide +kernel)⟩
theorem lw_p42 : lw_okq (⟨"BoardCordsModel", "holeOf", "(I)I"⟩, 29) := ⟨⟨by decide +kernel, by decide +kernel⟩, List.mem_of_getElem? (i := 721) (by decide +kernel), List.mem_of_getElem? (i := 869) (by decide +kernel), List.mem_of_getElem? (i := 870) (by decide +kernel)⟩
theorem lw_p43 : lw_okq (⟨"BoardCordsModel", "talkerOn", "([II)I"⟩, 29) := ⟨⟨by decide +kernel, by decide +kernel⟩, List.mem_of_getElem? (i := 721) (by decide +kernel), List.mem_of_getElem? (i := 873) (by decide +kernel), List.mem_of_getElem? (i := 874) (by decide +kernel)⟩
theorem lw_p44 : lw_okq (⟨"BoardCordsModel", "isOn", "(II)Z"⟩, 29) := ⟨⟨by decide +kernel, by decide +kernel⟩, List.mem_of_getElem? (i := 721) (by decide +kernel), List.mem_of_getElem? (i := 877) (by decide +kernel), List.mem_of_getElem? (i := 878) (by decide +kernel)⟩
theorem lw_p45 : lw_okq (⟨"BoardCordsModel", "fromOf", "(I)I"⟩, 29) := ⟨⟨by decide +kernel, by decide +kernel⟩, List.mem_of_getElem? (i := 721) (by decide +kernel), List.mem_of_getElem? (i := 881) (by decide +kernel), List.mem_of_getElem? (i := 882) (by decide +kernel)⟩
theorem lw_p46 : lw_okq (⟨"BoardCordsModel", "toOf", "(I)I"⟩, 29) := ⟨⟨by decide +kernel, by decide +kernel⟩, List.mem_of_getElem? (i := 721) (by decide +kernel), List.mem_of_getElem? (i := 885) (by decide +kernel), List.mem_of_getElem? (i := 886) (by decide +kernel)⟩
theorem lw_p47 : lw_okq (⟨"BoardCordsModel", "isCall", "(I)Z"⟩, 29) := ⟨⟨by decide +kernel, by decide +kernel⟩, List.mem_of_getElem? (i := 721) (by decide +kernel), List.mem_of_getElem? (i := 893) (by decide +kernel), List.mem_of_getElem? (i := 894) (by decide +kernel)⟩
def lw_privs_3 : List (MethodName × Nat) := [(⟨"BoardCords", "asWrong", "(I)I"⟩, 12), (⟨"BoardCordsModel", "begin", "()V"⟩, 29), (⟨"BoardCordsModel", "isRead", "()Z"⟩, 29), (⟨"BoardCordsModel", "nextToken", "()V"⟩, 29), (⟨"BoardCordsModel", "isItem", "()Z"⟩, 29), (⟨"BoardCordsModel", "isNumber", "(II)Z"⟩, 29), (⟨"BoardCordsModel", "isEnd", "()Z"⟩, 29), (⟨"BoardCordsModel", "isHole", "()Z"⟩, 29), (⟨"BoardCordsModel", "isCallItem", "()Z"⟩, 29), (⟨"BoardCordsModel", "isLine", "(I)Z"⟩, 29), (⟨"BoardCordsModel", "holeOf", "(I)I"⟩, 29), (⟨"BoardCordsModel", "talkerOn", "([II)I"⟩, 29), (⟨"BoardCordsModel", "isOn", "(II)Z"⟩, 29), (⟨"BoardCordsModel", "fromOf", "(I)I"⟩, 29), (⟨"BoardCordsModel", "toOf", "(I)I"⟩, 29), (⟨"BoardCordsModel", "isCall", "(I)Z"⟩, 29)]
theorem lw_r3 : ∀ q ∈ lw_privs_3, lw_okq q := List.forall_mem_cons.mpr ⟨lw_p32, List.forall_mem_cons.mpr ⟨lw_p33, List.forall_mem_cons.mpr ⟨lw_p34, List.forall_mem_cons.mpr ⟨lw_p35, List.forall_mem_cons.mpr ⟨lw_p36, List.forall_mem_cons.mpr ⟨lw_p37, List.forall_mem_cons.mpr ⟨lw_p38, List.forall_mem_cons.mpr ⟨lw_p39, List.forall_mem_cons.mpr ⟨lw_p40, List.forall_mem_cons.mpr ⟨lw_p41, List.forall_mem_cons.mpr ⟨lw_p42, List.forall_mem_cons.mpr ⟨lw_p43, List.forall_mem_cons.mpr ⟨lw_p44, List.forall_mem_cons.mpr ⟨lw_p45, List.forall_mem_cons.mpr ⟨lw_p46, List.forall_mem_cons.mpr ⟨lw_p47, fun _ h => absurd h List.not_mem_nil⟩⟩⟩⟩⟩⟩⟩⟩⟩⟩⟩⟩⟩⟩⟩⟩
theorem lw_p48 : lw_okq (⟨"BoardCordsModel", "setOf", "([II)I"⟩, 29) := ⟨⟨by decide +kernel, by decide +kernel⟩, List.mem_of_getElem? (i := 721) (by decide +kernel), List.mem_of_getElem? (i := 901) (by decide +kernel), List.mem_of_getElem? (i := 902) (by decide +kernel)⟩
theorem lw_p49 : lw_okq (⟨"BoardCordsModel", "freeCords", "([II)I"⟩, 29) := ⟨⟨by decide +kernel, by decide +kernel⟩, List.mem_of_getElem? (i := 721) (by decide +kernel), List.mem_of_getElem? (i := 905) (by decide +kernel), List.mem_of_getElem? (i := 906) (by decide +kernel)⟩
theorem lw_p50 : lw_okq (⟨"BoardCordsModel", "crossed", "()I"⟩, 29) := ⟨⟨by decide +kernel, by decide +kernel⟩, List.mem_of_getElem? (i := 721) (by decide +kernel), List.mem_of_getElem? (i := 912) (by decide +kernel), List.mem_of_getElem? (i := 913) (by decide +kernel)⟩
theorem lw_p51 : lw_okq (⟨"BoardCordsModel", "cross", "(II)Z"⟩, 29) := ⟨⟨by decide +kernel, by decide +kernel⟩, List.mem_of_getElem? (i := 721) (by decide +kernel), List.mem_of_getElem? (i := 916) (by decide +kernel), List.mem_of_getElem? (i := 917) (by decide +kernel)⟩
theorem lw_p52 : lw_okq (⟨"BoardCordsModel", "note", "()V"⟩, 29) := ⟨⟨by decide +kernel, by decide +kernel⟩, List.mem_of_getElem? (i := 721) (by decide +kernel), List.mem_of_getElem? (i := 927) (by decide +kernel), List.mem_of_getElem? (i := 928) (by decide +kernel)⟩
theorem lw_p53 : lw_okq (⟨"BoardCordsModel", "pass", "([I)V"⟩, 29) := ⟨⟨by decide +kernel, by decide +kernel⟩, List.mem_of_getElem? (i := 721) (by decide +kernel), List.mem_of_getElem? (i := 934) (by decide +kernel), List.mem_of_getElem? (i := 935) (by decide +kernel)⟩
theorem lw_p54 : lw_okq (⟨"BoardCordsModel", "canPlug", "([III)Z"⟩, 29) := ⟨⟨by decide +kernel, by decide +kernel⟩, List.mem_of_getElem? (i := 721) (by decide +kernel), List.mem_of_getElem? (i := 942) (by decide +kernel), List.mem_of_getElem? (i := 943) (by decide +kernel)⟩
theorem lw_p55 : lw_okq (⟨"BoardCordsModel", "areFree", "([II)Z"⟩, 29) := ⟨⟨by decide +kernel, by decide +kernel⟩, List.mem_of_getElem? (i := 721) (by decide +kernel), List.mem_of_getElem? (i := 946) (by decide +kernel), List.mem_of_getElem? (i := 947) (by decide +kernel)⟩
theorem lw_p56 : lw_okq (⟨"BoardCordsModel", "plug", "([II)V"⟩, 29) := ⟨⟨by decide +kernel, by decide +kernel⟩, List.mem_of_getElem? (i := 721) (by decide +kernel), List.mem_of_getElem? (i := 950) (by decide +kernel), List.mem_of_getElem? (i := 951) (by decide +kernel)⟩
theorem lw_p57 : lw_okq (⟨"BoardCordsModel", "layOrder", "(I)V"⟩, 29) := ⟨⟨by decide +kernel, by decide +kernel⟩, List.mem_of_getElem? (i := 721) (by decide +kernel), List.mem_of_getElem? (i := 970) (by decide +kernel), List.mem_of_getElem? (i := 971) (by decide +kernel)⟩
theorem lw_p58 : lw_okq (⟨"BoardCordsModel", "isAhead", "(III)Z"⟩, 29) := ⟨⟨by decide +kernel, by decide +kernel⟩, List.mem_of_getElem? (i := 721) (by decide +kernel), List.mem_of_getElem? (i := 974) (by decide +kernel), List.mem_of_getElem? (i := 975) (by decide +kernel)⟩
theorem lw_p59 : lw_okq (⟨"BoardCordsModel", "plugAll", "([III)V"⟩, 29) := ⟨⟨by decide +kernel, by decide +kernel⟩, List.mem_of_getElem? (i := 721) (by decide +kernel), List.mem_of_getElem? (i := 978) (by decide +kernel), List.mem_of_getElem? (i := 979) (by decide +kernel)⟩
theorem lw_p60 : lw_okq (⟨"BoardCordsModel", "isEnough", "(I)Z"⟩, 29) := ⟨⟨by decide +kernel, by decide +kernel⟩, List.mem_of_getElem? (i := 721) (by decide +kernel), List.mem_of_getElem? (i := 989) (by decide +kernel), List.mem_of_getElem? (i := 990) (by decide +kernel)⟩
theorem lw_p61 : lw_okq (⟨"BoardCordsModel", "waitedBy", "(I)I"⟩, 29) := ⟨⟨by decide +kernel, by decide +kernel⟩, List.mem_of_getElem? (i := 721) (by decide +kernel), List.mem_of_getElem? (i := 997) (by decide +kernel), List.mem_of_getElem? (i := 998) (by decide +kernel)⟩
theorem lw_p62 : lw_okq (⟨"BoardCordsModel", "nextRow", "([II)Z"⟩, 29) := ⟨⟨by decide +kernel, by decide +kernel⟩, List.mem_of_getElem? (i := 721) (by decide +kernel), List.mem_of_getElem? (i := 1001) (by decide +kernel), List.mem_of_getElem? (i := 1002) (by decide +kernel)⟩
theorem lw_p63 : lw_okq (⟨"BoardCordsModel", "longBy", "([II)I"⟩, 29) := ⟨⟨by decide +kernel, by decide +kernel⟩, List.mem_of_getElem? (i := 721) (by decide +kernel), List.mem_of_getElem? (i := 1013) (by decide +kernel), List.mem_of_getElem? (i := 1014) (by decide +kernel)⟩
def lw_privs_4 : List (MethodName × Nat) := [(⟨"BoardCordsModel", "setOf", "([II)I"⟩, 29), (⟨"BoardCordsModel", "freeCords", "([II)I"⟩, 29), (⟨"BoardCordsModel", "crossed", "()I"⟩, 29), (⟨"BoardCordsModel", "cross", "(II)Z"⟩, 29), (⟨"BoardCordsModel", "note", "()V"⟩, 29), (⟨"BoardCordsModel", "pass", "([I)V"⟩, 29), (⟨"BoardCordsModel", "canPlug", "([III)Z"⟩, 29), (⟨"BoardCordsModel", "areFree", "([II)Z"⟩, 29), (⟨"BoardCordsModel", "plug", "([II)V"⟩, 29), (⟨"BoardCordsModel", "layOrder", "(I)V"⟩, 29), (⟨"BoardCordsModel", "isAhead", "(III)Z"⟩, 29), (⟨"BoardCordsModel", "plugAll", "([III)V"⟩, 29), (⟨"BoardCordsModel", "isEnough", "(I)Z"⟩, 29), (⟨"BoardCordsModel", "waitedBy", "(I)I"⟩, 29), (⟨"BoardCordsModel", "nextRow", "([II)Z"⟩, 29), (⟨"BoardCordsModel", "longBy", "([II)I"⟩, 29)]
theorem lw_r4 : ∀ q ∈ lw_privs_4, lw_okq q := List.forall_mem_cons.mpr ⟨lw_p48, List.forall_mem_cons.mpr ⟨lw_p49, List.forall_mem_cons.mpr ⟨lw_p50, List.forall_mem_cons.mpr ⟨lw_p51, List.forall_mem_cons.mpr ⟨lw_p52, List.forall_mem_cons.mpr ⟨lw_p53, List.forall_mem_cons.mpr ⟨lw_p54, List.forall_mem_cons.mpr ⟨lw_p55, List.forall_mem_cons.mpr ⟨lw_p56, List.forall_mem_cons.mpr ⟨lw_p57, List.forall_mem_cons.mpr ⟨lw_p58, List.forall_mem_cons.mpr ⟨lw_p59, List.forall_mem_cons.mpr ⟨lw_p60, List.forall_mem_cons.mpr ⟨lw_p61, List.forall_mem_cons.mpr ⟨lw_p62, List.forall_mem_cons.mpr ⟨lw_p63, fun _ h => absurd h List.not_mem_nil⟩⟩⟩⟩⟩⟩⟩⟩⟩⟩⟩⟩⟩⟩⟩⟩
theorem lw_p64 : lw_okq (⟨"BoardCordsModel", "rankOf", "(I)I"⟩, 29) := ⟨⟨by decide +kernel, by decide +kernel⟩, List.mem_of_getElem? (i := 721) (by decide +kernel), List.mem_of_getElem? (i := 1046) (by decide +kernel), List.mem_of_getElem? (i := 1047) (by decide +kernel)⟩
theorem lw_p65 : lw_okq (⟨"BoardCordsModel", "doctorOf", "(I)I"⟩, 29) := ⟨⟨by decide +kernel, by decide +kernel⟩, List.mem_of_getElem? (i := 721) (by decide +kernel), List.mem_of_getElem? (i := 1050) (by decide +kernel), List.mem_of_getElem? (i := 1051) (by decide +kernel)⟩
theorem lw_p66 : lw_okq (⟨"BoardCordsModel", "gossipOf", "(I)I"⟩, 29) := ⟨⟨by decide +kernel, by decide +kernel⟩, List.mem_of_getElem? (i := 721) (by decide +kernel), List.mem_of_getElem? (i := 1055) (by decide +kernel), List.mem_of_getElem? (i := 1056) (by decide +kernel)⟩
def lw_privs_5 : List (MethodName × Nat) := [(⟨"BoardCordsModel", "rankOf", "(I)I"⟩, 29), (⟨"BoardCordsModel", "doctorOf", "(I)I"⟩, 29), (⟨"BoardCordsModel", "gossipOf", "(I)I"⟩, 29)]
theorem lw_r5 : ∀ q ∈ lw_privs_5, lw_okq q := List.forall_mem_cons.mpr ⟨lw_p64, List.forall_mem_cons.mpr ⟨lw_p65, List.forall_mem_cons.mpr ⟨lw_p66, fun _ h => absurd h List.not_mem_nil⟩⟩⟩
def lw_privs : List (MethodName × Nat) := lw_privs_1 ++ (lw_privs_2 ++ (lw_privs_3 ++ (lw_privs_4 ++ (lw_privs_5))))
def lw_tbl : List Cond := k2_sels lw_privs ++ tables_1
theorem lw_privs_ok : ∀ q ∈ lw_privs, lw_okq q := by
  show ∀ q ∈ lw_privs_1 ++ (lw_privs_2 ++ (lw_privs_3 ++ (lw_privs_4 ++ (lw_privs_5)))), lw_okq q
  exact List.forall_mem_append.mpr ⟨lw_r1, List.forall_mem_append.mpr ⟨lw_r2, List.forall_mem_append.mpr ⟨lw_r3, List.forall_mem_append.mpr ⟨lw_r4, lw_r5⟩⟩⟩⟩
-- ===== end of PART A; then your names; then what follows =====
end
section
/-! ===== BEGIN printed: names, fields, word lists, decode rows ===== -/
def RX0 : String := "BoardCords$Day"
def TX0 : u_T := fun k => match k with
  | 0 => ("BoardCords$Day", "told", "LBoardCords$Told;", true)
  | 1 => ("BoardCords$Day", "trial", "LBoardCords$Moment;", true)
  | 2 => ("BoardCords$Day", "order", "[I", true)
  | 3 => ("BoardCords$Day", "firstDone", "I", false)
  | _ => ("BoardCords$Day", "lacksCord", "Z", false)
def tyX0 : Nat → FieldType := fun k => match k with
  | 0 => .object "BoardCords$Told"
  | 1 => .object "BoardCords$Moment"
  | 2 => .array .int
  | 3 => .int
  | _ => .boolean
abbrev wsX00 : List Cond := u_ws RX0 TX0 5
theorem nmX0 : ∀ a, a < 5 → ∀ b, b < 5 → a ≠ b → (TX0 a).2.1 ≠ (TX0 b).2.1 := by decide +kernel
theorem tyX0_ok : ∀ k, k < 5 → parseFieldDescriptor (TX0 k).2.2.1 = some (tyX0 k) := by decide +kernel
abbrev cX0_init : ByteArray := prog_2_method_1_code
def yX0_init : MethodName := ⟨RX0, "<init>", "(LBoardCords$Told;)V"⟩
abbrev cX0_go : ByteArray := prog_2_method_2_code
def yX0_go : MethodName := ⟨RX0, "go", "(LBoardCords$Moment;III)V"⟩
abbrev cX0_sort : ByteArray := prog_2_method_3_code
def yX0_sort : MethodName := ⟨RX0, "sort", "(I)V"⟩
abbrev cX0_key : ByteArray := prog_2_method_4_code
def yX0_key : MethodName := ⟨RX0, "key", "(II)I"⟩
abbrev cX0_plugAll : ByteArray := prog_2_method_5_code
def yX0_plugAll : MethodName := ⟨RX0, "plugAll", "(I)V"⟩
abbrev cX0_lowest : ByteArray := prog_2_method_6_code
def yX0_lowest : MethodName := ⟨RX0, "lowest", "(I)I"⟩
def RX1 : String := "BoardCords$HoleSearch"
def TX1 : u_T := fun k => match k with
  | 0 => ("BoardCords$HoleSearch", "told", "LBoardCords$Told;", true)
  | 1 => ("BoardCords$HoleSearch", "row", "[I", true)
  | 2 => ("BoardCords$HoleSearch", "best", "[I", true)
  | _ => ("BoardCords$HoleSearch", "least", "I", false)
def tyX1 : Nat → FieldType := fun k => match k with
  | 0 => .object "BoardCords$Told"
  | 1 => .array .int
  | 2 => .array .int
  | _ => .int
abbrev wsX10 : List Cond := u_ws RX1 TX1 4
theorem nmX1 : ∀ a, a < 4 → ∀ b, b < 4 → a ≠ b → (TX1 a).2.1 ≠ (TX1 b).2.1 := by decide +kernel
theorem tyX1_ok : ∀ k, k < 4 → parseFieldDescriptor (TX1 k).2.2.1 = some (tyX1 k) := by decide +kernel
abbrev cX1_init : ByteArray := prog_3_method_1_code
def yX1_init : MethodName := ⟨RX1, "<init>", "(LBoardCords$Told;)V"⟩
abbrev cX1_inAll : ByteArray := prog_3_method_2_code
def yX1_inAll : MethodName := ⟨RX1, "inAll", "([I)I"⟩
abbrev cX1_bestExchange : ByteArray := prog_3_method_3_code
def yX1_bestExchange : MethodName := ⟨RX1, "bestExchange", "([I)I"⟩
abbrev cX1_find : ByteArray := prog_3_method_4_code
def yX1_find : MethodName := ⟨RX1, "find", "()V"⟩
def RX2 : String := "BoardCords$Moment"
def TX2 : u_T := fun k => match k with
  | 0 => ("BoardCords$Moment", "told", "LBoardCords$Told;", true)
  | 1 => ("BoardCords$Moment", "minute", "I", false)
  | 2 => ("BoardCords$Moment", "hole", "[I", true)
  | 3 => ("BoardCords$Moment", "how", "[I", true)
  | 4 => ("BoardCords$Moment", "left", "[I", true)
  | _ => ("BoardCords$Moment", "waited", "[I", true)
def tyX2 : Nat → FieldType := fun k => match k with
  | 0 => .object "BoardCords$Told"
  | 1 => .int
  | 2 => .array .int
  | 3 => .array .int
  | 4 => .array .int
  | _ => .array .int
abbrev wsX20 : List Cond := u_ws RX2 TX2 6
theorem nmX2 : ∀ a, a < 6 → ∀ b, b < 6 → a ≠ b → (TX2 a).2.1 ≠ (TX2 b).2.1 := by decide +kernel
theorem tyX2_ok : ∀ k, k < 6 → parseFieldDescriptor (TX2 k).2.2.1 = some (tyX2 k) := by decide +kernel
abbrev cX2_init : ByteArray := prog_4_method_1_code
def yX2_init : MethodName := ⟨RX2, "<init>", "(LBoardCords$Told;)V"⟩
abbrev cX2_begin : ByteArray := prog_4_method_2_code
def yX2_begin : MethodName := ⟨RX2, "begin", "()V"⟩
abbrev cX2_letFall : ByteArray := prog_4_method_3_code
def yX2_letFall : MethodName := ⟨RX2, "letFall", "()V"⟩
abbrev cX2_those : ByteArray := prog_4_method_4_code
def yX2_those : MethodName := ⟨RX2, "those", "(I)I"⟩
abbrev cX2_engagedBy : ByteArray := prog_4_method_5_code
def yX2_engagedBy : MethodName := ⟨RX2, "engagedBy", "(I)I"⟩
abbrev cX2_linesFree : ByteArray := prog_4_method_6_code
def yX2_linesFree : MethodName := ⟨RX2, "linesFree", "(II)Z"⟩
abbrev cX2_hasRoom : ByteArray := prog_4_method_7_code
def yX2_hasRoom : MethodName := ⟨RX2, "hasRoom", "(III)Z"⟩
abbrev cX2_canBePlugged : ByteArray := prog_4_method_8_code
def yX2_canBePlugged : MethodName := ⟨RX2, "canBePlugged", "(II)Z"⟩
abbrev cX2_lacksCord : ByteArray := prog_4_method_9_code
def yX2_lacksCord : MethodName := ⟨RX2, "lacksCord", "(I)Z"⟩
abbrev cX2_plug : ByteArray := prog_4_method_10_code
def yX2_plug : MethodName := ⟨RX2, "plug", "(I)V"⟩
abbrev cX2_pull : ByteArray := prog_4_method_11_code
def yX2_pull : MethodName := ⟨RX2, "pull", "(I)V"⟩
abbrev cX2_passMinute : ByteArray := prog_4_method_12_code
def yX2_passMinute : MethodName := ⟨RX2, "passMinute", "()V"⟩
abbrev cX2_waitedOf : ByteArray := prog_4_method_13_code
def yX2_waitedOf : MethodName := ⟨RX2, "waitedOf", "(I)I"⟩
abbrev cX2_leftOf : ByteArray := prog_4_method_14_code
def yX2_leftOf : MethodName := ⟨RX2, "leftOf", "(I)I"⟩
abbrev cX2_sumOf : ByteArray := prog_4_method_15_code
def yX2_sumOf : MethodName := ⟨RX2, "sumOf", "([II)I"⟩
abbrev cX2_leastCut : ByteArray := prog_4_method_16_code
def yX2_leastCut : MethodName := ⟨RX2, "leastCut", "(I)I"⟩
abbrev cX2_cutsLess : ByteArray := prog_4_method_17_code
def yX2_cutsLess : MethodName := ⟨RX2, "cutsLess", "(II)Z"⟩
abbrev cX2_cross : ByteArray := prog_4_method_18_code
def yX2_cross : MethodName := ⟨RX2, "cross", "(II)Z"⟩
abbrev cX2_isBetween : ByteArray := prog_4_method_19_code
def yX2_isBetween : MethodName := ⟨RX2, "isBetween", "(II)Z"⟩
abbrev cX2_crossedBy : ByteArray := prog_4_method_20_code
def yX2_crossedBy : MethodName := ⟨RX2, "crossedBy", "(I)I"⟩
abbrev cX2_crossings : ByteArray := prog_4_method_21_code
def yX2_crossings : MethodName := ⟨RX2, "crossings", "()I"⟩
abbrev cX2_save : ByteArray := prog_4_method_22_code
def yX2_save : MethodName := ⟨RX2, "save", "([II)V"⟩
abbrev cX2_load : ByteArray := prog_4_method_23_code
def yX2_load : MethodName := ⟨RX2, "load", "([II)V"⟩
abbrev cX2_become : ByteArray := prog_4_method_24_code
def yX2_become : MethodName := ⟨RX2, "become", "(LBoardCords$Moment;)V"⟩
def RX3 : String := "BoardCords$Past"
def TX3 : u_T := fun k => match k with
  | 0 => ("BoardCords$Past", "cells", "[I", true)
  | 1 => ("BoardCords$Past", "next", "I", false)
  | _ => ("BoardCords$Past", "known", "I", false)
def tyX3 : Nat → FieldType := fun k => match k with
  | 0 => .array .int
  | 1 => .int
  | _ => .int
abbrev wsX30 : List Cond := u_ws RX3 TX3 3
theorem nmX3 : ∀ a, a < 3 → ∀ b, b < 3 → a ≠ b → (TX3 a).2.1 ≠ (TX3 b).2.1 := by decide +kernel
theorem tyX3_ok : ∀ k, k < 3 → parseFieldDescriptor (TX3 k).2.2.1 = some (tyX3 k) := by decide +kernel
abbrev cX3_init : ByteArray := prog_5_method_1_code
def yX3_init : MethodName := ⟨RX3, "<init>", "()V"⟩
abbrev cX3_add : ByteArray := prog_5_method_2_code
def yX3_add : MethodName := ⟨RX3, "add", "(LBoardCords$Moment;)V"⟩
abbrev cX3_takeBack : ByteArray := prog_5_method_3_code
def yX3_takeBack : MethodName := ⟨RX3, "takeBack", "(LBoardCords$Moment;)V"⟩
abbrev cX3_forget : ByteArray := prog_5_method_4_code
def yX3_forget : MethodName := ⟨RX3, "forget", "()V"⟩
def RX4 : String := "BoardCords$Reader"
def TX4 : u_T := fun k => match k with
  | 0 => ("BoardCords$Reader", "draft", "LBoardCords$Told;", true)
  | 1 => ("BoardCords$Reader", "text", "[I", true)
  | 2 => ("BoardCords$Reader", "length", "I", false)
  | 3 => ("BoardCords$Reader", "place", "I", false)
  | 4 => ("BoardCords$Reader", "fault", "I", false)
  | 5 => ("BoardCords$Reader", "items", "I", false)
  | _ => ("BoardCords$Reader", "cordsTold", "Z", false)
def tyX4 : Nat → FieldType := fun k => match k with
  | 0 => .object "BoardCords$Told"
  | 1 => .array .int
  | 2 => .int
  | 3 => .int
  | 4 => .int
  | 5 => .int
  | _ => .boolean
abbrev wsX40 : List Cond := u_ws RX4 TX4 7
theorem nmX4 : ∀ a, a < 7 → ∀ b, b < 7 → a ≠ b → (TX4 a).2.1 ≠ (TX4 b).2.1 := by decide +kernel
theorem tyX4_ok : ∀ k, k < 7 → parseFieldDescriptor (TX4 k).2.2.1 = some (tyX4 k) := by decide +kernel
abbrev cX4_init : ByteArray := prog_6_method_1_code
def yX4_init : MethodName := ⟨RX4, "<init>", "([I)V"⟩
abbrev cX4_read : ByteArray := prog_6_method_2_code
def yX4_read : MethodName := ⟨RX4, "read", "(I)I"⟩
abbrev cX4_readItem : ByteArray := prog_6_method_3_code
def yX4_readItem : MethodName := ⟨RX4, "readItem", "()V"⟩
abbrev cX4_readLines : ByteArray := prog_6_method_4_code
def yX4_readLines : MethodName := ⟨RX4, "readLines", "()V"⟩
abbrev cX4_readCords : ByteArray := prog_6_method_5_code
def yX4_readCords : MethodName := ⟨RX4, "readCords", "()V"⟩
abbrev cX4_readHole : ByteArray := prog_6_method_6_code
def yX4_readHole : MethodName := ⟨RX4, "readHole", "()V"⟩
abbrev cX4_readCall : ByteArray := prog_6_method_7_code
def yX4_readCall : MethodName := ⟨RX4, "readCall", "()V"⟩
abbrev cX4_readNumber : ByteArray := prog_6_method_8_code
def yX4_readNumber : MethodName := ⟨RX4, "readNumber", "(III)I"⟩
abbrev cX4_readEnd : ByteArray := prog_6_method_9_code
def yX4_readEnd : MethodName := ⟨RX4, "readEnd", "()V"⟩
abbrev cX4_skipBlanks : ByteArray := prog_6_method_10_code
def yX4_skipBlanks : MethodName := ⟨RX4, "skipBlanks", "()V"⟩
abbrev cX4_letterHere : ByteArray := prog_6_method_11_code
def yX4_letterHere : MethodName := ⟨RX4, "letterHere", "()I"⟩
abbrev cX4_isDigit : ByteArray := prog_6_method_12_code
def yX4_isDigit : MethodName := ⟨RX4, "isDigit", "(I)Z"⟩
abbrev cX4_failAt : ByteArray := prog_6_method_13_code
def yX4_failAt : MethodName := ⟨RX4, "failAt", "(I)V"⟩
def RX5 : String := "BoardCords$RowSearch"
def TX5 : u_T := fun k => match k with
  | 0 => ("BoardCords$RowSearch", "told", "LBoardCords$Told;", true)
  | 1 => ("BoardCords$RowSearch", "row", "[I", true)
  | 2 => ("BoardCords$RowSearch", "best", "[I", true)
  | 3 => ("BoardCords$RowSearch", "size", "I", false)
  | 4 => ("BoardCords$RowSearch", "least", "I", false)
  | 5 => ("BoardCords$RowSearch", "lineBits", "[I", true)
  | 6 => ("BoardCords$RowSearch", "endAtFirst", "[I", true)
  | _ => ("BoardCords$RowSearch", "end", "[I", true)
def tyX5 : Nat → FieldType := fun k => match k with
  | 0 => .object "BoardCords$Told"
  | 1 => .array .int
  | 2 => .array .int
  | 3 => .int
  | 4 => .int
  | 5 => .array .int
  | 6 => .array .int
  | _ => .array .int
abbrev wsX50 : List Cond := u_ws RX5 TX5 8
theorem nmX5 : ∀ a, a < 8 → ∀ b, b < 8 → a ≠ b → (TX5 a).2.1 ≠ (TX5 b).2.1 := by decide +kernel
theorem tyX5_ok : ∀ k, k < 8 → parseFieldDescriptor (TX5 k).2.2.1 = some (tyX5 k) := by decide +kernel
abbrev cX5_init : ByteArray := prog_7_method_1_code
def yX5_init : MethodName := ⟨RX5, "<init>", "(LBoardCords$Told;)V"⟩
abbrev cX5_find : ByteArray := prog_7_method_2_code
def yX5_find : MethodName := ⟨RX5, "find", "(LBoardCords$Moment;)V"⟩
abbrev cX5_prepare : ByteArray := prog_7_method_3_code
def yX5_prepare : MethodName := ⟨RX5, "prepare", "(LBoardCords$Moment;)V"⟩
abbrev cX5_waitsFor : ByteArray := prog_7_method_4_code
def yX5_waitsFor : MethodName := ⟨RX5, "waitsFor", "(I)I"⟩
abbrev cX5_plugAlong : ByteArray := prog_7_method_5_code
def yX5_plugAlong : MethodName := ⟨RX5, "plugAlong", "(I)I"⟩
abbrev cX5_nextEnd : ByteArray := prog_7_method_6_code
def yX5_nextEnd : MethodName := ⟨RX5, "nextEnd", "(I)I"⟩
def RX6 : String := "BoardCords$Told"
def TX6 : u_T := fun k => match k with
  | 0 => ("BoardCords$Told", "lines", "I", false)
  | 1 => ("BoardCords$Told", "cords", "I", false)
  | 2 => ("BoardCords$Told", "calls", "I", false)
  | 3 => ("BoardCords$Told", "hole", "[I", true)
  | 4 => ("BoardCords$Told", "fall", "[I", true)
  | 5 => ("BoardCords$Told", "from", "[I", true)
  | 6 => ("BoardCords$Told", "to", "[I", true)
  | 7 => ("BoardCords$Told", "length", "[I", true)
  | _ => ("BoardCords$Told", "rank", "[I", true)
def tyX6 : Nat → FieldType := fun k => match k with
  | 0 => .int
  | 1 => .int
  | 2 => .int
  | 3 => .array .int
  | 4 => .array .int
  | 5 => .array .int
  | 6 => .array .int
  | 7 => .array .int
  | _ => .array .int
abbrev wsX60 : List Cond := u_ws RX6 TX6 9
theorem nmX6 : ∀ a, a < 9 → ∀ b, b < 9 → a ≠ b → (TX6 a).2.1 ≠ (TX6 b).2.1 := by decide +kernel
theorem tyX6_ok : ∀ k, k < 9 → parseFieldDescriptor (TX6 k).2.2.1 = some (tyX6 k) := by decide +kernel
abbrev cX6_init : ByteArray := prog_8_method_1_code
def yX6_init : MethodName := ⟨RX6, "<init>", "()V"⟩
abbrev cX6_asAtFirst : ByteArray := prog_8_method_2_code
def yX6_asAtFirst : MethodName := ⟨RX6, "asAtFirst", "()V"⟩
abbrev cX6_hasLine : ByteArray := prog_8_method_3_code
def yX6_hasLine : MethodName := ⟨RX6, "hasLine", "(I)Z"⟩
abbrev cX6_hasCall : ByteArray := prog_8_method_4_code
def yX6_hasCall : MethodName := ⟨RX6, "hasCall", "(I)Z"⟩
abbrev cX6_giveHole : ByteArray := prog_8_method_5_code
def yX6_giveHole : MethodName := ⟨RX6, "giveHole", "(II)V"⟩
abbrev cX6_shareLine : ByteArray := prog_8_method_6_code
def yX6_shareLine : MethodName := ⟨RX6, "shareLine", "(II)Z"⟩
abbrev cX6_fallingAt : ByteArray := prog_8_method_7_code
def yX6_fallingAt : MethodName := ⟨RX6, "fallingAt", "(I)I"⟩
abbrev cX6_apart : ByteArray := prog_8_method_8_code
def yX6_apart : MethodName := ⟨RX6, "apart", "(I[I)I"⟩
abbrev cX6_become : ByteArray := prog_8_method_9_code
def yX6_become : MethodName := ⟨RX6, "become", "(LBoardCords$Told;)V"⟩
def RX7 : String := "BoardCords"
def TX7 : u_T := fun k => match k with
  | 0 => ("BoardCords", "text", "[I", true)
  | 1 => ("BoardCords", "told", "LBoardCords$Told;", true)
  | 2 => ("BoardCords", "reader", "LBoardCords$Reader;", true)
  | 3 => ("BoardCords", "present", "LBoardCords$Moment;", true)
  | 4 => ("BoardCords", "past", "LBoardCords$Past;", true)
  | 5 => ("BoardCords", "images", "[I", true)
  | 6 => ("BoardCords", "kept", "[Z", true)
  | 7 => ("BoardCords", "day", "LBoardCords$Day;", true)
  | 8 => ("BoardCords", "rows", "LBoardCords$RowSearch;", true)
  | 9 => ("BoardCords", "holes", "LBoardCords$HoleSearch;", true)
  | 10 => ("BoardCords", "letters", "I", false)
  | _ => ("BoardCords", "traced", "J", false)
def tyX7 : Nat → FieldType := fun k => match k with
  | 0 => .array .int
  | 1 => .object "BoardCords$Told"
  | 2 => .object "BoardCords$Reader"
  | 3 => .object "BoardCords$Moment"
  | 4 => .object "BoardCords$Past"
  | 5 => .array .int
  | 6 => .array .boolean
  | 7 => .object "BoardCords$Day"
  | 8 => .object "BoardCords$RowSearch"
  | 9 => .object "BoardCords$HoleSearch"
  | 10 => .int
  | _ => .long
abbrev wsX70 : List Cond := u_ws RX7 TX7 12
theorem nmX7 : ∀ a, a < 12 → ∀ b, b < 12 → a ≠ b → (TX7 a).2.1 ≠ (TX7 b).2.1 := by decide +kernel
theorem tyX7_ok : ∀ k, k < 12 → parseFieldDescriptor (TX7 k).2.2.1 = some (tyX7 k) := by decide +kernel
abbrev cX7_init : ByteArray := prog_1_method_1_code
def yX7_init : MethodName := ⟨RX7, "<init>", "()V"⟩
abbrev cX7_type : ByteArray := prog_1_method_2_code
def yX7_type : MethodName := ⟨RX7, "type", "(I)I"⟩
abbrev cX7_clear : ByteArray := prog_1_method_3_code
def yX7_clear : MethodName := ⟨RX7, "clear", "()I"⟩
abbrev cX7_board : ByteArray := prog_1_method_4_code
def yX7_board : MethodName := ⟨RX7, "board", "()I"⟩
abbrev cX7_line : ByteArray := prog_1_method_5_code
def yX7_line : MethodName := ⟨RX7, "line", "(II)I"⟩
abbrev cX7_call : ByteArray := prog_1_method_6_code
def yX7_call : MethodName := ⟨RX7, "call", "(II)I"⟩
abbrev cX7_now : ByteArray := prog_1_method_7_code
def yX7_now : MethodName := ⟨RX7, "now", "(I)I"⟩
abbrev cX7_freeCords : ByteArray := prog_1_method_8_code
def yX7_freeCords : MethodName := ⟨RX7, "freeCords", "()I"⟩
abbrev cX7_minute : ByteArray := prog_1_method_9_code
def yX7_minute : MethodName := ⟨RX7, "minute", "()I"⟩
abbrev cX7_plugs : ByteArray := prog_1_method_10_code
def yX7_plugs : MethodName := ⟨RX7, "plugs", "(I)I"⟩
abbrev cX7_pulls : ByteArray := prog_1_method_11_code
def yX7_pulls : MethodName := ⟨RX7, "pulls", "(I)I"⟩
abbrev cX7_swaps : ByteArray := prog_1_method_12_code
def yX7_swaps : MethodName := ⟨RX7, "swaps", "(II)I"⟩
abbrev cX7_undo : ByteArray := prog_1_method_13_code
def yX7_undo : MethodName := ⟨RX7, "undo", "()I"⟩
abbrev cX7_byRule : ByteArray := prog_1_method_14_code
def yX7_byRule : MethodName := ⟨RX7, "byRule", "(III)I"⟩
abbrev cX7_enough : ByteArray := prog_1_method_15_code
def yX7_enough : MethodName := ⟨RX7, "enough", "(I)I"⟩
abbrev cX7_isRule : ByteArray := prog_1_method_16_code
def yX7_isRule : MethodName := ⟨RX7, "isRule", "(I)Z"⟩
abbrev cX7_bestRow : ByteArray := prog_1_method_17_code
def yX7_bestRow : MethodName := ⟨RX7, "bestRow", "(I)I"⟩
abbrev cX7_cutFor : ByteArray := prog_1_method_18_code
def yX7_cutFor : MethodName := ⟨RX7, "cutFor", "(I)I"⟩
abbrev cX7_longCords : ByteArray := prog_1_method_19_code
def yX7_longCords : MethodName := ⟨RX7, "longCords", "()I"⟩
abbrev cX7_change : ByteArray := prog_1_method_20_code
def yX7_change : MethodName := ⟨RX7, "change", "()I"⟩
abbrev cX7_bestHoles : ByteArray := prog_1_method_21_code
def yX7_bestHoles : MethodName := ⟨RX7, "bestHoles", "(I)I"⟩
abbrev cX7_atOnce : ByteArray := prog_1_method_22_code
def yX7_atOnce : MethodName := ⟨RX7, "atOnce", "(I)I"⟩
abbrev cX7_under : ByteArray := prog_1_method_23_code
def yX7_under : MethodName := ⟨RX7, "under", "(I)I"⟩
abbrev cX7_odds : ByteArray := prog_1_method_24_code
def yX7_odds : MethodName := ⟨RX7, "odds", "(IIII)I"⟩
abbrev cX7_tenthsFree : ByteArray := prog_1_method_25_code
def yX7_tenthsFree : MethodName := ⟨RX7, "tenthsFree", "(III)I"⟩
abbrev cX7_commonDivisor : ByteArray := prog_1_method_26_code
def yX7_commonDivisor : MethodName := ⟨RX7, "commonDivisor", "(I)I"⟩
abbrev cX7_rate : ByteArray := prog_1_method_27_code
def yX7_rate : MethodName := ⟨RX7, "rate", "(II)I"⟩
abbrev cX7_asCall : ByteArray := prog_1_method_28_code
def yX7_asCall : MethodName := ⟨RX7, "asCall", "(I)I"⟩
abbrev cX7_asDoctor : ByteArray := prog_1_method_29_code
def yX7_asDoctor : MethodName := ⟨RX7, "asDoctor", "(I)I"⟩
abbrev cX7_asGossip : ByteArray := prog_1_method_30_code
def yX7_asGossip : MethodName := ⟨RX7, "asGossip", "(I)I"⟩
abbrev cX7_asFire : ByteArray := prog_1_method_31_code
def yX7_asFire : MethodName := ⟨RX7, "asFire", "(I)I"⟩
abbrev cX7_asWife : ByteArray := prog_1_method_32_code
def yX7_asWife : MethodName := ⟨RX7, "asWife", "(I)I"⟩
abbrev cX7_asWrong : ByteArray := prog_1_method_33_code
def yX7_asWrong : MethodName := ⟨RX7, "asWrong", "(I)I"⟩
abbrev cX7_keep : ByteArray := prog_1_method_34_code
def yX7_keep : MethodName := ⟨RX7, "keep", "(I)I"⟩
abbrev cX7_back : ByteArray := prog_1_method_35_code
def yX7_back : MethodName := ⟨RX7, "back", "(I)I"⟩
abbrev cX7_isImage : ByteArray := prog_1_method_36_code
def yX7_isImage : MethodName := ⟨RX7, "isImage", "(I)Z"⟩
abbrev cX7_count : ByteArray := prog_1_method_37_code
def yX7_count : MethodName := ⟨RX7, "count", "(I)I"⟩
abbrev cX7_trace : ByteArray := prog_1_method_38_code
def yX7_trace : MethodName := ⟨RX7, "trace", "()J"⟩
abbrev cX7_exchange : ByteArray := prog_1_method_39_code
def yX7_exchange : MethodName := ⟨RX7, "exchange", "([III)V"⟩
abbrev cX7_nextRow : ByteArray := prog_1_method_40_code
def yX7_nextRow : MethodName := ⟨RX7, "nextRow", "([II)Z"⟩
def RX8 : String := "BoardCordsModel"
def TX8 : u_T := fun k => match k with
  | 0 => ("BoardCordsModel", "letters", "I", false)
  | 1 => ("BoardCordsModel", "text", "[I", true)
  | 2 => ("BoardCordsModel", "position", "I", false)
  | 3 => ("BoardCordsModel", "tokenAt", "I", false)
  | 4 => ("BoardCordsModel", "token", "I", false)
  | 5 => ("BoardCordsModel", "number", "I", false)
  | 6 => ("BoardCordsModel", "items", "I", false)
  | 7 => ("BoardCordsModel", "readLines", "I", false)
  | 8 => ("BoardCordsModel", "readCords", "I", false)
  | 9 => ("BoardCordsModel", "hasCords", "Z", false)
  | 10 => ("BoardCordsModel", "readHole", "[I", true)
  | 11 => ("BoardCordsModel", "readCalls", "I", false)
  | 12 => ("BoardCordsModel", "readCall", "[I", true)
  | 13 => ("BoardCordsModel", "lines", "I", false)
  | 14 => ("BoardCordsModel", "cords", "I", false)
  | 15 => ("BoardCordsModel", "calls", "I", false)
  | 16 => ("BoardCordsModel", "call", "[I", true)
  | 17 => ("BoardCordsModel", "now", "[I", true)
  | 18 => ("BoardCordsModel", "tried", "[I", true)
  | 19 => ("BoardCordsModel", "image", "[I", true)
  | 20 => ("BoardCordsModel", "isKept", "[Z", true)
  | 21 => ("BoardCordsModel", "backOf", "[I", true)
  | 22 => ("BoardCordsModel", "backs", "I", false)
  | 23 => ("BoardCordsModel", "order", "[I", true)
  | 24 => ("BoardCordsModel", "row", "[I", true)
  | 25 => ("BoardCordsModel", "found", "[I", true)
  | 26 => ("BoardCordsModel", "foundMany", "I", false)
  | 27 => ("BoardCordsModel", "first", "I", false)
  | _ => ("BoardCordsModel", "trace", "J", false)
def tyX8 : Nat → FieldType := fun k => match k with
  | 0 => .int
  | 1 => .array .int
  | 2 => .int
  | 3 => .int
  | 4 => .int
  | 5 => .int
  | 6 => .int
  | 7 => .int
  | 8 => .int
  | 9 => .boolean
  | 10 => .array .int
  | 11 => .int
  | 12 => .array .int
  | 13 => .int
  | 14 => .int
  | 15 => .int
  | 16 => .array .int
  | 17 => .array .int
  | 18 => .array .int
  | 19 => .array .int
  | 20 => .array .boolean
  | 21 => .array .int
  | 22 => .int
  | 23 => .array .int
  | 24 => .array .int
  | 25 => .array .int
  | 26 => .int
  | 27 => .int
  | _ => .long
abbrev wsX80 : List Cond := u_ws RX8 TX8 29
theorem nmX8 : ∀ a, a < 29 → ∀ b, b < 29 → a ≠ b → (TX8 a).2.1 ≠ (TX8 b).2.1 := by decide +kernel
theorem tyX8_ok : ∀ k, k < 29 → parseFieldDescriptor (TX8 k).2.2.1 = some (tyX8 k) := by decide +kernel
abbrev cX8_init : ByteArray := prog_10_method_1_code
def yX8_init : MethodName := ⟨RX8, "<init>", "()V"⟩
abbrev cX8_in : ByteArray := prog_10_method_2_code
def yX8_in : MethodName := ⟨RX8, "in", "(III)Z"⟩
abbrev cX8_has : ByteArray := prog_10_method_3_code
def yX8_has : MethodName := ⟨RX8, "has", "(II)Z"⟩
abbrev cX8_begin : ByteArray := prog_10_method_4_code
def yX8_begin : MethodName := ⟨RX8, "begin", "()V"⟩
abbrev cX8_isLine : ByteArray := prog_10_method_5_code
def yX8_isLine : MethodName := ⟨RX8, "isLine", "(I)Z"⟩
abbrev cX8_isCall : ByteArray := prog_10_method_6_code
def yX8_isCall : MethodName := ⟨RX8, "isCall", "(I)Z"⟩
abbrev cX8_type : ByteArray := prog_10_method_7_code
def yX8_type : MethodName := ⟨RX8, "type", "(I)I"⟩
abbrev cX8_clear : ByteArray := prog_10_method_8_code
def yX8_clear : MethodName := ⟨RX8, "clear", "()I"⟩
abbrev cX8_nextToken : ByteArray := prog_10_method_9_code
def yX8_nextToken : MethodName := ⟨RX8, "nextToken", "()V"⟩
abbrev cX8_isNumber : ByteArray := prog_10_method_10_code
def yX8_isNumber : MethodName := ⟨RX8, "isNumber", "(II)Z"⟩
abbrev cX8_isEnd : ByteArray := prog_10_method_11_code
def yX8_isEnd : MethodName := ⟨RX8, "isEnd", "()Z"⟩
abbrev cX8_isHole : ByteArray := prog_10_method_12_code
def yX8_isHole : MethodName := ⟨RX8, "isHole", "()Z"⟩
abbrev cX8_isCallItem : ByteArray := prog_10_method_13_code
def yX8_isCallItem : MethodName := ⟨RX8, "isCallItem", "()Z"⟩
abbrev cX8_isItem : ByteArray := prog_10_method_14_code
def yX8_isItem : MethodName := ⟨RX8, "isItem", "()Z"⟩
abbrev cX8_isRead : ByteArray := prog_10_method_15_code
def yX8_isRead : MethodName := ⟨RX8, "isRead", "()Z"⟩
abbrev cX8_board : ByteArray := prog_10_method_16_code
def yX8_board : MethodName := ⟨RX8, "board", "()I"⟩
abbrev cX8_fromOf : ByteArray := prog_10_method_17_code
def yX8_fromOf : MethodName := ⟨RX8, "fromOf", "(I)I"⟩
abbrev cX8_toOf : ByteArray := prog_10_method_18_code
def yX8_toOf : MethodName := ⟨RX8, "toOf", "(I)I"⟩
abbrev cX8_isOn : ByteArray := prog_10_method_19_code
def yX8_isOn : MethodName := ⟨RX8, "isOn", "(II)Z"⟩
abbrev cX8_talkerOn : ByteArray := prog_10_method_20_code
def yX8_talkerOn : MethodName := ⟨RX8, "talkerOn", "([II)I"⟩
abbrev cX8_setOf : ByteArray := prog_10_method_21_code
def yX8_setOf : MethodName := ⟨RX8, "setOf", "([II)I"⟩
abbrev cX8_bits : ByteArray := prog_10_method_22_code
def yX8_bits : MethodName := ⟨RX8, "bits", "(I)I"⟩
abbrev cX8_freeCords : ByteArray := prog_10_method_23_code
def yX8_freeCords : MethodName := ⟨RX8, "freeCords", "([II)I"⟩
abbrev cX8_areFree : ByteArray := prog_10_method_24_code
def yX8_areFree : MethodName := ⟨RX8, "areFree", "([II)Z"⟩
abbrev cX8_canPlug : ByteArray := prog_10_method_25_code
def yX8_canPlug : MethodName := ⟨RX8, "canPlug", "([III)Z"⟩
abbrev cX8_plug : ByteArray := prog_10_method_26_code
def yX8_plug : MethodName := ⟨RX8, "plug", "([II)V"⟩
abbrev cX8_isBetween : ByteArray := prog_10_method_27_code
def yX8_isBetween : MethodName := ⟨RX8, "isBetween", "(III)Z"⟩
abbrev cX8_holeOf : ByteArray := prog_10_method_28_code
def yX8_holeOf : MethodName := ⟨RX8, "holeOf", "(I)I"⟩
abbrev cX8_cross : ByteArray := prog_10_method_29_code
def yX8_cross : MethodName := ⟨RX8, "cross", "(II)Z"⟩
abbrev cX8_crossed : ByteArray := prog_10_method_30_code
def yX8_crossed : MethodName := ⟨RX8, "crossed", "()I"⟩
abbrev cX8_line : ByteArray := prog_10_method_31_code
def yX8_line : MethodName := ⟨RX8, "line", "(II)I"⟩
abbrev cX8_call : ByteArray := prog_10_method_32_code
def yX8_call : MethodName := ⟨RX8, "call", "(II)I"⟩
abbrev cX8_now : ByteArray := prog_10_method_33_code
def yX8_now : MethodName := ⟨RX8, "now", "(I)I"⟩
abbrev cX8_copy : ByteArray := prog_10_method_34_code
def yX8_copy : MethodName := ⟨RX8, "copy", "([II[II)V"⟩
abbrev cX8_note : ByteArray := prog_10_method_35_code
def yX8_note : MethodName := ⟨RX8, "note", "()V"⟩
abbrev cX8_pass : ByteArray := prog_10_method_36_code
def yX8_pass : MethodName := ⟨RX8, "pass", "([I)V"⟩
abbrev cX8_minute : ByteArray := prog_10_method_37_code
def yX8_minute : MethodName := ⟨RX8, "minute", "()I"⟩
abbrev cX8_plugs : ByteArray := prog_10_method_38_code
def yX8_plugs : MethodName := ⟨RX8, "plugs", "(I)I"⟩
abbrev cX8_pulls : ByteArray := prog_10_method_39_code
def yX8_pulls : MethodName := ⟨RX8, "pulls", "(I)I"⟩
abbrev cX8_swaps : ByteArray := prog_10_method_40_code
def yX8_swaps : MethodName := ⟨RX8, "swaps", "(II)I"⟩
abbrev cX8_undo : ByteArray := prog_10_method_41_code
def yX8_undo : MethodName := ⟨RX8, "undo", "()I"⟩
abbrev cX8_isAhead : ByteArray := prog_10_method_42_code
def yX8_isAhead : MethodName := ⟨RX8, "isAhead", "(III)Z"⟩
abbrev cX8_layOrder : ByteArray := prog_10_method_43_code
def yX8_layOrder : MethodName := ⟨RX8, "layOrder", "(I)V"⟩
abbrev cX8_plugAll : ByteArray := prog_10_method_44_code
def yX8_plugAll : MethodName := ⟨RX8, "plugAll", "([III)V"⟩
abbrev cX8_byRule : ByteArray := prog_10_method_45_code
def yX8_byRule : MethodName := ⟨RX8, "byRule", "(III)I"⟩
abbrev cX8_isEnough : ByteArray := prog_10_method_46_code
def yX8_isEnough : MethodName := ⟨RX8, "isEnough", "(I)Z"⟩
abbrev cX8_enough : ByteArray := prog_10_method_47_code
def yX8_enough : MethodName := ⟨RX8, "enough", "(I)I"⟩
abbrev cX8_waitedBy : ByteArray := prog_10_method_48_code
def yX8_waitedBy : MethodName := ⟨RX8, "waitedBy", "(I)I"⟩
abbrev cX8_nextRow : ByteArray := prog_10_method_49_code
def yX8_nextRow : MethodName := ⟨RX8, "nextRow", "([II)Z"⟩
abbrev cX8_bestRow : ByteArray := prog_10_method_50_code
def yX8_bestRow : MethodName := ⟨RX8, "bestRow", "(I)I"⟩
abbrev cX8_cutFor : ByteArray := prog_10_method_51_code
def yX8_cutFor : MethodName := ⟨RX8, "cutFor", "(I)I"⟩
abbrev cX8_distance : ByteArray := prog_10_method_52_code
def yX8_distance : MethodName := ⟨RX8, "distance", "(II)I"⟩
abbrev cX8_longBy : ByteArray := prog_10_method_53_code
def yX8_longBy : MethodName := ⟨RX8, "longBy", "([II)I"⟩
abbrev cX8_longCords : ByteArray := prog_10_method_54_code
def yX8_longCords : MethodName := ⟨RX8, "longCords", "()I"⟩
abbrev cX8_change : ByteArray := prog_10_method_55_code
def yX8_change : MethodName := ⟨RX8, "change", "()I"⟩
abbrev cX8_bestHoles : ByteArray := prog_10_method_56_code
def yX8_bestHoles : MethodName := ⟨RX8, "bestHoles", "(I)I"⟩
abbrev cX8_atOnce : ByteArray := prog_10_method_57_code
def yX8_atOnce : MethodName := ⟨RX8, "atOnce", "(I)I"⟩
abbrev cX8_under : ByteArray := prog_10_method_58_code
def yX8_under : MethodName := ⟨RX8, "under", "(I)I"⟩
abbrev cX8_odds : ByteArray := prog_10_method_59_code
def yX8_odds : MethodName := ⟨RX8, "odds", "(IIII)I"⟩
abbrev cX8_rankOf : ByteArray := prog_10_method_60_code
def yX8_rankOf : MethodName := ⟨RX8, "rankOf", "(I)I"⟩
abbrev cX8_doctorOf : ByteArray := prog_10_method_61_code
def yX8_doctorOf : MethodName := ⟨RX8, "doctorOf", "(I)I"⟩
abbrev cX8_gossipOf : ByteArray := prog_10_method_62_code
def yX8_gossipOf : MethodName := ⟨RX8, "gossipOf", "(I)I"⟩
abbrev cX8_rate : ByteArray := prog_10_method_63_code
def yX8_rate : MethodName := ⟨RX8, "rate", "(II)I"⟩
abbrev cX8_keep : ByteArray := prog_10_method_64_code
def yX8_keep : MethodName := ⟨RX8, "keep", "(I)I"⟩
abbrev cX8_back : ByteArray := prog_10_method_65_code
def yX8_back : MethodName := ⟨RX8, "back", "(I)I"⟩
abbrev cX8_count : ByteArray := prog_10_method_66_code
def yX8_count : MethodName := ⟨RX8, "count", "(I)I"⟩
abbrev cX8_trace : ByteArray := prog_10_method_67_code
def yX8_trace : MethodName := ⟨RX8, "trace", "()J"⟩
def RJ6 : String := "java/lang/Integer"
def TJ6 : u_T := fun k => match k with
  | _ => ("", "", "", false)
def tyJ6 : Nat → FieldType := fun k => match k with
  | _ => .int
abbrev wsJ60 : List Cond := u_ws RJ6 TJ6 0
theorem nmJ6 : ∀ a, a < 0 → ∀ b, b < 0 → a ≠ b → (TJ6 a).2.1 ≠ (TJ6 b).2.1 := by decide +kernel
theorem tyJ6_ok : ∀ k, k < 0 → parseFieldDescriptor (TJ6 k).2.2.1 = some (tyJ6 k) := by decide +kernel
abbrev cJ6_bitCount_0f7a4 : ByteArray := prog_11_method_49_code
def yJ6_bitCount_0f7a4 : MethodName := ⟨RJ6, "bitCount", "(I)I"⟩
def RJ9 : String := "java/lang/Math"
def TJ9 : u_T := fun k => match k with
  | _ => ("", "", "", false)
def tyJ9 : Nat → FieldType := fun k => match k with
  | _ => .int
abbrev wsJ90 : List Cond := u_ws RJ9 TJ9 0
theorem nmJ9 : ∀ a, a < 0 → ∀ b, b < 0 → a ≠ b → (TJ9 a).2.1 ≠ (TJ9 b).2.1 := by decide +kernel
theorem tyJ9_ok : ∀ k, k < 0 → parseFieldDescriptor (TJ9 k).2.2.1 = some (tyJ9 k) := by decide +kernel
abbrev cJ9_abs_0f7a4 : ByteArray := prog_12_method_59_code
def yJ9_abs_0f7a4 : MethodName := ⟨RJ9, "abs", "(I)I"⟩
abbrev cJ9_max_7cf53 : ByteArray := prog_12_method_65_code
def yJ9_max_7cf53 : MethodName := ⟨RJ9, "max", "(II)I"⟩
abbrev cJ9_min_7cf53 : ByteArray := prog_12_method_69_code
def yJ9_min_7cf53 : MethodName := ⟨RJ9, "min", "(II)I"⟩
def RJ10 : String := "java/lang/System"
def TJ10 : u_T := fun k => match k with
  | _ => ("", "", "", false)
def tyJ10 : Nat → FieldType := fun k => match k with
  | _ => .int
abbrev wsJ100 : List Cond := u_ws RJ10 TJ10 0
theorem nmJ10 : ∀ a, a < 0 → ∀ b, b < 0 → a ≠ b → (TJ10 a).2.1 ≠ (TJ10 b).2.1 := by decide +kernel
theorem tyJ10_ok : ∀ k, k < 0 → parseFieldDescriptor (TJ10 k).2.2.1 = some (tyJ10 k) := by decide +kernel
def RL : String := "BoardCordsLaw"
abbrev cL_law : ByteArray := code
def yL_law : MethodName := ⟨RL, "law", "([I)Z"⟩
abbrev vwCl : List vw_C := [(RX0, TX0, 5), (RX1, TX1, 4), (RX2, TX2, 6), (RX3, TX3, 3), (RX4, TX4, 7), (RX5, TX5, 8), (RX6, TX6, 9), (RX7, TX7, 12), (RX8, TX8, 29)]
end
section
/-! THE MINI MACHINE: ints as exact integers (each sum's range is a side condition), cells by their places, one world a system -/
abbrev jV : Type := Int ⊕ Nat ⊕ Int64 ⊕ Unit
abbrev jI (x : Int) : jV := .inl x
abbrev jR (k : Nat) : jV := .inr (.inl k)
abbrev jL (w : Int64) : jV := .inr (.inr (.inl w))
abbrev jU : jV := .inr (.inr (.inr ()))
abbrev jH : Type := (Nat → Nat → Int) × (Nat → Int64)
/-- a cell of the layout: a row (booleans? its length), or an object (its number, its fields: none a long, some none an int, some (some k) the cell at place k) -/
abbrev jC : Type := (Bool × Nat) ⊕ (Nat × List (Option (Option Nat)))
abbrev jS : Type := List vw_C × List (String × Nat × MethodName × String) × List jC
abbrev jG : Type := Launch × va_G × (ClassId × ClassId) × (Nat → Nat)
/-- a method: its name, code, locals, answer's type, room -/
abbrev jM : Type := MethodName × ByteArray × Nat × Option FieldType × Room
/-- the words that every method is given: all of the tables' that a call hands on -/
def jW : List Cond := lw_tbl.filter goodWord
abbrev j_ws (M : jM) : List Cond := Cond.code M.1 M.2.1 M.2.2.1 M.2.2.2.1 :: jW
theorem jW_in {w : Cond} (h : w ∈ lw_tbl) (hg : goodWord w = true) : w ∈ jW := List.mem_filter.mpr ⟨h, hg⟩
theorem jW_t {w : Cond} (i : Nat) (h : tables_1[i]? = some w) (hg : goodWord w = true) : w ∈ jW := jW_in (List.mem_append_right _ (List.mem_of_getElem? h)) hg
theorem jW_s {w : Cond} (i : Nat) (h : (k2_sels lw_privs)[i]? = some w) (hg : goodWord w = true) : w ∈ jW := jW_in (List.mem_append_left _ (List.mem_of_getElem? h)) hg
theorem jW_good : ∀ w ∈ jW, (w.onTables && w.keeps) = true ∨ ∃ ty, w = .arrayClass ty := fun w h => good_of_word (List.mem_filter.mp h).2
abbrev jQ : Type := Option jV → jH → Prop
def j_rg (x : Int) : Prop := -2147483648 ≤ x ∧ x ≤ 2147483647
def j_ok (a : jV) : Prop := match a with
  | .inl x => j_rg x
  | _ => True
def j_Rg (h : jH) : Prop := ∀ k j, j_rg (h.1 k j)
def j_v (ad : Nat → Nat) (a : jV) : Value := match a with
  | .inl x => .int (Int32.ofInt x)
  | .inr (.inl k) => .ref (ad k)
  | .inr (.inr (.inl w)) => .long w
  | .inr (.inr (.inr _)) => .null
def j_un (a : jV) : Bool := match a with
  | .inl _ => false
  | .inr (.inl _) => false
  | _ => true
def j_f (ad : Nat → Nat) (h : jH) (k j : Nat) (f : Option (Option Nat)) : Value := match f with
  | none => .long (h.2 k)
  | some none => .int (Int32.ofInt (h.1 k j))
  | some (some r) => .ref (ad r)
def j_E (G : jG) (h : jH) (k : Nat) (c : jC) : va_E := match c with
  | .inl (b, n) => .inl (if b then G.2.2.1.2 else G.2.2.1.1, n, .inl (fun j => Int32.ofInt (h.1 k j)))
  | .inr (ci, fs) => .inr (ci, fs.mapIdx (fun j f => j_f G.2.2.2 h k j f))
def j_w (G : jG) (lay : List jC) (h : jH) : va_W := lay.mapIdx (fun k c => (G.2.2.2 k, j_E G h k c))
abbrev j_ty (G : jG) : List (ClassId × FieldType) := [(G.2.2.1.1, .int), (G.2.2.1.2, .boolean)]
def j_N (S : jS) (U : State) : Prop := ∀ q ∈ S.2.1, va_Nw (.methodLinkNest q.1 q.2.1 q.2.2.1 q.2.2.2) U
def j_lv (G : jG) (ls : Array Slot) (nL : Nat) (lv : List jV) : Prop := ls.size = nL ∧ lv_wf ls ∧ ∀ (i : Nat) (a : jV), lv[i]? = some a → j_un a = false → ls[i]? = some (.val (j_v G.2.2.2 a))
def j_X (S : jS) (G : jG) (M : jM) (p : Program) (s : State) (m : MethodId) (args : Array Value) (meth : Method) (c : Code) : Prop :=
  p.tables.exec = Jvm.exec ∧ c.code = M.2.1 ∧ meth.sig.returnType = M.2.2.2.1 ∧ c.maxLocals = M.2.2.1 ∧ s.vm.findClass M.1.cls = some m.cls ∧ (∀ w ∈ jW, w.before args s = true) ∧ meth.locks = false ∧ va_K G.2.1 S.1 (j_ty G) s ∧ j_N S s
/-- what holds behind a method: its answer and its world -/
def j_Q (S : jS) (G : jG) (A : Nat → Prop) (Q : jQ) : Array Value → State → Outcome → State → Prop := fun _ st oc t =>
  (∃ (r : Option jV) (h' : jH), Q r h' ∧ j_Rg h' ∧ (∀ a, r = some a → j_ok a) ∧ oc = .returned (r.map (j_v G.2.2.2)) ∧ va_P G.2.1 S.1 (j_w G S.2.2 h') t.heap ∧ va_K G.2.1 S.1 (j_ty G) t ∧ va_D A (j_w G S.2.2 h')) ∧ va_F A st t
/-- the machine, now at pc with these locals, this stack and this world, comes to the method's end with Q -/
def WV (S : jS) (G : jG) (M : jM) (Q : jQ) (pc : Nat) (lv st : List jV) (h : jH) : Prop :=
  j_Rg h → (∀ a ∈ lv, j_ok a) → (∀ a ∈ st, j_ok a) → ∀ (p : Program) (e : Env) (s : State) (m : MethodId) (args : Array Value) (below : List Frame) (meth : Method) (c : Code) (H : Heap) (locs : List Loc) (ls : Array Slot) (A : Nat → Prop),
    j_X S G M p s m args meth c → (∀ q, s.heap.size ≤ q → A q) → va_P G.2.1 S.1 (j_w G S.2.2 h) H → va_D A (j_w G S.2.2 h) → va_S A s.heap H locs → j_lv G ls M.2.2.1 lv →
    W p G.1 e M.2.2.2.2 s m args below meth c H locs 0 0 (MQ below (j_Q S G A Q) args s 0 0 A) (F0 m pc ls (st.map (j_v G.2.2.2)))
/-- a method's contract over the whole world -/
def CT (S : jS) (M : jM) (av : List jV) (h : jH) (post : jQ) : Prop :=
  ∀ (G : jG) (sz : Nat), j_Rg h → (∀ a ∈ av, j_ok a) → Met G.1 M.1 (j_ws M) M.2.2.2.2 (va_Pc (av.map (j_v G.2.2.2)) (fun U => U.heap.size = sz ∧ va_P G.2.1 S.1 (j_w G S.2.2 h) U.heap ∧ va_K G.2.1 S.1 (j_ty G) U ∧ j_N S U ∧ va_D (fun _ => True) (j_w G S.2.2 h)))
    (j_Q S G (va_A (j_w G S.2.2 h) sz) post) 0 0 (va_A (j_w G S.2.2 h) sz)
abbrev jPi (post : Int → jH → Prop) : jQ := fun o h' => ∃ r : Int, o = some (jI r) ∧ post r h'
abbrev jPv (post : jH → Prop) : jQ := fun o h' => o = none ∧ post h'
abbrev jPl (post : Int64 → jH → Prop) : jQ := fun o h' => ∃ r : Int64, o = some (jL r) ∧ post r h'
def j_up (h : jH) (k j : Nat) (x : Int) : jH := (fun a b => if a = k ∧ b = j then x else h.1 a b, h.2)
def j_upl (h : jH) (k : Nat) (w : Int64) : jH := (h.1, fun a => if a = k then w else h.2 a)
/-- n places of the row at a, from i on, into the row at b, from j on -/
def j_cp (h : jH) (a i b j n : Nat) : jH := (fun k x => if k = b ∧ j ≤ x ∧ x < j + n then h.1 a (i + (x - j)) else h.1 k x, h.2)
/-! numbers -/
theorem j_cst {n : Int} (h : decide (-2147483648 ≤ n ∧ n ≤ 2147483647) = true) : j_rg n := (of_decide_eq_true h : -2147483648 ≤ n ∧ n ≤ 2147483647)
theorem j_ti {x : Int} (h : j_rg x) : (Int32.ofInt x).toInt = x := Int32.toInt_ofInt_of_le (by have := h.1; omega) (by have := h.2; omega)
theorem j_le {x y : Int} (hx : j_rg x) (hy : j_rg y) : (Int32.ofInt x ≤ Int32.ofInt y) = (x ≤ y) := by
  rw [Int32.le_iff_toInt_le, j_ti hx, j_ti hy]
theorem j_lt {x y : Int} (hx : j_rg x) (hy : j_rg y) : (Int32.ofInt x < Int32.ofInt y) = (x < y) := by
  rw [Int32.lt_iff_toInt_lt, j_ti hx, j_ti hy]
theorem j_eq {x y : Int} (hx : j_rg x) (hy : j_rg y) : (Int32.ofInt x = Int32.ofInt y) = (x = y) := by
  rw [← Int32.toInt_inj, j_ti hx, j_ti hy]
theorem j_of0 : (0 : Int32) = Int32.ofInt 0 := by decide
theorem j_cl {x : Int} (h : j_rg x) : (Int32.ofInt x).toNatClampNeg = x.toNat := by
  show (Int32.ofInt x).toInt.toNat = x.toNat
  rw [j_ti h]
theorem j_in {x : Int} {n : Nat} (h : j_rg x) (h0 : 0 ≤ x) (hn : x < n) : vp_in (Int32.ofInt x) n := by
  rw [vp_in_iff, j_ti h]
  exact ⟨h0, hn⟩
/-! the world -/
theorem j_w_at {G : jG} {lay : List jC} {h : jH} {k : Nat} {c : jC} (hk : lay[k]? = some c) : (j_w G lay h)[k]? = some (G.2.2.2 k, j_E G h k c) := by
  simp [j_w, List.getElem?_mapIdx, hk]
theorem j_w_set {G : jG} {lay : List jC} {h h' : jH} {k : Nat} {c : jC} (hk : lay[k]? = some c) (h1 : ∀ a, a ≠ k → h'.1 a = h.1 a) (h2 : ∀ a, a ≠ k → h'.2 a = h.2 a) : (j_w G lay h).set k (G.2.2.2 k, j_E G h' k c) = j_w G lay h' := by
  apply List.ext_getElem?
  intro i
  by_cases hi : i = k
  · subst hi
    have hl : i < lay.length := (List.getElem?_eq_some_iff.mp hk).1
    rw [List.getElem?_set_self (by simpa [j_w] using hl)]
    exact (j_w_at hk).symm
  · rw [List.getElem?_set_ne (fun e => hi e.symm)]
    simp only [j_w, List.getElem?_mapIdx]
    cases lay[i]? with
    | none => rfl
    | some d =>
      simp only [Option.map_some, Option.some.injEq, Prod.mk.injEq, true_and]
      rcases d with ⟨b, n⟩ | ⟨ci, fs⟩
      · simp only [j_E, h1 i hi]
      · simp only [j_E, j_f, h1 i hi, h2 i hi]
theorem j_w_len {G : jG} {lay : List jC} {h : jH} : (j_w G lay h).length = lay.length := by simp [j_w]
theorem j_w_ad {G : jG} {lay : List jC} {h h' : jH} {sz q : Nat} : va_A (j_w G lay h) sz q ↔ va_A (j_w G lay h') sz q := by
  have key : ∀ h h' : jH, va_A (j_w G lay h) sz q → va_A (j_w G lay h') sz q := by
    intro h h' hq
    rcases hq with ⟨k, e, he⟩ | hq
    · left
      cases hc : lay[k]? with
      | none => simp [j_w, List.getElem?_mapIdx, hc] at he
      | some c =>
        rw [j_w_at hc] at he
        have := (Prod.mk.inj (Option.some.inj he)).1
        exact ⟨k, _, by rw [j_w_at hc, this]⟩
    · exact Or.inr hq
  exact ⟨key h h', key h' h⟩
theorem j_N.moved {S : jS} {s U : State} (hW : s.WarmedH U.vm) (h : j_N S s) : j_N S U := fun q hq => va_Nw.warmM hW (h q hq)
/-! locals -/
def j_ll (G : jG) (lv : List jV) : List (Nat × Value) := (lv.zipIdx.filter (fun q => !j_un q.1)).map (fun q => (q.2, j_v G.2.2.2 q.1))
theorem j_lv_has {G : jG} {ls : Array Slot} {nL : Nat} {lv : List jV} (h : j_lv G ls nL lv) : lv_has ls nL (j_ll G lv) := by
  refine ⟨h.1, h.2.1, fun q hq => ?_⟩
  obtain ⟨⟨a, i⟩, h1, rfl⟩ := List.mem_map.mp hq
  obtain ⟨h2, h3⟩ := List.mem_filter.mp h1
  have h4 := List.mem_zipIdx_iff_getElem?.mp h2
  exact h.2.2 i a h4 (by simpa using h3)
theorem j_lv_at {G : jG} {ls : Array Slot} {nL : Nat} {lv : List jV} (h : j_lv G ls nL lv) {i : Nat} {a : jV} (hi : lv[i]? = some a) (hu : j_un a = false) : ls[i]? = some (.val (j_v G.2.2.2 a)) := h.2.2 i a hi hu
theorem j_v_cat {ad : Nat → Nat} {a : jV} (h : j_un a = false) : (j_v ad a).category = 1 := by
  rcases a with x | k | w | u
  · rfl
  · rfl
  · cases h
  · cases h
theorem j_lv_set {G : jG} {ls' : Array Slot} {nL : Nat} {lv : List jV} {i : Nat} {a : jV} (hs : lv_has ls' nL ((i, j_v G.2.2.2 a) :: (j_ll G lv).filter (fun q => !(q.1 == i) && !(q.1 + 1 == i && q.2.category == 2)))) : j_lv G ls' nL (lv.set i a) := by
  refine ⟨hs.1, hs.2.1, fun k b hk hu => ?_⟩
  by_cases hki : i = k
  · subst hki
    have : b = a := by
      rw [List.getElem?_set] at hk
      simp at hk
      exact hk.2.symm
    subst this
    exact hs.2.2 (i, _) List.mem_cons_self
  · rw [List.getElem?_set_ne hki] at hk
    refine hs.2.2 (k, j_v G.2.2.2 b) (List.mem_cons_of_mem _ (List.mem_filter.mpr ⟨List.mem_map.mpr ⟨(b, k), List.mem_filter.mpr ⟨List.mem_zipIdx_iff_getElem?.mpr hk, by simp [hu]⟩, rfl⟩, ?_⟩))
    have h1 : (k == i) = false := by simpa using fun e : k = i => hki e.symm
    have h2 : ((j_v G.2.2.2 b).category == 2) = false := by rw [j_v_cat hu]; rfl
    simp [h1, h2]
theorem j_ok_set {lv : List jV} {i : Nat} {a : jV} (h : ∀ b ∈ lv, j_ok b) (ha : j_ok a) : ∀ b ∈ lv.set i a, j_ok b := by
  intro b hb
  rcases List.mem_or_eq_of_mem_set hb with h1 | h1
  · exact h b h1
  · rw [h1]; exact ha
end
section
/-! THE ROWS: an instruction a row, over the mini machine -/
theorem j_oc {a : jV} {st : List jV} (ha : j_ok a) (hs : ∀ b ∈ st, j_ok b) : ∀ b ∈ a :: st, j_ok b := fun b hb => by
  rcases List.mem_cons.mp hb with rfl | h
  · exact ha
  · exact hs b h
theorem j_ot {a : jV} {st : List jV} (hs : ∀ b ∈ a :: st, j_ok b) : ∀ b ∈ st, j_ok b := fun b hb => hs b (List.mem_cons_of_mem _ hb)
theorem j_oh {a : jV} {st : List jV} (hs : ∀ b ∈ a :: st, j_ok b) : j_ok a := hs a List.mem_cons_self
theorem j_oI {x : Int} {st : List jV} (ha : j_rg x) (hs : ∀ b ∈ st, j_ok b) : ∀ b ∈ jI x :: st, j_ok b := j_oc (a := jI x) ha hs
theorem j_oR {x : Nat} {st : List jV} (hs : ∀ b ∈ st, j_ok b) : ∀ b ∈ jR x :: st, j_ok b := j_oc (a := jR x) trivial hs
theorem j_oL {x : Int64} {st : List jV} (hs : ∀ b ∈ st, j_ok b) : ∀ b ∈ jL x :: st, j_ok b := j_oc (a := jL x) trivial hs
theorem j_hI {x : Int} {st : List jV} (hs : ∀ b ∈ jI x :: st, j_ok b) : j_rg x := j_oh (a := jI x) hs
section RW1
variable {S : jS} {G : jG} {M : jM} {Q : jQ} {pc : Nat} {lv st : List jV} {h : jH}
/-- what WV knows of ranges may be taken out -/
theorem WV.rng (k : j_Rg h → (∀ a ∈ lv, j_ok a) → (∀ a ∈ st, j_ok a) → WV S G M Q pc lv st h) : WV S G M Q pc lv st h := fun a b c => k a b c a b c
theorem WV.post {Q2 : jQ} (hq : ∀ r h', Q r h' → Q2 r h') (k : WV S G M Q pc lv st h) : WV S G M Q2 pc lv st h := by
  intro hR hl hs p e s m args below meth c H locs ls A hX hA hP hD hS hv T hT X
  obtain ⟨t, a1, o, b1, b2, ⟨⟨r, h', q1, q2⟩, q3⟩, b4⟩ := k hR hl hs p e s m args below meth c H locs ls A hX hA hP hD hS hv T hT X
  exact ⟨t, a1, o, b1, b2, ⟨⟨r, h', hq r h' q1, q2⟩, q3⟩, b4⟩
/-- a row that changes the stack alone -/
theorem j_st {pc' : Nat} {st' : List jV} (hok : j_Rg h → (∀ a ∈ lv, j_ok a) → (∀ a ∈ st, j_ok a) → ∀ a ∈ st', j_ok a)
    (hw : ∀ {p : Program} {e : Env} {s : State} {m : MethodId} {args : Array Value} {below : List Frame} {meth : Method} {c : Code} {H : Heap} {locs : List Loc} {ls : Array Slot} {Z : State → Prop}, j_X S G M p s m args meth c → j_lv G ls M.2.2.1 lv → va_P G.2.1 S.1 (j_w G S.2.2 h) H → (∀ a ∈ st, j_ok a) → W p G.1 e M.2.2.2.2 s m args below meth c H locs 0 0 Z (F0 m pc' ls (st'.map (j_v G.2.2.2))) → W p G.1 e M.2.2.2.2 s m args below meth c H locs 0 0 Z (F0 m pc ls (st.map (j_v G.2.2.2))))
    (k : WV S G M Q pc' lv st' h) : WV S G M Q pc lv st h := by
  intro hR hl hs p e s m args below meth c H locs ls A hX hA hP hD hS hv
  exact hw hX hv hP hs (k hR hl (hok hR hl hs) p e s m args below meth c H locs ls A hX hA hP hD hS hv)
theorem s_iconst {n : Int} (d : decode M.2.1 pc = .ok (.iconst n, 1)) (hr : j_rg n) (k : WV S G M Q (pc + 1) lv (jI n :: st) h) : WV S G M Q pc lv st h :=
  j_st (fun _ _ hs => j_oI hr hs) (fun hX _ _ _ w => lv_iconst hX.1 hX.2.1 d rfl w) k
theorem s_bipush {n : Int} (d : decode M.2.1 pc = .ok (.bipush n, 2)) (hv : (Int8.ofInt n).toInt32 = Int32.ofInt n) (hr : j_rg n) (k : WV S G M Q (pc + 2) lv (jI n :: st) h) : WV S G M Q pc lv st h :=
  j_st (fun _ _ hs => j_oI hr hs) (fun hX _ _ _ w => lv_bipush hX.1 hX.2.1 d hv w) k
theorem s_sipush {n : Int} (d : decode M.2.1 pc = .ok (.sipush n, 3)) (hv : (Int16.ofInt n).toInt32 = Int32.ofInt n) (hr : j_rg n) (k : WV S G M Q (pc + 3) lv (jI n :: st) h) : WV S G M Q pc lv st h :=
  j_st (fun _ _ hs => j_oI hr hs) (fun hX _ _ _ w => lv_sipush hX.1 hX.2.1 d hv w) k
theorem s_ldc {idx : Nat} {n : Int} (d : decode M.2.1 pc = .ok (.ldc idx, 2)) (hw : Cond.constant M.1.cls idx (Int32.ofInt n) ∈ jW) (hr : j_rg n) (k : WV S G M Q (pc + 2) lv (jI n :: st) h) : WV S G M Q pc lv st h :=
  j_st (fun _ _ hs => j_oI hr hs) (fun hX _ _ _ w => lv_ldc hX.1 hX.2.1 hX.2.2.2.2.1 (hX.2.2.2.2.2.1 _ hw) d w) k
theorem s_ldcw {idx : Nat} {n : Int} (d : decode M.2.1 pc = .ok (.ldc_w idx, 3)) (hw : Cond.constant M.1.cls idx (Int32.ofInt n) ∈ jW) (hr : j_rg n) (k : WV S G M Q (pc + 3) lv (jI n :: st) h) : WV S G M Q pc lv st h :=
  j_st (fun _ _ hs => j_oI hr hs) (fun hX _ _ _ w => lv_ldcw hX.1 hX.2.1 hX.2.2.2.2.1 (hX.2.2.2.2.2.1 _ hw) d w) k
theorem s_ldc2 {idx : Nat} {n : Int64} (d : decode M.2.1 pc = .ok (.ldc2_w idx, 3)) (hw : Cond.constantLong M.1.cls idx n ∈ jW) (k : WV S G M Q (pc + 3) lv (jL n :: st) h) : WV S G M Q pc lv st h :=
  j_st (fun _ _ hs => j_oL hs) (fun hX _ _ _ w => lv_ldc2 hX.1 hX.2.1 hX.2.2.2.2.1 (hX.2.2.2.2.2.1 _ hw) d w) k
theorem s_lconst {n : Fin 2} {v : Int64} (d : decode M.2.1 pc = .ok (.lconst n, 1)) (hv : Int64.ofNat (n : Nat) = v) (k : WV S G M Q (pc + 1) lv (jL v :: st) h) : WV S G M Q pc lv st h :=
  j_st (fun _ _ hs => j_oL hs) (fun hX _ _ _ w => lv_lconst hX.1 hX.2.1 d hv w) k
theorem s_iload_n {i : Fin 4} {x : Int} (d : decode M.2.1 pc = .ok (.iload_n i, 1)) (hl : lv[(i : Nat)]? = some (jI x)) (k : WV S G M Q (pc + 1) lv (jI x :: st) h) : WV S G M Q pc lv st h :=
  j_st (fun _ hv hs => j_oI (hv _ (List.mem_of_getElem? hl)) hs) (fun hX hv _ _ w => lv_iload_n hX.1 hX.2.1 d rfl (j_lv_at hv hl rfl) w) k
theorem s_iload {i : Nat} {x : Int} (d : decode M.2.1 pc = .ok (.iload i, 2)) (hl : lv[i]? = some (jI x)) (k : WV S G M Q (pc + 2) lv (jI x :: st) h) : WV S G M Q pc lv st h :=
  j_st (fun _ hv hs => j_oI (hv _ (List.mem_of_getElem? hl)) hs) (fun hX hv _ _ w => lv_iload hX.1 hX.2.1 d (j_lv_at hv hl rfl) w) k
theorem s_aload_n {i : Fin 4} {x : Nat} (d : decode M.2.1 pc = .ok (.aload_n i, 1)) (hl : lv[(i : Nat)]? = some (jR x)) (k : WV S G M Q (pc + 1) lv (jR x :: st) h) : WV S G M Q pc lv st h :=
  j_st (fun _ _ hs => j_oR hs) (fun hX hv _ _ w => lv_aload_n hX.1 hX.2.1 d rfl (j_lv_at hv hl rfl) w) k
/-- a row that changes the locals alone -/
theorem s_istore_n {i : Fin 4} {x : Int} {lv' : List jV} (d : decode M.2.1 pc = .ok (.istore_n i, 1)) (hn : (i : Nat) < M.2.2.1) (hl : lv.set (i : Nat) (jI x) = lv') (k : WV S G M Q (pc + 1) lv' st h) : WV S G M Q pc lv (jI x :: st) h := by
  subst hl
  intro hR hl hs p e s m args below meth c H locs ls A hX hA hP hD hS hv
  refine lv_istore_n hX.1 hX.2.1 d rfl (j_lv_has hv) hn rfl (fun ls' hl' => ?_)
  exact k hR (j_ok_set hl (j_oh hs)) (j_ot hs) p e s m args below meth c H locs ls' A hX hA hP hD hS (j_lv_set hl')
theorem s_istore {i : Nat} {x : Int} {lv' : List jV} (d : decode M.2.1 pc = .ok (.istore i, 2)) (hn : i < M.2.2.1) (hl : lv.set i (jI x) = lv') (k : WV S G M Q (pc + 2) lv' st h) : WV S G M Q pc lv (jI x :: st) h := by
  subst hl
  intro hR hl hs p e s m args below meth c H locs ls A hX hA hP hD hS hv
  refine lv_istore hX.1 hX.2.1 d (j_lv_has hv) hn rfl (fun ls' hl' => ?_)
  exact k hR (j_ok_set hl (j_oh hs)) (j_ot hs) p e s m args below meth c H locs ls' A hX hA hP hD hS (j_lv_set hl')
theorem s_iinc {i : Nat} {n x : Int} {lv' : List jV} (d : decode M.2.1 pc = .ok (.iinc i n, 3)) (hx : lv[i]? = some (jI x)) (hn : i < M.2.2.1) (hr : j_rg (x + n)) (hl : lv.set i (jI (x + n)) = lv') (k : WV S G M Q (pc + 3) lv' st h) : WV S G M Q pc lv st h := by
  subst hl
  intro hR hl hs p e s m args below meth c H locs ls A hX hA hP hD hS hv
  have hh := j_lv_has hv
  have hm : (i, j_v G.2.2.2 (jI x)) ∈ j_ll G lv := List.mem_map.mpr ⟨(jI x, i), List.mem_filter.mpr ⟨List.mem_zipIdx_iff_getElem?.mpr hx, rfl⟩, rfl⟩
  obtain ⟨q, hq⟩ := List.getElem?_of_mem hm
  refine lv_iinc (v := Int32.ofInt (x + n)) hX.1 hX.2.1 d hh (k := q) (x := Int32.ofInt x) hq (by rw [Int32.ofInt_add]) hn rfl (fun ls' hl' => ?_)
  exact k hR (j_ok_set hl hr) hs p e s m args below meth c H locs ls' A hX hA hP hD hS (j_lv_set (a := jI (x + n)) hl')
/-! stack -/
theorem s_dup {a : jV} (d : decode M.2.1 pc = .ok (.dup, 1)) (hu : j_un a = false) (k : WV S G M Q (pc + 1) lv (a :: a :: st) h) : WV S G M Q pc lv (a :: st) h :=
  j_st (fun _ _ hs => j_oc (j_oh hs) hs) (fun hX _ _ _ w => lv_dup hX.1 hX.2.1 d (j_v_cat hu) w) k
theorem s_dup2 {a b : jV} (d : decode M.2.1 pc = .ok (.dup2, 1)) (hu : j_un a = false) (hu2 : j_un b = false) (k : WV S G M Q (pc + 1) lv (a :: b :: a :: b :: st) h) : WV S G M Q pc lv (a :: b :: st) h :=
  j_st (fun _ _ hs => j_oc (j_oh hs) (j_oc (j_oh (j_ot hs)) hs)) (fun hX _ _ _ w => lv_dup2_11 hX.1 hX.2.1 d (j_v_cat hu) (j_v_cat hu2) w) k
/-! sums -/
theorem s_iadd {x y : Int} (d : decode M.2.1 pc = .ok (.iadd, 1)) (hr : j_rg (x + y)) (k : WV S G M Q (pc + 1) lv (jI (x + y) :: st) h) : WV S G M Q pc lv (jI y :: jI x :: st) h :=
  j_st (fun _ _ hs => j_oI hr (j_ot (j_ot hs))) (fun hX _ _ _ w => lv_iadd hX.1 hX.2.1 d (by rw [← Int32.ofInt_add]; exact w)) k
theorem s_isub {x y : Int} (d : decode M.2.1 pc = .ok (.isub, 1)) (hr : j_rg (x - y)) (k : WV S G M Q (pc + 1) lv (jI (x - y) :: st) h) : WV S G M Q pc lv (jI y :: jI x :: st) h :=
  j_st (fun _ _ hs => j_oI hr (j_ot (j_ot hs))) (fun hX _ _ _ w => lv_isub hX.1 hX.2.1 d (by rw [← Int32.ofInt_sub]; exact w)) k
theorem s_imul {x y : Int} (d : decode M.2.1 pc = .ok (.imul, 1)) (hr : j_rg (x * y)) (k : WV S G M Q (pc + 1) lv (jI (x * y) :: st) h) : WV S G M Q pc lv (jI y :: jI x :: st) h :=
  j_st (fun _ _ hs => j_oI hr (j_ot (j_ot hs))) (fun hX _ _ _ w => lv_imul hX.1 hX.2.1 d (by rw [← Int32.ofInt_mul]; exact w)) k
theorem s_ineg {x : Int} (d : decode M.2.1 pc = .ok (.ineg, 1)) (hr : j_rg (-x)) (k : WV S G M Q (pc + 1) lv (jI (-x) :: st) h) : WV S G M Q pc lv (jI x :: st) h :=
  j_st (fun _ _ hs => j_oI hr (j_ot hs)) (fun hX _ _ _ w => lv_ineg hX.1 hX.2.1 d (by rw [← Int32.ofInt_neg]; exact w)) k
theorem s_ladd {x y : Int64} (d : decode M.2.1 pc = .ok (.ladd, 1)) (k : WV S G M Q (pc + 1) lv (jL (x + y) :: st) h) : WV S G M Q pc lv (jL y :: jL x :: st) h :=
  j_st (fun _ _ hs => j_oL (j_ot (j_ot hs))) (fun hX _ _ _ w => lv_ladd hX.1 hX.2.1 d w) k
/-! bits: the machine's own words, as integers -/
def b_and (x y : Int) : Int := (Int32.ofInt x &&& Int32.ofInt y).toInt
def b_or (x y : Int) : Int := (Int32.ofInt x ||| Int32.ofInt y).toInt
def b_xor (x y : Int) : Int := (Int32.ofInt x ^^^ Int32.ofInt y).toInt
def b_shl (x y : Int) : Int := (Int32.ofInt x <<< (Int32.ofInt y &&& 31)).toInt
def b_shr (x y : Int) : Int := (Int32.ofInt x >>> (Int32.ofInt y &&& 31)).toInt
def b_ushr (x y : Int) : Int := ((Int32.ofInt x).toUInt32 >>> ((Int32.ofInt y).toUInt32 &&& Int32.toUInt32 31)).toInt32.toInt
theorem j_rg32 (x : Int32) : j_rg x.toInt := ⟨by have := Int32.le_toInt x; omega, by have := Int32.toInt_lt x; omega⟩
theorem s_iand {x y : Int} (d : decode M.2.1 pc = .ok (.iand, 1)) (k : WV S G M Q (pc + 1) lv (jI (b_and x y) :: st) h) : WV S G M Q pc lv (jI y :: jI x :: st) h :=
  j_st (fun _ _ hs => j_oI (j_rg32 _) (j_ot (j_ot hs))) (fun hX _ _ _ w => lv_iand hX.1 hX.2.1 d (by have w := w; simp only [List.map_cons, j_v, b_and, Int32.ofInt_toInt] at w; exact w)) k
theorem s_ior {x y : Int} (d : decode M.2.1 pc = .ok (.ior, 1)) (k : WV S G M Q (pc + 1) lv (jI (b_or x y) :: st) h) : WV S G M Q pc lv (jI y :: jI x :: st) h :=
  j_st (fun _ _ hs => j_oI (j_rg32 _) (j_ot (j_ot hs))) (fun hX _ _ _ w => lv_ior hX.1 hX.2.1 d (by have w := w; simp only [List.map_cons, j_v, b_or, Int32.ofInt_toInt] at w; exact w)) k
theorem s_ixor {x y : Int} (d : decode M.2.1 pc = .ok (.ixor, 1)) (k : WV S G M Q (pc + 1) lv (jI (b_xor x y) :: st) h) : WV S G M Q pc lv (jI y :: jI x :: st) h :=
  j_st (fun _ _ hs => j_oI (j_rg32 _) (j_ot (j_ot hs))) (fun hX _ _ _ w => lv_ixor hX.1 hX.2.1 d (by have w := w; simp only [List.map_cons, j_v, b_xor, Int32.ofInt_toInt] at w; exact w)) k
theorem s_ishl {x y : Int} (d : decode M.2.1 pc = .ok (.ishl, 1)) (k : WV S G M Q (pc + 1) lv (jI (b_shl x y) :: st) h) : WV S G M Q pc lv (jI y :: jI x :: st) h :=
  j_st (fun _ _ hs => j_oI (j_rg32 _) (j_ot (j_ot hs))) (fun hX _ _ _ w => lv_ishl hX.1 hX.2.1 d (by have w := w; simp only [List.map_cons, j_v, b_shl, Int32.ofInt_toInt] at w; exact w)) k
theorem s_ishr {x y : Int} (d : decode M.2.1 pc = .ok (.ishr, 1)) (k : WV S G M Q (pc + 1) lv (jI (b_shr x y) :: st) h) : WV S G M Q pc lv (jI y :: jI x :: st) h :=
  j_st (fun _ _ hs => j_oI (j_rg32 _) (j_ot (j_ot hs))) (fun hX _ _ _ w => lv_ishr hX.1 hX.2.1 d (by have w := w; simp only [List.map_cons, j_v, b_shr, Int32.ofInt_toInt] at w; exact w)) k
theorem s_iushr {x y : Int} (d : decode M.2.1 pc = .ok (.iushr, 1)) (k : WV S G M Q (pc + 1) lv (jI (b_ushr x y) :: st) h) : WV S G M Q pc lv (jI y :: jI x :: st) h :=
  j_st (fun _ _ hs => j_oI (j_rg32 _) (j_ot (j_ot hs))) (fun hX _ _ _ w => lv_iushr hX.1 hX.2.1 d rfl (by have w := w; simp only [List.map_cons, j_v, b_ushr, Int32.ofInt_toInt] at w; exact w)) k
/-! a division's divisor is above 0 -/
theorem j_dv {x y : Int} (hx : j_rg x) (hy : j_rg y) (h0 : 0 < y) : Int32.ofInt x / Int32.ofInt y = Int32.ofInt (x.tdiv y) ∧ j_rg (x.tdiv y) ∧ ¬ Int32.ofInt y = 0 := by
  have hne : Int32.ofInt y ≠ -1 := by
    intro e
    have e := congrArg Int32.toInt e
    rw [j_ti hy, show (-1 : Int32).toInt = -1 by decide] at e
    omega
  have e : (Int32.ofInt x / Int32.ofInt y).toInt = x.tdiv y := by
    rw [Int32.toInt_div_of_ne_right _ _ hne, j_ti hx, j_ti hy]
  refine ⟨?_, ?_, ?_⟩
  · rw [← e, Int32.ofInt_toInt]
  · rw [← e]; exact j_rg32 _
  · intro e
    rw [j_of0, j_eq hy (j_cst rfl)] at e
    omega
theorem s_idiv {x y : Int} (d : decode M.2.1 pc = .ok (.idiv, 1)) (h0 : 0 < y) (k : WV S G M Q (pc + 1) lv (jI (x.tdiv y) :: st) h) : WV S G M Q pc lv (jI y :: jI x :: st) h :=
  j_st (fun _ _ hs => j_oI (j_dv (j_hI (j_ot hs)) (j_hI hs) h0).2.1 (j_ot (j_ot hs))) (fun hX _ _ hs w => lv_idiv hX.1 hX.2.1 d (j_dv (j_hI (j_ot hs)) (j_hI hs) h0).2.2 (by rw [(j_dv (j_hI (j_ot hs)) (j_hI hs) h0).1]; exact w)) k
theorem j_rm {x y : Int} (hx : j_rg x) (hy : j_rg y) (h0 : 0 < y) : Int32.ofInt x - Int32.ofInt x / Int32.ofInt y * Int32.ofInt y = Int32.ofInt (x.tmod y) ∧ j_rg (x.tmod y) := by
  obtain ⟨e1, e2, e3⟩ := j_dv hx hy h0
  have e : x.tmod y = x - x.tdiv y * y := by rw [Int.tmod_def, Int.mul_comm]
  refine ⟨?_, ?_⟩
  · rw [e1, ← Int32.ofInt_mul, ← Int32.ofInt_sub, e]
  · have a1 := Int.tmod_lt_of_pos x h0
    have a2 : -y < x.tmod y := by
      have := Int.lt_tmod_of_pos x h0
      omega
    have := hy.2
    exact ⟨by omega, by omega⟩
theorem s_irem {x y : Int} (d : decode M.2.1 pc = .ok (.irem, 1)) (h0 : 0 < y) (k : WV S G M Q (pc + 1) lv (jI (x.tmod y) :: st) h) : WV S G M Q pc lv (jI y :: jI x :: st) h :=
  j_st (fun _ _ hs => j_oI (j_rm (j_hI (j_ot hs)) (j_hI hs) h0).2 (j_ot (j_ot hs))) (fun hX _ _ hs w => lv_irem hX.1 hX.2.1 d (j_dv (j_hI (j_ot hs)) (j_hI hs) h0).2.2 (by rw [(j_rm (j_hI (j_ot hs)) (j_hI hs) h0).1]; exact w)) k
theorem s_goto {off : Int} {tgt : Nat} (d : decode M.2.1 pc = .ok (.goto off, 3)) (ht : (pc : Int) + off = (tgt : Int)) (k : WV S G M Q tgt lv st h) : WV S G M Q pc lv st h :=
  j_st (fun _ _ hs => hs) (fun hX _ _ _ w => lv_goto hX.1 hX.2.1 d ht w) k
end RW1
end
section
/-! branches, fields, rows of numbers, ends -/
section RW2
variable {S : jS} {G : jG} {M : jM} {Q : jQ} {pc : Nat} {lv st : List jV} {h : jH}
theorem s_icmp_lt {x y off : Int} {tgt : Nat} (d : decode M.2.1 pc = .ok (.if_icmp .lt off, 3)) (ht : (pc : Int) + off = (tgt : Int)) (kt : x < y → WV S G M Q tgt lv st h) (kf : ¬ x < y → WV S G M Q (pc + 3) lv st h) : WV S G M Q pc lv (jI y :: jI x :: st) h := by
  intro hR hl hs p e s m args below meth c H locs ls A hX hA hP hD hS hv
  have e1 := j_lt (j_hI (j_ot hs)) (j_hI hs)
  exact lv_icmp_lt hX.1 hX.2.1 d ht (fun q => kt (e1 ▸ q) hR hl (j_ot (j_ot hs)) p e s m args below meth c H locs ls A hX hA hP hD hS hv) (fun q => kf (e1 ▸ q) hR hl (j_ot (j_ot hs)) p e s m args below meth c H locs ls A hX hA hP hD hS hv)
theorem s_icmp_ge {x y off : Int} {tgt : Nat} (d : decode M.2.1 pc = .ok (.if_icmp .ge off, 3)) (ht : (pc : Int) + off = (tgt : Int)) (kt : y ≤ x → WV S G M Q tgt lv st h) (kf : ¬ y ≤ x → WV S G M Q (pc + 3) lv st h) : WV S G M Q pc lv (jI y :: jI x :: st) h := by
  intro hR hl hs p e s m args below meth c H locs ls A hX hA hP hD hS hv
  have e1 := j_le (j_hI hs) (j_hI (j_ot hs))
  exact lv_icmp_ge hX.1 hX.2.1 d ht (fun q => kt (e1 ▸ q) hR hl (j_ot (j_ot hs)) p e s m args below meth c H locs ls A hX hA hP hD hS hv) (fun q => kf (e1 ▸ q) hR hl (j_ot (j_ot hs)) p e s m args below meth c H locs ls A hX hA hP hD hS hv)
theorem s_icmp_gt {x y off : Int} {tgt : Nat} (d : decode M.2.1 pc = .ok (.if_icmp .gt off, 3)) (ht : (pc : Int) + off = (tgt : Int)) (kt : y < x → WV S G M Q tgt lv st h) (kf : ¬ y < x → WV S G M Q (pc + 3) lv st h) : WV S G M Q pc lv (jI y :: jI x :: st) h := by
  intro hR hl hs p e s m args below meth c H locs ls A hX hA hP hD hS hv
  have e1 := j_lt (j_hI hs) (j_hI (j_ot hs))
  exact lv_icmp_gt hX.1 hX.2.1 d ht (fun q => kt (e1 ▸ q) hR hl (j_ot (j_ot hs)) p e s m args below meth c H locs ls A hX hA hP hD hS hv) (fun q => kf (e1 ▸ q) hR hl (j_ot (j_ot hs)) p e s m args below meth c H locs ls A hX hA hP hD hS hv)
theorem s_icmp_le {x y off : Int} {tgt : Nat} (d : decode M.2.1 pc = .ok (.if_icmp .le off, 3)) (ht : (pc : Int) + off = (tgt : Int)) (kt : x ≤ y → WV S G M Q tgt lv st h) (kf : ¬ x ≤ y → WV S G M Q (pc + 3) lv st h) : WV S G M Q pc lv (jI y :: jI x :: st) h := by
  intro hR hl hs p e s m args below meth c H locs ls A hX hA hP hD hS hv
  have e1 := j_le (j_hI (j_ot hs)) (j_hI hs)
  exact lv_icmp_le hX.1 hX.2.1 d ht (fun q => kt (e1 ▸ q) hR hl (j_ot (j_ot hs)) p e s m args below meth c H locs ls A hX hA hP hD hS hv) (fun q => kf (e1 ▸ q) hR hl (j_ot (j_ot hs)) p e s m args below meth c H locs ls A hX hA hP hD hS hv)
theorem s_icmp_eq {x y off : Int} {tgt : Nat} (d : decode M.2.1 pc = .ok (.if_icmp .eq off, 3)) (ht : (pc : Int) + off = (tgt : Int)) (kt : x = y → WV S G M Q tgt lv st h) (kf : ¬ x = y → WV S G M Q (pc + 3) lv st h) : WV S G M Q pc lv (jI y :: jI x :: st) h := by
  intro hR hl hs p e s m args below meth c H locs ls A hX hA hP hD hS hv
  have e1 := j_eq (j_hI (j_ot hs)) (j_hI hs)
  exact lv_icmp_eq hX.1 hX.2.1 d ht (fun q => kt (e1 ▸ q) hR hl (j_ot (j_ot hs)) p e s m args below meth c H locs ls A hX hA hP hD hS hv) (fun q => kf (e1 ▸ q) hR hl (j_ot (j_ot hs)) p e s m args below meth c H locs ls A hX hA hP hD hS hv)
theorem s_icmp_ne {x y off : Int} {tgt : Nat} (d : decode M.2.1 pc = .ok (.if_icmp .ne off, 3)) (ht : (pc : Int) + off = (tgt : Int)) (kt : ¬ x = y → WV S G M Q tgt lv st h) (kf : x = y → WV S G M Q (pc + 3) lv st h) : WV S G M Q pc lv (jI y :: jI x :: st) h := by
  intro hR hl hs p e s m args below meth c H locs ls A hX hA hP hD hS hv
  have e1 := j_eq (j_hI (j_ot hs)) (j_hI hs)
  exact lv_icmp_ne hX.1 hX.2.1 d ht (fun q => kt (e1 ▸ q) hR hl (j_ot (j_ot hs)) p e s m args below meth c H locs ls A hX hA hP hD hS hv) (fun q => kf (e1 ▸ q) hR hl (j_ot (j_ot hs)) p e s m args below meth c H locs ls A hX hA hP hD hS hv)
theorem s_if_lt {x off : Int} {tgt : Nat} (d : decode M.2.1 pc = .ok (.ifCond .lt off, 3)) (ht : (pc : Int) + off = (tgt : Int)) (kt : x < 0 → WV S G M Q tgt lv st h) (kf : ¬ x < 0 → WV S G M Q (pc + 3) lv st h) : WV S G M Q pc lv (jI x :: st) h := by
  intro hR hl hs p e s m args below meth c H locs ls A hX hA hP hD hS hv
  have e1 := j_lt (j_hI hs) (j_cst (n := 0) rfl)
  rw [← j_of0] at e1
  exact lv_if_lt hX.1 hX.2.1 d ht (fun q => kt (e1 ▸ q) hR hl (j_ot hs) p e s m args below meth c H locs ls A hX hA hP hD hS hv) (fun q => kf (e1 ▸ q) hR hl (j_ot hs) p e s m args below meth c H locs ls A hX hA hP hD hS hv)
theorem s_if_ge {x off : Int} {tgt : Nat} (d : decode M.2.1 pc = .ok (.ifCond .ge off, 3)) (ht : (pc : Int) + off = (tgt : Int)) (kt : 0 ≤ x → WV S G M Q tgt lv st h) (kf : ¬ 0 ≤ x → WV S G M Q (pc + 3) lv st h) : WV S G M Q pc lv (jI x :: st) h := by
  intro hR hl hs p e s m args below meth c H locs ls A hX hA hP hD hS hv
  have e1 := j_le (j_cst (n := 0) rfl) (j_hI hs)
  rw [← j_of0] at e1
  exact lv_if_ge hX.1 hX.2.1 d ht (fun q => kt (e1 ▸ q) hR hl (j_ot hs) p e s m args below meth c H locs ls A hX hA hP hD hS hv) (fun q => kf (e1 ▸ q) hR hl (j_ot hs) p e s m args below meth c H locs ls A hX hA hP hD hS hv)
theorem s_if_gt {x off : Int} {tgt : Nat} (d : decode M.2.1 pc = .ok (.ifCond .gt off, 3)) (ht : (pc : Int) + off = (tgt : Int)) (kt : 0 < x → WV S G M Q tgt lv st h) (kf : ¬ 0 < x → WV S G M Q (pc + 3) lv st h) : WV S G M Q pc lv (jI x :: st) h := by
  intro hR hl hs p e s m args below meth c H locs ls A hX hA hP hD hS hv
  have e1 := j_lt (j_cst (n := 0) rfl) (j_hI hs)
  rw [← j_of0] at e1
  exact lv_if_gt hX.1 hX.2.1 d ht (fun q => kt (e1 ▸ q) hR hl (j_ot hs) p e s m args below meth c H locs ls A hX hA hP hD hS hv) (fun q => kf (e1 ▸ q) hR hl (j_ot hs) p e s m args below meth c H locs ls A hX hA hP hD hS hv)
theorem s_if_le {x off : Int} {tgt : Nat} (d : decode M.2.1 pc = .ok (.ifCond .le off, 3)) (ht : (pc : Int) + off = (tgt : Int)) (kt : x ≤ 0 → WV S G M Q tgt lv st h) (kf : ¬ x ≤ 0 → WV S G M Q (pc + 3) lv st h) : WV S G M Q pc lv (jI x :: st) h := by
  intro hR hl hs p e s m args below meth c H locs ls A hX hA hP hD hS hv
  have e1 := j_le (j_hI hs) (j_cst (n := 0) rfl)
  rw [← j_of0] at e1
  exact lv_if_le hX.1 hX.2.1 d ht (fun q => kt (e1 ▸ q) hR hl (j_ot hs) p e s m args below meth c H locs ls A hX hA hP hD hS hv) (fun q => kf (e1 ▸ q) hR hl (j_ot hs) p e s m args below meth c H locs ls A hX hA hP hD hS hv)
theorem s_if_eq {x off : Int} {tgt : Nat} (d : decode M.2.1 pc = .ok (.ifCond .eq off, 3)) (ht : (pc : Int) + off = (tgt : Int)) (kt : x = 0 → WV S G M Q tgt lv st h) (kf : ¬ x = 0 → WV S G M Q (pc + 3) lv st h) : WV S G M Q pc lv (jI x :: st) h := by
  intro hR hl hs p e s m args below meth c H locs ls A hX hA hP hD hS hv
  have e1 := j_eq (j_hI hs) (j_cst (n := 0) rfl)
  rw [← j_of0] at e1
  exact lv_if_eq hX.1 hX.2.1 d ht (fun q => kt (e1 ▸ q) hR hl (j_ot hs) p e s m args below meth c H locs ls A hX hA hP hD hS hv) (fun q => kf (e1 ▸ q) hR hl (j_ot hs) p e s m args below meth c H locs ls A hX hA hP hD hS hv)
theorem s_if_ne {x off : Int} {tgt : Nat} (d : decode M.2.1 pc = .ok (.ifCond .ne off, 3)) (ht : (pc : Int) + off = (tgt : Int)) (kt : ¬ x = 0 → WV S G M Q tgt lv st h) (kf : x = 0 → WV S G M Q (pc + 3) lv st h) : WV S G M Q pc lv (jI x :: st) h := by
  intro hR hl hs p e s m args below meth c H locs ls A hX hA hP hD hS hv
  have e1 := j_eq (j_hI hs) (j_cst (n := 0) rfl)
  rw [← j_of0] at e1
  exact lv_if_ne hX.1 hX.2.1 d ht (fun q => kt (e1 ▸ q) hR hl (j_ot hs) p e s m args below meth c H locs ls A hX hA hP hD hS hv) (fun q => kf (e1 ▸ q) hR hl (j_ot hs) p e s m args below meth c H locs ls A hX hA hP hD hS hv)
/-- a switch over a table: the number is in it, or not -/
theorem s_table {dflt lo hi x : Int} {offs : Array Int} {len : Nat} (d : decode M.2.1 pc = .ok (.tableswitch dflt lo hi offs, len)) (tg : Nat → Nat) (td : Nat) (htd : (pc : Int) + dflt = (td : Int)) (hsz : lo + offs.size = hi + 1) (htg : ∀ i, i < offs.size → (pc : Int) + offs.getD i 0 = (tg i : Int))
    (kt : ∀ i : Nat, i < offs.size → x = lo + i → WV S G M Q (tg i) lv st h) (kf : x < lo ∨ hi < x → WV S G M Q td lv st h) : WV S G M Q pc lv (jI x :: st) h := by
  intro hR hl hs p e s m args below meth c H locs ls A hX hA hP hD hS hv
  have e1 := j_ti (j_hI hs)
  by_cases hx : x < lo ∨ hi < x
  · exact lv_tableOut hX.1 hX.2.1 d (by rw [e1]; exact hx) htd (kf hx hR hl (j_ot hs) p e s m args below meth c H locs ls A hX hA hP hD hS hv)
  · have h1 : (x - lo).toNat < offs.size := by omega
    refine lv_tableIn (off := offs.getD (x - lo).toNat 0) hX.1 hX.2.1 d (by rw [e1]; omega) (by rw [e1]; omega) ?_ (htg _ h1) (kt (x - lo).toNat h1 (by omega) hR hl (j_ot hs) p e s m args below meth c H locs ls A hX hA hP hD hS hv)
    rw [e1, Array.getD_eq_getD_getElem?, Array.getElem?_eq_getElem h1]
    rfl
theorem s_lookup {dflt x off : Int} {ps : Array (Int × Int)} {len tgt : Nat} (d : decode M.2.1 pc = .ok (.lookupswitch dflt ps, len)) (hp : (ps.toList.zip (ps.toList.drop 1)).all (fun (a, next) => a.1 < next.1) = true) (ho : Op.lookupswitch.offset ps.toList dflt x = off) (ht : (pc : Int) + off = (tgt : Int)) (k : WV S G M Q tgt lv st h) : WV S G M Q pc lv (jI x :: st) h :=
  j_st (fun _ _ hs => j_ot hs) (fun hX _ _ hs w => lv_lookup hX.1 hX.2.1 d hp (by rw [j_ti (j_hI hs)]; exact ho) ht w) k
/-! fields -/
def j_fl (cl : List vw_C) (own : String) (idx ci j : Nat) : Prop := ∃ (C : String) (T : u_T) (N : Nat), cl[ci]? = some (C, T, N) ∧ j < N ∧ (∀ w ∈ u_ws C T N, w ∈ jW) ∧ Cond.fieldLink own idx (T j).1 (T j).2.1 (T j).2.2.1 ∈ jW
def j_fp (cl : List vw_C) (own : String) (idx ci j : Nat) (ty : FieldType) : Prop := ∃ (C : String) (T : u_T) (N : Nat) (ty0 : Nat → FieldType), cl[ci]? = some (C, T, N) ∧ j < N ∧ (∀ w ∈ u_ws C T N, w ∈ jW) ∧ Cond.fieldLink own idx (T j).1 (T j).2.1 (T j).2.2.1 ∈ jW ∧ (∀ k, k < N → parseFieldDescriptor (T k).2.2.1 = some (ty0 k)) ∧ (∀ a, a < N → ∀ b, b < N → a ≠ b → (T a).2.1 ≠ (T b).2.1) ∧ (T j).2.2.2 = false ∧ parseFieldDescriptor (T j).2.2.1 = some ty
theorem j_get {idx k ci j : Nat} {fs : List (Option (Option Nat))} {f : Option (Option Nat)} {a : jV} (d : decode M.2.1 pc = .ok (.getfield idx, 3)) (hf : j_fl S.1 M.1.cls idx ci j) (hc : S.2.2[k]? = some (.inr (ci, fs))) (hj : fs[j]? = some f) (ha : ∀ ad, j_f ad h k j f = j_v ad a) (hok : j_Rg h → j_ok a) (kk : WV S G M Q (pc + 3) lv (a :: st) h) : WV S G M Q pc lv (jR k :: st) h := by
  obtain ⟨C, T, N, h1, h2, h3, h4⟩ := hf
  refine j_st (fun hR _ hs => j_oc (hok hR) (j_ot hs)) (fun hX _ hP _ w => ?_) kk
  obtain ⟨x1, x2, x3, x4, x5, x6, x7, x8, x9⟩ := hX
  refine va_get (D := G.2.1) (ci := ci) (v := j_v G.2.2.2 a) x1 x2 x6 h3 x5 x8 hP k (j_w_at hc) h1 j h2 (x6 _ h4) (fun _ q => q) ?_ d w
  rw [List.getElem?_mapIdx, hj, ← ha]
  rfl
theorem s_geti {idx k ci j : Nat} {fs : List (Option (Option Nat))} {x : Int} (d : decode M.2.1 pc = .ok (.getfield idx, 3)) (hf : j_fl S.1 M.1.cls idx ci j) (hc : S.2.2[k]? = some (.inr (ci, fs))) (hj : fs[j]? = some (some none)) (hx : h.1 k j = x) (kk : WV S G M Q (pc + 3) lv (jI x :: st) h) : WV S G M Q pc lv (jR k :: st) h :=
  j_get (a := jI x) d hf hc hj (fun ad => by subst hx; rfl) (fun hR => by subst hx; exact hR k j) kk
theorem s_getl {idx k ci j : Nat} {fs : List (Option (Option Nat))} {x : Int64} (d : decode M.2.1 pc = .ok (.getfield idx, 3)) (hf : j_fl S.1 M.1.cls idx ci j) (hc : S.2.2[k]? = some (.inr (ci, fs))) (hj : fs[j]? = some none) (hx : h.2 k = x) (kk : WV S G M Q (pc + 3) lv (jL x :: st) h) : WV S G M Q pc lv (jR k :: st) h :=
  j_get (a := jL x) d hf hc hj (fun ad => by subst hx; rfl) (fun hR => trivial) kk
theorem s_getr {idx k ci j r : Nat} {fs : List (Option (Option Nat))} (d : decode M.2.1 pc = .ok (.getfield idx, 3)) (hf : j_fl S.1 M.1.cls idx ci j) (hc : S.2.2[k]? = some (.inr (ci, fs))) (hj : fs[j]? = some (some (some r))) (kk : WV S G M Q (pc + 3) lv (jR r :: st) h) : WV S G M Q pc lv (jR k :: st) h :=
  j_get (a := jR r) d hf hc hj (fun ad => rfl) (fun hR => trivial) kk
theorem j_up_Rg {k j : Nat} {x : Int} (hR : j_Rg h) (hx : j_rg x) : j_Rg (j_up h k j x) := by
  intro a b
  show j_rg (if a = k ∧ b = j then x else h.1 a b)
  split
  · exact hx
  · exact hR a b
theorem j_set_fs {ad : Nat → Nat} {h' : jH} {k j : Nat} {fs : List (Option (Option Nat))} {f : Option (Option Nat)} (hj : fs[j]? = some f) (ho : ∀ (i : Nat) (g : Option (Option Nat)), fs[i]? = some g → i ≠ j → j_f ad h' k i g = j_f ad h k i g) : (fs.mapIdx (fun i g => j_f ad h k i g)).set j (j_f ad h' k j f) = fs.mapIdx (fun i g => j_f ad h' k i g) := by
  apply List.ext_getElem?
  intro i
  by_cases hi : i = j
  · subst hi
    have hl : i < fs.length := (List.getElem?_eq_some_iff.mp hj).1
    rw [List.getElem?_set_self (by simpa using hl), List.getElem?_mapIdx, hj]
    rfl
  · rw [List.getElem?_set_ne (fun e => hi e.symm), List.getElem?_mapIdx, List.getElem?_mapIdx]
    cases hg : fs[i]? with
    | none => rfl
    | some g => simp only [Option.map_some, ho i g hg hi]
theorem j_put {idx k ci j : Nat} {fs : List (Option (Option Nat))} {f : Option (Option Nat)} {a : jV} {ty : FieldType} {h' : jH} (d : decode M.2.1 pc = .ok (.putfield idx, 3)) (hf : j_fp S.1 M.1.cls idx ci j ty) (hc : S.2.2[k]? = some (.inr (ci, fs))) (hj : fs[j]? = some f) (ha : ∀ ad, j_f ad h' k j f = j_v ad a) (hn : ∀ ad, narrow ty (j_v ad a) = j_v ad a) (hfit : ∀ ad, fits ty (j_v ad a) = true)
    (ho : ∀ (ad : Nat → Nat) (i : Nat) (g : Option (Option Nat)), fs[i]? = some g → i ≠ j → j_f ad h' k i g = j_f ad h k i g) (h1' : ∀ q, q ≠ k → h'.1 q = h.1 q) (h2' : ∀ q, q ≠ k → h'.2 q = h.2 q) (hok : j_Rg h → j_ok a → j_Rg h') (kk : WV S G M Q (pc + 3) lv st h') : WV S G M Q pc lv (a :: jR k :: st) h := by
  obtain ⟨C, T, N, ty0, h1, h2, h3, h4, h5, h6, h7, h8⟩ := hf
  intro hR hl hs p e s m args below meth c H locs ls A hX hA hP hD hS hv
  have hX0 := hX
  obtain ⟨x1, x2, x3, x4, x5, x6, x7, x8, x9⟩ := hX
  have hfl : j < fs.length := (List.getElem?_eq_some_iff.mp hj).1
  refine va_put (D := G.2.1) (ci := ci) (v := j_v G.2.2.2 a) (ty := ty) x1 x2 x6 h3 ty0 h5 h6 x5 x8 hP hD hS k (j_w_at hc) h1 j h2 (x6 _ h4) (fun _ q => q) h7 h8 (hn _) (hfit _) (by simpa using hfl) d (fun H1 locs1 hP1 hD1 hS1 => ?_)
  have e1 : (j_w G S.2.2 h).set k (G.2.2.2 k, .inr (ci, (fs.mapIdx (fun i g => j_f G.2.2.2 h k i g)).set j (j_v G.2.2.2 a))) = j_w G S.2.2 h' := by
    rw [← ha, j_set_fs hj (ho _)]
    exact j_w_set hc h1' h2'
  rw [e1] at hP1 hD1
  exact kk (hok hR (j_oh hs)) hl (j_ot (j_ot hs)) p e s m args below meth c H1 locs1 ls A hX0 hA hP1 hD1 hS1 hv
theorem j_up_o {k j : Nat} {x : Int} {fs : List (Option (Option Nat))} (ad : Nat → Nat) (i : Nat) (g : Option (Option Nat)) (_ : fs[i]? = some g) (hi : i ≠ j) : j_f ad (j_up h k j x) k i g = j_f ad h k i g := by
  rcases g with _ | _ | r
  · rfl
  · simp [j_f, j_up, hi]
  · rfl
theorem s_puti {idx k ci j : Nat} {fs : List (Option (Option Nat))} {x : Int} (d : decode M.2.1 pc = .ok (.putfield idx, 3)) (hf : j_fp S.1 M.1.cls idx ci j .int) (hc : S.2.2[k]? = some (.inr (ci, fs))) (hj : fs[j]? = some (some none)) (kk : WV S G M Q (pc + 3) lv st (j_up h k j x)) : WV S G M Q pc lv (jI x :: jR k :: st) h :=
  j_put (a := jI x) (h' := j_up h k j x) d hf hc hj (fun ad => by simp [j_f, j_up, j_v]) (fun _ => rfl) (fun _ => rfl) (fun ad i g hg hi => j_up_o ad i g hg hi) (fun q hq => by funext b; simp [j_up, hq]) (fun q hq => rfl) (fun hR ho => j_up_Rg hR ho) kk
theorem s_putz {idx k ci j : Nat} {fs : List (Option (Option Nat))} {x : Int} (d : decode M.2.1 pc = .ok (.putfield idx, 3)) (hf : j_fp S.1 M.1.cls idx ci j .boolean) (hc : S.2.2[k]? = some (.inr (ci, fs))) (hj : fs[j]? = some (some none)) (hz : x = 0 ∨ x = 1) (kk : WV S G M Q (pc + 3) lv st (j_up h k j x)) : WV S G M Q pc lv (jI x :: jR k :: st) h :=
  j_put (a := jI x) (h' := j_up h k j x) d hf hc hj (fun ad => by simp [j_f, j_up, j_v]) (fun _ => by rcases hz with rfl | rfl <;> rfl) (fun _ => by rcases hz with rfl | rfl <;> rfl) (fun ad i g hg hi => j_up_o ad i g hg hi) (fun q hq => by funext b; simp [j_up, hq]) (fun q hq => rfl) (fun hR ho => j_up_Rg hR ho) kk
theorem s_putl {idx k ci j : Nat} {fs : List (Option (Option Nat))} {x : Int64} (d : decode M.2.1 pc = .ok (.putfield idx, 3)) (hf : j_fp S.1 M.1.cls idx ci j .long) (hc : S.2.2[k]? = some (.inr (ci, fs))) (hj : fs[j]? = some none) (hone : ∀ i, fs[i]? = some none → i = j) (kk : WV S G M Q (pc + 3) lv st (j_upl h k x)) : WV S G M Q pc lv (jL x :: jR k :: st) h :=
  j_put (a := jL x) (h' := j_upl h k x) d hf hc hj (fun ad => by simp [j_f, j_upl, j_v]) (fun _ => rfl) (fun _ => rfl) (fun ad i g hg hi => by
    rcases g with _ | _ | r
    · exact absurd (hone i hg) hi
    · rfl
    · rfl) (fun q hq => rfl) (fun q hq => by simp [j_upl, hq]) (fun hR ho => hR) kk
end RW2
end
section
/-! rows of numbers, ends, calls -/
section RW3
variable {S : jS} {G : jG} {M : jM} {Q : jQ} {pc : Nat} {lv st : List jV} {h : jH}
theorem s_iald {k n : Nat} {i : Int} (d : decode M.2.1 pc = .ok (.iaload, 1)) (hc : S.2.2[k]? = some (.inl (false, n))) (hin : 0 ≤ i ∧ i < n) (kk : WV S G M Q (pc + 1) lv (jI (h.1 k i.toNat) :: st) h) : WV S G M Q pc lv (jI i :: jR k :: st) h := by
  refine j_st (fun hR _ hs => j_oI (hR _ _) (j_ot (j_ot hs))) (fun hX _ hP hs w => ?_) kk
  obtain ⟨x1, x2, x3, x4, x5, x6, x7, x8, x9⟩ := hX
  have hr := j_hI hs
  refine va_iald x1 x2 x8 hP k 0 (j_w_at hc) rfl (j_in hr hin.1 hin.2) d ?_
  rw [j_cl hr]
  exact w
theorem s_zald {k n : Nat} {i : Int} (d : decode M.2.1 pc = .ok (.baload, 1)) (hc : S.2.2[k]? = some (.inl (true, n))) (hin : 0 ≤ i ∧ i < n) (kk : WV S G M Q (pc + 1) lv (jI (h.1 k i.toNat) :: st) h) : WV S G M Q pc lv (jI i :: jR k :: st) h := by
  refine j_st (fun hR _ hs => j_oI (hR _ _) (j_ot (j_ot hs))) (fun hX _ hP hs w => ?_) kk
  obtain ⟨x1, x2, x3, x4, x5, x6, x7, x8, x9⟩ := hX
  have hr := j_hI hs
  refine va_zald x1 x2 x8 hP k 1 (j_w_at hc) rfl (j_in hr hin.1 hin.2) d ?_
  rw [j_cl hr]
  exact w
theorem s_alen {k n : Nat} {b : Bool} {v : Int} (d : decode M.2.1 pc = .ok (.arraylength, 1)) (hc : S.2.2[k]? = some (.inl (b, n))) (hv : (n : Int) = v) (hr : j_rg v) (kk : WV S G M Q (pc + 1) lv (jI v :: st) h) : WV S G M Q pc lv (jR k :: st) h := by
  refine j_st (fun hR _ hs => j_oI hr (j_ot hs)) (fun hX _ hP hs w => ?_) kk
  obtain ⟨x1, x2, x3, x4, x5, x6, x7, x8, x9⟩ := hX
  have e : Int32.ofNat n = Int32.ofInt v := by rw [← hv, Int32.ofInt_eq_ofNat]
  cases b with
  | false => exact va_alen x1 x2 x8 hP k 0 (j_w_at hc) (ty := .int) rfl e d w
  | true => exact va_alen x1 x2 x8 hP k 1 (j_w_at hc) (ty := .boolean) rfl e d w
theorem j_up_row {k j : Nat} {x : Int} : (fun b => Int32.ofInt ((j_up h k j x).1 k b)) = upd (fun b => Int32.ofInt (h.1 k b)) j (Int32.ofInt x) := by
  funext b
  by_cases hb : b = j
  · subst hb; simp [j_up, upd]
  · simp [j_up, upd, hb]
theorem s_iast {k n : Nat} {i x : Int} (d : decode M.2.1 pc = .ok (.iastore, 1)) (hc : S.2.2[k]? = some (.inl (false, n))) (hin : 0 ≤ i ∧ i < n) (kk : WV S G M Q (pc + 1) lv st (j_up h k i.toNat x)) : WV S G M Q pc lv (jI x :: jI i :: jR k :: st) h := by
  intro hR hl hs p e s m args below meth c H locs ls A hX hA hP hD hS hv
  have hX0 := hX
  obtain ⟨x1, x2, x3, x4, x5, x6, x7, x8, x9⟩ := hX
  have hr := j_hI (j_ot hs)
  refine va_iast x1 x2 x8 hP hD hS k 0 (j_w_at hc) rfl (j_in hr hin.1 hin.2) d (fun H1 locs1 hP1 hD1 hS1 => ?_)
  have e1 : (j_w G S.2.2 h).set k (G.2.2.2 k, .inl (if false = true then G.2.2.1.2 else G.2.2.1.1, n, .inl (upd (fun j => Int32.ofInt (h.1 k j)) (Int32.ofInt i).toNatClampNeg (Int32.ofInt x)))) = j_w G S.2.2 (j_up h k i.toNat x) := by
    rw [j_cl hr, ← j_up_row]
    exact j_w_set hc (fun q hq => by funext b; simp [j_up, hq]) (fun q hq => rfl)
  rw [e1] at hP1 hD1
  exact kk (j_up_Rg hR (j_hI hs)) hl (j_ot (j_ot (j_ot hs))) p e s m args below meth c H1 locs1 ls A hX0 hA hP1 hD1 hS1 hv
theorem j_narz {x : Int} (hz : x = 0 ∨ x = 1) : vp_nar .boolean (Int32.ofInt x) = Int32.ofInt x := by
  rcases hz with rfl | rfl <;> rfl
theorem s_zast {k n : Nat} {i x : Int} (d : decode M.2.1 pc = .ok (.bastore, 1)) (hc : S.2.2[k]? = some (.inl (true, n))) (hin : 0 ≤ i ∧ i < n) (hz : x = 0 ∨ x = 1) (kk : WV S G M Q (pc + 1) lv st (j_up h k i.toNat x)) : WV S G M Q pc lv (jI x :: jI i :: jR k :: st) h := by
  intro hR hl hs p e s m args below meth c H locs ls A hX hA hP hD hS hv
  have hX0 := hX
  obtain ⟨x1, x2, x3, x4, x5, x6, x7, x8, x9⟩ := hX
  have hr := j_hI (j_ot hs)
  refine va_zast x1 x2 x8 hP hD hS k 1 (j_w_at hc) rfl (j_in hr hin.1 hin.2) d (fun H1 locs1 hP1 hD1 hS1 => ?_)
  have e1 : (j_w G S.2.2 h).set k (G.2.2.2 k, .inl (if true = true then G.2.2.1.2 else G.2.2.1.1, n, .inl (upd (fun j => Int32.ofInt (h.1 k j)) (Int32.ofInt i).toNatClampNeg (vp_nar .boolean (Int32.ofInt x))))) = j_w G S.2.2 (j_up h k i.toNat x) := by
    rw [j_narz hz, j_cl hr, ← j_up_row]
    exact j_w_set hc (fun q hq => by funext b; simp [j_up, hq]) (fun q hq => rfl)
  rw [e1] at hP1 hD1
  exact kk (j_up_Rg hR (j_hI hs)) hl (j_ot (j_ot (j_ot hs))) p e s m args below meth c H1 locs1 ls A hX0 hA hP1 hD1 hS1 hv
/-! ends -/
theorem s_iret {x : Int} (d : decode M.2.1 pc = .ok (.ireturn, 1)) (ht : M.2.2.2.1 = some .int) (hq : Q (some (jI x)) h) : WV S G M Q pc lv [jI x] h := by
  intro hR hl hs p e s m args below meth c H locs ls A hX hA hP hD hS hv
  obtain ⟨x1, x2, x3, x4, x5, x6, x7, x8, x9⟩ := hX
  have hr : meth.sig.returnType = some .int := x3.trans ht
  exact W.iret (v := Int32.ofInt x) x1 x2 hr (fun t ht hW => ⟨⟨some (jI x), h, hq, hR, fun a ha => by cases ha; exact j_oh hs, rfl, by rw [ht]; exact hP, va_K.moved hW.alike x8, hD⟩, hS.F ht⟩) hS.2.2 d x7
theorem s_zret {x : Int} (d : decode M.2.1 pc = .ok (.ireturn, 1)) (ht : M.2.2.2.1 = some .boolean) (hz : x = 0 ∨ x = 1) (hq : Q (some (jI x)) h) : WV S G M Q pc lv [jI x] h := by
  intro hR hl hs p e s m args below meth c H locs ls A hX hA hP hD hS hv
  obtain ⟨x1, x2, x3, x4, x5, x6, x7, x8, x9⟩ := hX
  have hr : meth.sig.returnType = some .boolean := x3.trans ht
  exact W.zret (v := Int32.ofInt x) x1 x2 hr (by rcases hz with rfl | rfl <;> rfl) (fun t ht hW => ⟨⟨some (jI x), h, hq, hR, fun a ha => by cases ha; exact j_oh hs, rfl, by rw [ht]; exact hP, va_K.moved hW.alike x8, hD⟩, hS.F ht⟩) hS.2.2 d x7
theorem s_lret {x : Int64} (d : decode M.2.1 pc = .ok (.lreturn, 1)) (ht : M.2.2.2.1 = some .long) (hq : Q (some (jL x)) h) : WV S G M Q pc lv [jL x] h := by
  intro hR hl hs p e s m args below meth c H locs ls A hX hA hP hD hS hv
  obtain ⟨x1, x2, x3, x4, x5, x6, x7, x8, x9⟩ := hX
  have hr : meth.sig.returnType = some .long := x3.trans ht
  exact W.lret (v := x) x1 x2 hr (fun t ht hW => ⟨⟨some (jL x), h, hq, hR, fun a ha => by cases ha; trivial, rfl, by rw [ht]; exact hP, va_K.moved hW.alike x8, hD⟩, hS.F ht⟩) hS.2.2 d x7
theorem s_vret (d : decode M.2.1 pc = .ok (.return_, 1)) (ht : M.2.2.2.1 = none) (hq : Q none h) : WV S G M Q pc lv [] h := by
  intro hR hl hs p e s m args below meth c H locs ls A hX hA hP hD hS hv
  obtain ⟨x1, x2, x3, x4, x5, x6, x7, x8, x9⟩ := hX
  have hr : meth.sig.returnType = none := x3.trans ht
  exact W.vret x1 x2 hr (fun t ht hW => ⟨⟨none, h, hq, hR, fun a ha => (by cases ha), rfl, by rw [ht]; exact hP, va_K.moved hW.alike x8, hD⟩, hS.F ht⟩) hS.2.2 d x7
end RW3
/-! a contract out of a walk -/
theorem j_sl (G : jG) (av : List jV) (hu : ∀ a ∈ av, j_un a = false) : lg_sl (av.map (j_v G.2.2.2)) = av.map (fun a => Slot.val (j_v G.2.2.2 a)) := by
  induction av with
  | nil => rfl
  | cons a t ih =>
    have h1 := j_v_cat (ad := G.2.2.2) (hu a List.mem_cons_self)
    have h2 := ih (fun b hb => hu b (List.mem_cons_of_mem _ hb))
    simp only [lg_sl, List.map_cons, List.flatMap_cons, h1] at h2 ⊢
    rw [h2]
    rfl
theorem j_lva (G : jG) : ∀ (av : List jV) (i : Nat), (∀ a ∈ av, j_un a = false) → ∀ (k : Nat) (a : jV), av[k]? = some a → (i + k, j_v G.2.2.2 a) ∈ lv_args i (av.map (j_v G.2.2.2)) := by
  intro av
  induction av with
  | nil => intro i _ k a h; simp at h
  | cons b t ih =>
    intro i hu k a h
    have h1 := j_v_cat (ad := G.2.2.2) (hu b List.mem_cons_self)
    simp only [List.map_cons, lv_args, h1]
    cases k with
    | zero =>
      simp at h
      subst h
      exact List.mem_cons_self
    | succ k =>
      have := ih (i + 1) (fun c hc => hu c (List.mem_cons_of_mem _ hc)) k a (by simpa using h)
      rw [show i + (k + 1) = i + 1 + k by omega]
      exact List.mem_cons_of_mem _ this
theorem CT.of {S : jS} {M : jM} {av : List jV} {h : jH} {post : jQ} (hy : plainName M.1.cls = true) (hu : ∀ a ∈ av, j_un a = false) (hl : av.length ≤ M.2.2.1) (lv : List jV) (hlv : av ++ List.replicate (M.2.2.1 - av.length) jU = lv) (k : ∀ G, WV S G M post 0 lv [] h) : CT S M av h post := by
  intro G sz hR hok
  subst hlv
  refine Met.ofW (cc := M.2.1) (maxL := M.2.2.1) (ret := M.2.2.2.1) hy rfl ?_
  intro p e s m args below meth c s₁ B hml hv
  obtain ⟨rfl, hsz, hP, hK, hN, hD0⟩ := hv
  have hts := atoms_spec (ws := j_ws M) B.pre
  have hown : s.vm.findClass M.1.cls = some m.cls := findClass_of_methodNamed B.named
  subst hsz
  have hD := hD0.self (sz := s.heap.size)
  have hle : (lg_sl (av.map (j_v G.2.2.2))).length ≤ M.2.2.1 := by rw [j_sl G av hu]; simpa using hl
  have hl := lv_entry (av.map (j_v G.2.2.2)) (n := M.2.2.1) hle
  rw [lg_entry_eq]
  generalize (lg_sl (av.map (j_v G.2.2.2)) ++ List.replicate (M.2.2.1 - (lg_sl (av.map (j_v G.2.2.2))).length) Slot.unset).toArray = ls at hl ⊢
  have hlv : j_lv G ls M.2.2.1 (av ++ List.replicate (M.2.2.1 - av.length) jU) := by
    refine ⟨hl.1, hl.2.1, fun i a hi hua => ?_⟩
    by_cases hii : i < av.length
    · rw [List.getElem?_append_left hii] at hi
      have := j_lva G av 0 hu i a hi
      rw [Nat.zero_add] at this
      exact hl.2.2 _ this
    · rw [List.getElem?_append_right (by omega), List.getElem?_replicate] at hi
      split at hi
      · cases hi; cases hua
      · cases hi
  exact k G hR (fun a ha => by
    rcases List.mem_append.mp ha with h1 | h1
    · exact hok a h1
    · rw [(List.mem_replicate.mp h1).2]; trivial) (fun a ha => by cases ha) p e s m _ below meth c s.heap [] ls _ ⟨B.exec, B.bytes, B.returns, hml, hown, fun w hw => hts w (List.mem_cons_of_mem _ hw), B.notSynchronized, hK, hN⟩ (fun q hq => Or.inr hq) hP hD va_S.rf hlv
/-! calls -/
/-- what a call of y at entry idx of own's pool needs: an instance method of the object's own class -/
def j_mv (own : String) (idx n : Nat) (M : jM) : Prop := Cond.methodLink own idx M.1 ∈ jW ∧ Cond.instanceMethod M.1 ∈ jW ∧ Cond.selects M.1.cls M.1 M.1 ∈ jW ∧ Cond.initialized M.1.cls ∈ jW ∧ Cond.code M.1 M.2.1 M.2.2.1 M.2.2.2.1 ∈ jW ∧ M.1.cls ≠ "java/lang/invoke/MethodHandle" ∧ M.1.cls ≠ "java/lang/invoke/VarHandle" ∧ (parseMethodDescriptor M.1.desc).map (fun d => d.parameters.length) = some n
def j_ms (own : String) (idx n : Nat) (M : jM) : Prop := Cond.methodLink own idx M.1 ∈ jW ∧ Cond.static M.1 ∈ jW ∧ Cond.initialized M.1.cls ∈ jW ∧ Cond.code M.1 M.2.1 M.2.2.1 M.2.2.2.1 ∈ jW ∧ M.1.cls ≠ "java/lang/invoke/MethodHandle" ∧ M.1.cls ≠ "java/lang/invoke/VarHandle" ∧ (parseMethodDescriptor M.1.desc).map (fun d => d.parameters.length) = some n
/-- a call's room -/
def j_rm2 (M M' : jM) : Prop := M'.2.2.2.2.cells = 0 ∧ M'.2.2.2.2.slots = 0 ∧ M'.2.2.2.2.frames + 1 ≤ M.2.2.2.2.frames ∧ 8 + (M'.2.2.1 + 11) + M'.2.2.2.2.locals ≤ M.2.2.2.2.locals
theorem j_good (M : jM) (hc : Cond.code M.1 M.2.1 M.2.2.1 M.2.2.2.1 ∈ jW) : GoodIn jW (j_ws M) := by
  intro w hw
  rcases List.mem_cons.mp hw with rfl | hw
  · exact ⟨hc, jW_good _ hc⟩
  · exact ⟨hw, jW_good w hw⟩
theorem j_cats (ad : Nat → Nat) (st : List jV) : ((st.map (j_v ad)).map fun v => v.category).sum ≤ 2 * st.length := by
  induction st with
  | nil => simp
  | cons a t ih =>
    have : (j_v ad a).category ≤ 2 := by rcases lv_cat (j_v ad a) with h | h <;> omega
    simp only [List.map_cons, List.sum_cons, List.length_cons]
    omega
section RW4
variable {S : jS} {G : jG} {M M' : jM} {Q : jQ} {pc : Nat} {lv st : List jV} {h : jH}
/-- behind a call's run -/
theorem j_back {post : jQ} {p : Program} {e : Env} {s : State} {m : MethodId} {args : Array Value} {below : List Frame} {meth : Method} {c : Code} {H : Heap} {locs : List Loc} {ls : Array Slot} {A : Nat → Prop} {st0 : List Value} {a : Array Value}
    (hr : va_Run p G.1 e M.2.2.2.2 s m args below meth c H locs 0 0 0 0 (F0 m pc ls st0) (st.map (j_v G.2.2.2)) (j_Q S G (va_A (j_w G S.2.2 h) H.size) post a) (va_A (j_w G S.2.2 h) H.size))
    (hl : ∀ a ∈ lv, j_ok a) (hs : ∀ a ∈ st, j_ok a) (hX : j_X S G M p s m args meth c) (hA : ∀ q, s.heap.size ≤ q → A q) (hD : va_D A (j_w G S.2.2 h)) (hS : va_S A s.heap H locs) (hv : j_lv G ls M.2.2.1 lv)
    (kk : ∀ (r : Option jV) (h' : jH), post r h' → WV S G M Q (pc + 3) lv (r.toList ++ st) h') : W p G.1 e M.2.2.2.2 s m args below meth c H locs 0 0 (MQ below (j_Q S G A Q) args s 0 0 A) (F0 m pc ls st0) := by
  have hF : ∀ q, va_A (j_w G S.2.2 h) H.size q → A q := by
    intro q hq
    rcases hq with ⟨k, e, hk⟩ | hq
    · exact hD.2 k _ hk
    · exact hA q (Nat.le_trans hS.1 hq)
  intro T hT X
  obtain ⟨v, st₀, t, T', L, h0, X', hL, e1, e2, ⟨⟨r, h', q1, q2, q3, q4, q5, q6, q7⟩, hz, hk⟩, stp⟩ := hr T hT X
  rw [h0] at hz hk
  cases q4
  have hS' : va_S A s.heap T'.heap (locs ++ L) := ⟨Nat.le_trans hS.1 (by rw [e1]; exact hz), fun q h1 h2 => by rw [e1, hk q (Nat.lt_of_lt_of_le h1 hS.1) (fun z => h2 (hF q z))]; exact hS.2.1 q h1 h2, fun q hq => by
    rcases List.mem_append.mp hq with h | h
    · exact hS.2.2 q h
    · exact hF _ (hL q h)⟩
  have hw := kk r h' q1 q2 hl (fun a ha => by
    rcases List.mem_append.mp ha with h1 | h1
    · exact q3 a (by cases r with
        | none => cases h1
        | some b => rw [List.mem_singleton.mp h1])
    · exact hs a h1) p e s m args below meth c T'.heap (locs ++ L) ls A hX hA (by rw [e1]; exact q5) (q7.weaken (fun k q _ hq => hF q.1 hq)) hS' hv
  have hst : (r.map (j_v G.2.2.2)).toList ++ st.map (j_v G.2.2.2) = (r.toList ++ st).map (j_v G.2.2.2) := by cases r <;> simp
  obtain ⟨t2, a1, b1⟩ := hw T' rfl X'
  refine ⟨t2, stp t2 ?_, b1⟩
  rw [← hst] at a1
  exact a1
theorem j_pre {av : List jV} {s : State} {H : Heap} {A : Nat → Prop} (hK : va_K G.2.1 S.1 (j_ty G) s) (hN : j_N S s) (hP : va_P G.2.1 S.1 (j_w G S.2.2 h) H) (hD : va_D A (j_w G S.2.2 h)) : PreS s H (va_Pc (av.map (j_v G.2.2.2)) (fun U => U.heap.size = H.size ∧ va_P G.2.1 S.1 (j_w G S.2.2 h) U.heap ∧ va_K G.2.1 S.1 (j_ty G) U ∧ j_N S U ∧ va_D (fun _ => True) (j_w G S.2.2 h))) (av.map (j_v G.2.2.2)) :=
  ⟨fun a U g mk q => by
    obtain ⟨q0, q1, qP, qK, qN, qD⟩ := q
    exact ⟨q0, q1, qP, va_K.moved (u := U) (U := U.calling g mk a) (Vm.Alike.refl U.vm) qK, fun z hz => va_Nw.same rfl rfl (qN z hz), qD⟩, fun U hU hW => ⟨rfl, by rw [hU], by rw [hU]; exact hP, va_K.moved hW.alike hK, hN.moved hW, hD.weaken (fun _ _ _ _ => trivial)⟩⟩
theorem s_callV {idx k ci : Nat} {as : List jV} {fs : List (Option (Option Nat))} {q : vw_C} {post : jQ} (d : decode M.2.1 pc = .ok (.invokevirtual idx, 3)) (hm : j_mv M.1.cls idx as.length M') (hrm : j_rm2 M M') (hc : S.2.2[k]? = some (.inr (ci, fs))) (hcl : S.1[ci]? = some q) (hq : q.1 = M'.1.cls) (hlen : 2 * st.length ≤ 8) (st0 : List jV) (hst : as.reverse ++ jR k :: st = st0)
    (hct : CT S M' (jR k :: as) h post) (kk : ∀ (r : Option jV) (h' : jH), post r h' → WV S G M Q (pc + 3) lv (r.toList ++ st) h') : WV S G M Q pc lv st0 h := by
  subst hst
  intro hR hl hs p e s m args below meth c H locs ls A hX hA hP hD hS hv
  have hX0 := hX
  obtain ⟨x1, x2, x3, x4, x5, x6, x7, x8, x9⟩ := hX
  obtain ⟨m1, m2, m3, m4, m5, m6, m7, m8⟩ := hm
  obtain ⟨r1, r2, r3, r4⟩ := hrm
  have hs1 : ∀ a ∈ jR k :: st, j_ok a := fun a ha => hs a (List.mem_append_right _ ha)
  have hpre := j_pre (av := jR k :: as) x8 x9 hP hD
  have cw : CallW M.2.2.2.2 s args M.1.cls M'.1.cls idx M'.1 M'.2.1 M'.2.2.1 M'.2.2.2.1 (j_ws M') M'.2.2.2.2 0 0 as.length := ⟨callB_of as.length x6 (j_good M' m5) rfl r1 r2 (x6 _ m4) (x6 _ m1) ⟨m6, m7, m8⟩ ⟨r3, r4⟩, x6 _ m2, x6 _ m3⟩
  have hrun := va_runV (e := e) (below := below) (meth := meth) (As := as.map (j_v G.2.2.2)) (rest := st.map (j_v G.2.2.2)) (b := G.2.2.2 k) (g := F0 m pc ls ((as.reverse ++ jR k :: st).map (j_v G.2.2.2))) (locs := locs) (cells := 0) (slots := 0) ⟨x1, x2, x4, x5, x6⟩ (hct G H.size hR (fun a ha => by
    rcases List.mem_cons.mp ha with rfl | ha
    · trivial
    · exact hs a (List.mem_append_left _ (List.mem_reverse.mpr ha)))) cw ⟨hpre.1, by rw [← hq]; exact va_recv x8 hP hcl (j_w_at hc), hpre.2⟩ rfl (by simp) hv.1 (by simp [j_v]) (lv_room (by have := j_cats G.2.2.2 st; omega)) d ⟨Nat.zero_le _, Nat.zero_le _⟩
  exact j_back hrun hl (j_ot hs1) hX0 hA hD hS hv kk
theorem s_callS {idx : Nat} {as : List jV} {post : jQ} (d : decode M.2.1 pc = .ok (.invokestatic idx, 3)) (hm : j_ms M.1.cls idx as.length M') (hrm : j_rm2 M M') (hlen : 2 * st.length ≤ 8) (st0 : List jV) (hst : as.reverse ++ st = st0)
    (hct : CT S M' as h post) (kk : ∀ (r : Option jV) (h' : jH), post r h' → WV S G M Q (pc + 3) lv (r.toList ++ st) h') : WV S G M Q pc lv st0 h := by
  subst hst
  intro hR hl hs p e s m args below meth c H locs ls A hX hA hP hD hS hv
  have hX0 := hX
  obtain ⟨x1, x2, x3, x4, x5, x6, x7, x8, x9⟩ := hX
  obtain ⟨m1, m2, m4, m5, m6, m7, m8⟩ := hm
  obtain ⟨r1, r2, r3, r4⟩ := hrm
  have hpre := j_pre (av := as) x8 x9 hP hD
  have hrun := va_runS (e := e) (below := below) (meth := meth) (As := as.map (j_v G.2.2.2)) (rest := st.map (j_v G.2.2.2)) (g := F0 m pc ls ((as.reverse ++ st).map (j_v G.2.2.2))) (locs := locs) (cells := 0) (slots := 0) ⟨x1, x2, x4, x5, x6⟩ (hct G H.size hR (fun a ha => hs a (List.mem_append_left _ (List.mem_reverse.mpr ha)))) ⟨callB_of as.length x6 (j_good M' m5) rfl r1 r2 (x6 _ m4) (x6 _ m1) ⟨m6, m7, m8⟩ ⟨r3, r4⟩, x6 _ m2⟩ hpre rfl (by simp) hv.1 (by simp) (lv_room (by have := j_cats G.2.2.2 st; omega)) d ⟨Nat.zero_le _, Nat.zero_le _⟩
  exact j_back hrun hl (fun a ha => hs a (List.mem_append_right _ ha)) hX0 hA hD hS hv kk
end RW4
end
section
/-! a nest mate's static method; Math; arraycopy -/
def j_mn (S : jS) (own : String) (idx n : Nat) (M : jM) (host : String) : Prop := (own, idx, M.1, host) ∈ S.2.1 ∧ Cond.static M.1 ∈ jW ∧ Cond.initialized M.1.cls ∈ jW ∧ Cond.code M.1 M.2.1 M.2.2.1 M.2.2.2.1 ∈ jW ∧ M.1.cls ≠ "java/lang/invoke/MethodHandle" ∧ M.1.cls ≠ "java/lang/invoke/VarHandle" ∧ (parseMethodDescriptor M.1.desc).map (fun d => d.parameters.length) = some n
def j_mm (own : String) (idx : Nat) (y : MethodName) (cc : ByteArray) (n : Nat) : Prop := Cond.methodLink own idx y ∈ jW ∧ Cond.static y ∈ jW ∧ Cond.initialized "java/lang/Math" ∈ jW ∧ Cond.code y cc n (some .int) ∈ jW
def j_ma (own : String) (idx : Nat) : Prop := Cond.methodLink own idx arraycopyName ∈ jW ∧ Cond.native arraycopyName ∈ jW ∧ Cond.static arraycopyName ∈ jW ∧ Cond.initialized "java/lang/System" ∈ jW
section RW5
variable {S : jS} {G : jG} {M M' : jM} {Q : jQ} {pc : Nat} {lv st : List jV} {h : jH}
theorem s_callSN {idx : Nat} {host : String} {as : List jV} {post : jQ} (d : decode M.2.1 pc = .ok (.invokestatic idx, 3)) (hm : j_mn S M.1.cls idx as.length M' host) (hrm : j_rm2 M M') (hlen : 2 * st.length ≤ 8) (st0 : List jV) (hst : as.reverse ++ st = st0)
    (hct : CT S M' as h post) (kk : ∀ (r : Option jV) (h' : jH), post r h' → WV S G M Q (pc + 3) lv (r.toList ++ st) h') : WV S G M Q pc lv st0 h := by
  subst hst
  intro hR hl hs p e s m args below meth c H locs ls A hX hA hP hD hS hv
  have hX0 := hX
  obtain ⟨x1, x2, x3, x4, x5, x6, x7, x8, x9⟩ := hX
  obtain ⟨m1, m2, m4, m5, m6, m7, m8⟩ := hm
  obtain ⟨r1, r2, r3, r4⟩ := hrm
  have hpre := j_pre (av := as) x8 x9 hP hD
  have hnw : va_Nw (.methodLinkNest M.1.cls idx M'.1 host) s := x9 _ m1
  have hrun := va_runSN (e := e) (below := below) (meth := meth) (As := as.map (j_v G.2.2.2)) (rest := st.map (j_v G.2.2.2)) (g := F0 m pc ls ((as.reverse ++ st).map (j_v G.2.2.2))) (locs := locs) (cells := 0) (slots := 0) ⟨x1, x2, x4, x5, x6⟩ (hct G H.size hR (fun a ha => hs a (List.mem_append_left _ (List.mem_reverse.mpr ha)))) ⟨va_cnB as.length x6 (j_good M' m5) rfl r1 r2 hnw (x6 _ m4) ⟨m6, m7, m8⟩ ⟨r3, r4⟩, x6 _ m2, trivial⟩ hpre rfl (by simp) hv.1 (by simp) (lv_room (by have := j_cats G.2.2.2 st; omega)) d ⟨Nat.zero_le _, Nat.zero_le _⟩
  exact j_back hrun hl (fun a ha => hs a (List.mem_append_right _ ha)) hX0 hA hD hS hv kk
theorem j_ite32 {p q : Prop} {dp : Decidable p} {dq : Decidable q} (hpq : p ↔ q) (x y : Int) : (if p then Int32.ofInt x else Int32.ofInt y) = Int32.ofInt (if q then x else y) := by
  by_cases h : p
  · rw [if_pos h, if_pos (hpq.mp h)]
  · rw [if_neg h, if_neg (fun z => h (hpq.mpr z))]
theorem s_max {idx : Nat} {x y : Int} (d : decode M.2.1 pc = .ok (.invokestatic idx, 3)) (hm : j_mm M.1.cls idx Lib.Math.max.name Lib.Math.max.code 2) (hrm : 1 ≤ M.2.2.2.2.frames ∧ 2 * st.length + 13 ≤ M.2.2.2.2.locals) (kk : WV S G M Q (pc + 3) lv (jI (max x y) :: st) h) : WV S G M Q pc lv (jI y :: jI x :: st) h := by
  refine WV.rng (fun _ _ hs0 => ?_)
  refine j_st (fun hR _ hs => j_oI (by rw [Int.max_def]; split; exact j_hI hs; exact j_hI (j_ot hs)) (j_ot (j_ot hs))) (fun {p e s m args below meth c H locs ls Z} hX hv hP hs w => ?_) kk
  obtain ⟨x1, x2, x3, x4, x5, x6, x7, x8, x9⟩ := hX
  refine va_mmax x1 x2 (x4.trans hv.1.symm) x5 (x6 _ hm.1) (x6 _ hm.2.1) (x6 _ hm.2.2.1) (x6 _ hm.2.2.2) hrm.1 (by have := j_cats G.2.2.2 st; omega) (Nat.zero_le _) (Nat.zero_le _) d ?_
  have e : (if Int32.ofInt x < Int32.ofInt y then Int32.ofInt y else Int32.ofInt x) = Int32.ofInt (max x y) := by
    rw [j_ite32 (q := x < y) (dq := inferInstance) (by rw [j_lt (j_hI (j_ot hs)) (j_hI hs)])]
    congr 1
    split <;> omega
  rw [e]
  exact w
theorem s_min {idx : Nat} {x y : Int} (d : decode M.2.1 pc = .ok (.invokestatic idx, 3)) (hm : j_mm M.1.cls idx Lib.Math.min.name Lib.Math.min.code 2) (hrm : 1 ≤ M.2.2.2.2.frames ∧ 2 * st.length + 13 ≤ M.2.2.2.2.locals) (kk : WV S G M Q (pc + 3) lv (jI (min x y) :: st) h) : WV S G M Q pc lv (jI y :: jI x :: st) h := by
  refine j_st (fun hR _ hs => j_oI (by rw [Int.min_def]; split; exact j_hI (j_ot hs); exact j_hI hs) (j_ot (j_ot hs))) (fun {p e s m args below meth c H locs ls Z} hX hv hP hs w => ?_) kk
  obtain ⟨x1, x2, x3, x4, x5, x6, x7, x8, x9⟩ := hX
  refine va_mmin x1 x2 (x4.trans hv.1.symm) x5 (x6 _ hm.1) (x6 _ hm.2.1) (x6 _ hm.2.2.1) (x6 _ hm.2.2.2) hrm.1 (by have := j_cats G.2.2.2 st; omega) (Nat.zero_le _) (Nat.zero_le _) d ?_
  have e : (if Int32.ofInt y < Int32.ofInt x then Int32.ofInt y else Int32.ofInt x) = Int32.ofInt (min x y) := by
    rw [j_ite32 (q := y < x) (dq := inferInstance) (by rw [j_lt (j_hI hs) (j_hI (j_ot hs))])]
    congr 1
    split <;> omega
  rw [e]
  exact w
theorem s_abs {idx : Nat} {x : Int} (d : decode M.2.1 pc = .ok (.invokestatic idx, 3)) (hm : j_mm M.1.cls idx Lib.Math.abs.name Lib.Math.abs.code 1) (hrm : 1 ≤ M.2.2.2.2.frames ∧ 2 * st.length + 13 ≤ M.2.2.2.2.locals) (hr : j_rg (-x)) (kk : WV S G M Q (pc + 3) lv (jI (if 0 ≤ x then x else -x) :: st) h) : WV S G M Q pc lv (jI x :: st) h := by
  refine j_st (fun hR _ hs => j_oI (by split; exact j_hI hs; exact hr) (j_ot hs)) (fun {p e s m args below meth c H locs ls Z} hX hv hP hs w => ?_) kk
  obtain ⟨x1, x2, x3, x4, x5, x6, x7, x8, x9⟩ := hX
  refine va_mabs x1 x2 (x4.trans hv.1.symm) x5 (x6 _ hm.1) (x6 _ hm.2.1) (x6 _ hm.2.2.1) (x6 _ hm.2.2.2) hrm.1 (by have := j_cats G.2.2.2 st; omega) (Nat.zero_le _) (Nat.zero_le _) d ?_
  have e : (if 0 ≤ Int32.ofInt x then Int32.ofInt x else 0 - Int32.ofInt x) = Int32.ofInt (if 0 ≤ x then x else -x) := by
    rw [show (0 : Int32) - Int32.ofInt x = Int32.ofInt (-x) by rw [j_of0, ← Int32.ofInt_sub]; congr 1; omega]
    exact j_ite32 (q := 0 ≤ x) (by rw [j_of0, j_le (j_cst rfl) (j_hI hs)]) x (-x)
  rw [e]
  exact w
theorem s_copy {idx a b n0 n1 : Nat} {sp dp n : Int} (d : decode M.2.1 pc = .ok (.invokestatic idx, 3)) (hm : j_ma M.1.cls idx) (hrm : 1 ≤ M.2.2.2.2.frames ∧ 2 * st.length + (nativeFrameWords "java/lang/System" "arraycopy" 5 + 11) ≤ M.2.2.2.2.locals) (ha : S.2.2[a]? = some (.inl (false, n0))) (hb : S.2.2[b]? = some (.inl (false, n1))) (hin : 0 ≤ sp ∧ 0 ≤ dp ∧ 0 ≤ n ∧ sp + n ≤ n0 ∧ dp + n ≤ n1)
    (kk : WV S G M Q (pc + 3) lv st (j_cp h a sp.toNat b dp.toNat n.toNat)) : WV S G M Q pc lv (jI n :: jI dp :: jR b :: jI sp :: jR a :: st) h := by
  intro hR hl hs p e s m args below meth c H locs ls A hX hA hP hD hS hv
  have hX0 := hX
  obtain ⟨x1, x2, x3, x4, x5, x6, x7, x8, x9⟩ := hX
  have r1 := j_hI hs
  have r2 := j_hI (j_ot hs)
  have r3 := j_hI (j_ot (j_ot (j_ot hs)))
  obtain ⟨i1, i2, i3, i4, i5⟩ := hin
  have nn : ∀ z : Int, j_rg z → 0 ≤ z → ¬ Int32.ofInt z < 0 := fun z hz h0 => by
    rw [j_of0, j_lt hz (j_cst rfl)]
    omega
  refine va_copyi x1 x2 (x4.trans hv.1.symm) x5 (x6 _ hm.1) (x6 _ hm.2.1) (x6 _ hm.2.2.1) (x6 _ hm.2.2.2) x8 hP hD hS a b 0 0 (ty := .int) (j_w_at ha) (j_w_at hb) rfl rfl rfl (nn _ r3 i1) (nn _ r2 i2) (nn _ r1 i3) (by rw [j_cl r3, j_cl r1]; omega) (by rw [j_cl r2, j_cl r1]; omega) (fun i hi => rfl) hrm.1 (by have := j_cats G.2.2.2 st; omega) d (fun H1 locs1 hP1 hD1 hS1 => ?_)
  have e1 : (j_w G S.2.2 h).set b (G.2.2.2 b, .inl (if false = true then G.2.2.1.2 else G.2.2.1.1, n1, .inl (va_cpy (fun j => Int32.ofInt (h.1 a j)) (fun j => Int32.ofInt (h.1 b j)) (Int32.ofInt sp).toNatClampNeg (Int32.ofInt dp).toNatClampNeg (Int32.ofInt n).toNatClampNeg))) = j_w G S.2.2 (j_cp h a sp.toNat b dp.toNat n.toNat) := by
    rw [j_cl r1, j_cl r2, j_cl r3]
    have : va_cpy (fun j => Int32.ofInt (h.1 a j)) (fun j => Int32.ofInt (h.1 b j)) sp.toNat dp.toNat n.toNat = fun j => Int32.ofInt ((j_cp h a sp.toNat b dp.toNat n.toNat).1 b j) := by
      funext j
      simp only [va_cpy, j_cp, true_and]
      split <;> rfl
    rw [this]
    exact j_w_set hb (fun q hq => by funext x; simp [j_cp, hq]) (fun q hq => rfl)
  rw [e1] at hP1 hD1
  refine kk (fun k j => ?_) hl (j_ot (j_ot (j_ot (j_ot (j_ot hs))))) p e s m args below meth c H1 locs1 ls A hX0 hA hP1 hD1 hS1 hv
  show j_rg (if k = b ∧ dp.toNat ≤ j ∧ j < dp.toNat + n.toNat then h.1 a (sp.toNat + (j - dp.toNat)) else h.1 k j)
  split
  · exact hR _ _
  · exact hR _ _
end RW5
end
