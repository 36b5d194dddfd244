section
-- ===== PART A: goes FIRST, ahead of the names: the tables' words, and 'selects' of the private methods out of them =====
/-- a private method of a class that the tables say can be made, by its rows of tables_1 -/
def lw_okq (q : MethodName × Nat) : Prop := (q.1.cls ≠ "java/lang/invoke/MethodHandle" ∧ q.1.cls ≠ "java/lang/invoke/VarHandle") ∧ Cond.instantiable q.1.cls q.2 ∈ tables_1 ∧ Cond.privateMethod q.1 ∈ tables_1 ∧ Cond.instanceMethod q.1 ∈ tables_1
theorem lw_p0 : lw_okq (⟨"SundayPit", "refuse", "(I)I"⟩, 19) := ⟨⟨by decide +kernel, by decide +kernel⟩, List.mem_of_getElem? (i := 23) (by decide +kernel), List.mem_of_getElem? (i := 485) (by decide +kernel), List.mem_of_getElem? (i := 486) (by decide +kernel)⟩
theorem lw_p1 : lw_okq (⟨"SundayPit$PlanReader", "readStatement", "()Z"⟩, 2) := ⟨⟨by decide +kernel, by decide +kernel⟩, List.mem_of_getElem? (i := 393) (by decide +kernel), List.mem_of_getElem? (i := 541) (by decide +kernel), List.mem_of_getElem? (i := 542) (by decide +kernel)⟩
theorem lw_p2 : lw_okq (⟨"SundayPit$PlanReader", "readPit", "()Z"⟩, 2) := ⟨⟨by decide +kernel, by decide +kernel⟩, List.mem_of_getElem? (i := 393) (by decide +kernel), List.mem_of_getElem? (i := 598) (by decide +kernel), List.mem_of_getElem? (i := 599) (by decide +kernel)⟩
theorem lw_p3 : lw_okq (⟨"SundayPit$Reader", "numberHere", "()I"⟩, 11) := ⟨⟨by decide +kernel, by decide +kernel⟩, List.mem_of_getElem? (i := 178) (by decide +kernel), List.mem_of_getElem? (i := 615) (by decide +kernel), List.mem_of_getElem? (i := 616) (by decide +kernel)⟩
theorem lw_p4 : lw_okq (⟨"SundayPit$PlanReader", "readKind", "()Z"⟩, 2) := ⟨⟨by decide +kernel, by decide +kernel⟩, List.mem_of_getElem? (i := 393) (by decide +kernel), List.mem_of_getElem? (i := 623) (by decide +kernel), List.mem_of_getElem? (i := 624) (by decide +kernel)⟩
theorem lw_p5 : lw_okq (⟨"SundayPit$PlanReader", "giveName", "([II)Z"⟩, 2) := ⟨⟨by decide +kernel, by decide +kernel⟩, List.mem_of_getElem? (i := 393) (by decide +kernel), List.mem_of_getElem? (i := 629) (by decide +kernel), List.mem_of_getElem? (i := 630) (by decide +kernel)⟩
theorem lw_p6 : lw_okq (⟨"SundayPit$PlanReader", "readRow", "()Z"⟩, 2) := ⟨⟨by decide +kernel, by decide +kernel⟩, List.mem_of_getElem? (i := 393) (by decide +kernel), List.mem_of_getElem? (i := 647) (by decide +kernel), List.mem_of_getElem? (i := 648) (by decide +kernel)⟩
theorem lw_p7 : lw_okq (⟨"SundayPit$PlanReader", "toldBy", "(I)I"⟩, 2) := ⟨⟨by decide +kernel, by decide +kernel⟩, List.mem_of_getElem? (i := 393) (by decide +kernel), List.mem_of_getElem? (i := 659) (by decide +kernel), List.mem_of_getElem? (i := 660) (by decide +kernel)⟩
theorem lw_p8 : lw_okq (⟨"SundayPit$PlanReader", "readHouse", "()Z"⟩, 2) := ⟨⟨by decide +kernel, by decide +kernel⟩, List.mem_of_getElem? (i := 393) (by decide +kernel), List.mem_of_getElem? (i := 663) (by decide +kernel), List.mem_of_getElem? (i := 664) (by decide +kernel)⟩
theorem lw_p9 : lw_okq (⟨"SundayPit$PlanReader", "readMix", "()Z"⟩, 2) := ⟨⟨by decide +kernel, by decide +kernel⟩, List.mem_of_getElem? (i := 393) (by decide +kernel), List.mem_of_getElem? (i := 667) (by decide +kernel), List.mem_of_getElem? (i := 668) (by decide +kernel)⟩
theorem lw_p10 : lw_okq (⟨"SundayPit$PlanReader", "kindHere", "()I"⟩, 2) := ⟨⟨by decide +kernel, by decide +kernel⟩, List.mem_of_getElem? (i := 393) (by decide +kernel), List.mem_of_getElem? (i := 671) (by decide +kernel), List.mem_of_getElem? (i := 672) (by decide +kernel)⟩
theorem lw_p11 : lw_okq (⟨"SundayPit$PlanReader", "beginRule", "(I)Z"⟩, 2) := ⟨⟨by decide +kernel, by decide +kernel⟩, List.mem_of_getElem? (i := 393) (by decide +kernel), List.mem_of_getElem? (i := 675) (by decide +kernel), List.mem_of_getElem? (i := 676) (by decide +kernel)⟩
theorem lw_p12 : lw_okq (⟨"SundayPit$Reader", "readTest", "()Z"⟩, 11) := ⟨⟨by decide +kernel, by decide +kernel⟩, List.mem_of_getElem? (i := 178) (by decide +kernel), List.mem_of_getElem? (i := 687) (by decide +kernel), List.mem_of_getElem? (i := 688) (by decide +kernel)⟩
theorem lw_p13 : lw_okq (⟨"SundayPit$Reader", "readBoth", "()Z"⟩, 11) := ⟨⟨by decide +kernel, by decide +kernel⟩, List.mem_of_getElem? (i := 178) (by decide +kernel), List.mem_of_getElem? (i := 691) (by decide +kernel), List.mem_of_getElem? (i := 692) (by decide +kernel)⟩
theorem lw_p14 : lw_okq (⟨"SundayPit$Reader", "readFact", "()Z"⟩, 11) := ⟨⟨by decide +kernel, by decide +kernel⟩, List.mem_of_getElem? (i := 178) (by decide +kernel), List.mem_of_getElem? (i := 695) (by decide +kernel), List.mem_of_getElem? (i := 696) (by decide +kernel)⟩
theorem lw_p15 : lw_okq (⟨"SundayPit$Reader", "readNot", "()Z"⟩, 11) := ⟨⟨by decide +kernel, by decide +kernel⟩, List.mem_of_getElem? (i := 178) (by decide +kernel), List.mem_of_getElem? (i := 699) (by decide +kernel), List.mem_of_getElem? (i := 700) (by decide +kernel)⟩
def lw_privs_1 : List (MethodName × Nat) := [(⟨"SundayPit", "refuse", "(I)I"⟩, 19), (⟨"SundayPit$PlanReader", "readStatement", "()Z"⟩, 2), (⟨"SundayPit$PlanReader", "readPit", "()Z"⟩, 2), (⟨"SundayPit$Reader", "numberHere", "()I"⟩, 11), (⟨"SundayPit$PlanReader", "readKind", "()Z"⟩, 2), (⟨"SundayPit$PlanReader", "giveName", "([II)Z"⟩, 2), (⟨"SundayPit$PlanReader", "readRow", "()Z"⟩, 2), (⟨"SundayPit$PlanReader", "toldBy", "(I)I"⟩, 2), (⟨"SundayPit$PlanReader", "readHouse", "()Z"⟩, 2), (⟨"SundayPit$PlanReader", "readMix", "()Z"⟩, 2), (⟨"SundayPit$PlanReader", "kindHere", "()I"⟩, 2), (⟨"SundayPit$PlanReader", "beginRule", "(I)Z"⟩, 2), (⟨"SundayPit$Reader", "readTest", "()Z"⟩, 11), (⟨"SundayPit$Reader", "readBoth", "()Z"⟩, 11), (⟨"SundayPit$Reader", "readFact", "()Z"⟩, 11), (⟨"SundayPit$Reader", "readNot", "()Z"⟩, 11)]
theorem lw_r1 : ∀ q ∈ lw_privs_1, lw_okq q := List.forall_mem_cons.mpr ⟨lw_p0, List.forall_mem_cons.mpr ⟨lw_p1, List.forall_mem_cons.mpr ⟨lw_p2, List.forall_mem_cons.mpr ⟨lw_p3, List.forall_mem_cons.mpr ⟨lw_p4, List.forall_mem_cons.mpr ⟨lw_p5, List.forall_mem_cons.mpr ⟨lw_p6, List.forall_mem_cons.mpr ⟨lw_p7, List.forall_mem_cons.mpr ⟨lw_p8, List.forall_mem_cons.mpr ⟨lw_p9, List.forall_mem_cons.mpr ⟨lw_p10, List.forall_mem_cons.mpr ⟨lw_p11, List.forall_mem_cons.mpr ⟨lw_p12, List.forall_mem_cons.mpr ⟨lw_p13, List.forall_mem_cons.mpr ⟨lw_p14, List.forall_mem_cons.mpr ⟨lw_p15, fun _ h => absurd h List.not_mem_nil⟩⟩⟩⟩⟩⟩⟩⟩⟩⟩⟩⟩⟩⟩⟩⟩
theorem lw_p16 : lw_okq (⟨"SundayPit$Reader", "openOne", "()Z"⟩, 11) := ⟨⟨by decide +kernel, by decide +kernel⟩, List.mem_of_getElem? (i := 178) (by decide +kernel), List.mem_of_getElem? (i := 703) (by decide +kernel), List.mem_of_getElem? (i := 704) (by decide +kernel)⟩
theorem lw_p17 : lw_okq (⟨"SundayPit$Reader", "emit", "(I)V"⟩, 11) := ⟨⟨by decide +kernel, by decide +kernel⟩, List.mem_of_getElem? (i := 178) (by decide +kernel), List.mem_of_getElem? (i := 708) (by decide +kernel), List.mem_of_getElem? (i := 709) (by decide +kernel)⟩
theorem lw_p18 : lw_okq (⟨"SundayPit$Reader", "closeOne", "()Z"⟩, 11) := ⟨⟨by decide +kernel, by decide +kernel⟩, List.mem_of_getElem? (i := 178) (by decide +kernel), List.mem_of_getElem? (i := 712) (by decide +kernel), List.mem_of_getElem? (i := 713) (by decide +kernel)⟩
theorem lw_p19 : lw_okq (⟨"SundayPit$Reader", "isMark", "(I)Z"⟩, 11) := ⟨⟨by decide +kernel, by decide +kernel⟩, List.mem_of_getElem? (i := 178) (by decide +kernel), List.mem_of_getElem? (i := 716) (by decide +kernel), List.mem_of_getElem? (i := 717) (by decide +kernel)⟩
theorem lw_p20 : lw_okq (⟨"SundayPit$Reader", "readSum", "()Z"⟩, 11) := ⟨⟨by decide +kernel, by decide +kernel⟩, List.mem_of_getElem? (i := 178) (by decide +kernel), List.mem_of_getElem? (i := 725) (by decide +kernel), List.mem_of_getElem? (i := 726) (by decide +kernel)⟩
theorem lw_p21 : lw_okq (⟨"SundayPit$Reader", "readProduct", "()Z"⟩, 11) := ⟨⟨by decide +kernel, by decide +kernel⟩, List.mem_of_getElem? (i := 178) (by decide +kernel), List.mem_of_getElem? (i := 729) (by decide +kernel), List.mem_of_getElem? (i := 730) (by decide +kernel)⟩
theorem lw_p22 : lw_okq (⟨"SundayPit$Reader", "readPart", "()Z"⟩, 11) := ⟨⟨by decide +kernel, by decide +kernel⟩, List.mem_of_getElem? (i := 178) (by decide +kernel), List.mem_of_getElem? (i := 733) (by decide +kernel), List.mem_of_getElem? (i := 734) (by decide +kernel)⟩
theorem lw_p23 : lw_okq (⟨"SundayPit$Reader", "readChoice", "(I)Z"⟩, 11) := ⟨⟨by decide +kernel, by decide +kernel⟩, List.mem_of_getElem? (i := 178) (by decide +kernel), List.mem_of_getElem? (i := 737) (by decide +kernel), List.mem_of_getElem? (i := 738) (by decide +kernel)⟩
theorem lw_p24 : lw_okq (⟨"SundayPit$Reader", "readTubs", "()Z"⟩, 11) := ⟨⟨by decide +kernel, by decide +kernel⟩, List.mem_of_getElem? (i := 178) (by decide +kernel), List.mem_of_getElem? (i := 741) (by decide +kernel), List.mem_of_getElem? (i := 742) (by decide +kernel)⟩
theorem lw_p25 : lw_okq (⟨"SundayPit$Reader", "factFor", "(I)I"⟩, 11) := ⟨⟨by decide +kernel, by decide +kernel⟩, List.mem_of_getElem? (i := 178) (by decide +kernel), List.mem_of_getElem? (i := 745) (by decide +kernel), List.mem_of_getElem? (i := 746) (by decide +kernel)⟩
theorem lw_p26 : lw_okq (⟨"SundayPit$Reader", "signHere", "()I"⟩, 11) := ⟨⟨by decide +kernel, by decide +kernel⟩, List.mem_of_getElem? (i := 178) (by decide +kernel), List.mem_of_getElem? (i := 758) (by decide +kernel), List.mem_of_getElem? (i := 759) (by decide +kernel)⟩
theorem lw_p27 : lw_okq (⟨"SundayPit$PlanReader", "readSetting", "(III)Z"⟩, 2) := ⟨⟨by decide +kernel, by decide +kernel⟩, List.mem_of_getElem? (i := 393) (by decide +kernel), List.mem_of_getElem? (i := 767) (by decide +kernel), List.mem_of_getElem? (i := 768) (by decide +kernel)⟩
theorem lw_p28 : lw_okq (⟨"SundayPit", "keepFault", "()V"⟩, 19) := ⟨⟨by decide +kernel, by decide +kernel⟩, List.mem_of_getElem? (i := 23) (by decide +kernel), List.mem_of_getElem? (i := 772) (by decide +kernel), List.mem_of_getElem? (i := 773) (by decide +kernel)⟩
theorem lw_p29 : lw_okq (⟨"SundayPit$Plan", "layOut", "()V"⟩, 19) := ⟨⟨by decide +kernel, by decide +kernel⟩, List.mem_of_getElem? (i := 31) (by decide +kernel), List.mem_of_getElem? (i := 787) (by decide +kernel), List.mem_of_getElem? (i := 788) (by decide +kernel)⟩
theorem lw_p30 : lw_okq (⟨"SundayPit$Mine", "reach", "(I)V"⟩, 7) := ⟨⟨by decide +kernel, by decide +kernel⟩, List.mem_of_getElem? (i := 250) (by decide +kernel), List.mem_of_getElem? (i := 833) (by decide +kernel), List.mem_of_getElem? (i := 834) (by decide +kernel)⟩
theorem lw_p31 : lw_okq (⟨"SundayPit$Mine", "isBesideReached", "(I)Z"⟩, 7) := ⟨⟨by decide +kernel, by decide +kernel⟩, List.mem_of_getElem? (i := 250) (by decide +kernel), List.mem_of_getElem? (i := 859) (by decide +kernel), List.mem_of_getElem? (i := 860) (by decide +kernel)⟩
def lw_privs_2 : List (MethodName × Nat) := [(⟨"SundayPit$Reader", "openOne", "()Z"⟩, 11), (⟨"SundayPit$Reader", "emit", "(I)V"⟩, 11), (⟨"SundayPit$Reader", "closeOne", "()Z"⟩, 11), (⟨"SundayPit$Reader", "isMark", "(I)Z"⟩, 11), (⟨"SundayPit$Reader", "readSum", "()Z"⟩, 11), (⟨"SundayPit$Reader", "readProduct", "()Z"⟩, 11), (⟨"SundayPit$Reader", "readPart", "()Z"⟩, 11), (⟨"SundayPit$Reader", "readChoice", "(I)Z"⟩, 11), (⟨"SundayPit$Reader", "readTubs", "()Z"⟩, 11), (⟨"SundayPit$Reader", "factFor", "(I)I"⟩, 11), (⟨"SundayPit$Reader", "signHere", "()I"⟩, 11), (⟨"SundayPit$PlanReader", "readSetting", "(III)Z"⟩, 2), (⟨"SundayPit", "keepFault", "()V"⟩, 19), (⟨"SundayPit$Plan", "layOut", "()V"⟩, 19), (⟨"SundayPit$Mine", "reach", "(I)V"⟩, 7), (⟨"SundayPit$Mine", "isBesideReached", "(I)Z"⟩, 7)]
theorem lw_r2 : ∀ q ∈ lw_privs_2, lw_okq q := List.forall_mem_cons.mpr ⟨lw_p16, List.forall_mem_cons.mpr ⟨lw_p17, List.forall_mem_cons.mpr ⟨lw_p18, List.forall_mem_cons.mpr ⟨lw_p19, List.forall_mem_cons.mpr ⟨lw_p20, List.forall_mem_cons.mpr ⟨lw_p21, List.forall_mem_cons.mpr ⟨lw_p22, List.forall_mem_cons.mpr ⟨lw_p23, List.forall_mem_cons.mpr ⟨lw_p24, List.forall_mem_cons.mpr ⟨lw_p25, List.forall_mem_cons.mpr ⟨lw_p26, List.forall_mem_cons.mpr ⟨lw_p27, List.forall_mem_cons.mpr ⟨lw_p28, List.forall_mem_cons.mpr ⟨lw_p29, List.forall_mem_cons.mpr ⟨lw_p30, List.forall_mem_cons.mpr ⟨lw_p31, fun _ h => absurd h List.not_mem_nil⟩⟩⟩⟩⟩⟩⟩⟩⟩⟩⟩⟩⟩⟩⟩⟩
theorem lw_p32 : lw_okq (⟨"SundayPit$Mine", "spanEnd", "(I)I"⟩, 7) := ⟨⟨by decide +kernel, by decide +kernel⟩, List.mem_of_getElem? (i := 250) (by decide +kernel), List.mem_of_getElem? (i := 896) (by decide +kernel), List.mem_of_getElem? (i := 897) (by decide +kernel)⟩
theorem lw_p33 : lw_okq (⟨"SundayPit$Mine", "spanStart", "(I)I"⟩, 7) := ⟨⟨by decide +kernel, by decide +kernel⟩, List.mem_of_getElem? (i := 250) (by decide +kernel), List.mem_of_getElem? (i := 901) (by decide +kernel), List.mem_of_getElem? (i := 902) (by decide +kernel)⟩
theorem lw_p34 : lw_okq (⟨"SundayPit$Mine", "factAt", "(I)I"⟩, 7) := ⟨⟨by decide +kernel, by decide +kernel⟩, List.mem_of_getElem? (i := 250) (by decide +kernel), List.mem_of_getElem? (i := 910) (by decide +kernel), List.mem_of_getElem? (i := 911) (by decide +kernel)⟩
theorem lw_p35 : lw_okq (⟨"SundayPit$Mine", "loadHouse", "(I)V"⟩, 7) := ⟨⟨by decide +kernel, by decide +kernel⟩, List.mem_of_getElem? (i := 250) (by decide +kernel), List.mem_of_getElem? (i := 972) (by decide +kernel), List.mem_of_getElem? (i := 973) (by decide +kernel)⟩
theorem lw_p36 : lw_okq (⟨"SundayPit$Search", "isOrder", "(LSundayPit$Tape;)Z"⟩, 11) := ⟨⟨by decide +kernel, by decide +kernel⟩, List.mem_of_getElem? (i := 299) (by decide +kernel), List.mem_of_getElem? (i := 987) (by decide +kernel), List.mem_of_getElem? (i := 988) (by decide +kernel)⟩
theorem lw_p37 : lw_okq (⟨"SundayPit$Mine", "fell", "(I)V"⟩, 7) := ⟨⟨by decide +kernel, by decide +kernel⟩, List.mem_of_getElem? (i := 250) (by decide +kernel), List.mem_of_getElem? (i := 1006) (by decide +kernel), List.mem_of_getElem? (i := 1007) (by decide +kernel)⟩
theorem lw_p38 : lw_okq (⟨"SundayPit$Search", "tryAll", "(III)V"⟩, 11) := ⟨⟨by decide +kernel, by decide +kernel⟩, List.mem_of_getElem? (i := 299) (by decide +kernel), List.mem_of_getElem? (i := 1023) (by decide +kernel), List.mem_of_getElem? (i := 1024) (by decide +kernel)⟩
theorem lw_p39 : lw_okq (⟨"SundayPit$Search", "keepIfBetter", "(II)V"⟩, 11) := ⟨⟨by decide +kernel, by decide +kernel⟩, List.mem_of_getElem? (i := 299) (by decide +kernel), List.mem_of_getElem? (i := 1027) (by decide +kernel), List.mem_of_getElem? (i := 1028) (by decide +kernel)⟩
theorem lw_p40 : lw_okq (⟨"SundayPit$Search", "digBelow", "(III)V"⟩, 11) := ⟨⟨by decide +kernel, by decide +kernel⟩, List.mem_of_getElem? (i := 299) (by decide +kernel), List.mem_of_getElem? (i := 1036) (by decide +kernel), List.mem_of_getElem? (i := 1037) (by decide +kernel)⟩
theorem lw_p41 : lw_okq (⟨"SundayPit$Search", "duel", "(II)I"⟩, 11) := ⟨⟨by decide +kernel, by decide +kernel⟩, List.mem_of_getElem? (i := 299) (by decide +kernel), List.mem_of_getElem? (i := 1049) (by decide +kernel), List.mem_of_getElem? (i := 1050) (by decide +kernel)⟩
theorem lw_p42 : lw_okq (⟨"SundayPit$Search", "keepLine", "(II)V"⟩, 11) := ⟨⟨by decide +kernel, by decide +kernel⟩, List.mem_of_getElem? (i := 299) (by decide +kernel), List.mem_of_getElem? (i := 1054) (by decide +kernel), List.mem_of_getElem? (i := 1055) (by decide +kernel)⟩
theorem lw_p43 : lw_okq (⟨"SundayPit$Storage", "place", "(III)Z"⟩, 7) := ⟨⟨by decide +kernel, by decide +kernel⟩, List.mem_of_getElem? (i := 365) (by decide +kernel), List.mem_of_getElem? (i := 1066) (by decide +kernel), List.mem_of_getElem? (i := 1067) (by decide +kernel)⟩
theorem lw_p44 : lw_okq (⟨"SundayPit$Storage", "kinds", "()I"⟩, 7) := ⟨⟨by decide +kernel, by decide +kernel⟩, List.mem_of_getElem? (i := 365) (by decide +kernel), List.mem_of_getElem? (i := 1070) (by decide +kernel), List.mem_of_getElem? (i := 1071) (by decide +kernel)⟩
theorem lw_p45 : lw_okq (⟨"SundayPit$Storage", "isFree", "(II)Z"⟩, 7) := ⟨⟨by decide +kernel, by decide +kernel⟩, List.mem_of_getElem? (i := 365) (by decide +kernel), List.mem_of_getElem? (i := 1075) (by decide +kernel), List.mem_of_getElem? (i := 1076) (by decide +kernel)⟩
theorem lw_p46 : lw_okq (⟨"SundayPit", "beginAct", "()V"⟩, 19) := ⟨⟨by decide +kernel, by decide +kernel⟩, List.mem_of_getElem? (i := 23) (by decide +kernel), List.mem_of_getElem? (i := 1088) (by decide +kernel), List.mem_of_getElem? (i := 1089) (by decide +kernel)⟩
theorem lw_p47 : lw_okq (⟨"SundayPit", "workOneDay", "()Z"⟩, 19) := ⟨⟨by decide +kernel, by decide +kernel⟩, List.mem_of_getElem? (i := 23) (by decide +kernel), List.mem_of_getElem? (i := 1114) (by decide +kernel), List.mem_of_getElem? (i := 1115) (by decide +kernel)⟩
def lw_privs_3 : List (MethodName × Nat) := [(⟨"SundayPit$Mine", "spanEnd", "(I)I"⟩, 7), (⟨"SundayPit$Mine", "spanStart", "(I)I"⟩, 7), (⟨"SundayPit$Mine", "factAt", "(I)I"⟩, 7), (⟨"SundayPit$Mine", "loadHouse", "(I)V"⟩, 7), (⟨"SundayPit$Search", "isOrder", "(LSundayPit$Tape;)Z"⟩, 11), (⟨"SundayPit$Mine", "fell", "(I)V"⟩, 7), (⟨"SundayPit$Search", "tryAll", "(III)V"⟩, 11), (⟨"SundayPit$Search", "keepIfBetter", "(II)V"⟩, 11), (⟨"SundayPit$Search", "digBelow", "(III)V"⟩, 11), (⟨"SundayPit$Search", "duel", "(II)I"⟩, 11), (⟨"SundayPit$Search", "keepLine", "(II)V"⟩, 11), (⟨"SundayPit$Storage", "place", "(III)Z"⟩, 7), (⟨"SundayPit$Storage", "kinds", "()I"⟩, 7), (⟨"SundayPit$Storage", "isFree", "(II)Z"⟩, 7), (⟨"SundayPit", "beginAct", "()V"⟩, 19), (⟨"SundayPit", "workOneDay", "()Z"⟩, 19)]
theorem lw_r3 : ∀ q ∈ lw_privs_3, lw_okq q := List.forall_mem_cons.mpr ⟨lw_p32, List.forall_mem_cons.mpr ⟨lw_p33, List.forall_mem_cons.mpr ⟨lw_p34, List.forall_mem_cons.mpr ⟨lw_p35, List.forall_mem_cons.mpr ⟨lw_p36, List.forall_mem_cons.mpr ⟨lw_p37, List.forall_mem_cons.mpr ⟨lw_p38, List.forall_mem_cons.mpr ⟨lw_p39, List.forall_mem_cons.mpr ⟨lw_p40, List.forall_mem_cons.mpr ⟨lw_p41, List.forall_mem_cons.mpr ⟨lw_p42, List.forall_mem_cons.mpr ⟨lw_p43, List.forall_mem_cons.mpr ⟨lw_p44, List.forall_mem_cons.mpr ⟨lw_p45, List.forall_mem_cons.mpr ⟨lw_p46, List.forall_mem_cons.mpr ⟨lw_p47, fun _ h => absurd h List.not_mem_nil⟩⟩⟩⟩⟩⟩⟩⟩⟩⟩⟩⟩⟩⟩⟩⟩
theorem lw_p48 : lw_okq (⟨"SundayPit", "draw", "(I)I"⟩, 19) := ⟨⟨by decide +kernel, by decide +kernel⟩, List.mem_of_getElem? (i := 23) (by decide +kernel), List.mem_of_getElem? (i := 1118) (by decide +kernel), List.mem_of_getElem? (i := 1119) (by decide +kernel)⟩
theorem lw_p49 : lw_okq (⟨"SundayPit$Bores", "isFit", "(I)Z"⟩, 4) := ⟨⟨by decide +kernel, by decide +kernel⟩, List.mem_of_getElem? (i := 346) (by decide +kernel), List.mem_of_getElem? (i := 1164) (by decide +kernel), List.mem_of_getElem? (i := 1165) (by decide +kernel)⟩
theorem lw_p50 : lw_okq (⟨"SundayPit$Bores", "shifted", "(III)I"⟩, 4) := ⟨⟨by decide +kernel, by decide +kernel⟩, List.mem_of_getElem? (i := 346) (by decide +kernel), List.mem_of_getElem? (i := 1168) (by decide +kernel), List.mem_of_getElem? (i := 1169) (by decide +kernel)⟩
theorem lw_p51 : lw_okq (⟨"SundayPit$Bores", "countAlike", "(II)I"⟩, 4) := ⟨⟨by decide +kernel, by decide +kernel⟩, List.mem_of_getElem? (i := 346) (by decide +kernel), List.mem_of_getElem? (i := 1199) (by decide +kernel), List.mem_of_getElem? (i := 1200) (by decide +kernel)⟩
theorem lw_p52 : lw_okq (⟨"SundayPit$Storage", "take", "(II)V"⟩, 7) := ⟨⟨by decide +kernel, by decide +kernel⟩, List.mem_of_getElem? (i := 365) (by decide +kernel), List.mem_of_getElem? (i := 1219) (by decide +kernel), List.mem_of_getElem? (i := 1220) (by decide +kernel)⟩
theorem lw_p53 : lw_okq (⟨"SundayPit$Storage", "keepSet", "()V"⟩, 7) := ⟨⟨by decide +kernel, by decide +kernel⟩, List.mem_of_getElem? (i := 365) (by decide +kernel), List.mem_of_getElem? (i := 1223) (by decide +kernel), List.mem_of_getElem? (i := 1224) (by decide +kernel)⟩
theorem lw_p54 : lw_okq (⟨"SundayPit$Question", "isOfTest", "()Z"⟩, 2) := ⟨⟨by decide +kernel, by decide +kernel⟩, List.mem_of_getElem? (i := 406) (by decide +kernel), List.mem_of_getElem? (i := 1244) (by decide +kernel), List.mem_of_getElem? (i := 1245) (by decide +kernel)⟩
theorem lw_p55 : lw_okq (⟨"SundayPit$Question", "goOn", "(JII)J"⟩, 2) := ⟨⟨by decide +kernel, by decide +kernel⟩, List.mem_of_getElem? (i := 406) (by decide +kernel), List.mem_of_getElem? (i := 1259) (by decide +kernel), List.mem_of_getElem? (i := 1260) (by decide +kernel)⟩
theorem lw_p56 : lw_okq (⟨"SundayPitModel", "pitTold", "()V"⟩, 120) := ⟨⟨by decide +kernel, by decide +kernel⟩, List.mem_of_getElem? (i := 1308) (by decide +kernel), List.mem_of_getElem? (i := 1691) (by decide +kernel), List.mem_of_getElem? (i := 1692) (by decide +kernel)⟩
theorem lw_p57 : lw_okq (⟨"SundayPitModel", "asks", "([C)V"⟩, 120) := ⟨⟨by decide +kernel, by decide +kernel⟩, List.mem_of_getElem? (i := 1308) (by decide +kernel), List.mem_of_getElem? (i := 1695) (by decide +kernel), List.mem_of_getElem? (i := 1696) (by decide +kernel)⟩
theorem lw_p58 : lw_okq (⟨"SundayPitModel", "takes", "([C)Z"⟩, 120) := ⟨⟨by decide +kernel, by decide +kernel⟩, List.mem_of_getElem? (i := 1308) (by decide +kernel), List.mem_of_getElem? (i := 1699) (by decide +kernel), List.mem_of_getElem? (i := 1700) (by decide +kernel)⟩
theorem lw_p59 : lw_okq (⟨"SundayPitModel", "isHere", "([C)Z"⟩, 120) := ⟨⟨by decide +kernel, by decide +kernel⟩, List.mem_of_getElem? (i := 1308) (by decide +kernel), List.mem_of_getElem? (i := 1703) (by decide +kernel), List.mem_of_getElem? (i := 1704) (by decide +kernel)⟩
theorem lw_p60 : lw_okq (⟨"SundayPitModel", "look", "()I"⟩, 120) := ⟨⟨by decide +kernel, by decide +kernel⟩, List.mem_of_getElem? (i := 1308) (by decide +kernel), List.mem_of_getElem? (i := 1707) (by decide +kernel), List.mem_of_getElem? (i := 1708) (by decide +kernel)⟩
theorem lw_p61 : lw_okq (⟨"SundayPitModel", "fail", "(II)V"⟩, 120) := ⟨⟨by decide +kernel, by decide +kernel⟩, List.mem_of_getElem? (i := 1308) (by decide +kernel), List.mem_of_getElem? (i := 1714) (by decide +kernel), List.mem_of_getElem? (i := 1715) (by decide +kernel)⟩
theorem lw_p62 : lw_okq (⟨"SundayPitModel", "number", "(II)I"⟩, 120) := ⟨⟨by decide +kernel, by decide +kernel⟩, List.mem_of_getElem? (i := 1308) (by decide +kernel), List.mem_of_getElem? (i := 1718) (by decide +kernel), List.mem_of_getElem? (i := 1719) (by decide +kernel)⟩
theorem lw_p63 : lw_okq (⟨"SundayPitModel", "asksSign", "(I)V"⟩, 120) := ⟨⟨by decide +kernel, by decide +kernel⟩, List.mem_of_getElem? (i := 1308) (by decide +kernel), List.mem_of_getElem? (i := 1728) (by decide +kernel), List.mem_of_getElem? (i := 1729) (by decide +kernel)⟩
def lw_privs_4 : List (MethodName × Nat) := [(⟨"SundayPit", "draw", "(I)I"⟩, 19), (⟨"SundayPit$Bores", "isFit", "(I)Z"⟩, 4), (⟨"SundayPit$Bores", "shifted", "(III)I"⟩, 4), (⟨"SundayPit$Bores", "countAlike", "(II)I"⟩, 4), (⟨"SundayPit$Storage", "take", "(II)V"⟩, 7), (⟨"SundayPit$Storage", "keepSet", "()V"⟩, 7), (⟨"SundayPit$Question", "isOfTest", "()Z"⟩, 2), (⟨"SundayPit$Question", "goOn", "(JII)J"⟩, 2), (⟨"SundayPitModel", "pitTold", "()V"⟩, 120), (⟨"SundayPitModel", "asks", "([C)V"⟩, 120), (⟨"SundayPitModel", "takes", "([C)Z"⟩, 120), (⟨"SundayPitModel", "isHere", "([C)Z"⟩, 120), (⟨"SundayPitModel", "look", "()I"⟩, 120), (⟨"SundayPitModel", "fail", "(II)V"⟩, 120), (⟨"SundayPitModel", "number", "(II)I"⟩, 120), (⟨"SundayPitModel", "asksSign", "(I)V"⟩, 120)]
theorem lw_r4 : ∀ q ∈ lw_privs_4, lw_okq q := List.forall_mem_cons.mpr ⟨lw_p48, List.forall_mem_cons.mpr ⟨lw_p49, List.forall_mem_cons.mpr ⟨lw_p50, List.forall_mem_cons.mpr ⟨lw_p51, List.forall_mem_cons.mpr ⟨lw_p52, List.forall_mem_cons.mpr ⟨lw_p53, List.forall_mem_cons.mpr ⟨lw_p54, List.forall_mem_cons.mpr ⟨lw_p55, List.forall_mem_cons.mpr ⟨lw_p56, List.forall_mem_cons.mpr ⟨lw_p57, List.forall_mem_cons.mpr ⟨lw_p58, List.forall_mem_cons.mpr ⟨lw_p59, List.forall_mem_cons.mpr ⟨lw_p60, List.forall_mem_cons.mpr ⟨lw_p61, List.forall_mem_cons.mpr ⟨lw_p62, List.forall_mem_cons.mpr ⟨lw_p63, fun _ h => absurd h List.not_mem_nil⟩⟩⟩⟩⟩⟩⟩⟩⟩⟩⟩⟩⟩⟩⟩⟩
theorem lw_p64 : lw_okq (⟨"SundayPitModel", "takesSign", "(I)Z"⟩, 120) := ⟨⟨by decide +kernel, by decide +kernel⟩, List.mem_of_getElem? (i := 1308) (by decide +kernel), List.mem_of_getElem? (i := 1732) (by decide +kernel), List.mem_of_getElem? (i := 1733) (by decide +kernel)⟩
theorem lw_p65 : lw_okq (⟨"SundayPitModel", "statementTold", "()V"⟩, 120) := ⟨⟨by decide +kernel, by decide +kernel⟩, List.mem_of_getElem? (i := 1308) (by decide +kernel), List.mem_of_getElem? (i := 1736) (by decide +kernel), List.mem_of_getElem? (i := 1737) (by decide +kernel)⟩
theorem lw_p66 : lw_okq (⟨"SundayPitModel", "kindTold", "(I)V"⟩, 120) := ⟨⟨by decide +kernel, by decide +kernel⟩, List.mem_of_getElem? (i := 1308) (by decide +kernel), List.mem_of_getElem? (i := 1740) (by decide +kernel), List.mem_of_getElem? (i := 1741) (by decide +kernel)⟩
theorem lw_p67 : lw_okq (⟨"SundayPitModel", "isFull", "(III)Z"⟩, 120) := ⟨⟨by decide +kernel, by decide +kernel⟩, List.mem_of_getElem? (i := 1308) (by decide +kernel), List.mem_of_getElem? (i := 1744) (by decide +kernel), List.mem_of_getElem? (i := 1745) (by decide +kernel)⟩
theorem lw_p68 : lw_okq (⟨"SundayPitModel", "newName", "()J"⟩, 120) := ⟨⟨by decide +kernel, by decide +kernel⟩, List.mem_of_getElem? (i := 1308) (by decide +kernel), List.mem_of_getElem? (i := 1748) (by decide +kernel), List.mem_of_getElem? (i := 1749) (by decide +kernel)⟩
theorem lw_p69 : lw_okq (⟨"SundayPitModel", "name", "()J"⟩, 120) := ⟨⟨by decide +kernel, by decide +kernel⟩, List.mem_of_getElem? (i := 1308) (by decide +kernel), List.mem_of_getElem? (i := 1752) (by decide +kernel), List.mem_of_getElem? (i := 1753) (by decide +kernel)⟩
theorem lw_p70 : lw_okq (⟨"SundayPitModel", "isOwnHere", "()Z"⟩, 120) := ⟨⟨by decide +kernel, by decide +kernel⟩, List.mem_of_getElem? (i := 1308) (by decide +kernel), List.mem_of_getElem? (i := 1756) (by decide +kernel), List.mem_of_getElem? (i := 1757) (by decide +kernel)⟩
theorem lw_p71 : lw_okq (⟨"SundayPitModel", "kindOf", "(J)I"⟩, 120) := ⟨⟨by decide +kernel, by decide +kernel⟩, List.mem_of_getElem? (i := 1308) (by decide +kernel), List.mem_of_getElem? (i := 1762) (by decide +kernel), List.mem_of_getElem? (i := 1763) (by decide +kernel)⟩
theorem lw_p72 : lw_okq (⟨"SundayPitModel", "rowTold", "(I)V"⟩, 120) := ⟨⟨by decide +kernel, by decide +kernel⟩, List.mem_of_getElem? (i := 1308) (by decide +kernel), List.mem_of_getElem? (i := 1766) (by decide +kernel), List.mem_of_getElem? (i := 1767) (by decide +kernel)⟩
theorem lw_p73 : lw_okq (⟨"SundayPitModel", "houseTold", "(I)V"⟩, 120) := ⟨⟨by decide +kernel, by decide +kernel⟩, List.mem_of_getElem? (i := 1308) (by decide +kernel), List.mem_of_getElem? (i := 1770) (by decide +kernel), List.mem_of_getElem? (i := 1771) (by decide +kernel)⟩
theorem lw_p74 : lw_okq (⟨"SundayPitModel", "mixTold", "(I)V"⟩, 120) := ⟨⟨by decide +kernel, by decide +kernel⟩, List.mem_of_getElem? (i := 1308) (by decide +kernel), List.mem_of_getElem? (i := 1774) (by decide +kernel), List.mem_of_getElem? (i := 1775) (by decide +kernel)⟩
theorem lw_p75 : lw_okq (⟨"SundayPitModel", "kindHere", "()I"⟩, 120) := ⟨⟨by decide +kernel, by decide +kernel⟩, List.mem_of_getElem? (i := 1308) (by decide +kernel), List.mem_of_getElem? (i := 1778) (by decide +kernel), List.mem_of_getElem? (i := 1779) (by decide +kernel)⟩
theorem lw_p76 : lw_okq (⟨"SundayPitModel", "codesTold", "(II)V"⟩, 120) := ⟨⟨by decide +kernel, by decide +kernel⟩, List.mem_of_getElem? (i := 1308) (by decide +kernel), List.mem_of_getElem? (i := 1782) (by decide +kernel), List.mem_of_getElem? (i := 1783) (by decide +kernel)⟩
theorem lw_p77 : lw_okq (⟨"SundayPitModel", "qTest", "()V"⟩, 120) := ⟨⟨by decide +kernel, by decide +kernel⟩, List.mem_of_getElem? (i := 1308) (by decide +kernel), List.mem_of_getElem? (i := 1786) (by decide +kernel), List.mem_of_getElem? (i := 1787) (by decide +kernel)⟩
theorem lw_p78 : lw_okq (⟨"SundayPitModel", "qOpens", "(II)V"⟩, 120) := ⟨⟨by decide +kernel, by decide +kernel⟩, List.mem_of_getElem? (i := 1308) (by decide +kernel), List.mem_of_getElem? (i := 1790) (by decide +kernel), List.mem_of_getElem? (i := 1791) (by decide +kernel)⟩
theorem lw_p79 : lw_okq (⟨"SundayPitModel", "qFact", "()V"⟩, 120) := ⟨⟨by decide +kernel, by decide +kernel⟩, List.mem_of_getElem? (i := 1308) (by decide +kernel), List.mem_of_getElem? (i := 1794) (by decide +kernel), List.mem_of_getElem? (i := 1795) (by decide +kernel)⟩
def lw_privs_5 : List (MethodName × Nat) := [(⟨"SundayPitModel", "takesSign", "(I)Z"⟩, 120), (⟨"SundayPitModel", "statementTold", "()V"⟩, 120), (⟨"SundayPitModel", "kindTold", "(I)V"⟩, 120), (⟨"SundayPitModel", "isFull", "(III)Z"⟩, 120), (⟨"SundayPitModel", "newName", "()J"⟩, 120), (⟨"SundayPitModel", "name", "()J"⟩, 120), (⟨"SundayPitModel", "isOwnHere", "()Z"⟩, 120), (⟨"SundayPitModel", "kindOf", "(J)I"⟩, 120), (⟨"SundayPitModel", "rowTold", "(I)V"⟩, 120), (⟨"SundayPitModel", "houseTold", "(I)V"⟩, 120), (⟨"SundayPitModel", "mixTold", "(I)V"⟩, 120), (⟨"SundayPitModel", "kindHere", "()I"⟩, 120), (⟨"SundayPitModel", "codesTold", "(II)V"⟩, 120), (⟨"SundayPitModel", "qTest", "()V"⟩, 120), (⟨"SundayPitModel", "qOpens", "(II)V"⟩, 120), (⟨"SundayPitModel", "qFact", "()V"⟩, 120)]
theorem lw_r5 : ∀ q ∈ lw_privs_5, lw_okq q := List.forall_mem_cons.mpr ⟨lw_p64, List.forall_mem_cons.mpr ⟨lw_p65, List.forall_mem_cons.mpr ⟨lw_p66, List.forall_mem_cons.mpr ⟨lw_p67, List.forall_mem_cons.mpr ⟨lw_p68, List.forall_mem_cons.mpr ⟨lw_p69, List.forall_mem_cons.mpr ⟨lw_p70, List.forall_mem_cons.mpr ⟨lw_p71, List.forall_mem_cons.mpr ⟨lw_p72, List.forall_mem_cons.mpr ⟨lw_p73, List.forall_mem_cons.mpr ⟨lw_p74, List.forall_mem_cons.mpr ⟨lw_p75, List.forall_mem_cons.mpr ⟨lw_p76, List.forall_mem_cons.mpr ⟨lw_p77, List.forall_mem_cons.mpr ⟨lw_p78, List.forall_mem_cons.mpr ⟨lw_p79, fun _ h => absurd h List.not_mem_nil⟩⟩⟩⟩⟩⟩⟩⟩⟩⟩⟩⟩⟩⟩⟩⟩
theorem lw_p80 : lw_okq (⟨"SundayPitModel", "qCode", "(I)V"⟩, 120) := ⟨⟨by decide +kernel, by decide +kernel⟩, List.mem_of_getElem? (i := 1308) (by decide +kernel), List.mem_of_getElem? (i := 1798) (by decide +kernel), List.mem_of_getElem? (i := 1799) (by decide +kernel)⟩
theorem lw_p81 : lw_okq (⟨"SundayPitModel", "qSums", "()V"⟩, 120) := ⟨⟨by decide +kernel, by decide +kernel⟩, List.mem_of_getElem? (i := 1308) (by decide +kernel), List.mem_of_getElem? (i := 1802) (by decide +kernel), List.mem_of_getElem? (i := 1803) (by decide +kernel)⟩
theorem lw_p82 : lw_okq (⟨"SundayPitModel", "qPartTold", "()V"⟩, 120) := ⟨⟨by decide +kernel, by decide +kernel⟩, List.mem_of_getElem? (i := 1308) (by decide +kernel), List.mem_of_getElem? (i := 1806) (by decide +kernel), List.mem_of_getElem? (i := 1807) (by decide +kernel)⟩
theorem lw_p83 : lw_okq (⟨"SundayPitModel", "qWordOf", "(II)I"⟩, 120) := ⟨⟨by decide +kernel, by decide +kernel⟩, List.mem_of_getElem? (i := 1308) (by decide +kernel), List.mem_of_getElem? (i := 1810) (by decide +kernel), List.mem_of_getElem? (i := 1811) (by decide +kernel)⟩
theorem lw_p84 : lw_okq (⟨"SundayPitModel", "qWordHere", "()I"⟩, 120) := ⟨⟨by decide +kernel, by decide +kernel⟩, List.mem_of_getElem? (i := 1308) (by decide +kernel), List.mem_of_getElem? (i := 1814) (by decide +kernel), List.mem_of_getElem? (i := 1815) (by decide +kernel)⟩
theorem lw_p85 : lw_okq (⟨"SundayPitModel", "isAllowed", "(I)Z"⟩, 120) := ⟨⟨by decide +kernel, by decide +kernel⟩, List.mem_of_getElem? (i := 1308) (by decide +kernel), List.mem_of_getElem? (i := 1818) (by decide +kernel), List.mem_of_getElem? (i := 1819) (by decide +kernel)⟩
theorem lw_p86 : lw_okq (⟨"SundayPitModel", "qAsksWord", "(I)V"⟩, 120) := ⟨⟨by decide +kernel, by decide +kernel⟩, List.mem_of_getElem? (i := 1308) (by decide +kernel), List.mem_of_getElem? (i := 1822) (by decide +kernel), List.mem_of_getElem? (i := 1823) (by decide +kernel)⟩
theorem lw_p87 : lw_okq (⟨"SundayPitModel", "qEndsPart", "()V"⟩, 120) := ⟨⟨by decide +kernel, by decide +kernel⟩, List.mem_of_getElem? (i := 1308) (by decide +kernel), List.mem_of_getElem? (i := 1826) (by decide +kernel), List.mem_of_getElem? (i := 1827) (by decide +kernel)⟩
theorem lw_p88 : lw_okq (⟨"SundayPitModel", "qDrops", "()V"⟩, 120) := ⟨⟨by decide +kernel, by decide +kernel⟩, List.mem_of_getElem? (i := 1308) (by decide +kernel), List.mem_of_getElem? (i := 1830) (by decide +kernel), List.mem_of_getElem? (i := 1831) (by decide +kernel)⟩
theorem lw_p89 : lw_okq (⟨"SundayPitModel", "qGoesOn", "()Z"⟩, 120) := ⟨⟨by decide +kernel, by decide +kernel⟩, List.mem_of_getElem? (i := 1308) (by decide +kernel), List.mem_of_getElem? (i := 1834) (by decide +kernel), List.mem_of_getElem? (i := 1835) (by decide +kernel)⟩
theorem lw_p90 : lw_okq (⟨"SundayPitModel", "qBracket", "()I"⟩, 120) := ⟨⟨by decide +kernel, by decide +kernel⟩, List.mem_of_getElem? (i := 1308) (by decide +kernel), List.mem_of_getElem? (i := 1838) (by decide +kernel), List.mem_of_getElem? (i := 1839) (by decide +kernel)⟩
theorem lw_p91 : lw_okq (⟨"SundayPitModel", "qDropsToBracket", "()V"⟩, 120) := ⟨⟨by decide +kernel, by decide +kernel⟩, List.mem_of_getElem? (i := 1308) (by decide +kernel), List.mem_of_getElem? (i := 1845) (by decide +kernel), List.mem_of_getElem? (i := 1846) (by decide +kernel)⟩
theorem lw_p92 : lw_okq (⟨"SundayPitModel", "qIsOn", "(I)Z"⟩, 120) := ⟨⟨by decide +kernel, by decide +kernel⟩, List.mem_of_getElem? (i := 1308) (by decide +kernel), List.mem_of_getElem? (i := 1849) (by decide +kernel), List.mem_of_getElem? (i := 1850) (by decide +kernel)⟩
theorem lw_p93 : lw_okq (⟨"SundayPitModel", "qDropsNots", "()V"⟩, 120) := ⟨⟨by decide +kernel, by decide +kernel⟩, List.mem_of_getElem? (i := 1308) (by decide +kernel), List.mem_of_getElem? (i := 1853) (by decide +kernel), List.mem_of_getElem? (i := 1854) (by decide +kernel)⟩
theorem lw_p94 : lw_okq (⟨"SundayPitModel", "qGoesOnTest", "()Z"⟩, 120) := ⟨⟨by decide +kernel, by decide +kernel⟩, List.mem_of_getElem? (i := 1308) (by decide +kernel), List.mem_of_getElem? (i := 1857) (by decide +kernel), List.mem_of_getElem? (i := 1858) (by decide +kernel)⟩
theorem lw_p95 : lw_okq (⟨"SundayPitModel", "qHasSquare", "()Z"⟩, 120) := ⟨⟨by decide +kernel, by decide +kernel⟩, List.mem_of_getElem? (i := 1308) (by decide +kernel), List.mem_of_getElem? (i := 1861) (by decide +kernel), List.mem_of_getElem? (i := 1862) (by decide +kernel)⟩
def lw_privs_6 : List (MethodName × Nat) := [(⟨"SundayPitModel", "qCode", "(I)V"⟩, 120), (⟨"SundayPitModel", "qSums", "()V"⟩, 120), (⟨"SundayPitModel", "qPartTold", "()V"⟩, 120), (⟨"SundayPitModel", "qWordOf", "(II)I"⟩, 120), (⟨"SundayPitModel", "qWordHere", "()I"⟩, 120), (⟨"SundayPitModel", "isAllowed", "(I)Z"⟩, 120), (⟨"SundayPitModel", "qAsksWord", "(I)V"⟩, 120), (⟨"SundayPitModel", "qEndsPart", "()V"⟩, 120), (⟨"SundayPitModel", "qDrops", "()V"⟩, 120), (⟨"SundayPitModel", "qGoesOn", "()Z"⟩, 120), (⟨"SundayPitModel", "qBracket", "()I"⟩, 120), (⟨"SundayPitModel", "qDropsToBracket", "()V"⟩, 120), (⟨"SundayPitModel", "qIsOn", "(I)Z"⟩, 120), (⟨"SundayPitModel", "qDropsNots", "()V"⟩, 120), (⟨"SundayPitModel", "qGoesOnTest", "()Z"⟩, 120), (⟨"SundayPitModel", "qHasSquare", "()Z"⟩, 120)]
theorem lw_r6 : ∀ q ∈ lw_privs_6, lw_okq q := List.forall_mem_cons.mpr ⟨lw_p80, List.forall_mem_cons.mpr ⟨lw_p81, List.forall_mem_cons.mpr ⟨lw_p82, List.forall_mem_cons.mpr ⟨lw_p83, List.forall_mem_cons.mpr ⟨lw_p84, List.forall_mem_cons.mpr ⟨lw_p85, List.forall_mem_cons.mpr ⟨lw_p86, List.forall_mem_cons.mpr ⟨lw_p87, List.forall_mem_cons.mpr ⟨lw_p88, List.forall_mem_cons.mpr ⟨lw_p89, List.forall_mem_cons.mpr ⟨lw_p90, List.forall_mem_cons.mpr ⟨lw_p91, List.forall_mem_cons.mpr ⟨lw_p92, List.forall_mem_cons.mpr ⟨lw_p93, List.forall_mem_cons.mpr ⟨lw_p94, List.forall_mem_cons.mpr ⟨lw_p95, fun _ h => absurd h List.not_mem_nil⟩⟩⟩⟩⟩⟩⟩⟩⟩⟩⟩⟩⟩⟩⟩⟩
theorem lw_p96 : lw_okq (⟨"SundayPitModel", "stands", "()V"⟩, 120) := ⟨⟨by decide +kernel, by decide +kernel⟩, List.mem_of_getElem? (i := 1308) (by decide +kernel), List.mem_of_getElem? (i := 1865) (by decide +kernel), List.mem_of_getElem? (i := 1866) (by decide +kernel)⟩
theorem lw_p97 : lw_okq (⟨"SundayPitModel", "holdsUp", "()I"⟩, 120) := ⟨⟨by decide +kernel, by decide +kernel⟩, List.mem_of_getElem? (i := 1308) (by decide +kernel), List.mem_of_getElem? (i := 1877) (by decide +kernel), List.mem_of_getElem? (i := 1878) (by decide +kernel)⟩
theorem lw_p98 : lw_okq (⟨"SundayPitModel", "tubsAll", "()I"⟩, 120) := ⟨⟨by decide +kernel, by decide +kernel⟩, List.mem_of_getElem? (i := 1308) (by decide +kernel), List.mem_of_getElem? (i := 1881) (by decide +kernel), List.mem_of_getElem? (i := 1882) (by decide +kernel)⟩
theorem lw_p99 : lw_okq (⟨"SundayPitModel", "kindMany", "()I"⟩, 120) := ⟨⟨by decide +kernel, by decide +kernel⟩, List.mem_of_getElem? (i := 1308) (by decide +kernel), List.mem_of_getElem? (i := 1885) (by decide +kernel), List.mem_of_getElem? (i := 1886) (by decide +kernel)⟩
theorem lw_p100 : lw_okq (⟨"SundayPitModel", "tubsOf", "(I)I"⟩, 120) := ⟨⟨by decide +kernel, by decide +kernel⟩, List.mem_of_getElem? (i := 1308) (by decide +kernel), List.mem_of_getElem? (i := 1889) (by decide +kernel), List.mem_of_getElem? (i := 1890) (by decide +kernel)⟩
theorem lw_p101 : lw_okq (⟨"SundayPitModel", "cellsThat", "(I)I"⟩, 120) := ⟨⟨by decide +kernel, by decide +kernel⟩, List.mem_of_getElem? (i := 1308) (by decide +kernel), List.mem_of_getElem? (i := 1893) (by decide +kernel), List.mem_of_getElem? (i := 1894) (by decide +kernel)⟩
theorem lw_p102 : lw_okq (⟨"SundayPitModel", "cellMany", "()I"⟩, 120) := ⟨⟨by decide +kernel, by decide +kernel⟩, List.mem_of_getElem? (i := 1308) (by decide +kernel), List.mem_of_getElem? (i := 1897) (by decide +kernel), List.mem_of_getElem? (i := 1898) (by decide +kernel)⟩
theorem lw_p103 : lw_okq (⟨"SundayPitModel", "columns", "()I"⟩, 120) := ⟨⟨by decide +kernel, by decide +kernel⟩, List.mem_of_getElem? (i := 1308) (by decide +kernel), List.mem_of_getElem? (i := 1901) (by decide +kernel), List.mem_of_getElem? (i := 1902) (by decide +kernel)⟩
theorem lw_p104 : lw_okq (⟨"SundayPitModel", "rowsMany", "()I"⟩, 120) := ⟨⟨by decide +kernel, by decide +kernel⟩, List.mem_of_getElem? (i := 1308) (by decide +kernel), List.mem_of_getElem? (i := 1905) (by decide +kernel), List.mem_of_getElem? (i := 1906) (by decide +kernel)⟩
theorem lw_p105 : lw_okq (⟨"SundayPitModel", "isOpen", "(I)Z"⟩, 120) := ⟨⟨by decide +kernel, by decide +kernel⟩, List.mem_of_getElem? (i := 1308) (by decide +kernel), List.mem_of_getElem? (i := 1909) (by decide +kernel), List.mem_of_getElem? (i := 1910) (by decide +kernel)⟩
theorem lw_p106 : lw_okq (⟨"SundayPitModel", "whatIs", "(I)I"⟩, 120) := ⟨⟨by decide +kernel, by decide +kernel⟩, List.mem_of_getElem? (i := 1308) (by decide +kernel), List.mem_of_getElem? (i := 1913) (by decide +kernel), List.mem_of_getElem? (i := 1914) (by decide +kernel)⟩
theorem lw_p107 : lw_okq (⟨"SundayPitModel", "cuttable", "()J"⟩, 120) := ⟨⟨by decide +kernel, by decide +kernel⟩, List.mem_of_getElem? (i := 1308) (by decide +kernel), List.mem_of_getElem? (i := 1917) (by decide +kernel), List.mem_of_getElem? (i := 1918) (by decide +kernel)⟩
theorem lw_p108 : lw_okq (⟨"SundayPitModel", "laysReached", "()V"⟩, 120) := ⟨⟨by decide +kernel, by decide +kernel⟩, List.mem_of_getElem? (i := 1308) (by decide +kernel), List.mem_of_getElem? (i := 1921) (by decide +kernel), List.mem_of_getElem? (i := 1922) (by decide +kernel)⟩
theorem lw_p109 : lw_okq (⟨"SundayPitModel", "isBesideReached", "(I)Z"⟩, 120) := ⟨⟨by decide +kernel, by decide +kernel⟩, List.mem_of_getElem? (i := 1308) (by decide +kernel), List.mem_of_getElem? (i := 1925) (by decide +kernel), List.mem_of_getElem? (i := 1926) (by decide +kernel)⟩
theorem lw_p110 : lw_okq (⟨"SundayPitModel", "beside", "(II)I"⟩, 120) := ⟨⟨by decide +kernel, by decide +kernel⟩, List.mem_of_getElem? (i := 1308) (by decide +kernel), List.mem_of_getElem? (i := 1929) (by decide +kernel), List.mem_of_getElem? (i := 1930) (by decide +kernel)⟩
theorem lw_p111 : lw_okq (⟨"SundayPitModel", "whyNot", "(I)I"⟩, 120) := ⟨⟨by decide +kernel, by decide +kernel⟩, List.mem_of_getElem? (i := 1308) (by decide +kernel), List.mem_of_getElem? (i := 1933) (by decide +kernel), List.mem_of_getElem? (i := 1934) (by decide +kernel)⟩
def lw_privs_7 : List (MethodName × Nat) := [(⟨"SundayPitModel", "stands", "()V"⟩, 120), (⟨"SundayPitModel", "holdsUp", "()I"⟩, 120), (⟨"SundayPitModel", "tubsAll", "()I"⟩, 120), (⟨"SundayPitModel", "kindMany", "()I"⟩, 120), (⟨"SundayPitModel", "tubsOf", "(I)I"⟩, 120), (⟨"SundayPitModel", "cellsThat", "(I)I"⟩, 120), (⟨"SundayPitModel", "cellMany", "()I"⟩, 120), (⟨"SundayPitModel", "columns", "()I"⟩, 120), (⟨"SundayPitModel", "rowsMany", "()I"⟩, 120), (⟨"SundayPitModel", "isOpen", "(I)Z"⟩, 120), (⟨"SundayPitModel", "whatIs", "(I)I"⟩, 120), (⟨"SundayPitModel", "cuttable", "()J"⟩, 120), (⟨"SundayPitModel", "laysReached", "()V"⟩, 120), (⟨"SundayPitModel", "isBesideReached", "(I)Z"⟩, 120), (⟨"SundayPitModel", "beside", "(II)I"⟩, 120), (⟨"SundayPitModel", "whyNot", "(I)I"⟩, 120)]
theorem lw_r7 : ∀ q ∈ lw_privs_7, lw_okq q := List.forall_mem_cons.mpr ⟨lw_p96, List.forall_mem_cons.mpr ⟨lw_p97, List.forall_mem_cons.mpr ⟨lw_p98, List.forall_mem_cons.mpr ⟨lw_p99, List.forall_mem_cons.mpr ⟨lw_p100, List.forall_mem_cons.mpr ⟨lw_p101, List.forall_mem_cons.mpr ⟨lw_p102, List.forall_mem_cons.mpr ⟨lw_p103, List.forall_mem_cons.mpr ⟨lw_p104, List.forall_mem_cons.mpr ⟨lw_p105, List.forall_mem_cons.mpr ⟨lw_p106, List.forall_mem_cons.mpr ⟨lw_p107, List.forall_mem_cons.mpr ⟨lw_p108, List.forall_mem_cons.mpr ⟨lw_p109, List.forall_mem_cons.mpr ⟨lw_p110, List.forall_mem_cons.mpr ⟨lw_p111, fun _ h => absurd h List.not_mem_nil⟩⟩⟩⟩⟩⟩⟩⟩⟩⟩⟩⟩⟩⟩⟩⟩
theorem lw_p112 : lw_okq (⟨"SundayPitModel", "mayBe", "(I)Z"⟩, 120) := ⟨⟨by decide +kernel, by decide +kernel⟩, List.mem_of_getElem? (i := 1308) (by decide +kernel), List.mem_of_getElem? (i := 1937) (by decide +kernel), List.mem_of_getElem? (i := 1938) (by decide +kernel)⟩
theorem lw_p113 : lw_okq (⟨"SundayPitModel", "asksCell", "(I)V"⟩, 120) := ⟨⟨by decide +kernel, by decide +kernel⟩, List.mem_of_getElem? (i := 1308) (by decide +kernel), List.mem_of_getElem? (i := 1941) (by decide +kernel), List.mem_of_getElem? (i := 1942) (by decide +kernel)⟩
theorem lw_p114 : lw_okq (⟨"SundayPitModel", "kindAt", "(I)I"⟩, 120) := ⟨⟨by decide +kernel, by decide +kernel⟩, List.mem_of_getElem? (i := 1308) (by decide +kernel), List.mem_of_getElem? (i := 1945) (by decide +kernel), List.mem_of_getElem? (i := 1946) (by decide +kernel)⟩
theorem lw_p115 : lw_okq (⟨"SundayPitModel", "seamAt", "(II)I"⟩, 120) := ⟨⟨by decide +kernel, by decide +kernel⟩, List.mem_of_getElem? (i := 1308) (by decide +kernel), List.mem_of_getElem? (i := 1949) (by decide +kernel), List.mem_of_getElem? (i := 1950) (by decide +kernel)⟩
theorem lw_p116 : lw_okq (⟨"SundayPitModel", "restOf", "(I)I"⟩, 120) := ⟨⟨by decide +kernel, by decide +kernel⟩, List.mem_of_getElem? (i := 1308) (by decide +kernel), List.mem_of_getElem? (i := 1953) (by decide +kernel), List.mem_of_getElem? (i := 1954) (by decide +kernel)⟩
theorem lw_p117 : lw_okq (⟨"SundayPitModel", "gasOf", "(I)I"⟩, 120) := ⟨⟨by decide +kernel, by decide +kernel⟩, List.mem_of_getElem? (i := 1308) (by decide +kernel), List.mem_of_getElem? (i := 1957) (by decide +kernel), List.mem_of_getElem? (i := 1958) (by decide +kernel)⟩
theorem lw_p118 : lw_okq (⟨"SundayPitModel", "nearOf", "(I)I"⟩, 120) := ⟨⟨by decide +kernel, by decide +kernel⟩, List.mem_of_getElem? (i := 1308) (by decide +kernel), List.mem_of_getElem? (i := 1961) (by decide +kernel), List.mem_of_getElem? (i := 1962) (by decide +kernel)⟩
theorem lw_p119 : lw_okq (⟨"SundayPitModel", "spanOf", "(I)I"⟩, 120) := ⟨⟨by decide +kernel, by decide +kernel⟩, List.mem_of_getElem? (i := 1308) (by decide +kernel), List.mem_of_getElem? (i := 1965) (by decide +kernel), List.mem_of_getElem? (i := 1966) (by decide +kernel)⟩
theorem lw_p120 : lw_okq (⟨"SundayPitModel", "spanLeft", "(I)I"⟩, 120) := ⟨⟨by decide +kernel, by decide +kernel⟩, List.mem_of_getElem? (i := 1308) (by decide +kernel), List.mem_of_getElem? (i := 1969) (by decide +kernel), List.mem_of_getElem? (i := 1970) (by decide +kernel)⟩
theorem lw_p121 : lw_okq (⟨"SundayPitModel", "spanRight", "(I)I"⟩, 120) := ⟨⟨by decide +kernel, by decide +kernel⟩, List.mem_of_getElem? (i := 1308) (by decide +kernel), List.mem_of_getElem? (i := 1973) (by decide +kernel), List.mem_of_getElem? (i := 1974) (by decide +kernel)⟩
theorem lw_p122 : lw_okq (⟨"SundayPitModel", "codesTell", "(I)J"⟩, 120) := ⟨⟨by decide +kernel, by decide +kernel⟩, List.mem_of_getElem? (i := 1308) (by decide +kernel), List.mem_of_getElem? (i := 1977) (by decide +kernel), List.mem_of_getElem? (i := 1978) (by decide +kernel)⟩
theorem lw_p123 : lw_okq (⟨"SundayPitModel", "qPuts", "(J)V"⟩, 120) := ⟨⟨by decide +kernel, by decide +kernel⟩, List.mem_of_getElem? (i := 1308) (by decide +kernel), List.mem_of_getElem? (i := 1981) (by decide +kernel), List.mem_of_getElem? (i := 1982) (by decide +kernel)⟩
theorem lw_p124 : lw_okq (⟨"SundayPitModel", "qPartOf", "(II)J"⟩, 120) := ⟨⟨by decide +kernel, by decide +kernel⟩, List.mem_of_getElem? (i := 1308) (by decide +kernel), List.mem_of_getElem? (i := 1985) (by decide +kernel), List.mem_of_getElem? (i := 1986) (by decide +kernel)⟩
theorem lw_p125 : lw_okq (⟨"SundayPitModel", "qJoins", "(I)V"⟩, 120) := ⟨⟨by decide +kernel, by decide +kernel⟩, List.mem_of_getElem? (i := 1308) (by decide +kernel), List.mem_of_getElem? (i := 1989) (by decide +kernel), List.mem_of_getElem? (i := 1990) (by decide +kernel)⟩
theorem lw_p126 : lw_okq (⟨"SundayPitModel", "isKind", "(I)Z"⟩, 120) := ⟨⟨by decide +kernel, by decide +kernel⟩, List.mem_of_getElem? (i := 1308) (by decide +kernel), List.mem_of_getElem? (i := 2013) (by decide +kernel), List.mem_of_getElem? (i := 2014) (by decide +kernel)⟩
theorem lw_p127 : lw_okq (⟨"SundayPitModel", "cellsOf", "(IZ)I"⟩, 120) := ⟨⟨by decide +kernel, by decide +kernel⟩, List.mem_of_getElem? (i := 1308) (by decide +kernel), List.mem_of_getElem? (i := 2017) (by decide +kernel), List.mem_of_getElem? (i := 2018) (by decide +kernel)⟩
def lw_privs_8 : List (MethodName × Nat) := [(⟨"SundayPitModel", "mayBe", "(I)Z"⟩, 120), (⟨"SundayPitModel", "asksCell", "(I)V"⟩, 120), (⟨"SundayPitModel", "kindAt", "(I)I"⟩, 120), (⟨"SundayPitModel", "seamAt", "(II)I"⟩, 120), (⟨"SundayPitModel", "restOf", "(I)I"⟩, 120), (⟨"SundayPitModel", "gasOf", "(I)I"⟩, 120), (⟨"SundayPitModel", "nearOf", "(I)I"⟩, 120), (⟨"SundayPitModel", "spanOf", "(I)I"⟩, 120), (⟨"SundayPitModel", "spanLeft", "(I)I"⟩, 120), (⟨"SundayPitModel", "spanRight", "(I)I"⟩, 120), (⟨"SundayPitModel", "codesTell", "(I)J"⟩, 120), (⟨"SundayPitModel", "qPuts", "(J)V"⟩, 120), (⟨"SundayPitModel", "qPartOf", "(II)J"⟩, 120), (⟨"SundayPitModel", "qJoins", "(I)V"⟩, 120), (⟨"SundayPitModel", "isKind", "(I)Z"⟩, 120), (⟨"SundayPitModel", "cellsOf", "(IZ)I"⟩, 120)]
theorem lw_r8 : ∀ q ∈ lw_privs_8, lw_okq q := List.forall_mem_cons.mpr ⟨lw_p112, List.forall_mem_cons.mpr ⟨lw_p113, List.forall_mem_cons.mpr ⟨lw_p114, List.forall_mem_cons.mpr ⟨lw_p115, List.forall_mem_cons.mpr ⟨lw_p116, List.forall_mem_cons.mpr ⟨lw_p117, List.forall_mem_cons.mpr ⟨lw_p118, List.forall_mem_cons.mpr ⟨lw_p119, List.forall_mem_cons.mpr ⟨lw_p120, List.forall_mem_cons.mpr ⟨lw_p121, List.forall_mem_cons.mpr ⟨lw_p122, List.forall_mem_cons.mpr ⟨lw_p123, List.forall_mem_cons.mpr ⟨lw_p124, List.forall_mem_cons.mpr ⟨lw_p125, List.forall_mem_cons.mpr ⟨lw_p126, List.forall_mem_cons.mpr ⟨lw_p127, fun _ h => absurd h List.not_mem_nil⟩⟩⟩⟩⟩⟩⟩⟩⟩⟩⟩⟩⟩⟩⟩⟩
theorem lw_p128 : lw_okq (⟨"SundayPitModel", "isCell", "(I)Z"⟩, 120) := ⟨⟨by decide +kernel, by decide +kernel⟩, List.mem_of_getElem? (i := 1308) (by decide +kernel), List.mem_of_getElem? (i := 2025) (by decide +kernel), List.mem_of_getElem? (i := 2026) (by decide +kernel)⟩
theorem lw_p129 : lw_okq (⟨"SundayPitModel", "worthOf", "(I)I"⟩, 120) := ⟨⟨by decide +kernel, by decide +kernel⟩, List.mem_of_getElem? (i := 1308) (by decide +kernel), List.mem_of_getElem? (i := 2029) (by decide +kernel), List.mem_of_getElem? (i := 2030) (by decide +kernel)⟩
theorem lw_p130 : lw_okq (⟨"SundayPitModel", "tiltOf", "(I)I"⟩, 120) := ⟨⟨by decide +kernel, by decide +kernel⟩, List.mem_of_getElem? (i := 1308) (by decide +kernel), List.mem_of_getElem? (i := 2040) (by decide +kernel), List.mem_of_getElem? (i := 2041) (by decide +kernel)⟩
theorem lw_p131 : lw_okq (⟨"SundayPitModel", "putsAside", "(I)V"⟩, 120) := ⟨⟨by decide +kernel, by decide +kernel⟩, List.mem_of_getElem? (i := 1308) (by decide +kernel), List.mem_of_getElem? (i := 2048) (by decide +kernel), List.mem_of_getElem? (i := 2049) (by decide +kernel)⟩
theorem lw_p132 : lw_okq (⟨"SundayPitModel", "isCut", "(I)I"⟩, 120) := ⟨⟨by decide +kernel, by decide +kernel⟩, List.mem_of_getElem? (i := 1308) (by decide +kernel), List.mem_of_getElem? (i := 2052) (by decide +kernel), List.mem_of_getElem? (i := 2053) (by decide +kernel)⟩
theorem lw_p133 : lw_okq (⟨"SundayPitModel", "takesBack", "(I)V"⟩, 120) := ⟨⟨by decide +kernel, by decide +kernel⟩, List.mem_of_getElem? (i := 1308) (by decide +kernel), List.mem_of_getElem? (i := 2056) (by decide +kernel), List.mem_of_getElem? (i := 2057) (by decide +kernel)⟩
theorem lw_p134 : lw_okq (⟨"SundayPitModel", "seeksBest", "(I)V"⟩, 120) := ⟨⟨by decide +kernel, by decide +kernel⟩, List.mem_of_getElem? (i := 1308) (by decide +kernel), List.mem_of_getElem? (i := 2069) (by decide +kernel), List.mem_of_getElem? (i := 2070) (by decide +kernel)⟩
theorem lw_p135 : lw_okq (⟨"SundayPitModel", "opens", "(I)V"⟩, 120) := ⟨⟨by decide +kernel, by decide +kernel⟩, List.mem_of_getElem? (i := 1308) (by decide +kernel), List.mem_of_getElem? (i := 2073) (by decide +kernel), List.mem_of_getElem? (i := 2074) (by decide +kernel)⟩
theorem lw_p136 : lw_okq (⟨"SundayPitModel", "nextTried", "(I)I"⟩, 120) := ⟨⟨by decide +kernel, by decide +kernel⟩, List.mem_of_getElem? (i := 1308) (by decide +kernel), List.mem_of_getElem? (i := 2077) (by decide +kernel), List.mem_of_getElem? (i := 2078) (by decide +kernel)⟩
theorem lw_p137 : lw_okq (⟨"SundayPitModel", "isBest", "(II)V"⟩, 120) := ⟨⟨by decide +kernel, by decide +kernel⟩, List.mem_of_getElem? (i := 1308) (by decide +kernel), List.mem_of_getElem? (i := 2081) (by decide +kernel), List.mem_of_getElem? (i := 2082) (by decide +kernel)⟩
theorem lw_p138 : lw_okq (⟨"SundayPitModel", "seeksRivals", "(II)V"⟩, 120) := ⟨⟨by decide +kernel, by decide +kernel⟩, List.mem_of_getElem? (i := 1308) (by decide +kernel), List.mem_of_getElem? (i := 2090) (by decide +kernel), List.mem_of_getElem? (i := 2091) (by decide +kernel)⟩
theorem lw_p139 : lw_okq (⟨"SundayPitModel", "opensRival", "(II)V"⟩, 120) := ⟨⟨by decide +kernel, by decide +kernel⟩, List.mem_of_getElem? (i := 1308) (by decide +kernel), List.mem_of_getElem? (i := 2094) (by decide +kernel), List.mem_of_getElem? (i := 2095) (by decide +kernel)⟩
theorem lw_p140 : lw_okq (⟨"SundayPitModel", "answers", "(III)V"⟩, 120) := ⟨⟨by decide +kernel, by decide +kernel⟩, List.mem_of_getElem? (i := 1308) (by decide +kernel), List.mem_of_getElem? (i := 2098) (by decide +kernel), List.mem_of_getElem? (i := 2099) (by decide +kernel)⟩
theorem lw_p141 : lw_okq (⟨"SundayPitModel", "isStored", "(I)Z"⟩, 120) := ⟨⟨by decide +kernel, by decide +kernel⟩, List.mem_of_getElem? (i := 1308) (by decide +kernel), List.mem_of_getElem? (i := 2107) (by decide +kernel), List.mem_of_getElem? (i := 2108) (by decide +kernel)⟩
theorem lw_p142 : lw_okq (⟨"SundayPitModel", "storesUsed", "()I"⟩, 120) := ⟨⟨by decide +kernel, by decide +kernel⟩, List.mem_of_getElem? (i := 1308) (by decide +kernel), List.mem_of_getElem? (i := 2111) (by decide +kernel), List.mem_of_getElem? (i := 2112) (by decide +kernel)⟩
theorem lw_p143 : lw_okq (⟨"SundayPitModel", "refuses", "()I"⟩, 120) := ⟨⟨by decide +kernel, by decide +kernel⟩, List.mem_of_getElem? (i := 1308) (by decide +kernel), List.mem_of_getElem? (i := 2123) (by decide +kernel), List.mem_of_getElem? (i := 2124) (by decide +kernel)⟩
def lw_privs_9 : List (MethodName × Nat) := [(⟨"SundayPitModel", "isCell", "(I)Z"⟩, 120), (⟨"SundayPitModel", "worthOf", "(I)I"⟩, 120), (⟨"SundayPitModel", "tiltOf", "(I)I"⟩, 120), (⟨"SundayPitModel", "putsAside", "(I)V"⟩, 120), (⟨"SundayPitModel", "isCut", "(I)I"⟩, 120), (⟨"SundayPitModel", "takesBack", "(I)V"⟩, 120), (⟨"SundayPitModel", "seeksBest", "(I)V"⟩, 120), (⟨"SundayPitModel", "opens", "(I)V"⟩, 120), (⟨"SundayPitModel", "nextTried", "(I)I"⟩, 120), (⟨"SundayPitModel", "isBest", "(II)V"⟩, 120), (⟨"SundayPitModel", "seeksRivals", "(II)V"⟩, 120), (⟨"SundayPitModel", "opensRival", "(II)V"⟩, 120), (⟨"SundayPitModel", "answers", "(III)V"⟩, 120), (⟨"SundayPitModel", "isStored", "(I)Z"⟩, 120), (⟨"SundayPitModel", "storesUsed", "()I"⟩, 120), (⟨"SundayPitModel", "refuses", "()I"⟩, 120)]
theorem lw_r9 : ∀ q ∈ lw_privs_9, lw_okq q := List.forall_mem_cons.mpr ⟨lw_p128, List.forall_mem_cons.mpr ⟨lw_p129, List.forall_mem_cons.mpr ⟨lw_p130, List.forall_mem_cons.mpr ⟨lw_p131, List.forall_mem_cons.mpr ⟨lw_p132, List.forall_mem_cons.mpr ⟨lw_p133, List.forall_mem_cons.mpr ⟨lw_p134, List.forall_mem_cons.mpr ⟨lw_p135, List.forall_mem_cons.mpr ⟨lw_p136, List.forall_mem_cons.mpr ⟨lw_p137, List.forall_mem_cons.mpr ⟨lw_p138, List.forall_mem_cons.mpr ⟨lw_p139, List.forall_mem_cons.mpr ⟨lw_p140, List.forall_mem_cons.mpr ⟨lw_p141, List.forall_mem_cons.mpr ⟨lw_p142, List.forall_mem_cons.mpr ⟨lw_p143, fun _ h => absurd h List.not_mem_nil⟩⟩⟩⟩⟩⟩⟩⟩⟩⟩⟩⟩⟩⟩⟩⟩
theorem lw_p144 : lw_okq (⟨"SundayPitModel", "keeps", "()V"⟩, 120) := ⟨⟨by decide +kernel, by decide +kernel⟩, List.mem_of_getElem? (i := 1308) (by decide +kernel), List.mem_of_getElem? (i := 2127) (by decide +kernel), List.mem_of_getElem? (i := 2128) (by decide +kernel)⟩
theorem lw_p145 : lw_okq (⟨"SundayPitModel", "dayGoes", "()Z"⟩, 120) := ⟨⟨by decide +kernel, by decide +kernel⟩, List.mem_of_getElem? (i := 1308) (by decide +kernel), List.mem_of_getElem? (i := 2148) (by decide +kernel), List.mem_of_getElem? (i := 2149) (by decide +kernel)⟩
theorem lw_p146 : lw_okq (⟨"SundayPitModel", "drawOf", "(I)I"⟩, 120) := ⟨⟨by decide +kernel, by decide +kernel⟩, List.mem_of_getElem? (i := 1308) (by decide +kernel), List.mem_of_getElem? (i := 2152) (by decide +kernel), List.mem_of_getElem? (i := 2153) (by decide +kernel)⟩
theorem lw_p147 : lw_okq (⟨"SundayPitModel", "blasts", "(II)V"⟩, 120) := ⟨⟨by decide +kernel, by decide +kernel⟩, List.mem_of_getElem? (i := 1308) (by decide +kernel), List.mem_of_getElem? (i := 2163) (by decide +kernel), List.mem_of_getElem? (i := 2164) (by decide +kernel)⟩
theorem lw_p148 : lw_okq (⟨"SundayPitModel", "fitting", "()I"⟩, 120) := ⟨⟨by decide +kernel, by decide +kernel⟩, List.mem_of_getElem? (i := 1308) (by decide +kernel), List.mem_of_getElem? (i := 2176) (by decide +kernel), List.mem_of_getElem? (i := 2177) (by decide +kernel)⟩
theorem lw_p149 : lw_okq (⟨"SundayPitModel", "isFit", "(I)Z"⟩, 120) := ⟨⟨by decide +kernel, by decide +kernel⟩, List.mem_of_getElem? (i := 1308) (by decide +kernel), List.mem_of_getElem? (i := 2180) (by decide +kernel), List.mem_of_getElem? (i := 2181) (by decide +kernel)⟩
theorem lw_p150 : lw_okq (⟨"SundayPitModel", "shifted", "(III)I"⟩, 120) := ⟨⟨by decide +kernel, by decide +kernel⟩, List.mem_of_getElem? (i := 1308) (by decide +kernel), List.mem_of_getElem? (i := 2184) (by decide +kernel), List.mem_of_getElem? (i := 2185) (by decide +kernel)⟩
theorem lw_p151 : lw_okq (⟨"SundayPitModel", "alikeAt", "(II)I"⟩, 120) := ⟨⟨by decide +kernel, by decide +kernel⟩, List.mem_of_getElem? (i := 1308) (by decide +kernel), List.mem_of_getElem? (i := 2192) (by decide +kernel), List.mem_of_getElem? (i := 2193) (by decide +kernel)⟩
theorem lw_p152 : lw_okq (⟨"SundayPitModel", "fewestOf", "(II)I"⟩, 120) := ⟨⟨by decide +kernel, by decide +kernel⟩, List.mem_of_getElem? (i := 1308) (by decide +kernel), List.mem_of_getElem? (i := 2202) (by decide +kernel), List.mem_of_getElem? (i := 2203) (by decide +kernel)⟩
theorem lw_p153 : lw_okq (⟨"SundayPitModel", "laysWays", "(II)V"⟩, 120) := ⟨⟨by decide +kernel, by decide +kernel⟩, List.mem_of_getElem? (i := 1308) (by decide +kernel), List.mem_of_getElem? (i := 2206) (by decide +kernel), List.mem_of_getElem? (i := 2207) (by decide +kernel)⟩
theorem lw_p154 : lw_okq (⟨"SundayPitModel", "addsKind", "(II)V"⟩, 120) := ⟨⟨by decide +kernel, by decide +kernel⟩, List.mem_of_getElem? (i := 1308) (by decide +kernel), List.mem_of_getElem? (i := 2210) (by decide +kernel), List.mem_of_getElem? (i := 2211) (by decide +kernel)⟩
theorem lw_p155 : lw_okq (⟨"SundayPitModel", "qKind", "()I"⟩, 120) := ⟨⟨by decide +kernel, by decide +kernel⟩, List.mem_of_getElem? (i := 1308) (by decide +kernel), List.mem_of_getElem? (i := 2218) (by decide +kernel), List.mem_of_getElem? (i := 2219) (by decide +kernel)⟩
theorem lw_p156 : lw_okq (⟨"SundayPitModel", "qTold", "(I)J"⟩, 120) := ⟨⟨by decide +kernel, by decide +kernel⟩, List.mem_of_getElem? (i := 1308) (by decide +kernel), List.mem_of_getElem? (i := 2223) (by decide +kernel), List.mem_of_getElem? (i := 2224) (by decide +kernel)⟩
theorem lw_p157 : lw_okq (⟨"SundayPitModel", "qOf", "(IJI)J"⟩, 120) := ⟨⟨by decide +kernel, by decide +kernel⟩, List.mem_of_getElem? (i := 1308) (by decide +kernel), List.mem_of_getElem? (i := 2227) (by decide +kernel), List.mem_of_getElem? (i := 2228) (by decide +kernel)⟩
theorem lw_p158 : lw_okq (⟨"SundayPitModel", "qTakes", "(IJI)V"⟩, 120) := ⟨⟨by decide +kernel, by decide +kernel⟩, List.mem_of_getElem? (i := 1308) (by decide +kernel), List.mem_of_getElem? (i := 2231) (by decide +kernel), List.mem_of_getElem? (i := 2232) (by decide +kernel)⟩
theorem lw_p159 : lw_okq (⟨"SundayPitModel", "writes", "(I)V"⟩, 120) := ⟨⟨by decide +kernel, by decide +kernel⟩, List.mem_of_getElem? (i := 1308) (by decide +kernel), List.mem_of_getElem? (i := 2239) (by decide +kernel), List.mem_of_getElem? (i := 2240) (by decide +kernel)⟩
def lw_privs_10 : List (MethodName × Nat) := [(⟨"SundayPitModel", "keeps", "()V"⟩, 120), (⟨"SundayPitModel", "dayGoes", "()Z"⟩, 120), (⟨"SundayPitModel", "drawOf", "(I)I"⟩, 120), (⟨"SundayPitModel", "blasts", "(II)V"⟩, 120), (⟨"SundayPitModel", "fitting", "()I"⟩, 120), (⟨"SundayPitModel", "isFit", "(I)Z"⟩, 120), (⟨"SundayPitModel", "shifted", "(III)I"⟩, 120), (⟨"SundayPitModel", "alikeAt", "(II)I"⟩, 120), (⟨"SundayPitModel", "fewestOf", "(II)I"⟩, 120), (⟨"SundayPitModel", "laysWays", "(II)V"⟩, 120), (⟨"SundayPitModel", "addsKind", "(II)V"⟩, 120), (⟨"SundayPitModel", "qKind", "()I"⟩, 120), (⟨"SundayPitModel", "qTold", "(I)J"⟩, 120), (⟨"SundayPitModel", "qOf", "(IJI)J"⟩, 120), (⟨"SundayPitModel", "qTakes", "(IJI)V"⟩, 120), (⟨"SundayPitModel", "writes", "(I)V"⟩, 120)]
theorem lw_r10 : ∀ q ∈ lw_privs_10, lw_okq q := List.forall_mem_cons.mpr ⟨lw_p144, List.forall_mem_cons.mpr ⟨lw_p145, List.forall_mem_cons.mpr ⟨lw_p146, List.forall_mem_cons.mpr ⟨lw_p147, List.forall_mem_cons.mpr ⟨lw_p148, List.forall_mem_cons.mpr ⟨lw_p149, List.forall_mem_cons.mpr ⟨lw_p150, List.forall_mem_cons.mpr ⟨lw_p151, List.forall_mem_cons.mpr ⟨lw_p152, List.forall_mem_cons.mpr ⟨lw_p153, List.forall_mem_cons.mpr ⟨lw_p154, List.forall_mem_cons.mpr ⟨lw_p155, List.forall_mem_cons.mpr ⟨lw_p156, List.forall_mem_cons.mpr ⟨lw_p157, List.forall_mem_cons.mpr ⟨lw_p158, List.forall_mem_cons.mpr ⟨lw_p159, fun _ h => absurd h List.not_mem_nil⟩⟩⟩⟩⟩⟩⟩⟩⟩⟩⟩⟩⟩⟩⟩⟩
theorem lw_p160 : lw_okq (⟨"SundayPitModel", "writesThree", "(I)V"⟩, 120) := ⟨⟨by decide +kernel, by decide +kernel⟩, List.mem_of_getElem? (i := 1308) (by decide +kernel), List.mem_of_getElem? (i := 2243) (by decide +kernel), List.mem_of_getElem? (i := 2244) (by decide +kernel)⟩
theorem lw_p161 : lw_okq (⟨"SundayPitModel", "isTold", "(I)Z"⟩, 120) := ⟨⟨by decide +kernel, by decide +kernel⟩, List.mem_of_getElem? (i := 1308) (by decide +kernel), List.mem_of_getElem? (i := 2259) (by decide +kernel), List.mem_of_getElem? (i := 2260) (by decide +kernel)⟩
theorem lw_p162 : lw_okq (⟨"SundayPitModel", "threeAt", "(I)I"⟩, 120) := ⟨⟨by decide +kernel, by decide +kernel⟩, List.mem_of_getElem? (i := 1308) (by decide +kernel), List.mem_of_getElem? (i := 2263) (by decide +kernel), List.mem_of_getElem? (i := 2264) (by decide +kernel)⟩
def lw_privs_11 : List (MethodName × Nat) := [(⟨"SundayPitModel", "writesThree", "(I)V"⟩, 120), (⟨"SundayPitModel", "isTold", "(I)Z"⟩, 120), (⟨"SundayPitModel", "threeAt", "(I)I"⟩, 120)]
theorem lw_r11 : ∀ q ∈ lw_privs_11, lw_okq q := List.forall_mem_cons.mpr ⟨lw_p160, List.forall_mem_cons.mpr ⟨lw_p161, List.forall_mem_cons.mpr ⟨lw_p162, fun _ h => absurd h List.not_mem_nil⟩⟩⟩
def lw_privs : List (MethodName × Nat) := lw_privs_1 ++ (lw_privs_2 ++ (lw_privs_3 ++ (lw_privs_4 ++ (lw_privs_5 ++ (lw_privs_6 ++ (lw_privs_7 ++ (lw_privs_8 ++ (lw_privs_9 ++ (lw_privs_10 ++ (lw_privs_11))))))))))
def lw_tbl : List Cond := k2_sels lw_privs ++ tables_1
theorem lw_privs_ok : ∀ q ∈ lw_privs, lw_okq q := by
  show ∀ q ∈ lw_privs_1 ++ (lw_privs_2 ++ (lw_privs_3 ++ (lw_privs_4 ++ (lw_privs_5 ++ (lw_privs_6 ++ (lw_privs_7 ++ (lw_privs_8 ++ (lw_privs_9 ++ (lw_privs_10 ++ (lw_privs_11)))))))))), lw_okq q
  exact List.forall_mem_append.mpr ⟨lw_r1, List.forall_mem_append.mpr ⟨lw_r2, List.forall_mem_append.mpr ⟨lw_r3, List.forall_mem_append.mpr ⟨lw_r4, List.forall_mem_append.mpr ⟨lw_r5, List.forall_mem_append.mpr ⟨lw_r6, List.forall_mem_append.mpr ⟨lw_r7, List.forall_mem_append.mpr ⟨lw_r8, List.forall_mem_append.mpr ⟨lw_r9, List.forall_mem_append.mpr ⟨lw_r10, lw_r11⟩⟩⟩⟩⟩⟩⟩⟩⟩⟩
end
section
def RX0 : String := "SundayPit$Bores"
def TX0 : u_T := fun k => match k with
  | 0 => ("SundayPit$Bores", "plan", "LSundayPit$Plan;", true)
  | 1 => ("SundayPit$Bores", "rows", "[I", true)
  | 2 => ("SundayPit$Bores", "alike", "[I", true)
  | _ => ("SundayPit$Bores", "count", "I", false)
def tyX0 : Nat → FieldType := fun k => match k with
  | 0 => .object "SundayPit$Plan"
  | 1 => .array .int
  | 2 => .array .int
  | _ => .int
theorem nmX0 : ∀ a, a < 4 → ∀ b, b < 4 → a ≠ b → (TX0 a).2.1 ≠ (TX0 b).2.1 := by decide +kernel
theorem tyX0_ok : ∀ k, k < 4 → parseFieldDescriptor (TX0 k).2.2.1 = some (tyX0 k) := by decide +kernel
abbrev cX0_init : ByteArray := prog_2_method_1_code
def yX0_init : MethodName := ⟨RX0, "<init>", "(LSundayPit$Plan;)V"⟩
abbrev cX0_forget : ByteArray := prog_2_method_2_code
def yX0_forget : MethodName := ⟨RX0, "forget", "()V"⟩
abbrev cX0_readRows : ByteArray := prog_2_method_3_code
def yX0_readRows : MethodName := ⟨RX0, "readRows", "(LSundayPit$Tape;)I"⟩
abbrev cX0_shifted : ByteArray := prog_2_method_4_code
def yX0_shifted : MethodName := ⟨RX0, "shifted", "(III)I"⟩
abbrev cX0_isFit : ByteArray := prog_2_method_5_code
def yX0_isFit : MethodName := ⟨RX0, "isFit", "(I)Z"⟩
abbrev cX0_fitBits : ByteArray := prog_2_method_6_code
def yX0_fitBits : MethodName := ⟨RX0, "fitBits", "()I"⟩
abbrev cX0_firstFit : ByteArray := prog_2_method_7_code
def yX0_firstFit : MethodName := ⟨RX0, "firstFit", "()I"⟩
abbrev cX0_nextCell : ByteArray := prog_2_method_8_code
def yX0_nextCell : MethodName := ⟨RX0, "nextCell", "()I"⟩
abbrev cX0_mostAlike : ByteArray := prog_2_method_9_code
def yX0_mostAlike : MethodName := ⟨RX0, "mostAlike", "(I)I"⟩
abbrev cX0_countAlike : ByteArray := prog_2_method_10_code
def yX0_countAlike : MethodName := ⟨RX0, "countAlike", "(II)I"⟩
def RX1 : String := "SundayPit$Ground"
def TX1 : u_T := fun k => match k with
  | 0 => ("SundayPit$Ground", "state", "[I", true)
  | 1 => ("SundayPit$Ground", "store", "[I", true)
  | 2 => ("SundayPit$Ground", "props", "I", false)
  | 3 => ("SundayPit$Ground", "worth", "I", false)
  | _ => ("SundayPit$Ground", "rest", "I", false)
def tyX1 : Nat → FieldType := fun k => match k with
  | 0 => .array .int
  | 1 => .array .int
  | 2 => .int
  | 3 => .int
  | _ => .int
theorem nmX1 : ∀ a, a < 5 → ∀ b, b < 5 → a ≠ b → (TX1 a).2.1 ≠ (TX1 b).2.1 := by decide +kernel
theorem tyX1_ok : ∀ k, k < 5 → parseFieldDescriptor (TX1 k).2.2.1 = some (tyX1 k) := by decide +kernel
abbrev cX1_init : ByteArray := prog_3_method_1_code
def yX1_init : MethodName := ⟨RX1, "<init>", "()V"⟩
abbrev cX1_start : ByteArray := prog_3_method_2_code
def yX1_start : MethodName := ⟨RX1, "start", "(LSundayPit$Plan;)V"⟩
abbrev cX1_copyFrom : ByteArray := prog_3_method_3_code
def yX1_copyFrom : MethodName := ⟨RX1, "copyFrom", "(LSundayPit$Ground;)V"⟩
abbrev cX1_is : ByteArray := prog_3_method_4_code
def yX1_is : MethodName := ⟨RX1, "is", "(II)Z"⟩
abbrev cX1_isOpen : ByteArray := prog_3_method_5_code
def yX1_isOpen : MethodName := ⟨RX1, "isOpen", "(I)Z"⟩
abbrev cX1_tally : ByteArray := prog_3_method_6_code
def yX1_tally : MethodName := ⟨RX1, "tally", "(I)I"⟩
abbrev cX1_tubs : ByteArray := prog_3_method_7_code
def yX1_tubs : MethodName := ⟨RX1, "tubs", "(I)I"⟩
abbrev cX1_tubsInAll : ByteArray := prog_3_method_8_code
def yX1_tubsInAll : MethodName := ⟨RX1, "tubsInAll", "()I"⟩
abbrev cX1_write : ByteArray := prog_3_method_9_code
def yX1_write : MethodName := ⟨RX1, "write", "(LSundayPit$Plan;LSundayPit$Tape;)V"⟩
abbrev cX1_isImage : ByteArray := prog_3_method_10_code
def yX1_isImage : MethodName := ⟨RX1, "isImage", "(LSundayPit$Plan;LSundayPit$Tape;)Z"⟩
abbrev cX1_read : ByteArray := prog_3_method_11_code
def yX1_read : MethodName := ⟨RX1, "read", "(LSundayPit$Plan;LSundayPit$Tape;)V"⟩
def RX2 : String := "SundayPit$History"
def TX2 : u_T := fun k => match k with
  | 0 => ("SundayPit$History", "kept", "[LSundayPit$Ground;", true)
  | 1 => ("SundayPit$History", "first", "I", false)
  | _ => ("SundayPit$History", "count", "I", false)
def tyX2 : Nat → FieldType := fun k => match k with
  | 0 => .array (.object "SundayPit$Ground")
  | 1 => .int
  | _ => .int
theorem nmX2 : ∀ a, a < 3 → ∀ b, b < 3 → a ≠ b → (TX2 a).2.1 ≠ (TX2 b).2.1 := by decide +kernel
theorem tyX2_ok : ∀ k, k < 3 → parseFieldDescriptor (TX2 k).2.2.1 = some (tyX2 k) := by decide +kernel
abbrev cX2_init : ByteArray := prog_4_method_1_code
def yX2_init : MethodName := ⟨RX2, "<init>", "()V"⟩
abbrev cX2_size : ByteArray := prog_4_method_2_code
def yX2_size : MethodName := ⟨RX2, "size", "()I"⟩
abbrev cX2_forget : ByteArray := prog_4_method_3_code
def yX2_forget : MethodName := ⟨RX2, "forget", "()V"⟩
abbrev cX2_keep : ByteArray := prog_4_method_4_code
def yX2_keep : MethodName := ⟨RX2, "keep", "(LSundayPit$Ground;)V"⟩
abbrev cX2_giveBack : ByteArray := prog_4_method_5_code
def yX2_giveBack : MethodName := ⟨RX2, "giveBack", "(LSundayPit$Ground;)Z"⟩
def RX3 : String := "SundayPit$Mine"
def TX3 : u_T := fun k => match k with
  | 0 => ("SundayPit$Mine", "plan", "LSundayPit$Plan;", true)
  | 1 => ("SundayPit$Mine", "ground", "LSundayPit$Ground;", true)
  | 2 => ("SundayPit$Mine", "reached", "[I", true)
  | 3 => ("SundayPit$Mine", "queue", "[I", true)
  | 4 => ("SundayPit$Mine", "stack", "[I", true)
  | 5 => ("SundayPit$Mine", "facts", "[I", true)
  | _ => ("SundayPit$Mine", "waiting", "I", false)
def tyX3 : Nat → FieldType := fun k => match k with
  | 0 => .object "SundayPit$Plan"
  | 1 => .object "SundayPit$Ground"
  | 2 => .array .int
  | 3 => .array .int
  | 4 => .array .int
  | 5 => .array .int
  | _ => .int
theorem nmX3 : ∀ a, a < 7 → ∀ b, b < 7 → a ≠ b → (TX3 a).2.1 ≠ (TX3 b).2.1 := by decide +kernel
theorem tyX3_ok : ∀ k, k < 7 → parseFieldDescriptor (TX3 k).2.2.1 = some (tyX3 k) := by decide +kernel
abbrev cX3_init : ByteArray := prog_5_method_1_code
def yX3_init : MethodName := ⟨RX3, "<init>", "(LSundayPit$Plan;LSundayPit$Ground;)V"⟩
abbrev cX3_look : ByteArray := prog_5_method_2_code
def yX3_look : MethodName := ⟨RX3, "look", "()V"⟩
abbrev cX3_reach : ByteArray := prog_5_method_3_code
def yX3_reach : MethodName := ⟨RX3, "reach", "(I)V"⟩
abbrev cX3_isReached : ByteArray := prog_5_method_4_code
def yX3_isReached : MethodName := ⟨RX3, "isReached", "(I)Z"⟩
abbrev cX3_why : ByteArray := prog_5_method_5_code
def yX3_why : MethodName := ⟨RX3, "why", "(I)I"⟩
abbrev cX3_isBesideReached : ByteArray := prog_5_method_6_code
def yX3_isBesideReached : MethodName := ⟨RX3, "isBesideReached", "(I)Z"⟩
abbrev cX3_countCuttable : ByteArray := prog_5_method_7_code
def yX3_countCuttable : MethodName := ⟨RX3, "countCuttable", "()I"⟩
abbrev cX3_cuttable : ByteArray := prog_5_method_8_code
def yX3_cuttable : MethodName := ⟨RX3, "cuttable", "(I)I"⟩
abbrev cX3_countOfKind : ByteArray := prog_5_method_9_code
def yX3_countOfKind : MethodName := ⟨RX3, "countOfKind", "(IZ)I"⟩
abbrev cX3_near : ByteArray := prog_5_method_10_code
def yX3_near : MethodName := ⟨RX3, "near", "(I)I"⟩
abbrev cX3_spanStart : ByteArray := prog_5_method_11_code
def yX3_spanStart : MethodName := ⟨RX3, "spanStart", "(I)I"⟩
abbrev cX3_spanEnd : ByteArray := prog_5_method_12_code
def yX3_spanEnd : MethodName := ⟨RX3, "spanEnd", "(I)I"⟩
abbrev cX3_span : ByteArray := prog_5_method_13_code
def yX3_span : MethodName := ⟨RX3, "span", "(I)I"⟩
abbrev cX3_wouldFall : ByteArray := prog_5_method_14_code
def yX3_wouldFall : MethodName := ⟨RX3, "wouldFall", "(I)Z"⟩
abbrev cX3_price : ByteArray := prog_5_method_15_code
def yX3_price : MethodName := ⟨RX3, "price", "(I)I"⟩
abbrev cX3_dig : ByteArray := prog_5_method_16_code
def yX3_dig : MethodName := ⟨RX3, "dig", "(II)V"⟩
abbrev cX3_blast : ByteArray := prog_5_method_17_code
def yX3_blast : MethodName := ⟨RX3, "blast", "(II)V"⟩
abbrev cX3_fell : ByteArray := prog_5_method_18_code
def yX3_fell : MethodName := ⟨RX3, "fell", "(I)V"⟩
abbrev cX3_tiltOf : ByteArray := prog_5_method_19_code
def yX3_tiltOf : MethodName := ⟨RX3, "tiltOf", "(I)I"⟩
abbrev cX3_loadCell : ByteArray := prog_5_method_20_code
def yX3_loadCell : MethodName := ⟨RX3, "loadCell", "(I)V"⟩
abbrev cX3_loadHouse : ByteArray := prog_5_method_21_code
def yX3_loadHouse : MethodName := ⟨RX3, "loadHouse", "(I)V"⟩
abbrev cX3_value : ByteArray := prog_5_method_22_code
def yX3_value : MethodName := ⟨RX3, "value", "([II)I"⟩
abbrev cX3_factAt : ByteArray := prog_5_method_23_code
def yX3_factAt : MethodName := ⟨RX3, "factAt", "(I)I"⟩
abbrev cX3_join : ByteArray := prog_5_method_24_code
def yX3_join : MethodName := ⟨RX3, "join", "(III)I"⟩
def RX4 : String := "SundayPit$Plan"
def TX4 : u_T := fun k => match k with
  | 0 => ("SundayPit$Plan", "statements", "I", false)
  | 1 => ("SundayPit$Plan", "cells", "I", false)
  | 2 => ("SundayPit$Plan", "columns", "I", false)
  | 3 => ("SundayPit$Plan", "shaft", "I", false)
  | 4 => ("SundayPit$Plan", "rows", "I", false)
  | 5 => ("SundayPit$Plan", "kinds", "I", false)
  | 6 => ("SundayPit$Plan", "houses", "I", false)
  | 7 => ("SundayPit$Plan", "mixes", "I", false)
  | 8 => ("SundayPit$Plan", "settings", "[I", true)
  | 9 => ("SundayPit$Plan", "formulas", "[I", true)
  | 10 => ("SundayPit$Plan", "rest", "[I", true)
  | 11 => ("SundayPit$Plan", "gas", "[I", true)
  | 12 => ("SundayPit$Plan", "foes", "[I", true)
  | 13 => ("SundayPit$Plan", "kindNames", "[I", true)
  | 14 => ("SundayPit$Plan", "houseNames", "[I", true)
  | 15 => ("SundayPit$Plan", "houseColumns", "[I", true)
  | 16 => ("SundayPit$Plan", "seam", "[I", true)
  | 17 => ("SundayPit$Plan", "besides", "[I", true)
  | _ => ("SundayPit$Plan", "code", "[I", true)
def tyX4 : Nat → FieldType := fun k => match k with
  | 0 => .int
  | 1 => .int
  | 2 => .int
  | 3 => .int
  | 4 => .int
  | 5 => .int
  | 6 => .int
  | 7 => .int
  | 8 => .array .int
  | 9 => .array .int
  | 10 => .array .int
  | 11 => .array .int
  | 12 => .array .int
  | 13 => .array .int
  | 14 => .array .int
  | 15 => .array .int
  | 16 => .array .int
  | 17 => .array .int
  | _ => .array .int
theorem nmX4 : ∀ a, a < 19 → ∀ b, b < 19 → a ≠ b → (TX4 a).2.1 ≠ (TX4 b).2.1 := by decide +kernel
theorem tyX4_ok : ∀ k, k < 19 → parseFieldDescriptor (TX4 k).2.2.1 = some (tyX4 k) := by decide +kernel
abbrev cX4_init : ByteArray := prog_6_method_1_code
def yX4_init : MethodName := ⟨RX4, "<init>", "()V"⟩
abbrev cX4_clear : ByteArray := prog_6_method_2_code
def yX4_clear : MethodName := ⟨RX4, "clear", "()V"⟩
abbrev cX4_copyFrom : ByteArray := prog_6_method_3_code
def yX4_copyFrom : MethodName := ⟨RX4, "copyFrom", "(LSundayPit$Plan;)V"⟩
abbrev cX4_copyRow : ByteArray := prog_6_method_4_code
def yX4_copyRow : MethodName := ⟨RX4, "copyRow", "([I[I)V"⟩
abbrev cX4_isTold : ByteArray := prog_6_method_5_code
def yX4_isTold : MethodName := ⟨RX4, "isTold", "()Z"⟩
abbrev cX4_layOut : ByteArray := prog_6_method_6_code
def yX4_layOut : MethodName := ⟨RX4, "layOut", "()V"⟩
abbrev cX4_isCell : ByteArray := prog_6_method_7_code
def yX4_isCell : MethodName := ⟨RX4, "isCell", "(I)Z"⟩
abbrev cX4_columnOf : ByteArray := prog_6_method_8_code
def yX4_columnOf : MethodName := ⟨RX4, "columnOf", "(I)I"⟩
abbrev cX4_rowOf : ByteArray := prog_6_method_9_code
def yX4_rowOf : MethodName := ⟨RX4, "rowOf", "(I)I"⟩
abbrev cX4_toldAt : ByteArray := prog_6_method_10_code
def yX4_toldAt : MethodName := ⟨RX4, "toldAt", "(II)I"⟩
abbrev cX4_kindOf : ByteArray := prog_6_method_11_code
def yX4_kindOf : MethodName := ⟨RX4, "kindOf", "(I)I"⟩
abbrev cX4_restOf : ByteArray := prog_6_method_12_code
def yX4_restOf : MethodName := ⟨RX4, "restOf", "(I)I"⟩
abbrev cX4_gasOf : ByteArray := prog_6_method_13_code
def yX4_gasOf : MethodName := ⟨RX4, "gasOf", "(I)I"⟩
abbrev cX4_beside : ByteArray := prog_6_method_14_code
def yX4_beside : MethodName := ⟨RX4, "beside", "(II)I"⟩
abbrev cX4_findName : ByteArray := prog_6_method_15_code
def yX4_findName : MethodName := ⟨RX4, "findName", "([II[I)I"⟩
abbrev cX4_isName : ByteArray := prog_6_method_16_code
def yX4_isName : MethodName := ⟨RX4, "isName", "([II[I)Z"⟩
def RX5 : String := "SundayPit$PlanReader"
def TX5 : u_T := fun k => match k with
  | 0 => ("SundayPit$PlanReader", "reader", "LSundayPit$Reader;", true)
  | _ => ("SundayPit$PlanReader", "draft", "LSundayPit$Plan;", true)
def tyX5 : Nat → FieldType := fun k => match k with
  | 0 => .object "SundayPit$Reader"
  | _ => .object "SundayPit$Plan"
theorem nmX5 : ∀ a, a < 2 → ∀ b, b < 2 → a ≠ b → (TX5 a).2.1 ≠ (TX5 b).2.1 := by decide +kernel
theorem tyX5_ok : ∀ k, k < 2 → parseFieldDescriptor (TX5 k).2.2.1 = some (tyX5 k) := by decide +kernel
abbrev cX5_init : ByteArray := prog_7_method_1_code
def yX5_init : MethodName := ⟨RX5, "<init>", "(LSundayPit$Reader;LSundayPit$Plan;)V"⟩
abbrev cX5_readPlan : ByteArray := prog_7_method_2_code
def yX5_readPlan : MethodName := ⟨RX5, "readPlan", "(LSundayPit$Tape;)Z"⟩
abbrev cX5_readStatement : ByteArray := prog_7_method_3_code
def yX5_readStatement : MethodName := ⟨RX5, "readStatement", "()Z"⟩
abbrev cX5_readPit : ByteArray := prog_7_method_4_code
def yX5_readPit : MethodName := ⟨RX5, "readPit", "()Z"⟩
abbrev cX5_readKind : ByteArray := prog_7_method_5_code
def yX5_readKind : MethodName := ⟨RX5, "readKind", "()Z"⟩
abbrev cX5_giveName : ByteArray := prog_7_method_6_code
def yX5_giveName : MethodName := ⟨RX5, "giveName", "([II)Z"⟩
abbrev cX5_readRow : ByteArray := prog_7_method_7_code
def yX5_readRow : MethodName := ⟨RX5, "readRow", "()Z"⟩
abbrev cX5_toldBy : ByteArray := prog_7_method_8_code
def yX5_toldBy : MethodName := ⟨RX5, "toldBy", "(I)I"⟩
abbrev cX5_readHouse : ByteArray := prog_7_method_9_code
def yX5_readHouse : MethodName := ⟨RX5, "readHouse", "()Z"⟩
abbrev cX5_readMix : ByteArray := prog_7_method_10_code
def yX5_readMix : MethodName := ⟨RX5, "readMix", "()Z"⟩
abbrev cX5_kindHere : ByteArray := prog_7_method_11_code
def yX5_kindHere : MethodName := ⟨RX5, "kindHere", "()I"⟩
abbrev cX5_beginRule : ByteArray := prog_7_method_12_code
def yX5_beginRule : MethodName := ⟨RX5, "beginRule", "(I)Z"⟩
abbrev cX5_readSetting : ByteArray := prog_7_method_13_code
def yX5_readSetting : MethodName := ⟨RX5, "readSetting", "(III)Z"⟩
def RX6 : String := "SundayPit$Question"
def TX6 : u_T := fun k => match k with
  | 0 => ("SundayPit$Question", "reader", "LSundayPit$Reader;", true)
  | _ => ("SundayPit$Question", "head", "I", false)
def tyX6 : Nat → FieldType := fun k => match k with
  | 0 => .object "SundayPit$Reader"
  | _ => .int
theorem nmX6 : ∀ a, a < 2 → ∀ b, b < 2 → a ≠ b → (TX6 a).2.1 ≠ (TX6 b).2.1 := by decide +kernel
theorem tyX6_ok : ∀ k, k < 2 → parseFieldDescriptor (TX6 k).2.2.1 = some (tyX6 k) := by decide +kernel
abbrev cX6_init : ByteArray := prog_8_method_1_code
def yX6_init : MethodName := ⟨RX6, "<init>", "(LSundayPit$Reader;)V"⟩
abbrev cX6_readQuestion : ByteArray := prog_8_method_2_code
def yX6_readQuestion : MethodName := ⟨RX6, "readQuestion", "(LSundayPit$Tape;[I)Z"⟩
abbrev cX6_isOfTest : ByteArray := prog_8_method_3_code
def yX6_isOfTest : MethodName := ⟨RX6, "isOfTest", "()Z"⟩
abbrev cX6_answer : ByteArray := prog_8_method_4_code
def yX6_answer : MethodName := ⟨RX6, "answer", "(LSundayPit$Mine;[I)J"⟩
abbrev cX6_goOn : ByteArray := prog_8_method_5_code
def yX6_goOn : MethodName := ⟨RX6, "goOn", "(JII)J"⟩
def RX7 : String := "SundayPit$Reader"
def TX7 : u_T := fun k => match k with
  | 0 => ("SundayPit$Reader", "tape", "LSundayPit$Tape;", false)
  | 1 => ("SundayPit$Reader", "code", "[I", false)
  | 2 => ("SundayPit$Reader", "name", "[I", false)
  | 3 => ("SundayPit$Reader", "size", "I", false)
  | 4 => ("SundayPit$Reader", "subject", "I", false)
  | 5 => ("SundayPit$Reader", "open", "I", false)
  | 6 => ("SundayPit$Reader", "sort", "I", false)
  | 7 => ("SundayPit$Reader", "start", "I", false)
  | 8 => ("SundayPit$Reader", "stop", "I", false)
  | 9 => ("SundayPit$Reader", "fault", "I", false)
  | _ => ("SundayPit$Reader", "place", "I", false)
def tyX7 : Nat → FieldType := fun k => match k with
  | 0 => .object "SundayPit$Tape"
  | 1 => .array .int
  | 2 => .array .int
  | 3 => .int
  | 4 => .int
  | 5 => .int
  | 6 => .int
  | 7 => .int
  | 8 => .int
  | 9 => .int
  | _ => .int
theorem nmX7 : ∀ a, a < 11 → ∀ b, b < 11 → a ≠ b → (TX7 a).2.1 ≠ (TX7 b).2.1 := by decide +kernel
theorem tyX7_ok : ∀ k, k < 11 → parseFieldDescriptor (TX7 k).2.2.1 = some (tyX7 k) := by decide +kernel
abbrev cX7_init : ByteArray := prog_9_method_1_code
def yX7_init : MethodName := ⟨RX7, "<init>", "()V"⟩
abbrev cX7_begin : ByteArray := prog_9_method_2_code
def yX7_begin : MethodName := ⟨RX7, "begin", "(LSundayPit$Tape;[I)V"⟩
abbrev cX7_fail : ByteArray := prog_9_method_3_code
def yX7_fail : MethodName := ⟨RX7, "fail", "(II)Z"⟩
abbrev cX7_failHere : ByteArray := prog_9_method_4_code
def yX7_failHere : MethodName := ⟨RX7, "failHere", "(I)Z"⟩
abbrev cX7_sortOf : ByteArray := prog_9_method_5_code
def yX7_sortOf : MethodName := ⟨RX7, "sortOf", "(I)I"⟩
abbrev cX7_isBlank : ByteArray := prog_9_method_6_code
def yX7_isBlank : MethodName := ⟨RX7, "isBlank", "(I)Z"⟩
abbrev cX7_step : ByteArray := prog_9_method_7_code
def yX7_step : MethodName := ⟨RX7, "step", "()V"⟩
abbrev cX7_isEnd : ByteArray := prog_9_method_8_code
def yX7_isEnd : MethodName := ⟨RX7, "isEnd", "()Z"⟩
abbrev cX7_isMark : ByteArray := prog_9_method_9_code
def yX7_isMark : MethodName := ⟨RX7, "isMark", "(I)Z"⟩
abbrev cX7_wordHere : ByteArray := prog_9_method_10_code
def yX7_wordHere : MethodName := ⟨RX7, "wordHere", "()I"⟩
abbrev cX7_takeMark : ByteArray := prog_9_method_11_code
def yX7_takeMark : MethodName := ⟨RX7, "takeMark", "(I)Z"⟩
abbrev cX7_takeWord : ByteArray := prog_9_method_12_code
def yX7_takeWord : MethodName := ⟨RX7, "takeWord", "(I)Z"⟩
abbrev cX7_takeNumber : ByteArray := prog_9_method_13_code
def yX7_takeNumber : MethodName := ⟨RX7, "takeNumber", "(II)I"⟩
abbrev cX7_numberHere : ByteArray := prog_9_method_14_code
def yX7_numberHere : MethodName := ⟨RX7, "numberHere", "()I"⟩
abbrev cX7_nameHere : ByteArray := prog_9_method_15_code
def yX7_nameHere : MethodName := ⟨RX7, "nameHere", "()[I"⟩
abbrev cX7_lettersHere : ByteArray := prog_9_method_16_code
def yX7_lettersHere : MethodName := ⟨RX7, "lettersHere", "()I"⟩
abbrev cX7_letterHere : ByteArray := prog_9_method_17_code
def yX7_letterHere : MethodName := ⟨RX7, "letterHere", "(I)I"⟩
abbrev cX7_codeSize : ByteArray := prog_9_method_18_code
def yX7_codeSize : MethodName := ⟨RX7, "codeSize", "()I"⟩
abbrev cX7_emit : ByteArray := prog_9_method_19_code
def yX7_emit : MethodName := ⟨RX7, "emit", "(I)V"⟩
abbrev cX7_beginFormula : ByteArray := prog_9_method_20_code
def yX7_beginFormula : MethodName := ⟨RX7, "beginFormula", "(I)V"⟩
abbrev cX7_endFormula : ByteArray := prog_9_method_21_code
def yX7_endFormula : MethodName := ⟨RX7, "endFormula", "()Z"⟩
abbrev cX7_openOne : ByteArray := prog_9_method_22_code
def yX7_openOne : MethodName := ⟨RX7, "openOne", "()Z"⟩
abbrev cX7_closeOne : ByteArray := prog_9_method_23_code
def yX7_closeOne : MethodName := ⟨RX7, "closeOne", "()Z"⟩
abbrev cX7_readTest : ByteArray := prog_9_method_24_code
def yX7_readTest : MethodName := ⟨RX7, "readTest", "()Z"⟩
abbrev cX7_readBoth : ByteArray := prog_9_method_25_code
def yX7_readBoth : MethodName := ⟨RX7, "readBoth", "()Z"⟩
abbrev cX7_readFact : ByteArray := prog_9_method_26_code
def yX7_readFact : MethodName := ⟨RX7, "readFact", "()Z"⟩
abbrev cX7_signHere : ByteArray := prog_9_method_27_code
def yX7_signHere : MethodName := ⟨RX7, "signHere", "()I"⟩
abbrev cX7_readNot : ByteArray := prog_9_method_28_code
def yX7_readNot : MethodName := ⟨RX7, "readNot", "()Z"⟩
abbrev cX7_readSum : ByteArray := prog_9_method_29_code
def yX7_readSum : MethodName := ⟨RX7, "readSum", "()Z"⟩
abbrev cX7_readProduct : ByteArray := prog_9_method_30_code
def yX7_readProduct : MethodName := ⟨RX7, "readProduct", "()Z"⟩
abbrev cX7_readPart : ByteArray := prog_9_method_31_code
def yX7_readPart : MethodName := ⟨RX7, "readPart", "()Z"⟩
abbrev cX7_readChoice : ByteArray := prog_9_method_32_code
def yX7_readChoice : MethodName := ⟨RX7, "readChoice", "(I)Z"⟩
abbrev cX7_readTubs : ByteArray := prog_9_method_33_code
def yX7_readTubs : MethodName := ⟨RX7, "readTubs", "()Z"⟩
abbrev cX7_factFor : ByteArray := prog_9_method_34_code
def yX7_factFor : MethodName := ⟨RX7, "factFor", "(I)I"⟩
abbrev cX7_houseFact : ByteArray := prog_9_method_35_code
def yX7_houseFact : MethodName := ⟨RX7, "houseFact", "(I)I"⟩
abbrev cX7_cellFact : ByteArray := prog_9_method_36_code
def yX7_cellFact : MethodName := ⟨RX7, "cellFact", "(I)I"⟩
abbrev cX7_questionFact : ByteArray := prog_9_method_37_code
def yX7_questionFact : MethodName := ⟨RX7, "questionFact", "(I)I"⟩
def RX8 : String := "SundayPit$Search"
def TX8 : u_T := fun k => match k with
  | 0 => ("SundayPit$Search", "plan", "LSundayPit$Plan;", true)
  | 1 => ("SundayPit$Search", "now", "LSundayPit$Ground;", true)
  | 2 => ("SundayPit$Search", "levels", "[LSundayPit$Mine;", true)
  | 3 => ("SundayPit$Search", "path", "[I", true)
  | 4 => ("SundayPit$Search", "bestPath", "[I", true)
  | 5 => ("SundayPit$Search", "lines", "[[I", true)
  | 6 => ("SundayPit$Search", "bestCount", "I", false)
  | 7 => ("SundayPit$Search", "bestWorth", "I", false)
  | 8 => ("SundayPit$Search", "duelWorth", "I", false)
  | 9 => ("SundayPit$Search", "bestTurns", "I", false)
  | _ => ("SundayPit$Search", "duelTurns", "I", false)
def tyX8 : Nat → FieldType := fun k => match k with
  | 0 => .object "SundayPit$Plan"
  | 1 => .object "SundayPit$Ground"
  | 2 => .array (.object "SundayPit$Mine")
  | 3 => .array .int
  | 4 => .array .int
  | 5 => .array (.array .int)
  | 6 => .int
  | 7 => .int
  | 8 => .int
  | 9 => .int
  | _ => .int
theorem nmX8 : ∀ a, a < 11 → ∀ b, b < 11 → a ≠ b → (TX8 a).2.1 ≠ (TX8 b).2.1 := by decide +kernel
theorem tyX8_ok : ∀ k, k < 11 → parseFieldDescriptor (TX8 k).2.2.1 = some (tyX8 k) := by decide +kernel
abbrev cX8_init : ByteArray := prog_10_method_1_code
def yX8_init : MethodName := ⟨RX8, "<init>", "(LSundayPit$Plan;LSundayPit$Ground;)V"⟩
abbrev cX8_forget : ByteArray := prog_10_method_2_code
def yX8_forget : MethodName := ⟨RX8, "forget", "()V"⟩
abbrev cX8_judgeOrder : ByteArray := prog_10_method_3_code
def yX8_judgeOrder : MethodName := ⟨RX8, "judgeOrder", "(LSundayPit$Tape;[I)I"⟩
abbrev cX8_isOrder : ByteArray := prog_10_method_4_code
def yX8_isOrder : MethodName := ⟨RX8, "isOrder", "(LSundayPit$Tape;)Z"⟩
abbrev cX8_tellBest : ByteArray := prog_10_method_5_code
def yX8_tellBest : MethodName := ⟨RX8, "tellBest", "(II)I"⟩
abbrev cX8_tryAll : ByteArray := prog_10_method_6_code
def yX8_tryAll : MethodName := ⟨RX8, "tryAll", "(III)V"⟩
abbrev cX8_keepIfBetter : ByteArray := prog_10_method_7_code
def yX8_keepIfBetter : MethodName := ⟨RX8, "keepIfBetter", "(II)V"⟩
abbrev cX8_digBelow : ByteArray := prog_10_method_8_code
def yX8_digBelow : MethodName := ⟨RX8, "digBelow", "(III)V"⟩
abbrev cX8_tellRivals : ByteArray := prog_10_method_9_code
def yX8_tellRivals : MethodName := ⟨RX8, "tellRivals", "(II)I"⟩
abbrev cX8_duel : ByteArray := prog_10_method_10_code
def yX8_duel : MethodName := ⟨RX8, "duel", "(II)I"⟩
abbrev cX8_keepLine : ByteArray := prog_10_method_11_code
def yX8_keepLine : MethodName := ⟨RX8, "keepLine", "(II)V"⟩
def RX9 : String := "SundayPit$Storage"
def TX9 : u_T := fun k => match k with
  | 0 => ("SundayPit$Storage", "plan", "LSundayPit$Plan;", true)
  | 1 => ("SundayPit$Storage", "ground", "LSundayPit$Ground;", true)
  | 2 => ("SundayPit$Storage", "places", "[I", true)
  | 3 => ("SundayPit$Storage", "taken", "[I", true)
  | 4 => ("SundayPit$Storage", "fewest", "[I", true)
  | 5 => ("SundayPit$Storage", "restBehind", "[I", true)
  | _ => ("SundayPit$Storage", "sets", "I", false)
def tyX9 : Nat → FieldType := fun k => match k with
  | 0 => .object "SundayPit$Plan"
  | 1 => .object "SundayPit$Ground"
  | 2 => .array .int
  | 3 => .array .int
  | 4 => .array .int
  | 5 => .array .int
  | _ => .int
theorem nmX9 : ∀ a, a < 7 → ∀ b, b < 7 → a ≠ b → (TX9 a).2.1 ≠ (TX9 b).2.1 := by decide +kernel
theorem tyX9_ok : ∀ k, k < 7 → parseFieldDescriptor (TX9 k).2.2.1 = some (tyX9 k) := by decide +kernel
abbrev cX9_init : ByteArray := prog_11_method_1_code
def yX9_init : MethodName := ⟨RX9, "<init>", "(LSundayPit$Plan;LSundayPit$Ground;)V"⟩
abbrev cX9_kinds : ByteArray := prog_11_method_2_code
def yX9_kinds : MethodName := ⟨RX9, "kinds", "()I"⟩
abbrev cX9_share : ByteArray := prog_11_method_3_code
def yX9_share : MethodName := ⟨RX9, "share", "()I"⟩
abbrev cX9_storeOf : ByteArray := prog_11_method_4_code
def yX9_storeOf : MethodName := ⟨RX9, "storeOf", "(I)I"⟩
abbrev cX9_place : ByteArray := prog_11_method_5_code
def yX9_place : MethodName := ⟨RX9, "place", "(III)Z"⟩
abbrev cX9_isFree : ByteArray := prog_11_method_6_code
def yX9_isFree : MethodName := ⟨RX9, "isFree", "(II)Z"⟩
abbrev cX9_countSets : ByteArray := prog_11_method_7_code
def yX9_countSets : MethodName := ⟨RX9, "countSets", "(I)I"⟩
abbrev cX9_fewestOf : ByteArray := prog_11_method_8_code
def yX9_fewestOf : MethodName := ⟨RX9, "fewestOf", "(I)I"⟩
abbrev cX9_take : ByteArray := prog_11_method_9_code
def yX9_take : MethodName := ⟨RX9, "take", "(II)V"⟩
abbrev cX9_keepSet : ByteArray := prog_11_method_10_code
def yX9_keepSet : MethodName := ⟨RX9, "keepSet", "()V"⟩
def RX10 : String := "SundayPit$Tape"
def TX10 : u_T := fun k => match k with
  | 0 => ("SundayPit$Tape", "bytes", "[I", true)
  | _ => ("SundayPit$Tape", "count", "I", false)
def tyX10 : Nat → FieldType := fun k => match k with
  | 0 => .array .int
  | _ => .int
theorem nmX10 : ∀ a, a < 2 → ∀ b, b < 2 → a ≠ b → (TX10 a).2.1 ≠ (TX10 b).2.1 := by decide +kernel
theorem tyX10_ok : ∀ k, k < 2 → parseFieldDescriptor (TX10 k).2.2.1 = some (tyX10 k) := by decide +kernel
abbrev cX10_init : ByteArray := prog_12_method_1_code
def yX10_init : MethodName := ⟨RX10, "<init>", "(I)V"⟩
abbrev cX10_length : ByteArray := prog_12_method_2_code
def yX10_length : MethodName := ⟨RX10, "length", "()I"⟩
abbrev cX10_at : ByteArray := prog_12_method_3_code
def yX10_at : MethodName := ⟨RX10, "at", "(I)I"⟩
abbrev cX10_shorten : ByteArray := prog_12_method_4_code
def yX10_shorten : MethodName := ⟨RX10, "shorten", "(I)V"⟩
abbrev cX10_add : ByteArray := prog_12_method_5_code
def yX10_add : MethodName := ⟨RX10, "add", "(I)V"⟩
abbrev cX10_addThree : ByteArray := prog_12_method_6_code
def yX10_addThree : MethodName := ⟨RX10, "addThree", "(I)V"⟩
abbrev cX10_addFour : ByteArray := prog_12_method_7_code
def yX10_addFour : MethodName := ⟨RX10, "addFour", "(I)V"⟩
abbrev cX10_threeAt : ByteArray := prog_12_method_8_code
def yX10_threeAt : MethodName := ⟨RX10, "threeAt", "(I)I"⟩
abbrev cX10_guard : ByteArray := prog_12_method_9_code
def yX10_guard : MethodName := ⟨RX10, "guard", "(I)I"⟩
def RX11 : String := "SundayPit"
def TX11 : u_T := fun k => match k with
  | 0 => ("SundayPit", "tape", "LSundayPit$Tape;", true)
  | 1 => ("SundayPit", "picture", "LSundayPit$Tape;", true)
  | 2 => ("SundayPit", "plan", "LSundayPit$Plan;", true)
  | 3 => ("SundayPit", "draft", "LSundayPit$Plan;", true)
  | 4 => ("SundayPit", "ground", "LSundayPit$Ground;", true)
  | 5 => ("SundayPit", "mine", "LSundayPit$Mine;", true)
  | 6 => ("SundayPit", "history", "LSundayPit$History;", true)
  | 7 => ("SundayPit", "search", "LSundayPit$Search;", true)
  | 8 => ("SundayPit", "drill", "LSundayPit$Bores;", true)
  | 9 => ("SundayPit", "storage", "LSundayPit$Storage;", true)
  | 10 => ("SundayPit", "reader", "LSundayPit$Reader;", true)
  | 11 => ("SundayPit", "planReader", "LSundayPit$PlanReader;", true)
  | 12 => ("SundayPit", "question", "LSundayPit$Question;", true)
  | 13 => ("SundayPit", "refused", "[I", true)
  | 14 => ("SundayPit", "verdict", "[I", true)
  | 15 => ("SundayPit", "isJudged", "Z", false)
  | 16 => ("SundayPit", "faultSort", "I", false)
  | 17 => ("SundayPit", "faultPlace", "I", false)
  | _ => ("SundayPit", "seedNow", "I", false)
def tyX11 : Nat → FieldType := fun k => match k with
  | 0 => .object "SundayPit$Tape"
  | 1 => .object "SundayPit$Tape"
  | 2 => .object "SundayPit$Plan"
  | 3 => .object "SundayPit$Plan"
  | 4 => .object "SundayPit$Ground"
  | 5 => .object "SundayPit$Mine"
  | 6 => .object "SundayPit$History"
  | 7 => .object "SundayPit$Search"
  | 8 => .object "SundayPit$Bores"
  | 9 => .object "SundayPit$Storage"
  | 10 => .object "SundayPit$Reader"
  | 11 => .object "SundayPit$PlanReader"
  | 12 => .object "SundayPit$Question"
  | 13 => .array .int
  | 14 => .array .int
  | 15 => .boolean
  | 16 => .int
  | 17 => .int
  | _ => .int
theorem nmX11 : ∀ a, a < 19 → ∀ b, b < 19 → a ≠ b → (TX11 a).2.1 ≠ (TX11 b).2.1 := by decide +kernel
theorem tyX11_ok : ∀ k, k < 19 → parseFieldDescriptor (TX11 k).2.2.1 = some (tyX11 k) := by decide +kernel
abbrev cX11_init : ByteArray := prog_1_method_1_code
def yX11_init : MethodName := ⟨RX11, "<init>", "()V"⟩
abbrev cX11_feed : ByteArray := prog_1_method_2_code
def yX11_feed : MethodName := ⟨RX11, "feed", "(IIIII)I"⟩
abbrev cX11_end : ByteArray := prog_1_method_3_code
def yX11_end : MethodName := ⟨RX11, "end", "(I)Z"⟩
abbrev cX11_pit : ByteArray := prog_1_method_4_code
def yX11_pit : MethodName := ⟨RX11, "pit", "()I"⟩
abbrev cX11_fault : ByteArray := prog_1_method_5_code
def yX11_fault : MethodName := ⟨RX11, "fault", "(I)I"⟩
abbrev cX11_has : ByteArray := prog_1_method_6_code
def yX11_has : MethodName := ⟨RX11, "has", "(I)I"⟩
abbrev cX11_letter : ByteArray := prog_1_method_7_code
def yX11_letter : MethodName := ⟨RX11, "letter", "(III)I"⟩
abbrev cX11_kind : ByteArray := prog_1_method_8_code
def yX11_kind : MethodName := ⟨RX11, "kind", "(II)I"⟩
abbrev cX11_cell : ByteArray := prog_1_method_9_code
def yX11_cell : MethodName := ⟨RX11, "cell", "(II)I"⟩
abbrev cX11_house : ByteArray := prog_1_method_10_code
def yX11_house : MethodName := ⟨RX11, "house", "(II)I"⟩
abbrev cX11_judge : ByteArray := prog_1_method_11_code
def yX11_judge : MethodName := ⟨RX11, "judge", "()I"⟩
abbrev cX11_judged : ByteArray := prog_1_method_12_code
def yX11_judged : MethodName := ⟨RX11, "judged", "(I)I"⟩
abbrev cX11_best : ByteArray := prog_1_method_13_code
def yX11_best : MethodName := ⟨RX11, "best", "(II)I"⟩
abbrev cX11_rivals : ByteArray := prog_1_method_14_code
def yX11_rivals : MethodName := ⟨RX11, "rivals", "(II)J"⟩
abbrev cX11_stores : ByteArray := prog_1_method_15_code
def yX11_stores : MethodName := ⟨RX11, "stores", "(I)I"⟩
abbrev cX11_cut : ByteArray := prog_1_method_16_code
def yX11_cut : MethodName := ⟨RX11, "cut", "(I)I"⟩
abbrev cX11_prop : ByteArray := prog_1_method_17_code
def yX11_prop : MethodName := ⟨RX11, "prop", "(I)Z"⟩
abbrev cX11_burn : ByteArray := prog_1_method_18_code
def yX11_burn : MethodName := ⟨RX11, "burn", "(I)Z"⟩
abbrev cX11_days : ByteArray := prog_1_method_19_code
def yX11_days : MethodName := ⟨RX11, "days", "(I)I"⟩
abbrev cX11_undo : ByteArray := prog_1_method_20_code
def yX11_undo : MethodName := ⟨RX11, "undo", "()Z"⟩
abbrev cX11_seed : ByteArray := prog_1_method_21_code
def yX11_seed : MethodName := ⟨RX11, "seed", "(I)Z"⟩
abbrev cX11_bores : ByteArray := prog_1_method_22_code
def yX11_bores : MethodName := ⟨RX11, "bores", "()I"⟩
abbrev cX11_fits : ByteArray := prog_1_method_23_code
def yX11_fits : MethodName := ⟨RX11, "fits", "(I)I"⟩
abbrev cX11_next : ByteArray := prog_1_method_24_code
def yX11_next : MethodName := ⟨RX11, "next", "(I)I"⟩
abbrev cX11_theft : ByteArray := prog_1_method_25_code
def yX11_theft : MethodName := ⟨RX11, "theft", "(II)I"⟩
abbrev cX11_ask : ByteArray := prog_1_method_26_code
def yX11_ask : MethodName := ⟨RX11, "ask", "()J"⟩
abbrev cX11_image : ByteArray := prog_1_method_27_code
def yX11_image : MethodName := ⟨RX11, "image", "()I"⟩
abbrev cX11_octet : ByteArray := prog_1_method_28_code
def yX11_octet : MethodName := ⟨RX11, "octet", "(I)I"⟩
abbrev cX11_on : ByteArray := prog_1_method_29_code
def yX11_on : MethodName := ⟨RX11, "on", "()Z"⟩
abbrev cX11_status : ByteArray := prog_1_method_30_code
def yX11_status : MethodName := ⟨RX11, "status", "(I)I"⟩
abbrev cX11_refuse : ByteArray := prog_1_method_31_code
def yX11_refuse : MethodName := ⟨RX11, "refuse", "(I)I"⟩
abbrev cX11_keepFault : ByteArray := prog_1_method_32_code
def yX11_keepFault : MethodName := ⟨RX11, "keepFault", "()V"⟩
abbrev cX11_beginAct : ByteArray := prog_1_method_33_code
def yX11_beginAct : MethodName := ⟨RX11, "beginAct", "()V"⟩
abbrev cX11_draw : ByteArray := prog_1_method_34_code
def yX11_draw : MethodName := ⟨RX11, "draw", "(I)I"⟩
abbrev cX11_workOneDay : ByteArray := prog_1_method_35_code
def yX11_workOneDay : MethodName := ⟨RX11, "workOneDay", "()Z"⟩
def RX12 : String := "SundayPitModel"
def TX12 : u_T := fun k => match k with
  | 0 => ("SundayPitModel", "tape", "[I", true)
  | 1 => ("SundayPitModel", "taped", "I", false)
  | 2 => ("SundayPitModel", "at", "I", false)
  | 3 => ("SundayPitModel", "end", "I", false)
  | 4 => ("SundayPitModel", "ended", "I", false)
  | 5 => ("SundayPitModel", "bad", "I", false)
  | 6 => ("SundayPitModel", "badPlace", "I", false)
  | 7 => ("SundayPitModel", "fault", "I", false)
  | 8 => ("SundayPitModel", "faultPlace", "I", false)
  | 9 => ("SundayPitModel", "refused", "[I", true)
  | 10 => ("SundayPitModel", "pitWord", "[C", true)
  | 11 => ("SundayPitModel", "atWord", "[C", true)
  | 12 => ("SundayPitModel", "kindWord", "[C", true)
  | 13 => ("SundayPitModel", "restWord", "[C", true)
  | 14 => ("SundayPitModel", "gasWord", "[C", true)
  | 15 => ("SundayPitModel", "rowWord", "[C", true)
  | 16 => ("SundayPitModel", "houseWord", "[C", true)
  | 17 => ("SundayPitModel", "mixWord", "[C", true)
  | 18 => ("SundayPitModel", "mayWord", "[C", true)
  | 19 => ("SundayPitModel", "worthWord", "[C", true)
  | 20 => ("SundayPitModel", "tiltWord", "[C", true)
  | 21 => ("SundayPitModel", "holdsWord", "[C", true)
  | 22 => ("SundayPitModel", "propsWord", "[C", true)
  | 23 => ("SundayPitModel", "leansWord", "[C", true)
  | 24 => ("SundayPitModel", "depthWord", "[C", true)
  | 25 => ("SundayPitModel", "acrossWord", "[C", true)
  | 26 => ("SundayPitModel", "nearWord", "[C", true)
  | 27 => ("SundayPitModel", "spanWord", "[C", true)
  | 28 => ("SundayPitModel", "openWord", "[C", true)
  | 29 => ("SundayPitModel", "fallenWord", "[C", true)
  | 30 => ("SundayPitModel", "wholeWord", "[C", true)
  | 31 => ("SundayPitModel", "numberWord", "[C", true)
  | 32 => ("SundayPitModel", "tubsWord", "[C", true)
  | 33 => ("SundayPitModel", "orWord", "[C", true)
  | 34 => ("SundayPitModel", "andWord", "[C", true)
  | 35 => ("SundayPitModel", "notWord", "[C", true)
  | 36 => ("SundayPitModel", "allWord", "[C", true)
  | 37 => ("SundayPitModel", "minWord", "[C", true)
  | 38 => ("SundayPitModel", "maxWord", "[C", true)
  | 39 => ("SundayPitModel", "namePlace", "I", false)
  | 40 => ("SundayPitModel", "many", "[I", true)
  | 41 => ("SundayPitModel", "names", "[J", true)
  | 42 => ("SundayPitModel", "kinds", "[I", true)
  | 43 => ("SundayPitModel", "seam", "[I", true)
  | 44 => ("SundayPitModel", "houses", "[I", true)
  | 45 => ("SundayPitModel", "settings", "[I", true)
  | 46 => ("SundayPitModel", "codeFrom", "[I", true)
  | 47 => ("SundayPitModel", "codeEnd", "[I", true)
  | 48 => ("SundayPitModel", "codes", "[I", true)
  | 49 => ("SundayPitModel", "coded", "I", false)
  | 50 => ("SundayPitModel", "statements", "I", false)
  | 51 => ("SundayPitModel", "isPit", "Z", false)
  | 52 => ("SundayPitModel", "textKind", "I", false)
  | 53 => ("SundayPitModel", "now", "[I", true)
  | 54 => ("SundayPitModel", "aside", "[I", true)
  | 55 => ("SundayPitModel", "askDepth", "J", false)
  | 56 => ("SundayPitModel", "askAcross", "J", false)
  | 57 => ("SundayPitModel", "askRest", "J", false)
  | 58 => ("SundayPitModel", "askGas", "J", false)
  | 59 => ("SundayPitModel", "askNear", "J", false)
  | 60 => ("SundayPitModel", "askSpan", "J", false)
  | 61 => ("SundayPitModel", "askOpen", "J", false)
  | 62 => ("SundayPitModel", "askFallen", "J", false)
  | 63 => ("SundayPitModel", "reached", "[Z", true)
  | 64 => ("SundayPitModel", "fell", "I", false)
  | 65 => ("SundayPitModel", "hasJudged", "Z", false)
  | 66 => ("SundayPitModel", "judgedWhy", "I", false)
  | 67 => ("SundayPitModel", "judgedWorth", "I", false)
  | 68 => ("SundayPitModel", "judgedFell", "I", false)
  | 69 => ("SundayPitModel", "can", "[J", true)
  | 70 => ("SundayPitModel", "tried", "[I", true)
  | 71 => ("SundayPitModel", "gained", "[I", true)
  | 72 => ("SundayPitModel", "bestWorth", "[I", true)
  | 73 => ("SundayPitModel", "bestRow", "[I", true)
  | 74 => ("SundayPitModel", "levelBest", "[I", true)
  | 75 => ("SundayPitModel", "levelCell", "[I", true)
  | 76 => ("SundayPitModel", "store", "[I", true)
  | 77 => ("SundayPitModel", "kept", "[I", true)
  | 78 => ("SundayPitModel", "undoable", "I", false)
  | 79 => ("SundayPitModel", "newest", "I", false)
  | 80 => ("SundayPitModel", "seeded", "J", false)
  | 81 => ("SundayPitModel", "rowMany", "I", false)
  | 82 => ("SundayPitModel", "rows", "[I", true)
  | 83 => ("SundayPitModel", "ways", "[J", true)
  | 84 => ("SundayPitModel", "sumMost", "I", false)
  | 85 => ("SundayPitModel", "firstAsked", "[C", true)
  | 86 => ("SundayPitModel", "lastAsked", "[C", true)
  | 87 => ("SundayPitModel", "oftenAsked", "[C", true)
  | 88 => ("SundayPitModel", "totalAsked", "[C", true)
  | 89 => ("SundayPitModel", "mostAsked", "[C", true)
  | 90 => ("SundayPitModel", "leastAsked", "[C", true)
  | 91 => ("SundayPitModel", "notAsked", "[C", true)
  | 92 => ("SundayPitModel", "andAsked", "[C", true)
  | 93 => ("SundayPitModel", "orAsked", "[C", true)
  | 94 => ("SundayPitModel", "allAsked", "[C", true)
  | 95 => ("SundayPitModel", "minAsked", "[C", true)
  | 96 => ("SundayPitModel", "maxAsked", "[C", true)
  | 97 => ("SundayPitModel", "depthAsked", "[C", true)
  | 98 => ("SundayPitModel", "acrossAsked", "[C", true)
  | 99 => ("SundayPitModel", "restAsked", "[C", true)
  | 100 => ("SundayPitModel", "gasAsked", "[C", true)
  | 101 => ("SundayPitModel", "nearAsked", "[C", true)
  | 102 => ("SundayPitModel", "spanAsked", "[C", true)
  | 103 => ("SundayPitModel", "openAsked", "[C", true)
  | 104 => ("SundayPitModel", "fallenAsked", "[C", true)
  | 105 => ("SundayPitModel", "numberAsked", "[C", true)
  | 106 => ("SundayPitModel", "wholeAsked", "[C", true)
  | 107 => ("SundayPitModel", "tubsAsked", "[C", true)
  | 108 => ("SundayPitModel", "qCodes", "[I", true)
  | 109 => ("SundayPitModel", "qCoded", "I", false)
  | 110 => ("SundayPitModel", "qWait", "[I", true)
  | 111 => ("SundayPitModel", "qWaits", "I", false)
  | 112 => ("SundayPitModel", "qOpened", "I", false)
  | 113 => ("SundayPitModel", "qBase", "I", false)
  | 114 => ("SundayPitModel", "qPile", "[J", true)
  | 115 => ("SundayPitModel", "qPiled", "I", false)
  | 116 => ("SundayPitModel", "qAnswer", "J", false)
  | 117 => ("SundayPitModel", "qIsNew", "Z", false)
  | 118 => ("SundayPitModel", "octet", "[I", true)
  | _ => ("SundayPitModel", "octets", "I", false)
def tyX12 : Nat → FieldType := fun k => match k with
  | 0 => .array .int
  | 1 => .int
  | 2 => .int
  | 3 => .int
  | 4 => .int
  | 5 => .int
  | 6 => .int
  | 7 => .int
  | 8 => .int
  | 9 => .array .int
  | 10 => .array .char
  | 11 => .array .char
  | 12 => .array .char
  | 13 => .array .char
  | 14 => .array .char
  | 15 => .array .char
  | 16 => .array .char
  | 17 => .array .char
  | 18 => .array .char
  | 19 => .array .char
  | 20 => .array .char
  | 21 => .array .char
  | 22 => .array .char
  | 23 => .array .char
  | 24 => .array .char
  | 25 => .array .char
  | 26 => .array .char
  | 27 => .array .char
  | 28 => .array .char
  | 29 => .array .char
  | 30 => .array .char
  | 31 => .array .char
  | 32 => .array .char
  | 33 => .array .char
  | 34 => .array .char
  | 35 => .array .char
  | 36 => .array .char
  | 37 => .array .char
  | 38 => .array .char
  | 39 => .int
  | 40 => .array .int
  | 41 => .array .long
  | 42 => .array .int
  | 43 => .array .int
  | 44 => .array .int
  | 45 => .array .int
  | 46 => .array .int
  | 47 => .array .int
  | 48 => .array .int
  | 49 => .int
  | 50 => .int
  | 51 => .boolean
  | 52 => .int
  | 53 => .array .int
  | 54 => .array .int
  | 55 => .long
  | 56 => .long
  | 57 => .long
  | 58 => .long
  | 59 => .long
  | 60 => .long
  | 61 => .long
  | 62 => .long
  | 63 => .array .boolean
  | 64 => .int
  | 65 => .boolean
  | 66 => .int
  | 67 => .int
  | 68 => .int
  | 69 => .array .long
  | 70 => .array .int
  | 71 => .array .int
  | 72 => .array .int
  | 73 => .array .int
  | 74 => .array .int
  | 75 => .array .int
  | 76 => .array .int
  | 77 => .array .int
  | 78 => .int
  | 79 => .int
  | 80 => .long
  | 81 => .int
  | 82 => .array .int
  | 83 => .array .long
  | 84 => .int
  | 85 => .array .char
  | 86 => .array .char
  | 87 => .array .char
  | 88 => .array .char
  | 89 => .array .char
  | 90 => .array .char
  | 91 => .array .char
  | 92 => .array .char
  | 93 => .array .char
  | 94 => .array .char
  | 95 => .array .char
  | 96 => .array .char
  | 97 => .array .char
  | 98 => .array .char
  | 99 => .array .char
  | 100 => .array .char
  | 101 => .array .char
  | 102 => .array .char
  | 103 => .array .char
  | 104 => .array .char
  | 105 => .array .char
  | 106 => .array .char
  | 107 => .array .char
  | 108 => .array .int
  | 109 => .int
  | 110 => .array .int
  | 111 => .int
  | 112 => .int
  | 113 => .int
  | 114 => .array .long
  | 115 => .int
  | 116 => .long
  | 117 => .boolean
  | 118 => .array .int
  | _ => .int
theorem nmX12 : ∀ a, a < 120 → ∀ b, b < 120 → a ≠ b → (TX12 a).2.1 ≠ (TX12 b).2.1 := by decide +kernel
theorem tyX12_ok : ∀ k, k < 120 → parseFieldDescriptor (TX12 k).2.2.1 = some (tyX12 k) := by decide +kernel
abbrev cX12_init : ByteArray := prog_14_method_1_code
def yX12_init : MethodName := ⟨RX12, "<init>", "()V"⟩
abbrev cX12_isIn : ByteArray := prog_14_method_2_code
def yX12_isIn : MethodName := ⟨RX12, "isIn", "(JJJ)Z"⟩
abbrev cX12_feed : ByteArray := prog_14_method_3_code
def yX12_feed : MethodName := ⟨RX12, "feed", "(IIIII)I"⟩
abbrev cX12_end : ByteArray := prog_14_method_4_code
def yX12_end : MethodName := ⟨RX12, "end", "(I)Z"⟩
abbrev cX12_fail : ByteArray := prog_14_method_5_code
def yX12_fail : MethodName := ⟨RX12, "fail", "(II)V"⟩
abbrev cX12_isLetter : ByteArray := prog_14_method_6_code
def yX12_isLetter : MethodName := ⟨RX12, "isLetter", "(I)Z"⟩
abbrev cX12_isDigit : ByteArray := prog_14_method_7_code
def yX12_isDigit : MethodName := ⟨RX12, "isDigit", "(I)Z"⟩
abbrev cX12_look : ByteArray := prog_14_method_8_code
def yX12_look : MethodName := ⟨RX12, "look", "()I"⟩
abbrev cX12_isHere : ByteArray := prog_14_method_9_code
def yX12_isHere : MethodName := ⟨RX12, "isHere", "([C)Z"⟩
abbrev cX12_takes : ByteArray := prog_14_method_10_code
def yX12_takes : MethodName := ⟨RX12, "takes", "([C)Z"⟩
abbrev cX12_asks : ByteArray := prog_14_method_11_code
def yX12_asks : MethodName := ⟨RX12, "asks", "([C)V"⟩
abbrev cX12_takesSign : ByteArray := prog_14_method_12_code
def yX12_takesSign : MethodName := ⟨RX12, "takesSign", "(I)Z"⟩
abbrev cX12_asksSign : ByteArray := prog_14_method_13_code
def yX12_asksSign : MethodName := ⟨RX12, "asksSign", "(I)V"⟩
abbrev cX12_number : ByteArray := prog_14_method_14_code
def yX12_number : MethodName := ⟨RX12, "number", "(II)I"⟩
abbrev cX12_isOwnHere : ByteArray := prog_14_method_15_code
def yX12_isOwnHere : MethodName := ⟨RX12, "isOwnHere", "()Z"⟩
abbrev cX12_name : ByteArray := prog_14_method_16_code
def yX12_name : MethodName := ⟨RX12, "name", "()J"⟩
abbrev cX12_isAllowed : ByteArray := prog_14_method_17_code
def yX12_isAllowed : MethodName := ⟨RX12, "isAllowed", "(I)Z"⟩
abbrev cX12_isFull : ByteArray := prog_14_method_18_code
def yX12_isFull : MethodName := ⟨RX12, "isFull", "(III)Z"⟩
abbrev cX12_kindOf : ByteArray := prog_14_method_19_code
def yX12_kindOf : MethodName := ⟨RX12, "kindOf", "(J)I"⟩
abbrev cX12_newName : ByteArray := prog_14_method_20_code
def yX12_newName : MethodName := ⟨RX12, "newName", "()J"⟩
abbrev cX12_pitTold : ByteArray := prog_14_method_21_code
def yX12_pitTold : MethodName := ⟨RX12, "pitTold", "()V"⟩
abbrev cX12_kindTold : ByteArray := prog_14_method_22_code
def yX12_kindTold : MethodName := ⟨RX12, "kindTold", "(I)V"⟩
abbrev cX12_rowTold : ByteArray := prog_14_method_23_code
def yX12_rowTold : MethodName := ⟨RX12, "rowTold", "(I)V"⟩
abbrev cX12_houseTold : ByteArray := prog_14_method_24_code
def yX12_houseTold : MethodName := ⟨RX12, "houseTold", "(I)V"⟩
abbrev cX12_kindHere : ByteArray := prog_14_method_25_code
def yX12_kindHere : MethodName := ⟨RX12, "kindHere", "()I"⟩
abbrev cX12_mixTold : ByteArray := prog_14_method_26_code
def yX12_mixTold : MethodName := ⟨RX12, "mixTold", "(I)V"⟩
abbrev cX12_codesTold : ByteArray := prog_14_method_27_code
def yX12_codesTold : MethodName := ⟨RX12, "codesTold", "(II)V"⟩
abbrev cX12_statementTold : ByteArray := prog_14_method_28_code
def yX12_statementTold : MethodName := ⟨RX12, "statementTold", "()V"⟩
abbrev cX12_pit : ByteArray := prog_14_method_29_code
def yX12_pit : MethodName := ⟨RX12, "pit", "()I"⟩
abbrev cX12_stands : ByteArray := prog_14_method_30_code
def yX12_stands : MethodName := ⟨RX12, "stands", "()V"⟩
abbrev cX12_fault : ByteArray := prog_14_method_31_code
def yX12_fault : MethodName := ⟨RX12, "fault", "(I)I"⟩
abbrev cX12_columns : ByteArray := prog_14_method_32_code
def yX12_columns : MethodName := ⟨RX12, "columns", "()I"⟩
abbrev cX12_rowsMany : ByteArray := prog_14_method_33_code
def yX12_rowsMany : MethodName := ⟨RX12, "rowsMany", "()I"⟩
abbrev cX12_kindMany : ByteArray := prog_14_method_34_code
def yX12_kindMany : MethodName := ⟨RX12, "kindMany", "()I"⟩
abbrev cX12_cellMany : ByteArray := prog_14_method_35_code
def yX12_cellMany : MethodName := ⟨RX12, "cellMany", "()I"⟩
abbrev cX12_isCell : ByteArray := prog_14_method_36_code
def yX12_isCell : MethodName := ⟨RX12, "isCell", "(I)Z"⟩
abbrev cX12_isKind : ByteArray := prog_14_method_37_code
def yX12_isKind : MethodName := ⟨RX12, "isKind", "(I)Z"⟩
abbrev cX12_holdsUp : ByteArray := prog_14_method_38_code
def yX12_holdsUp : MethodName := ⟨RX12, "holdsUp", "()I"⟩
abbrev cX12_seamAt : ByteArray := prog_14_method_39_code
def yX12_seamAt : MethodName := ⟨RX12, "seamAt", "(II)I"⟩
abbrev cX12_kindAt : ByteArray := prog_14_method_40_code
def yX12_kindAt : MethodName := ⟨RX12, "kindAt", "(I)I"⟩
abbrev cX12_whatIs : ByteArray := prog_14_method_41_code
def yX12_whatIs : MethodName := ⟨RX12, "whatIs", "(I)I"⟩
abbrev cX12_isOpen : ByteArray := prog_14_method_42_code
def yX12_isOpen : MethodName := ⟨RX12, "isOpen", "(I)Z"⟩
abbrev cX12_tubsOf : ByteArray := prog_14_method_43_code
def yX12_tubsOf : MethodName := ⟨RX12, "tubsOf", "(I)I"⟩
abbrev cX12_beside : ByteArray := prog_14_method_44_code
def yX12_beside : MethodName := ⟨RX12, "beside", "(II)I"⟩
abbrev cX12_nearOf : ByteArray := prog_14_method_45_code
def yX12_nearOf : MethodName := ⟨RX12, "nearOf", "(I)I"⟩
abbrev cX12_spanLeft : ByteArray := prog_14_method_46_code
def yX12_spanLeft : MethodName := ⟨RX12, "spanLeft", "(I)I"⟩
abbrev cX12_spanRight : ByteArray := prog_14_method_47_code
def yX12_spanRight : MethodName := ⟨RX12, "spanRight", "(I)I"⟩
abbrev cX12_spanOf : ByteArray := prog_14_method_48_code
def yX12_spanOf : MethodName := ⟨RX12, "spanOf", "(I)I"⟩
abbrev cX12_asksCell : ByteArray := prog_14_method_49_code
def yX12_asksCell : MethodName := ⟨RX12, "asksCell", "(I)V"⟩
abbrev cX12_restOf : ByteArray := prog_14_method_50_code
def yX12_restOf : MethodName := ⟨RX12, "restOf", "(I)I"⟩
abbrev cX12_gasOf : ByteArray := prog_14_method_51_code
def yX12_gasOf : MethodName := ⟨RX12, "gasOf", "(I)I"⟩
abbrev cX12_codesTell : ByteArray := prog_14_method_52_code
def yX12_codesTell : MethodName := ⟨RX12, "codesTell", "(I)J"⟩
abbrev cX12_cut0 : ByteArray := prog_14_method_53_code
def yX12_cut0 : MethodName := ⟨RX12, "cut0", "(JI)I"⟩
abbrev cX12_worthOf : ByteArray := prog_14_method_54_code
def yX12_worthOf : MethodName := ⟨RX12, "worthOf", "(I)I"⟩
abbrev cX12_mayBe : ByteArray := prog_14_method_55_code
def yX12_mayBe : MethodName := ⟨RX12, "mayBe", "(I)Z"⟩
abbrev cX12_isBesideReached : ByteArray := prog_14_method_56_code
def yX12_isBesideReached : MethodName := ⟨RX12, "isBesideReached", "(I)Z"⟩
abbrev cX12_laysReached : ByteArray := prog_14_method_57_code
def yX12_laysReached : MethodName := ⟨RX12, "laysReached", "()V"⟩
abbrev cX12_whyNot : ByteArray := prog_14_method_58_code
def yX12_whyNot : MethodName := ⟨RX12, "whyNot", "(I)I"⟩
abbrev cX12_cuttable : ByteArray := prog_14_method_59_code
def yX12_cuttable : MethodName := ⟨RX12, "cuttable", "()J"⟩
abbrev cX12_bitsOf : ByteArray := prog_14_method_60_code
def yX12_bitsOf : MethodName := ⟨RX12, "bitsOf", "(J)I"⟩
abbrev cX12_oneOf : ByteArray := prog_14_method_61_code
def yX12_oneOf : MethodName := ⟨RX12, "oneOf", "(JI)I"⟩
abbrev cX12_isCut : ByteArray := prog_14_method_62_code
def yX12_isCut : MethodName := ⟨RX12, "isCut", "(I)I"⟩
abbrev cX12_cellsThat : ByteArray := prog_14_method_63_code
def yX12_cellsThat : MethodName := ⟨RX12, "cellsThat", "(I)I"⟩
abbrev cX12_tubsAll : ByteArray := prog_14_method_64_code
def yX12_tubsAll : MethodName := ⟨RX12, "tubsAll", "()I"⟩
abbrev cX12_has : ByteArray := prog_14_method_65_code
def yX12_has : MethodName := ⟨RX12, "has", "(I)I"⟩
abbrev cX12_letter : ByteArray := prog_14_method_66_code
def yX12_letter : MethodName := ⟨RX12, "letter", "(III)I"⟩
abbrev cX12_cellsOf : ByteArray := prog_14_method_67_code
def yX12_cellsOf : MethodName := ⟨RX12, "cellsOf", "(IZ)I"⟩
abbrev cX12_kind : ByteArray := prog_14_method_68_code
def yX12_kind : MethodName := ⟨RX12, "kind", "(II)I"⟩
abbrev cX12_cell : ByteArray := prog_14_method_69_code
def yX12_cell : MethodName := ⟨RX12, "cell", "(II)I"⟩
abbrev cX12_tiltOf : ByteArray := prog_14_method_70_code
def yX12_tiltOf : MethodName := ⟨RX12, "tiltOf", "(I)I"⟩
abbrev cX12_house : ByteArray := prog_14_method_71_code
def yX12_house : MethodName := ⟨RX12, "house", "(II)I"⟩
abbrev cX12_putsAside : ByteArray := prog_14_method_72_code
def yX12_putsAside : MethodName := ⟨RX12, "putsAside", "(I)V"⟩
abbrev cX12_takesBack : ByteArray := prog_14_method_73_code
def yX12_takesBack : MethodName := ⟨RX12, "takesBack", "(I)V"⟩
abbrev cX12_judge : ByteArray := prog_14_method_74_code
def yX12_judge : MethodName := ⟨RX12, "judge", "()I"⟩
abbrev cX12_judged : ByteArray := prog_14_method_75_code
def yX12_judged : MethodName := ⟨RX12, "judged", "(I)I"⟩
abbrev cX12_opens : ByteArray := prog_14_method_76_code
def yX12_opens : MethodName := ⟨RX12, "opens", "(I)V"⟩
abbrev cX12_nextTried : ByteArray := prog_14_method_77_code
def yX12_nextTried : MethodName := ⟨RX12, "nextTried", "(I)I"⟩
abbrev cX12_isBest : ByteArray := prog_14_method_78_code
def yX12_isBest : MethodName := ⟨RX12, "isBest", "(II)V"⟩
abbrev cX12_seeksBest : ByteArray := prog_14_method_79_code
def yX12_seeksBest : MethodName := ⟨RX12, "seeksBest", "(I)V"⟩
abbrev cX12_best : ByteArray := prog_14_method_80_code
def yX12_best : MethodName := ⟨RX12, "best", "(II)I"⟩
abbrev cX12_opensRival : ByteArray := prog_14_method_81_code
def yX12_opensRival : MethodName := ⟨RX12, "opensRival", "(II)V"⟩
abbrev cX12_answers : ByteArray := prog_14_method_82_code
def yX12_answers : MethodName := ⟨RX12, "answers", "(III)V"⟩
abbrev cX12_seeksRivals : ByteArray := prog_14_method_83_code
def yX12_seeksRivals : MethodName := ⟨RX12, "seeksRivals", "(II)V"⟩
abbrev cX12_rivals : ByteArray := prog_14_method_84_code
def yX12_rivals : MethodName := ⟨RX12, "rivals", "(II)J"⟩
abbrev cX12_isStored : ByteArray := prog_14_method_85_code
def yX12_isStored : MethodName := ⟨RX12, "isStored", "(I)Z"⟩
abbrev cX12_storesUsed : ByteArray := prog_14_method_86_code
def yX12_storesUsed : MethodName := ⟨RX12, "storesUsed", "()I"⟩
abbrev cX12_stores : ByteArray := prog_14_method_87_code
def yX12_stores : MethodName := ⟨RX12, "stores", "(I)I"⟩
abbrev cX12_keeps : ByteArray := prog_14_method_88_code
def yX12_keeps : MethodName := ⟨RX12, "keeps", "()V"⟩
abbrev cX12_undo : ByteArray := prog_14_method_89_code
def yX12_undo : MethodName := ⟨RX12, "undo", "()Z"⟩
abbrev cX12_refuses : ByteArray := prog_14_method_90_code
def yX12_refuses : MethodName := ⟨RX12, "refuses", "()I"⟩
abbrev cX12_cut : ByteArray := prog_14_method_91_code
def yX12_cut : MethodName := ⟨RX12, "cut", "(I)I"⟩
abbrev cX12_prop : ByteArray := prog_14_method_92_code
def yX12_prop : MethodName := ⟨RX12, "prop", "(I)Z"⟩
abbrev cX12_burn : ByteArray := prog_14_method_93_code
def yX12_burn : MethodName := ⟨RX12, "burn", "(I)Z"⟩
abbrev cX12_seed : ByteArray := prog_14_method_94_code
def yX12_seed : MethodName := ⟨RX12, "seed", "(I)Z"⟩
abbrev cX12_drawOf : ByteArray := prog_14_method_95_code
def yX12_drawOf : MethodName := ⟨RX12, "drawOf", "(I)I"⟩
abbrev cX12_blasts : ByteArray := prog_14_method_96_code
def yX12_blasts : MethodName := ⟨RX12, "blasts", "(II)V"⟩
abbrev cX12_dayGoes : ByteArray := prog_14_method_97_code
def yX12_dayGoes : MethodName := ⟨RX12, "dayGoes", "()Z"⟩
abbrev cX12_days : ByteArray := prog_14_method_98_code
def yX12_days : MethodName := ⟨RX12, "days", "(I)I"⟩
abbrev cX12_bores : ByteArray := prog_14_method_99_code
def yX12_bores : MethodName := ⟨RX12, "bores", "()I"⟩
abbrev cX12_shifted : ByteArray := prog_14_method_100_code
def yX12_shifted : MethodName := ⟨RX12, "shifted", "(III)I"⟩
abbrev cX12_isFit : ByteArray := prog_14_method_101_code
def yX12_isFit : MethodName := ⟨RX12, "isFit", "(I)Z"⟩
abbrev cX12_fitting : ByteArray := prog_14_method_102_code
def yX12_fitting : MethodName := ⟨RX12, "fitting", "()I"⟩
abbrev cX12_fits : ByteArray := prog_14_method_103_code
def yX12_fits : MethodName := ⟨RX12, "fits", "(I)I"⟩
abbrev cX12_alikeAt : ByteArray := prog_14_method_104_code
def yX12_alikeAt : MethodName := ⟨RX12, "alikeAt", "(II)I"⟩
abbrev cX12_next : ByteArray := prog_14_method_105_code
def yX12_next : MethodName := ⟨RX12, "next", "(I)I"⟩
abbrev cX12_laysWays : ByteArray := prog_14_method_106_code
def yX12_laysWays : MethodName := ⟨RX12, "laysWays", "(II)V"⟩
abbrev cX12_addsKind : ByteArray := prog_14_method_107_code
def yX12_addsKind : MethodName := ⟨RX12, "addsKind", "(II)V"⟩
abbrev cX12_fewestOf : ByteArray := prog_14_method_108_code
def yX12_fewestOf : MethodName := ⟨RX12, "fewestOf", "(II)I"⟩
abbrev cX12_theft : ByteArray := prog_14_method_109_code
def yX12_theft : MethodName := ⟨RX12, "theft", "(II)I"⟩
abbrev cX12_qCode : ByteArray := prog_14_method_110_code
def yX12_qCode : MethodName := ⟨RX12, "qCode", "(I)V"⟩
abbrev cX12_qOpens : ByteArray := prog_14_method_111_code
def yX12_qOpens : MethodName := ⟨RX12, "qOpens", "(II)V"⟩
abbrev cX12_qIsOn : ByteArray := prog_14_method_112_code
def yX12_qIsOn : MethodName := ⟨RX12, "qIsOn", "(I)Z"⟩
abbrev cX12_qDrops : ByteArray := prog_14_method_113_code
def yX12_qDrops : MethodName := ⟨RX12, "qDrops", "()V"⟩
abbrev cX12_qIsBracket : ByteArray := prog_14_method_114_code
def yX12_qIsBracket : MethodName := ⟨RX12, "qIsBracket", "(I)Z"⟩
abbrev cX12_qBracket : ByteArray := prog_14_method_115_code
def yX12_qBracket : MethodName := ⟨RX12, "qBracket", "()I"⟩
abbrev cX12_qDropsToBracket : ByteArray := prog_14_method_116_code
def yX12_qDropsToBracket : MethodName := ⟨RX12, "qDropsToBracket", "()V"⟩
abbrev cX12_qWordHere : ByteArray := prog_14_method_117_code
def yX12_qWordHere : MethodName := ⟨RX12, "qWordHere", "()I"⟩
abbrev cX12_qWordOf : ByteArray := prog_14_method_118_code
def yX12_qWordOf : MethodName := ⟨RX12, "qWordOf", "(II)I"⟩
abbrev cX12_qAsksWord : ByteArray := prog_14_method_119_code
def yX12_qAsksWord : MethodName := ⟨RX12, "qAsksWord", "(I)V"⟩
abbrev cX12_qEndsPart : ByteArray := prog_14_method_120_code
def yX12_qEndsPart : MethodName := ⟨RX12, "qEndsPart", "()V"⟩
abbrev cX12_qPartTold : ByteArray := prog_14_method_121_code
def yX12_qPartTold : MethodName := ⟨RX12, "qPartTold", "()V"⟩
abbrev cX12_qGoesOn : ByteArray := prog_14_method_122_code
def yX12_qGoesOn : MethodName := ⟨RX12, "qGoesOn", "()Z"⟩
abbrev cX12_qSums : ByteArray := prog_14_method_123_code
def yX12_qSums : MethodName := ⟨RX12, "qSums", "()V"⟩
abbrev cX12_qFact : ByteArray := prog_14_method_124_code
def yX12_qFact : MethodName := ⟨RX12, "qFact", "()V"⟩
abbrev cX12_qHasSquare : ByteArray := prog_14_method_125_code
def yX12_qHasSquare : MethodName := ⟨RX12, "qHasSquare", "()Z"⟩
abbrev cX12_qDropsNots : ByteArray := prog_14_method_126_code
def yX12_qDropsNots : MethodName := ⟨RX12, "qDropsNots", "()V"⟩
abbrev cX12_qTest : ByteArray := prog_14_method_127_code
def yX12_qTest : MethodName := ⟨RX12, "qTest", "()V"⟩
abbrev cX12_qGoesOnTest : ByteArray := prog_14_method_128_code
def yX12_qGoesOnTest : MethodName := ⟨RX12, "qGoesOnTest", "()Z"⟩
abbrev cX12_qClip : ByteArray := prog_14_method_129_code
def yX12_qClip : MethodName := ⟨RX12, "qClip", "(J)J"⟩
abbrev cX12_qFloor : ByteArray := prog_14_method_130_code
def yX12_qFloor : MethodName := ⟨RX12, "qFloor", "(JJ)J"⟩
abbrev cX12_qPuts : ByteArray := prog_14_method_131_code
def yX12_qPuts : MethodName := ⟨RX12, "qPuts", "(J)V"⟩
abbrev cX12_qJoins : ByteArray := prog_14_method_132_code
def yX12_qJoins : MethodName := ⟨RX12, "qJoins", "(I)V"⟩
abbrev cX12_qPartOf : ByteArray := prog_14_method_133_code
def yX12_qPartOf : MethodName := ⟨RX12, "qPartOf", "(II)J"⟩
abbrev cX12_qOf : ByteArray := prog_14_method_134_code
def yX12_qOf : MethodName := ⟨RX12, "qOf", "(IJI)J"⟩
abbrev cX12_qTold : ByteArray := prog_14_method_135_code
def yX12_qTold : MethodName := ⟨RX12, "qTold", "(I)J"⟩
abbrev cX12_qKind : ByteArray := prog_14_method_136_code
def yX12_qKind : MethodName := ⟨RX12, "qKind", "()I"⟩
abbrev cX12_qTakes : ByteArray := prog_14_method_137_code
def yX12_qTakes : MethodName := ⟨RX12, "qTakes", "(IJI)V"⟩
abbrev cX12_ask : ByteArray := prog_14_method_138_code
def yX12_ask : MethodName := ⟨RX12, "ask", "()J"⟩
abbrev cX12_checked : ByteArray := prog_14_method_139_code
def yX12_checked : MethodName := ⟨RX12, "checked", "([II)I"⟩
abbrev cX12_writes : ByteArray := prog_14_method_140_code
def yX12_writes : MethodName := ⟨RX12, "writes", "(I)V"⟩
abbrev cX12_writesThree : ByteArray := prog_14_method_141_code
def yX12_writesThree : MethodName := ⟨RX12, "writesThree", "(I)V"⟩
abbrev cX12_image : ByteArray := prog_14_method_142_code
def yX12_image : MethodName := ⟨RX12, "image", "()I"⟩
abbrev cX12_octet : ByteArray := prog_14_method_143_code
def yX12_octet : MethodName := ⟨RX12, "octet", "(I)I"⟩
abbrev cX12_threeAt : ByteArray := prog_14_method_144_code
def yX12_threeAt : MethodName := ⟨RX12, "threeAt", "(I)I"⟩
abbrev cX12_isTold : ByteArray := prog_14_method_145_code
def yX12_isTold : MethodName := ⟨RX12, "isTold", "(I)Z"⟩
abbrev cX12_on : ByteArray := prog_14_method_146_code
def yX12_on : MethodName := ⟨RX12, "on", "()Z"⟩
abbrev cX12_status : ByteArray := prog_14_method_147_code
def yX12_status : MethodName := ⟨RX12, "status", "(I)I"⟩
def RJx145de : String := "java/io/Serializable"
def TJx145de : u_T := fun k => match k with
  | _ => ("", "", "", false)
def tyJx145de : Nat → FieldType := fun k => match k with
  | _ => .int
def RJx9f9b0 : String := "java/lang/CharSequence"
def TJx9f9b0 : u_T := fun k => match k with
  | _ => ("", "", "", false)
def tyJx9f9b0 : Nat → FieldType := fun k => match k with
  | _ => .int
def RJxb160c : String := "java/lang/Comparable"
def TJxb160c : u_T := fun k => match k with
  | _ => ("", "", "", false)
def tyJxb160c : Nat → FieldType := fun k => match k with
  | _ => .int
def RJ6 : String := "java/lang/Integer"
def TJ6 : u_T := fun k => match k with
  | _ => ("", "", "", false)
def tyJ6 : Nat → FieldType := fun k => match k with
  | _ => .int
abbrev cJ6_numberOfTrailingZeros_0f7a4 : ByteArray := prog_15_method_48_code
def yJ6_numberOfTrailingZeros_0f7a4 : MethodName := ⟨RJ6, "numberOfTrailingZeros", "(I)I"⟩
abbrev cJ6_bitCount_0f7a4 : ByteArray := prog_15_method_49_code
def yJ6_bitCount_0f7a4 : MethodName := ⟨RJ6, "bitCount", "(I)I"⟩
def RJ9 : String := "java/lang/Math"
def TJ9 : u_T := fun k => match k with
  | _ => ("", "", "", false)
def tyJ9 : Nat → FieldType := fun k => match k with
  | _ => .int
abbrev cJ9_floorDiv_7cf53 : ByteArray := prog_16_method_47_code
def yJ9_floorDiv_7cf53 : MethodName := ⟨RJ9, "floorDiv", "(II)I"⟩
abbrev cJ9_abs_0f7a4 : ByteArray := prog_16_method_59_code
def yJ9_abs_0f7a4 : MethodName := ⟨RJ9, "abs", "(I)I"⟩
abbrev cJ9_max_7cf53 : ByteArray := prog_16_method_65_code
def yJ9_max_7cf53 : MethodName := ⟨RJ9, "max", "(II)I"⟩
abbrev cJ9_max_f86c9 : ByteArray := prog_16_method_66_code
def yJ9_max_f86c9 : MethodName := ⟨RJ9, "max", "(JJ)J"⟩
abbrev cJ9_min_7cf53 : ByteArray := prog_16_method_69_code
def yJ9_min_7cf53 : MethodName := ⟨RJ9, "min", "(II)I"⟩
abbrev cJ9_min_f86c9 : ByteArray := prog_16_method_70_code
def yJ9_min_f86c9 : MethodName := ⟨RJ9, "min", "(JJ)J"⟩
def RJ0 : String := "java/lang/String"
def TJ0 : u_T := fun k => match k with
  | _ => ("", "", "", false)
def tyJ0 : Nat → FieldType := fun k => match k with
  | _ => .int
abbrev cJ0_length_8abf5 : ByteArray := prog_17_method_54_code
def yJ0_length_8abf5 : MethodName := ⟨RJ0, "length", "()I"⟩
abbrev cJ0_charAt_5068e : ByteArray := prog_17_method_56_code
def yJ0_charAt_5068e : MethodName := ⟨RJ0, "charAt", "(I)C"⟩
abbrev cJ0_coder_7d493 : ByteArray := prog_17_method_152_code
def yJ0_coder_7d493 : MethodName := ⟨RJ0, "coder", "()B"⟩
abbrev cJ0_isLatin1_aae02 : ByteArray := prog_17_method_154_code
def yJ0_isLatin1_aae02 : MethodName := ⟨RJ0, "isLatin1", "()Z"⟩
abbrev cJ0_checkIndex_df160 : ByteArray := prog_17_method_155_code
def yJ0_checkIndex_df160 : MethodName := ⟨RJ0, "checkIndex", "(II)V"⟩
def RJ1 : String := "java/lang/StringLatin1"
def TJ1 : u_T := fun k => match k with
  | _ => ("", "", "", false)
def tyJ1 : Nat → FieldType := fun k => match k with
  | _ => .int
abbrev cJ1_charAt_3b067 : ByteArray := prog_18_method_2_code
def yJ1_charAt_3b067 : MethodName := ⟨RJ1, "charAt", "([BI)C"⟩
def RJ2 : String := "java/lang/StringUTF16"
def TJ2 : u_T := fun k => match k with
  | _ => ("", "", "", false)
def tyJ2 : Nat → FieldType := fun k => match k with
  | _ => .int
abbrev cJ2_getChar_3b067 : ByteArray := prog_19_method_5_code
def yJ2_getChar_3b067 : MethodName := ⟨RJ2, "getChar", "([BI)C"⟩
abbrev cJ2_length_9d52b : ByteArray := prog_19_method_6_code
def yJ2_length_9d52b : MethodName := ⟨RJ2, "length", "([B)I"⟩
abbrev cJ2_charAt_3b067 : ByteArray := prog_19_method_83_code
def yJ2_charAt_3b067 : MethodName := ⟨RJ2, "charAt", "([BI)C"⟩
abbrev cJ2_checkIndex_2214a : ByteArray := prog_19_method_91_code
def yJ2_checkIndex_2214a : MethodName := ⟨RJ2, "checkIndex", "(I[B)V"⟩
def RJ10 : String := "java/lang/System"
def TJ10 : u_T := fun k => match k with
  | _ => ("", "", "", false)
def tyJ10 : Nat → FieldType := fun k => match k with
  | _ => .int
def RJxfd54e : String := "java/lang/constant/Constable"
def TJxfd54e : u_T := fun k => match k with
  | _ => ("", "", "", false)
def tyJxfd54e : Nat → FieldType := fun k => match k with
  | _ => .int
def RJx3cf43 : String := "java/lang/constant/ConstantDesc"
def TJx3cf43 : u_T := fun k => match k with
  | _ => ("", "", "", false)
def tyJx3cf43 : Nat → FieldType := fun k => match k with
  | _ => .int
def RJ7 : String := "java/util/Arrays"
def TJ7 : u_T := fun k => match k with
  | _ => ("", "", "", false)
def tyJ7 : Nat → FieldType := fun k => match k with
  | _ => .int
abbrev cJ7_fill_53178 : ByteArray := prog_21_method_103_code
def yJ7_fill_53178 : MethodName := ⟨RJ7, "fill", "([II)V"⟩
def RJ3 : String := "jdk/internal/util/Preconditions"
def TJ3 : u_T := fun k => match k with
  | _ => ("", "", "", false)
def tyJ3 : Nat → FieldType := fun k => match k with
  | _ => .int
abbrev cJ3_checkIndex_8e157 : ByteArray := prog_22_method_11_code
def yJ3_checkIndex_8e157 : MethodName := ⟨RJ3, "checkIndex", "(IILjava/util/function/BiFunction;)I"⟩
def RL : String := "SundayPitLaw"
abbrev cL_law : ByteArray := code
def yL_law : MethodName := ⟨RL, "law", "([I)Z"⟩
abbrev vwCl : List vw_C := [(RX0, TX0, 4), (RX1, TX1, 5), (RX2, TX2, 3), (RX3, TX3, 7), (RX4, TX4, 19), (RX5, TX5, 2), (RX6, TX6, 2), (RX7, TX7, 11), (RX8, TX8, 11), (RX9, TX9, 7), (RX10, TX10, 2), (RX11, TX11, 19), (RX12, TX12, 120)]
end
section
/-! THE PURE MACHINE: numbers are Int (tag 0 an int, 1 a long, 2 nothing, 10 + k a reference to a cell of kind k); a cell is a number; -1 null, -2 the script, -3 the string constant.
A store is (G, X): G = (how many cells, how many slots, the kind, the length, the references of each cell), X the numbers of each cell. Instructions are functions that hand on to what follows. -/
abbrev jV : Type := Nat × Int
abbrev jG : Type := Nat × Nat × (Int → Nat) × (Int → Int) × (Int → Int → Int)
abbrev jX : Type := Int → Int → Int
abbrev jS : Type := jG × jX
abbrev jR : Type := Option (Int × jS)
abbrev jC : Type := Nat → List jV → jS → jR
abbrev jT : Type := Nat → List jV → List jV → jS → jR
abbrev jI : Type := Nat × Int × Int × List Int
abbrev jF : Type := Int → Int → List Int → jC → Nat → List jV → List jV → jS → jT → jR
def gN (G : jG) : Nat := G.1
def gM (G : jG) : Nat := G.2.1
def gK (G : jG) : Int → Nat := G.2.2.1
def gL (G : jG) : Int → Int := G.2.2.2.1
def gR (G : jG) : Int → Int → Int := G.2.2.2.2
def w32 (z : Int) : Int := (z + 2147483648) % 4294967296 - 2147483648
def w64 (z : Int) : Int := (z + 9223372036854775808) % 18446744073709551616 - 9223372036854775808
def jup (f : Int → Int → Int) (k j z : Int) : Int → Int → Int := fun a b => if a = k then (if b = j then z else f a b) else f a b
/-- n numbers of row s from sp on into row t from dp on -/
def jcpy (f : Int → Int → Int) (s sp t dp n : Int) : Int → Int → Int := fun a b => if a = t then (if dp ≤ b then (if b < dp + n then f s (sp + (b - dp)) else f a b) else f a b) else f a b
def iAnd (a b : Int) : Int := (Int32.ofInt a &&& Int32.ofInt b).toInt
def iOr (a b : Int) : Int := (Int32.ofInt a ||| Int32.ofInt b).toInt
def iXor (a b : Int) : Int := (Int32.ofInt a ^^^ Int32.ofInt b).toInt
def iShl (a b : Int) : Int := (Int32.ofInt a <<< (Int32.ofInt b &&& 31)).toInt
def iShr (a b : Int) : Int := (Int32.ofInt a >>> (Int32.ofInt b &&& 31)).toInt
def iUshr (a b : Int) : Int := ((Int32.ofInt a).toUInt32 >>> ((Int32.ofInt b).toUInt32 &&& Int32.toUInt32 31)).toInt32.toInt
def lAnd (a b : Int) : Int := (Int64.ofInt a &&& Int64.ofInt b).toInt
def lOr (a b : Int) : Int := (Int64.ofInt a ||| Int64.ofInt b).toInt
def lShl (a b : Int) : Int := (Int64.ofInt a <<< ((Int32.ofInt b).toInt64 &&& 63)).toInt
def lShr (a b : Int) : Int := (Int64.ofInt a >>> ((Int32.ofInt b).toInt64 &&& 63)).toInt
def lCmp (a b : Int) : Int := if a < b then -1 else if a = b then 0 else 1
def jadd (a b : Int) : Int := w32 (a + b)
def jsub (a b : Int) : Int := w32 (a - b)
def jmul (a b : Int) : Int := w32 (a * b)
def ladd (a b : Int) : Int := w64 (a + b)
def lsub (a b : Int) : Int := w64 (a - b)
def lmul (a b : Int) : Int := w64 (a * b)
/-- a new cell: its kind, its length (0 for an object), its slots; all numbers 0, all references null -/
def jnew (kd : Nat) (len : Int) (sl : Nat) (S : jS) : jS :=
  ((S.1.1 + 1, S.1.2.1 + sl, (fun a => if a = (S.1.1 : Int) then kd else S.1.2.2.1 a), (fun a => if a = (S.1.1 : Int) then len else S.1.2.2.2.1 a), (fun a b => if a = (S.1.1 : Int) then -1 else S.1.2.2.2.2 a b)), fun a b => if a = (S.1.1 : Int) then 0 else S.2 a b)
def jsetR (S : jS) (k j z : Int) : jS := ((S.1.1, S.1.2.1, S.1.2.2.1, S.1.2.2.2.1, jup S.1.2.2.2.2 k j z), S.2)
def oBad : jF := fun _ _ _ _ _ _ _ _ _ => none
def oPush (t n : Nat) : jF := fun a _ _ _ pc loc st S k => k (pc + n) loc ((t, a) :: st) S
def oLoad (t n : Nat) : jF := fun a _ _ _ pc loc st S k => match loc.getD a.toNat (2, -1) with
  | (t', z) => if t' = t then k (pc + n) loc ((t, z) :: st) S else none
def oALoad (n : Nat) : jF := fun a _ _ _ pc loc st S k => match loc.getD a.toNat (2, -1) with
  | (t', z) => if 10 ≤ t' then k (pc + n) loc ((t', z) :: st) S else none
def jfree (loc : List jV) (i : Nat) : Bool := decide (i < loc.length) && (match i with | 0 => true | j + 1 => decide ((loc.getD j (2, -1)).1 ≠ 1))
def oStore (n : Nat) : jF := fun a _ _ _ pc loc st S k => match st with
  | (0, z) :: r => if jfree loc a.toNat then k (pc + n) (loc.set a.toNat (0, z)) r S else none
  | _ => none
def oLStore (n : Nat) : jF := fun a _ _ _ pc loc st S k => match st with
  | (1, z) :: r => if jfree loc a.toNat && decide (a.toNat + 1 < loc.length) then k (pc + n) ((loc.set a.toNat (1, z)).set (a.toNat + 1) (2, -1)) r S else none
  | _ => none
def oAStore (n : Nat) : jF := fun a _ _ _ pc loc st S k => match st with
  | (t, z) :: r => if 10 ≤ t then (if jfree loc a.toNat then k (pc + n) (loc.set a.toNat (t, z)) r S else none) else none
  | _ => none
def oIinc : jF := fun a b _ _ pc loc st S k => match loc.getD a.toNat (2, -1) with
  | (0, z) => if jfree loc a.toNat then k (pc + 3) (loc.set a.toNat (0, jadd z b)) st S else none
  | _ => none
def oBin (f : Int → Int → Int) : jF := fun _ _ _ _ pc loc st S k => match st with
  | (0, y) :: (0, x) :: r => k (pc + 1) loc ((0, f x y) :: r) S
  | _ => none
def oDiv (f : Int → Int → Int) : jF := fun _ _ _ _ pc loc st S k => match st with
  | (0, y) :: (0, x) :: r => if y = 0 then none else k (pc + 1) loc ((0, f x y) :: r) S
  | _ => none
def jdiv (x y : Int) : Int := w32 (x.tdiv y)
def jrem (x y : Int) : Int := x.tmod y
def oBinL (f : Int → Int → Int) : jF := fun _ _ _ _ pc loc st S k => match st with
  | (1, y) :: (1, x) :: r => k (pc + 1) loc ((1, f x y) :: r) S
  | _ => none
def oDivL (f : Int → Int → Int) : jF := fun _ _ _ _ pc loc st S k => match st with
  | (1, y) :: (1, x) :: r => if y = 0 then none else k (pc + 1) loc ((1, f x y) :: r) S
  | _ => none
def ldiv (x y : Int) : Int := w64 (x.tdiv y)
def lrem (x y : Int) : Int := x.tmod y
def oShL (f : Int → Int → Int) : jF := fun _ _ _ _ pc loc st S k => match st with
  | (0, y) :: (1, x) :: r => k (pc + 1) loc ((1, f x y) :: r) S
  | _ => none
def oLcmp : jF := fun _ _ _ _ pc loc st S k => match st with
  | (1, y) :: (1, x) :: r => k (pc + 1) loc ((0, lCmp x y) :: r) S
  | _ => none
def oI2l : jF := fun _ _ _ _ pc loc st S k => match st with
  | (0, x) :: r => k (pc + 1) loc ((1, x) :: r) S
  | _ => none
def oL2i : jF := fun _ _ _ _ pc loc st S k => match st with
  | (1, x) :: r => k (pc + 1) loc ((0, w32 x) :: r) S
  | _ => none
def oIneg : jF := fun _ _ _ _ pc loc st S k => match st with
  | (0, x) :: r => k (pc + 1) loc ((0, w32 (-x)) :: r) S
  | _ => none
def oDup : jF := fun _ _ _ _ pc loc st S k => match st with
  | (t, x) :: r => if t = 1 then none else k (pc + 1) loc ((t, x) :: (t, x) :: r) S
  | _ => none
def oDup2 : jF := fun _ _ _ _ pc loc st S k => match st with
  | (t, x) :: (u, y) :: r => if t = 1 then k (pc + 1) loc ((t, x) :: (t, x) :: (u, y) :: r) S else if u = 1 then none else k (pc + 1) loc ((t, x) :: (u, y) :: (t, x) :: (u, y) :: r) S
  | (t, x) :: [] => if t = 1 then k (pc + 1) loc ((t, x) :: (t, x) :: []) S else none
  | _ => none
def oPop : jF := fun _ _ _ _ pc loc st S k => match st with
  | (t, _) :: r => if t = 1 then none else k (pc + 1) loc r S
  | _ => none
def oIfEq : jF := fun a _ _ _ pc loc st S k => match st with
  | (0, x) :: r => if x = 0 then k a.toNat loc r S else k (pc + 3) loc r S
  | _ => none
def oIfNe : jF := fun a _ _ _ pc loc st S k => match st with
  | (0, x) :: r => if x = 0 then k (pc + 3) loc r S else k a.toNat loc r S
  | _ => none
def oIfLt : jF := fun a _ _ _ pc loc st S k => match st with
  | (0, x) :: r => if x < 0 then k a.toNat loc r S else k (pc + 3) loc r S
  | _ => none
def oIfGe : jF := fun a _ _ _ pc loc st S k => match st with
  | (0, x) :: r => if x < 0 then k (pc + 3) loc r S else k a.toNat loc r S
  | _ => none
def oIfGt : jF := fun a _ _ _ pc loc st S k => match st with
  | (0, x) :: r => if 0 < x then k a.toNat loc r S else k (pc + 3) loc r S
  | _ => none
def oIfLe : jF := fun a _ _ _ pc loc st S k => match st with
  | (0, x) :: r => if 0 < x then k (pc + 3) loc r S else k a.toNat loc r S
  | _ => none
def oIcEq : jF := fun a _ _ _ pc loc st S k => match st with
  | (0, y) :: (0, x) :: r => if x = y then k a.toNat loc r S else k (pc + 3) loc r S
  | _ => none
def oIcNe : jF := fun a _ _ _ pc loc st S k => match st with
  | (0, y) :: (0, x) :: r => if x = y then k (pc + 3) loc r S else k a.toNat loc r S
  | _ => none
def oIcLt : jF := fun a _ _ _ pc loc st S k => match st with
  | (0, y) :: (0, x) :: r => if x < y then k a.toNat loc r S else k (pc + 3) loc r S
  | _ => none
def oIcGe : jF := fun a _ _ _ pc loc st S k => match st with
  | (0, y) :: (0, x) :: r => if x < y then k (pc + 3) loc r S else k a.toNat loc r S
  | _ => none
def oIcGt : jF := fun a _ _ _ pc loc st S k => match st with
  | (0, y) :: (0, x) :: r => if y < x then k a.toNat loc r S else k (pc + 3) loc r S
  | _ => none
def oIcLe : jF := fun a _ _ _ pc loc st S k => match st with
  | (0, y) :: (0, x) :: r => if y < x then k (pc + 3) loc r S else k a.toNat loc r S
  | _ => none
def oGoto : jF := fun a _ _ _ _ loc st S k => k a.toNat loc st S
def oIfNN : jF := fun a _ _ _ pc loc st S k => match st with
  | (t, z) :: r => if 10 ≤ t then (if z = -1 then k (pc + 3) loc r S else k a.toNat loc r S) else none
  | _ => none
def jsw (k : Nat → jR) (z d : Int) : Int → List Int → jR
  | _, [] => k d.toNat
  | lo, t :: l => if z = lo then k t.toNat else jsw k z d (lo + 1) l
def oTab : jF := fun a b l _ _ loc st S k => match st with
  | (0, z) :: r => jsw (fun t => k t loc r S) z a b l
  | _ => none
def jlk (k : Nat → jR) (z d : Int) : List Int → jR
  | x :: t :: l => if z = x then k t.toNat else jlk k z d l
  | _ => k d.toNat
def oLook : jF := fun a _ l _ _ loc st S k => match st with
  | (0, z) :: r => jlk (fun t => k t loc r S) z a l
  | _ => none
/-- getfield: a the slot, l = [the class, the tag] -/
def oGet : jF := fun a _ l _ pc loc st S k => match st with
  | (t, r) :: rest => if t = 10 + (l.getD 0 0).toNat then (if 0 ≤ r then k (pc + 3) loc (((l.getD 1 0).toNat, S.2 r a) :: rest) S else none) else none
  | _ => none
def oGetR : jF := fun a _ l _ pc loc st S k => match st with
  | (t, r) :: rest => if t = 10 + (l.getD 0 0).toNat then (if 0 ≤ r then k (pc + 3) loc (((l.getD 1 0).toNat, gR S.1 r a) :: rest) S else none) else none
  | _ => none
/-- putfield of a number: l = [the class, the tag]; of a boolean: 0 or 1 alone -/
def oPut : jF := fun a _ l _ pc loc st S k => match st with
  | (u, z) :: (t, r) :: rest => if u = (l.getD 1 0).toNat then (if t = 10 + (l.getD 0 0).toNat then (if 0 ≤ r then k (pc + 3) loc rest (S.1, jup S.2 r a z) else none) else none) else none
  | _ => none
def oPutZ : jF := fun a _ l _ pc loc st S k => match st with
  | (u, z) :: (t, r) :: rest => if u = 0 then (if t = 10 + (l.getD 0 0).toNat then (if 0 ≤ r then (if z = 0 then k (pc + 3) loc rest (S.1, jup S.2 r a 0) else if z = 1 then k (pc + 3) loc rest (S.1, jup S.2 r a 1) else none) else none) else none) else none
  | _ => none
def oPutR : jF := fun a _ l _ pc loc st S k => match st with
  | (u, z) :: (t, r) :: rest => if u = (l.getD 1 0).toNat then (if t = 10 + (l.getD 0 0).toNat then (if 0 ≤ r then k (pc + 3) loc rest (jsetR S r a z) else none) else none) else none
  | _ => none
/-- an array of numbers: the tag of the array, the tag of what is loaded -/
def oAld (ta tv : Nat) : jF := fun _ _ _ _ pc loc st S k => match st with
  | (0, i) :: (t, r) :: rest => if t = ta then (if 0 ≤ r then (if 0 ≤ i then (if i < gL S.1 r then k (pc + 1) loc ((tv, S.2 r i) :: rest) S else none) else none) else none) else none
  | _ => none
def oAst (ta tv : Nat) : jF := fun _ _ _ _ pc loc st S k => match st with
  | (u, z) :: (0, i) :: (t, r) :: rest => if u = tv then (if t = ta then (if 0 ≤ r then (if 0 ≤ i then (if i < gL S.1 r then k (pc + 1) loc rest (S.1, jup S.2 r i z) else none) else none) else none) else none) else none
  | _ => none
/-- castore: of 0 .. 65535 alone -/
def oCst : jF := fun _ _ _ _ pc loc st S k => match st with
  | (0, z) :: (0, i) :: (t, r) :: rest => if t = 23 then (if 0 ≤ r then (if 0 ≤ i then (if i < gL S.1 r then (if 0 ≤ z then (if z ≤ 65535 then k (pc + 1) loc rest (S.1, jup S.2 r i z) else none) else none) else none) else none) else none) else none
  | _ => none
/-- bastore into booleans: of 0, 1 alone -/
def oZst : jF := fun _ _ _ _ pc loc st S k => match st with
  | (0, z) :: (0, i) :: (t, r) :: rest => if t = 26 then (if 0 ≤ r then (if 0 ≤ i then (if i < gL S.1 r then (if z = 0 then k (pc + 1) loc rest (S.1, jup S.2 r i 0) else if z = 1 then k (pc + 1) loc rest (S.1, jup S.2 r i 1) else none) else none) else none) else none) else none
  | _ => none
/-- aaload: a the tag of the array, b the tag of what it holds -/
def oAald : jF := fun a b _ _ pc loc st S k => match st with
  | (0, i) :: (t, r) :: rest => if t = a.toNat then (if 0 ≤ r then (if 0 ≤ i then (if i < gL S.1 r then k (pc + 1) loc ((b.toNat, gR S.1 r i) :: rest) S else none) else none) else none) else none
  | _ => none
def oAast : jF := fun a b _ _ pc loc st S k => match st with
  | (u, z) :: (0, i) :: (t, r) :: rest => if u = b.toNat then (if t = a.toNat then (if 0 ≤ r then (if 0 ≤ z then (if 0 ≤ i then (if i < gL S.1 r then k (pc + 1) loc rest (jsetR S r i z) else none) else none) else none) else none) else none) else none
  | _ => none
def oLen : jF := fun _ _ _ _ pc loc st S k => match st with
  | (t, r) :: rest => if 23 ≤ t then (if t ≤ 29 then (if 0 ≤ r then k (pc + 1) loc ((0, gL S.1 r) :: rest) S else none) else none) else none
  | _ => none
/-- new: a the class, l = [how many slots] -/
def oNew : jF := fun a _ l _ pc loc st S k => k (pc + 3) loc ((10 + a.toNat, (S.1.1 : Int)) :: st) (jnew a.toNat 0 (l.getD 0 0).toNat S)
/-- newarray: a the kind -/
def oNewA (n : Nat) : jF := fun a _ _ _ pc loc st S k => match st with
  | (0, z) :: rest => if 0 ≤ z then (if z ≤ 100000 then k (pc + n) loc ((10 + a.toNat, (S.1.1 : Int)) :: rest) (jnew a.toNat z z.toNat S) else none) else none
  | _ => none
/-- new int[n][m], its rows made behind it -/
def jrows (m : Int) : Nat → jS → jS
  | 0, S => S
  | n + 1, S => jnew 14 m m.toNat (jrows m n S)
def jrowsR (r : Int) : Nat → jS → jS
  | 0, S => S
  | n + 1, S => jsetR (jrowsR r n S) r n (r + 1 + n)
def oMulti : jF := fun _ _ _ _ pc loc st S k => match st with
  | (0, m) :: (0, n) :: rest => if 0 ≤ n then (if n ≤ 100 then (if 0 ≤ m then (if m ≤ 100 then k (pc + 4) loc ((29, (S.1.1 : Int)) :: rest) (jrowsR (S.1.1 : Int) n.toNat (jrows m n.toNat (jnew 19 n n.toNat S))) else none) else none) else none) else none
  | _ => none
/-- the words of a stack -/
def jcat : List jV → Nat
  | [] => 0
  | (t, _) :: r => (if t = 1 then 2 else 1) + jcat r
/-- a call: a the method, l = [how many arguments, the tag of the answer, 99 for none] -/
def oCall : jF := fun a _ l ce pc loc st S k => if (l.getD 0 0).toNat ≤ st.length then (if jcat (st.drop (l.getD 0 0).toNat) ≤ 8 then (ce a.toNat (st.take (l.getD 0 0).toNat).reverse S).bind fun q => k (pc + 3) loc (if (l.getD 1 0) = 99 then st.drop (l.getD 0 0).toNat else ((l.getD 1 0).toNat, q.1) :: st.drop (l.getD 0 0).toNat) q.2 else none) else none
/-- a call of a method of an object; l's third: the tag of the object -/
def oCallV : jF := fun a b l ce pc loc st S k => match (st.take (l.getD 0 0).toNat).getLast? with
  | some (t, r) => if t = (l.getD 2 0).toNat then (if 0 ≤ r then oCall a b l ce pc loc st S k else none) else none
  | none => none
/-- Object's constructor -/
def oObj : jF := fun _ _ _ _ pc loc st S k => match st with
  | (t, r) :: rest => if 10 ≤ t then (if 0 ≤ r then (if jcat rest ≤ 8 then k (pc + 3) loc rest S else none) else none) else none
  | _ => none
/-- the ends: of a method of int, long, a reference (a its tag), boolean, none -/
def oRet (t : Nat) : jF := fun _ _ _ _ _ _ st S _ => match st with
  | (u, z) :: [] => if u = t then some (z, S) else none
  | _ => none
def oRetR : jF := fun a _ _ _ _ _ st S _ => match st with
  | (u, z) :: [] => if u = a.toNat then some (z, S) else none
  | _ => none
def oRetZ : jF := fun _ _ _ _ _ _ st S _ => match st with
  | (u, z) :: [] => if u = 0 then (if z = 0 then some (0, S) else if z = 1 then some (1, S) else none) else none
  | _ => none
def oRetV : jF := fun _ _ _ _ _ _ st S _ => match st with
  | [] => some (0, S)
  | _ => none
/-- System.arraycopy over int arrays -/
def oCopy : jF := fun _ _ _ _ pc loc st S k => match st with
  | (0, n) :: (0, dp) :: (u, t) :: (0, sp) :: (v, s) :: rest => if u = 24 then (if v = 24 then (if 0 ≤ t then (if 0 ≤ s then (if 0 ≤ n then (if 0 ≤ sp then (if 0 ≤ dp then (if sp + n ≤ gL S.1 s then (if dp + n ≤ gL S.1 t then (if jcat rest ≤ 8 then k (pc + 3) loc rest (S.1, jcpy S.2 s sp t dp n) else none) else none) else none) else none) else none) else none) else none) else none) else none) else none
  | _ => none
/-- the script: its ints, its length, asked of what calls are asked of -/
def oSld : jF := fun _ _ _ ce pc loc st S k => match st with
  | (0, i) :: (t, r) :: rest => if t = 30 then (if r = -2 then (ce 1000 [(0, i)] S).bind (fun q => k (pc + 1) loc ((0, q.1) :: rest) S) else none) else none
  | _ => none
def oSlen : jF := fun _ _ _ ce pc loc st S k => match st with
  | (t, r) :: rest => if t = 30 then (if r = -2 then (ce 1001 [] S).bind (fun q => k (pc + 1) loc ((0, q.1) :: rest) S) else none) else none
  | _ => none
/-- the string constant's signs -/
def jWords : List Int := [112, 105, 116, 32, 97, 116, 32, 107, 105, 110, 100, 32, 114, 101, 115, 116, 32, 103, 97, 115, 32, 114, 111, 119, 32, 104, 111, 117, 115, 101, 32, 109, 105, 120, 32, 109, 97, 121, 32, 119, 111, 114, 116, 104, 32, 116, 105, 108, 116, 32, 104, 111, 108, 100, 115, 32, 112, 114, 111, 112, 115, 32, 108, 101, 97, 110, 115, 32, 100, 101, 112, 116, 104, 32, 97, 99, 114, 111, 115, 115, 32, 110, 101, 97, 114, 32, 115, 112, 97, 110, 32, 111, 112, 101, 110, 32, 102, 97, 108, 108, 101, 110, 32, 119, 104, 111, 108, 101, 32, 110, 117, 109, 98, 101, 114, 32, 116, 117, 98, 115, 32, 111, 114, 32, 97, 110, 100, 32, 110, 111, 116, 32, 97, 108, 108, 32, 109, 105, 110, 32, 109, 97, 120, 32, 102, 105, 114, 115, 116, 32, 108, 97, 115, 116, 32, 111, 102, 116, 101, 110, 32, 116, 111, 116, 97, 108, 32, 109, 111, 115, 116, 32, 108, 101, 97, 115, 116, 32]
def oLdcS : jF := fun _ _ _ _ pc loc st S k => k (pc + 2) loc ((31, -3) :: st) S
def oSLen : jF := fun _ _ _ _ pc loc st S k => match st with
  | (t, r) :: rest => if t = 31 then (if r = -3 then (if jcat rest ≤ 8 then k (pc + 3) loc ((0, 178) :: rest) S else none) else none) else none
  | _ => none
def oSChr : jF := fun _ _ _ _ pc loc st S k => match st with
  | (0, i) :: (t, r) :: rest => if t = 31 then (if r = -3 then (if 0 ≤ i then (if i < 178 then (if jcat rest ≤ 8 then k (pc + 3) loc ((0, jWords.getD i.toNat 0) :: rest) S else none) else none) else none) else none) else none
  | _ => none
end
section
def k0 : List jI := [(12, 0, 0, []), (90, 0, 3, []), (0, 0, 0, []), (0, 0, 0, []), (12, 0, 0, []), (2, 60, 0, []), (0, 0, 0, []), (82, 14, 0, []), (0, 0, 0, []), (69, 1, 0, [0, 24]), (0, 0, 0, []), (0, 0, 0, []), (12, 0, 0, []), (2, 6, 0, []), (0, 0, 0, []), (82, 14, 0, []), (0, 0, 0, []), (69, 2, 1, [0, 24]), (0, 0, 0, []), (0, 0, 0, []), (12, 0, 0, []), (12, 1, 0, []), (69, 0, 2, [0, 14]), (0, 0, 0, []), (0, 0, 0, []), (12, 0, 0, []), (1, 0, 0, []), (66, 3, 3, [0, 0]), (0, 0, 0, []), (0, 0, 0, []), (95, 0, 0, [])]
def k1 : List jI := [(12, 0, 0, []), (1, 0, 0, []), (66, 3, 3, [0, 0]), (0, 0, 0, []), (0, 0, 0, []), (95, 0, 0, [])]
def k2 : List jI := [(12, 1, 0, []), (85, 143, 0, [1, 0, 20]), (0, 0, 0, []), (0, 0, 0, []), (14, 2, 0, []), (8, 2, 0, []), (48, 24, 0, []), (0, 0, 0, []), (0, 0, 0, []), (8, 2, 0, []), (12, 0, 0, []), (65, 1, 0, [0, 24]), (0, 0, 0, []), (0, 0, 0, []), (80, 0, 0, []), (58, 24, 0, []), (0, 0, 0, []), (0, 0, 0, []), (8, 2, 0, []), (1, 3, 0, []), (25, 0, 0, []), (48, 26, 0, []), (0, 0, 0, []), (0, 0, 0, []), (1, -1, 0, []), (91, 0, 0, []), (1, 0, 0, []), (14, 3, 0, []), (8, 3, 0, []), (8, 2, 0, []), (57, 90, 0, []), (0, 0, 0, []), (0, 0, 0, []), (12, 1, 0, []), (8, 3, 0, []), (85, 144, 1, [2, 0, 20]), (0, 0, 0, []), (0, 0, 0, []), (12, 0, 0, []), (65, 0, 2, [0, 14]), (0, 0, 0, []), (0, 0, 0, []), (64, 2, 4, [4, 0]), (0, 0, 0, []), (0, 0, 0, []), (57, 82, 0, []), (0, 0, 0, []), (0, 0, 0, []), (12, 1, 0, []), (8, 3, 0, []), (1, 1, 0, []), (21, 0, 0, []), (85, 144, 1, [2, 0, 20]), (0, 0, 0, []), (0, 0, 0, []), (12, 0, 0, []), (65, 0, 2, [0, 14]), (0, 0, 0, []), (0, 0, 0, []), (64, 4, 5, [4, 0]), (0, 0, 0, []), (0, 0, 0, []), (57, 82, 0, []), (0, 0, 0, []), (0, 0, 0, []), (12, 1, 0, []), (8, 3, 0, []), (1, 2, 0, []), (21, 0, 0, []), (85, 144, 1, [2, 0, 20]), (0, 0, 0, []), (0, 0, 0, []), (12, 0, 0, []), (65, 0, 2, [0, 14]), (0, 0, 0, []), (0, 0, 0, []), (64, 5, 6, [4, 0]), (0, 0, 0, []), (0, 0, 0, []), (59, 84, 0, []), (0, 0, 0, []), (0, 0, 0, []), (1, -1, 0, []), (91, 0, 0, []), (20, 3, 3, []), (0, 0, 0, []), (0, 0, 0, []), (60, 28, 0, []), (0, 0, 0, []), (0, 0, 0, []), (1, 0, 0, []), (14, 3, 0, []), (8, 3, 0, []), (8, 2, 0, []), (57, 114, 0, []), (0, 0, 0, []), (0, 0, 0, []), (12, 0, 0, []), (65, 1, 0, [0, 24]), (0, 0, 0, []), (0, 0, 0, []), (8, 3, 0, []), (12, 1, 0, []), (8, 3, 0, []), (85, 144, 1, [2, 0, 20]), (0, 0, 0, []), (0, 0, 0, []), (75, 0, 0, []), (20, 3, 1, []), (0, 0, 0, []), (0, 0, 0, []), (60, 92, 0, []), (0, 0, 0, []), (0, 0, 0, []), (12, 0, 0, []), (8, 2, 0, []), (1, 3, 0, []), (24, 0, 0, []), (66, 3, 3, [0, 0]), (0, 0, 0, []), (0, 0, 0, []), (12, 0, 0, []), (64, 3, 3, [0, 0]), (0, 0, 0, []), (0, 0, 0, []), (91, 0, 0, [])]
def k3 : List jI := [(8, 1, 0, []), (1, 5, 0, []), (25, 0, 0, []), (1, 2, 0, []), (22, 0, 0, []), (15, 4, 0, []), (0, 0, 0, []), (8, 1, 0, []), (1, 5, 0, []), (24, 0, 0, []), (1, 1, 0, []), (22, 0, 0, []), (15, 5, 0, []), (0, 0, 0, []), (12, 0, 0, []), (65, 0, 2, [0, 14]), (0, 0, 0, []), (0, 0, 0, []), (8, 2, 0, []), (9, 4, 0, []), (0, 0, 0, []), (22, 0, 0, []), (8, 3, 0, []), (9, 5, 0, []), (0, 0, 0, []), (22, 0, 0, []), (85, 59, 2, [3, 0, 14]), (0, 0, 0, []), (0, 0, 0, []), (91, 0, 0, [])]
def k4 : List jI := [(1, 0, 0, []), (14, 2, 0, []), (8, 2, 0, []), (1, 3, 0, []), (12, 0, 0, []), (64, 3, 3, [0, 0]), (0, 0, 0, []), (0, 0, 0, []), (23, 0, 0, []), (57, 61, 0, []), (0, 0, 0, []), (0, 0, 0, []), (8, 2, 0, []), (1, 2, 0, []), (21, 0, 0, []), (12, 0, 0, []), (65, 1, 0, [0, 24]), (0, 0, 0, []), (0, 0, 0, []), (80, 0, 0, []), (57, 61, 0, []), (0, 0, 0, []), (0, 0, 0, []), (12, 0, 0, []), (8, 1, 0, []), (12, 0, 0, []), (65, 1, 0, [0, 24]), (0, 0, 0, []), (0, 0, 0, []), (8, 2, 0, []), (70, 0, 0, []), (12, 0, 0, []), (65, 1, 0, [0, 24]), (0, 0, 0, []), (0, 0, 0, []), (8, 2, 0, []), (1, 1, 0, []), (21, 0, 0, []), (70, 0, 0, []), (85, 3, 3, [4, 0, 10]), (0, 0, 0, []), (0, 0, 0, []), (12, 0, 0, []), (65, 1, 0, [0, 24]), (0, 0, 0, []), (0, 0, 0, []), (8, 2, 0, []), (1, 2, 0, []), (21, 0, 0, []), (70, 0, 0, []), (54, 55, 0, []), (0, 0, 0, []), (0, 0, 0, []), (1, 0, 0, []), (94, 0, 0, []), (20, 2, 3, []), (0, 0, 0, []), (0, 0, 0, []), (60, 2, 0, []), (0, 0, 0, []), (0, 0, 0, []), (1, 1, 0, []), (94, 0, 0, [])]
def k5 : List jI := [(1, 0, 0, []), (14, 1, 0, []), (1, 0, 0, []), (14, 2, 0, []), (8, 2, 0, []), (2, 15, 0, []), (0, 0, 0, []), (57, 30, 0, []), (0, 0, 0, []), (0, 0, 0, []), (12, 0, 0, []), (8, 2, 0, []), (85, 4, 4, [2, 0, 10]), (0, 0, 0, []), (0, 0, 0, []), (48, 24, 0, []), (0, 0, 0, []), (0, 0, 0, []), (8, 1, 0, []), (1, 1, 0, []), (8, 2, 0, []), (27, 0, 0, []), (31, 0, 0, []), (14, 1, 0, []), (20, 2, 1, []), (0, 0, 0, []), (0, 0, 0, []), (60, 4, 0, []), (0, 0, 0, []), (0, 0, 0, []), (8, 1, 0, []), (91, 0, 0, [])]
def k6 : List jI := [(12, 0, 0, []), (85, 5, 5, [1, 0, 10]), (0, 0, 0, []), (0, 0, 0, []), (14, 1, 0, []), (8, 1, 0, []), (49, 13, 0, []), (0, 0, 0, []), (0, 0, 0, []), (1, -1, 0, []), (60, 17, 0, []), (0, 0, 0, []), (0, 0, 0, []), (8, 1, 0, []), (89, 333, 6, [1, 0]), (0, 0, 0, []), (0, 0, 0, []), (91, 0, 0, [])]
def k7 : List jI := [(12, 0, 0, []), (85, 5, 5, [1, 0, 10]), (0, 0, 0, []), (0, 0, 0, []), (14, 1, 0, []), (1, -1, 0, []), (14, 2, 0, []), (2, 16, 0, []), (0, 0, 0, []), (14, 3, 0, []), (1, 0, 0, []), (15, 4, 0, []), (0, 0, 0, []), (9, 4, 0, []), (0, 0, 0, []), (12, 0, 0, []), (65, 0, 2, [0, 14]), (0, 0, 0, []), (0, 0, 0, []), (64, 1, 7, [4, 0]), (0, 0, 0, []), (0, 0, 0, []), (57, 56, 0, []), (0, 0, 0, []), (0, 0, 0, []), (8, 1, 0, []), (48, 56, 0, []), (0, 0, 0, []), (0, 0, 0, []), (12, 0, 0, []), (8, 1, 0, []), (9, 4, 0, []), (0, 0, 0, []), (85, 9, 7, [3, 0, 10]), (0, 0, 0, []), (0, 0, 0, []), (15, 5, 0, []), (0, 0, 0, []), (9, 5, 0, []), (0, 0, 0, []), (8, 3, 0, []), (57, 50, 0, []), (0, 0, 0, []), (0, 0, 0, []), (9, 5, 0, []), (0, 0, 0, []), (14, 3, 0, []), (9, 4, 0, []), (0, 0, 0, []), (14, 2, 0, []), (20, 4, 1, []), (0, 0, 0, []), (0, 0, 0, []), (60, 13, 0, []), (0, 0, 0, []), (0, 0, 0, []), (8, 2, 0, []), (91, 0, 0, [])]
def k8 : List jI := [(8, 1, 0, []), (1, -1, 0, []), (55, 9, 0, []), (0, 0, 0, []), (0, 0, 0, []), (1, -1, 0, []), (60, 18, 0, []), (0, 0, 0, []), (0, 0, 0, []), (12, 0, 0, []), (12, 0, 0, []), (85, 5, 5, [1, 0, 10]), (0, 0, 0, []), (0, 0, 0, []), (8, 1, 0, []), (85, 9, 7, [3, 0, 10]), (0, 0, 0, []), (0, 0, 0, []), (91, 0, 0, [])]
def k9 : List jI := [(1, 0, 0, []), (14, 3, 0, []), (12, 0, 0, []), (65, 2, 1, [0, 24]), (0, 0, 0, []), (0, 0, 0, []), (1, 0, 0, []), (89, 341, 8, [2, 99]), (0, 0, 0, []), (0, 0, 0, []), (1, 0, 0, []), (15, 4, 0, []), (0, 0, 0, []), (9, 4, 0, []), (0, 0, 0, []), (2, 15, 0, []), (0, 0, 0, []), (57, 97, 0, []), (0, 0, 0, []), (0, 0, 0, []), (12, 0, 0, []), (9, 4, 0, []), (0, 0, 0, []), (12, 0, 0, []), (65, 0, 2, [0, 14]), (0, 0, 0, []), (0, 0, 0, []), (8, 2, 0, []), (85, 57, 9, [2, 0, 14]), (0, 0, 0, []), (0, 0, 0, []), (12, 0, 0, []), (65, 0, 2, [0, 14]), (0, 0, 0, []), (0, 0, 0, []), (8, 2, 0, []), (85, 58, 10, [2, 0, 14]), (0, 0, 0, []), (0, 0, 0, []), (85, 3, 3, [4, 0, 10]), (0, 0, 0, []), (0, 0, 0, []), (15, 5, 0, []), (0, 0, 0, []), (8, 1, 0, []), (9, 4, 0, []), (0, 0, 0, []), (28, 0, 0, []), (1, 1, 0, []), (30, 0, 0, []), (48, 91, 0, []), (0, 0, 0, []), (0, 0, 0, []), (9, 5, 0, []), (0, 0, 0, []), (50, 91, 0, []), (0, 0, 0, []), (0, 0, 0, []), (9, 5, 0, []), (0, 0, 0, []), (12, 0, 0, []), (65, 2, 1, [0, 24]), (0, 0, 0, []), (0, 0, 0, []), (80, 0, 0, []), (57, 91, 0, []), (0, 0, 0, []), (0, 0, 0, []), (12, 0, 0, []), (65, 2, 1, [0, 24]), (0, 0, 0, []), (0, 0, 0, []), (9, 5, 0, []), (0, 0, 0, []), (46, 0, 0, []), (70, 0, 0, []), (1, 1, 0, []), (21, 0, 0, []), (75, 0, 0, []), (8, 3, 0, []), (12, 0, 0, []), (65, 2, 1, [0, 24]), (0, 0, 0, []), (0, 0, 0, []), (9, 5, 0, []), (0, 0, 0, []), (70, 0, 0, []), (89, 337, 11, [2, 0]), (0, 0, 0, []), (0, 0, 0, []), (14, 3, 0, []), (20, 4, 1, []), (0, 0, 0, []), (0, 0, 0, []), (60, 13, 0, []), (0, 0, 0, []), (0, 0, 0, []), (8, 3, 0, []), (91, 0, 0, [])]
def k10 : List jI := [(12, 0, 0, []), (90, 0, 3, []), (0, 0, 0, []), (0, 0, 0, []), (12, 0, 0, []), (2, 48, 0, []), (0, 0, 0, []), (82, 14, 0, []), (0, 0, 0, []), (69, 0, 8, [1, 24]), (0, 0, 0, []), (0, 0, 0, []), (12, 0, 0, []), (1, 5, 0, []), (82, 14, 0, []), (0, 0, 0, []), (69, 1, 9, [1, 24]), (0, 0, 0, []), (0, 0, 0, []), (95, 0, 0, [])]
def k11 : List jI := [(12, 0, 0, []), (65, 0, 8, [1, 24]), (0, 0, 0, []), (0, 0, 0, []), (1, 0, 0, []), (89, 341, 12, [2, 99]), (0, 0, 0, []), (0, 0, 0, []), (12, 0, 0, []), (65, 1, 9, [1, 24]), (0, 0, 0, []), (0, 0, 0, []), (1, 0, 0, []), (89, 341, 12, [2, 99]), (0, 0, 0, []), (0, 0, 0, []), (12, 0, 0, []), (12, 1, 0, []), (65, 8, 10, [4, 24]), (0, 0, 0, []), (0, 0, 0, []), (1, 1, 0, []), (70, 0, 0, []), (66, 2, 11, [1, 0]), (0, 0, 0, []), (0, 0, 0, []), (12, 0, 0, []), (1, 0, 0, []), (66, 3, 12, [1, 0]), (0, 0, 0, []), (0, 0, 0, []), (12, 0, 0, []), (1, 0, 0, []), (66, 4, 13, [1, 0]), (0, 0, 0, []), (0, 0, 0, []), (95, 0, 0, [])]
def k12 : List jI := [(12, 1, 0, []), (65, 0, 8, [1, 24]), (0, 0, 0, []), (0, 0, 0, []), (1, 0, 0, []), (12, 0, 0, []), (65, 0, 8, [1, 24]), (0, 0, 0, []), (0, 0, 0, []), (1, 0, 0, []), (2, 48, 0, []), (0, 0, 0, []), (97, 0, 39, []), (0, 0, 0, []), (0, 0, 0, []), (12, 1, 0, []), (65, 1, 9, [1, 24]), (0, 0, 0, []), (0, 0, 0, []), (1, 0, 0, []), (12, 0, 0, []), (65, 1, 9, [1, 24]), (0, 0, 0, []), (0, 0, 0, []), (1, 0, 0, []), (1, 5, 0, []), (97, 0, 39, []), (0, 0, 0, []), (0, 0, 0, []), (12, 0, 0, []), (12, 1, 0, []), (64, 2, 11, [1, 0]), (0, 0, 0, []), (0, 0, 0, []), (66, 2, 11, [1, 0]), (0, 0, 0, []), (0, 0, 0, []), (12, 0, 0, []), (12, 1, 0, []), (64, 3, 12, [1, 0]), (0, 0, 0, []), (0, 0, 0, []), (66, 3, 12, [1, 0]), (0, 0, 0, []), (0, 0, 0, []), (12, 0, 0, []), (12, 1, 0, []), (64, 4, 13, [1, 0]), (0, 0, 0, []), (0, 0, 0, []), (66, 4, 13, [1, 0]), (0, 0, 0, []), (0, 0, 0, []), (95, 0, 0, [])]
def k13 : List jI := [(8, 1, 0, []), (50, 24, 0, []), (0, 0, 0, []), (0, 0, 0, []), (8, 1, 0, []), (2, 48, 0, []), (0, 0, 0, []), (57, 24, 0, []), (0, 0, 0, []), (0, 0, 0, []), (12, 0, 0, []), (65, 0, 8, [1, 24]), (0, 0, 0, []), (0, 0, 0, []), (8, 1, 0, []), (70, 0, 0, []), (8, 2, 0, []), (55, 24, 0, []), (0, 0, 0, []), (0, 0, 0, []), (1, 1, 0, []), (60, 25, 0, []), (0, 0, 0, []), (0, 0, 0, []), (1, 0, 0, []), (94, 0, 0, [])]
def k14 : List jI := [(12, 0, 0, []), (8, 1, 0, []), (1, 1, 0, []), (85, 13, 13, [3, 0, 11]), (0, 0, 0, []), (0, 0, 0, []), (49, 18, 0, []), (0, 0, 0, []), (0, 0, 0, []), (12, 0, 0, []), (8, 1, 0, []), (1, 2, 0, []), (85, 13, 13, [3, 0, 11]), (0, 0, 0, []), (0, 0, 0, []), (48, 22, 0, []), (0, 0, 0, []), (0, 0, 0, []), (1, 1, 0, []), (60, 23, 0, []), (0, 0, 0, []), (0, 0, 0, []), (1, 0, 0, []), (94, 0, 0, [])]
def k15 : List jI := [(1, 0, 0, []), (14, 2, 0, []), (1, 0, 0, []), (14, 3, 0, []), (8, 3, 0, []), (2, 48, 0, []), (0, 0, 0, []), (57, 29, 0, []), (0, 0, 0, []), (0, 0, 0, []), (12, 0, 0, []), (65, 0, 8, [1, 24]), (0, 0, 0, []), (0, 0, 0, []), (8, 3, 0, []), (70, 0, 0, []), (8, 1, 0, []), (55, 23, 0, []), (0, 0, 0, []), (0, 0, 0, []), (20, 2, 1, []), (0, 0, 0, []), (0, 0, 0, []), (20, 3, 1, []), (0, 0, 0, []), (0, 0, 0, []), (60, 4, 0, []), (0, 0, 0, []), (0, 0, 0, []), (8, 2, 0, []), (91, 0, 0, [])]
def k16 : List jI := [(8, 1, 0, []), (50, 18, 0, []), (0, 0, 0, []), (0, 0, 0, []), (8, 1, 0, []), (1, 5, 0, []), (57, 18, 0, []), (0, 0, 0, []), (0, 0, 0, []), (12, 0, 0, []), (65, 1, 9, [1, 24]), (0, 0, 0, []), (0, 0, 0, []), (8, 1, 0, []), (70, 0, 0, []), (60, 19, 0, []), (0, 0, 0, []), (0, 0, 0, []), (1, 0, 0, []), (91, 0, 0, [])]
def k17 : List jI := [(1, 0, 0, []), (14, 1, 0, []), (1, 0, 0, []), (14, 2, 0, []), (8, 2, 0, []), (1, 5, 0, []), (57, 24, 0, []), (0, 0, 0, []), (0, 0, 0, []), (8, 1, 0, []), (12, 0, 0, []), (65, 1, 9, [1, 24]), (0, 0, 0, []), (0, 0, 0, []), (8, 2, 0, []), (70, 0, 0, []), (21, 0, 0, []), (14, 1, 0, []), (20, 2, 1, []), (0, 0, 0, []), (0, 0, 0, []), (60, 4, 0, []), (0, 0, 0, []), (0, 0, 0, []), (8, 1, 0, []), (91, 0, 0, [])]
def k18 : List jI := [(12, 2, 0, []), (1, 0, 0, []), (85, 145, 14, [2, 99, 20]), (0, 0, 0, []), (0, 0, 0, []), (12, 2, 0, []), (12, 0, 0, []), (64, 2, 11, [1, 0]), (0, 0, 0, []), (0, 0, 0, []), (85, 146, 15, [2, 99, 20]), (0, 0, 0, []), (0, 0, 0, []), (12, 2, 0, []), (12, 0, 0, []), (64, 3, 12, [1, 0]), (0, 0, 0, []), (0, 0, 0, []), (85, 147, 16, [2, 99, 20]), (0, 0, 0, []), (0, 0, 0, []), (12, 2, 0, []), (12, 0, 0, []), (64, 4, 13, [1, 0]), (0, 0, 0, []), (0, 0, 0, []), (85, 147, 16, [2, 99, 20]), (0, 0, 0, []), (0, 0, 0, []), (1, 0, 0, []), (14, 3, 0, []), (8, 3, 0, []), (12, 1, 0, []), (64, 5, 14, [4, 0]), (0, 0, 0, []), (0, 0, 0, []), (57, 60, 0, []), (0, 0, 0, []), (0, 0, 0, []), (8, 3, 0, []), (1, 5, 0, []), (57, 60, 0, []), (0, 0, 0, []), (0, 0, 0, []), (12, 2, 0, []), (12, 0, 0, []), (65, 1, 9, [1, 24]), (0, 0, 0, []), (0, 0, 0, []), (8, 3, 0, []), (70, 0, 0, []), (85, 146, 15, [2, 99, 20]), (0, 0, 0, []), (0, 0, 0, []), (20, 3, 1, []), (0, 0, 0, []), (0, 0, 0, []), (60, 31, 0, []), (0, 0, 0, []), (0, 0, 0, []), (1, 0, 0, []), (14, 3, 0, []), (8, 3, 0, []), (12, 1, 0, []), (64, 1, 15, [4, 0]), (0, 0, 0, []), (0, 0, 0, []), (57, 86, 0, []), (0, 0, 0, []), (0, 0, 0, []), (12, 2, 0, []), (12, 0, 0, []), (65, 0, 8, [1, 24]), (0, 0, 0, []), (0, 0, 0, []), (8, 3, 0, []), (70, 0, 0, []), (85, 146, 15, [2, 99, 20]), (0, 0, 0, []), (0, 0, 0, []), (20, 3, 1, []), (0, 0, 0, []), (0, 0, 0, []), (60, 62, 0, []), (0, 0, 0, []), (0, 0, 0, []), (12, 2, 0, []), (12, 2, 0, []), (12, 2, 0, []), (85, 143, 17, [1, 0, 20]), (0, 0, 0, []), (0, 0, 0, []), (85, 150, 18, [2, 0, 20]), (0, 0, 0, []), (0, 0, 0, []), (85, 146, 15, [2, 99, 20]), (0, 0, 0, []), (0, 0, 0, []), (95, 0, 0, [])]
def k19 : List jI := [(12, 1, 0, []), (85, 143, 17, [1, 0, 20]), (0, 0, 0, []), (0, 0, 0, []), (14, 2, 0, []), (2, 7, 0, []), (0, 0, 0, []), (12, 0, 0, []), (64, 5, 14, [4, 0]), (0, 0, 0, []), (0, 0, 0, []), (21, 0, 0, []), (14, 3, 0, []), (8, 2, 0, []), (2, 8, 0, []), (0, 0, 0, []), (12, 0, 0, []), (64, 5, 14, [4, 0]), (0, 0, 0, []), (0, 0, 0, []), (21, 0, 0, []), (12, 0, 0, []), (64, 1, 15, [4, 0]), (0, 0, 0, []), (0, 0, 0, []), (21, 0, 0, []), (54, 31, 0, []), (0, 0, 0, []), (0, 0, 0, []), (1, 0, 0, []), (94, 0, 0, []), (12, 1, 0, []), (1, 0, 0, []), (85, 144, 19, [2, 0, 20]), (0, 0, 0, []), (0, 0, 0, []), (12, 0, 0, []), (65, 8, 10, [4, 24]), (0, 0, 0, []), (0, 0, 0, []), (1, 1, 0, []), (70, 0, 0, []), (58, 65, 0, []), (0, 0, 0, []), (0, 0, 0, []), (12, 1, 0, []), (1, 1, 0, []), (85, 149, 20, [2, 0, 20]), (0, 0, 0, []), (0, 0, 0, []), (4, 999999, 81, []), (0, 0, 0, []), (58, 65, 0, []), (0, 0, 0, []), (0, 0, 0, []), (12, 1, 0, []), (1, 4, 0, []), (85, 149, 20, [2, 0, 20]), (0, 0, 0, []), (0, 0, 0, []), (4, 999999, 81, []), (0, 0, 0, []), (59, 67, 0, []), (0, 0, 0, []), (0, 0, 0, []), (1, 0, 0, []), (94, 0, 0, []), (2, 7, 0, []), (0, 0, 0, []), (15, 4, 0, []), (0, 0, 0, []), (9, 4, 0, []), (0, 0, 0, []), (8, 2, 0, []), (1, 1, 0, []), (22, 0, 0, []), (57, 108, 0, []), (0, 0, 0, []), (0, 0, 0, []), (12, 1, 0, []), (9, 4, 0, []), (0, 0, 0, []), (85, 144, 19, [2, 0, 20]), (0, 0, 0, []), (0, 0, 0, []), (9, 4, 0, []), (0, 0, 0, []), (8, 3, 0, []), (57, 96, 0, []), (0, 0, 0, []), (0, 0, 0, []), (2, 20, 0, []), (0, 0, 0, []), (60, 97, 0, []), (0, 0, 0, []), (0, 0, 0, []), (1, 3, 0, []), (59, 102, 0, []), (0, 0, 0, []), (0, 0, 0, []), (1, 0, 0, []), (94, 0, 0, []), (20, 4, 1, []), (0, 0, 0, []), (0, 0, 0, []), (60, 71, 0, []), (0, 0, 0, []), (0, 0, 0, []), (12, 1, 0, []), (8, 2, 0, []), (1, 1, 0, []), (22, 0, 0, []), (85, 144, 19, [2, 0, 20]), (0, 0, 0, []), (0, 0, 0, []), (12, 1, 0, []), (8, 2, 0, []), (1, 1, 0, []), (22, 0, 0, []), (85, 150, 18, [2, 0, 20]), (0, 0, 0, []), (0, 0, 0, []), (55, 129, 0, []), (0, 0, 0, []), (0, 0, 0, []), (1, 1, 0, []), (60, 130, 0, []), (0, 0, 0, []), (0, 0, 0, []), (1, 0, 0, []), (94, 0, 0, [])]
def k20 : List jI := [(12, 0, 0, []), (12, 2, 0, []), (1, 0, 0, []), (85, 144, 19, [2, 0, 20]), (0, 0, 0, []), (0, 0, 0, []), (66, 2, 11, [1, 0]), (0, 0, 0, []), (0, 0, 0, []), (12, 0, 0, []), (12, 2, 0, []), (1, 1, 0, []), (85, 149, 20, [2, 0, 20]), (0, 0, 0, []), (0, 0, 0, []), (66, 3, 12, [1, 0]), (0, 0, 0, []), (0, 0, 0, []), (12, 0, 0, []), (12, 2, 0, []), (1, 4, 0, []), (85, 149, 20, [2, 0, 20]), (0, 0, 0, []), (0, 0, 0, []), (66, 4, 13, [1, 0]), (0, 0, 0, []), (0, 0, 0, []), (1, 0, 0, []), (14, 3, 0, []), (8, 3, 0, []), (12, 1, 0, []), (64, 5, 14, [4, 0]), (0, 0, 0, []), (0, 0, 0, []), (57, 62, 0, []), (0, 0, 0, []), (0, 0, 0, []), (8, 3, 0, []), (1, 5, 0, []), (57, 62, 0, []), (0, 0, 0, []), (0, 0, 0, []), (12, 0, 0, []), (65, 1, 9, [1, 24]), (0, 0, 0, []), (0, 0, 0, []), (8, 3, 0, []), (12, 2, 0, []), (2, 7, 0, []), (0, 0, 0, []), (8, 3, 0, []), (21, 0, 0, []), (85, 144, 19, [2, 0, 20]), (0, 0, 0, []), (0, 0, 0, []), (75, 0, 0, []), (20, 3, 1, []), (0, 0, 0, []), (0, 0, 0, []), (60, 29, 0, []), (0, 0, 0, []), (0, 0, 0, []), (1, 0, 0, []), (14, 3, 0, []), (8, 3, 0, []), (12, 1, 0, []), (64, 1, 15, [4, 0]), (0, 0, 0, []), (0, 0, 0, []), (57, 97, 0, []), (0, 0, 0, []), (0, 0, 0, []), (12, 0, 0, []), (65, 0, 8, [1, 24]), (0, 0, 0, []), (0, 0, 0, []), (8, 3, 0, []), (12, 2, 0, []), (2, 7, 0, []), (0, 0, 0, []), (12, 1, 0, []), (64, 5, 14, [4, 0]), (0, 0, 0, []), (0, 0, 0, []), (21, 0, 0, []), (8, 3, 0, []), (21, 0, 0, []), (85, 144, 19, [2, 0, 20]), (0, 0, 0, []), (0, 0, 0, []), (75, 0, 0, []), (20, 3, 1, []), (0, 0, 0, []), (0, 0, 0, []), (60, 64, 0, []), (0, 0, 0, []), (0, 0, 0, []), (95, 0, 0, [])]
def k21 : List jI := [(12, 0, 0, []), (90, 0, 3, []), (0, 0, 0, []), (0, 0, 0, []), (12, 0, 0, []), (2, 20, 0, []), (0, 0, 0, []), (83, 17, 9, []), (0, 0, 0, []), (0, 0, 0, []), (69, 0, 16, [2, 27]), (0, 0, 0, []), (0, 0, 0, []), (1, 0, 0, []), (14, 1, 0, []), (8, 1, 0, []), (12, 0, 0, []), (65, 0, 16, [2, 27]), (0, 0, 0, []), (0, 0, 0, []), (80, 0, 0, []), (57, 43, 0, []), (0, 0, 0, []), (0, 0, 0, []), (12, 0, 0, []), (65, 0, 16, [2, 27]), (0, 0, 0, []), (0, 0, 0, []), (8, 1, 0, []), (81, 1, 9, [5]), (0, 0, 0, []), (0, 0, 0, []), (45, 0, 0, []), (88, 10, 0, [1, 99, 11]), (0, 0, 0, []), (0, 0, 0, []), (79, 27, 11, []), (20, 1, 1, []), (0, 0, 0, []), (0, 0, 0, []), (60, 15, 0, []), (0, 0, 0, []), (0, 0, 0, []), (12, 0, 0, []), (1, 0, 0, []), (66, 1, 17, [2, 0]), (0, 0, 0, []), (0, 0, 0, []), (12, 0, 0, []), (1, 0, 0, []), (66, 2, 18, [2, 0]), (0, 0, 0, []), (0, 0, 0, []), (95, 0, 0, [])]
def k22 : List jI := [(12, 0, 0, []), (64, 2, 18, [2, 0]), (0, 0, 0, []), (0, 0, 0, []), (91, 0, 0, [])]
def k23 : List jI := [(12, 0, 0, []), (1, 0, 0, []), (66, 2, 18, [2, 0]), (0, 0, 0, []), (0, 0, 0, []), (95, 0, 0, [])]
def k24 : List jI := [(12, 0, 0, []), (65, 0, 16, [2, 27]), (0, 0, 0, []), (0, 0, 0, []), (12, 0, 0, []), (64, 1, 17, [2, 0]), (0, 0, 0, []), (0, 0, 0, []), (12, 0, 0, []), (64, 2, 18, [2, 0]), (0, 0, 0, []), (0, 0, 0, []), (21, 0, 0, []), (2, 20, 0, []), (0, 0, 0, []), (25, 0, 0, []), (74, 27, 11, []), (12, 1, 0, []), (85, 12, 21, [2, 99, 11]), (0, 0, 0, []), (0, 0, 0, []), (12, 0, 0, []), (64, 2, 18, [2, 0]), (0, 0, 0, []), (0, 0, 0, []), (2, 20, 0, []), (0, 0, 0, []), (57, 43, 0, []), (0, 0, 0, []), (0, 0, 0, []), (12, 0, 0, []), (45, 0, 0, []), (64, 2, 18, [2, 0]), (0, 0, 0, []), (0, 0, 0, []), (1, 1, 0, []), (21, 0, 0, []), (66, 2, 18, [2, 0]), (0, 0, 0, []), (0, 0, 0, []), (60, 56, 0, []), (0, 0, 0, []), (0, 0, 0, []), (12, 0, 0, []), (12, 0, 0, []), (64, 1, 17, [2, 0]), (0, 0, 0, []), (0, 0, 0, []), (1, 1, 0, []), (21, 0, 0, []), (2, 20, 0, []), (0, 0, 0, []), (25, 0, 0, []), (66, 1, 17, [2, 0]), (0, 0, 0, []), (0, 0, 0, []), (95, 0, 0, [])]
def k25 : List jI := [(12, 0, 0, []), (64, 2, 18, [2, 0]), (0, 0, 0, []), (0, 0, 0, []), (49, 9, 0, []), (0, 0, 0, []), (0, 0, 0, []), (1, 0, 0, []), (94, 0, 0, []), (12, 0, 0, []), (45, 0, 0, []), (64, 2, 18, [2, 0]), (0, 0, 0, []), (0, 0, 0, []), (1, 1, 0, []), (22, 0, 0, []), (66, 2, 18, [2, 0]), (0, 0, 0, []), (0, 0, 0, []), (12, 1, 0, []), (12, 0, 0, []), (65, 0, 16, [2, 27]), (0, 0, 0, []), (0, 0, 0, []), (12, 0, 0, []), (64, 1, 17, [2, 0]), (0, 0, 0, []), (0, 0, 0, []), (12, 0, 0, []), (64, 2, 18, [2, 0]), (0, 0, 0, []), (0, 0, 0, []), (21, 0, 0, []), (2, 20, 0, []), (0, 0, 0, []), (25, 0, 0, []), (74, 27, 11, []), (85, 12, 21, [2, 99, 11]), (0, 0, 0, []), (0, 0, 0, []), (1, 1, 0, []), (94, 0, 0, [])]
def k26 : List jI := [(12, 0, 0, []), (90, 0, 3, []), (0, 0, 0, []), (0, 0, 0, []), (12, 0, 0, []), (2, 48, 0, []), (0, 0, 0, []), (82, 14, 0, []), (0, 0, 0, []), (69, 2, 19, [3, 24]), (0, 0, 0, []), (0, 0, 0, []), (12, 0, 0, []), (2, 48, 0, []), (0, 0, 0, []), (82, 14, 0, []), (0, 0, 0, []), (69, 3, 20, [3, 24]), (0, 0, 0, []), (0, 0, 0, []), (12, 0, 0, []), (2, 64, 0, []), (0, 0, 0, []), (82, 14, 0, []), (0, 0, 0, []), (69, 4, 21, [3, 24]), (0, 0, 0, []), (0, 0, 0, []), (12, 0, 0, []), (2, 10, 0, []), (0, 0, 0, []), (82, 14, 0, []), (0, 0, 0, []), (69, 5, 22, [3, 24]), (0, 0, 0, []), (0, 0, 0, []), (12, 0, 0, []), (12, 1, 0, []), (69, 0, 23, [3, 14]), (0, 0, 0, []), (0, 0, 0, []), (12, 0, 0, []), (12, 2, 0, []), (69, 1, 24, [3, 11]), (0, 0, 0, []), (0, 0, 0, []), (95, 0, 0, [])]
def k27 : List jI := [(12, 0, 0, []), (65, 2, 19, [3, 24]), (0, 0, 0, []), (0, 0, 0, []), (1, 0, 0, []), (89, 341, 22, [2, 99]), (0, 0, 0, []), (0, 0, 0, []), (12, 0, 0, []), (1, 0, 0, []), (66, 6, 25, [3, 0]), (0, 0, 0, []), (0, 0, 0, []), (12, 0, 0, []), (65, 0, 23, [3, 14]), (0, 0, 0, []), (0, 0, 0, []), (64, 1, 26, [4, 0]), (0, 0, 0, []), (0, 0, 0, []), (53, 34, 0, []), (0, 0, 0, []), (0, 0, 0, []), (12, 0, 0, []), (12, 0, 0, []), (65, 0, 23, [3, 14]), (0, 0, 0, []), (0, 0, 0, []), (64, 3, 27, [4, 0]), (0, 0, 0, []), (0, 0, 0, []), (85, 28, 23, [2, 99, 13]), (0, 0, 0, []), (0, 0, 0, []), (1, 0, 0, []), (14, 1, 0, []), (8, 1, 0, []), (12, 0, 0, []), (64, 6, 25, [3, 0]), (0, 0, 0, []), (0, 0, 0, []), (57, 90, 0, []), (0, 0, 0, []), (0, 0, 0, []), (8, 1, 0, []), (12, 0, 0, []), (65, 3, 20, [3, 24]), (0, 0, 0, []), (0, 0, 0, []), (80, 0, 0, []), (57, 90, 0, []), (0, 0, 0, []), (0, 0, 0, []), (1, 0, 0, []), (14, 2, 0, []), (8, 2, 0, []), (1, 4, 0, []), (57, 84, 0, []), (0, 0, 0, []), (0, 0, 0, []), (12, 0, 0, []), (12, 0, 0, []), (65, 0, 23, [3, 14]), (0, 0, 0, []), (0, 0, 0, []), (12, 0, 0, []), (65, 3, 20, [3, 24]), (0, 0, 0, []), (0, 0, 0, []), (8, 1, 0, []), (70, 0, 0, []), (8, 2, 0, []), (85, 63, 24, [3, 0, 14]), (0, 0, 0, []), (0, 0, 0, []), (85, 28, 23, [2, 99, 13]), (0, 0, 0, []), (0, 0, 0, []), (20, 2, 1, []), (0, 0, 0, []), (0, 0, 0, []), (60, 55, 0, []), (0, 0, 0, []), (0, 0, 0, []), (20, 1, 1, []), (0, 0, 0, []), (0, 0, 0, []), (60, 36, 0, []), (0, 0, 0, []), (0, 0, 0, []), (95, 0, 0, [])]
def k28 : List jI := [(12, 0, 0, []), (65, 1, 24, [3, 11]), (0, 0, 0, []), (0, 0, 0, []), (8, 1, 0, []), (85, 14, 25, [2, 0, 11]), (0, 0, 0, []), (0, 0, 0, []), (48, 32, 0, []), (0, 0, 0, []), (0, 0, 0, []), (12, 0, 0, []), (65, 2, 19, [3, 24]), (0, 0, 0, []), (0, 0, 0, []), (8, 1, 0, []), (70, 0, 0, []), (49, 32, 0, []), (0, 0, 0, []), (0, 0, 0, []), (12, 0, 0, []), (64, 6, 25, [3, 0]), (0, 0, 0, []), (0, 0, 0, []), (12, 0, 0, []), (65, 3, 20, [3, 24]), (0, 0, 0, []), (0, 0, 0, []), (80, 0, 0, []), (56, 33, 0, []), (0, 0, 0, []), (0, 0, 0, []), (95, 0, 0, []), (12, 0, 0, []), (65, 2, 19, [3, 24]), (0, 0, 0, []), (0, 0, 0, []), (8, 1, 0, []), (1, 1, 0, []), (75, 0, 0, []), (12, 0, 0, []), (65, 3, 20, [3, 24]), (0, 0, 0, []), (0, 0, 0, []), (12, 0, 0, []), (64, 6, 25, [3, 0]), (0, 0, 0, []), (0, 0, 0, []), (8, 1, 0, []), (75, 0, 0, []), (12, 0, 0, []), (45, 0, 0, []), (64, 6, 25, [3, 0]), (0, 0, 0, []), (0, 0, 0, []), (1, 1, 0, []), (21, 0, 0, []), (66, 6, 25, [3, 0]), (0, 0, 0, []), (0, 0, 0, []), (95, 0, 0, [])]
def k29 : List jI := [(8, 1, 0, []), (50, 23, 0, []), (0, 0, 0, []), (0, 0, 0, []), (8, 1, 0, []), (2, 48, 0, []), (0, 0, 0, []), (57, 23, 0, []), (0, 0, 0, []), (0, 0, 0, []), (12, 0, 0, []), (65, 2, 19, [3, 24]), (0, 0, 0, []), (0, 0, 0, []), (8, 1, 0, []), (70, 0, 0, []), (48, 23, 0, []), (0, 0, 0, []), (0, 0, 0, []), (1, 1, 0, []), (60, 24, 0, []), (0, 0, 0, []), (0, 0, 0, []), (1, 0, 0, []), (94, 0, 0, [])]
def k30 : List jI := [(12, 0, 0, []), (65, 0, 23, [3, 14]), (0, 0, 0, []), (0, 0, 0, []), (8, 1, 0, []), (85, 56, 26, [2, 0, 14]), (0, 0, 0, []), (0, 0, 0, []), (48, 23, 0, []), (0, 0, 0, []), (0, 0, 0, []), (12, 0, 0, []), (65, 1, 24, [3, 11]), (0, 0, 0, []), (0, 0, 0, []), (8, 1, 0, []), (1, 0, 0, []), (85, 13, 27, [3, 0, 11]), (0, 0, 0, []), (0, 0, 0, []), (49, 25, 0, []), (0, 0, 0, []), (0, 0, 0, []), (1, 1, 0, []), (91, 0, 0, []), (8, 1, 0, []), (12, 0, 0, []), (65, 0, 23, [3, 14]), (0, 0, 0, []), (0, 0, 0, []), (64, 3, 27, [4, 0]), (0, 0, 0, []), (0, 0, 0, []), (54, 46, 0, []), (0, 0, 0, []), (0, 0, 0, []), (12, 0, 0, []), (8, 1, 0, []), (85, 31, 28, [2, 0, 13]), (0, 0, 0, []), (0, 0, 0, []), (49, 46, 0, []), (0, 0, 0, []), (0, 0, 0, []), (1, 2, 0, []), (91, 0, 0, []), (12, 0, 0, []), (65, 0, 23, [3, 14]), (0, 0, 0, []), (0, 0, 0, []), (65, 9, 28, [4, 24]), (0, 0, 0, []), (0, 0, 0, []), (1, 0, 0, []), (70, 0, 0, []), (14, 2, 0, []), (8, 2, 0, []), (1, -1, 0, []), (55, 63, 0, []), (0, 0, 0, []), (0, 0, 0, []), (1, 0, 0, []), (91, 0, 0, []), (12, 0, 0, []), (8, 1, 0, []), (85, 45, 29, [2, 99, 13]), (0, 0, 0, []), (0, 0, 0, []), (12, 0, 0, []), (12, 0, 0, []), (65, 0, 23, [3, 14]), (0, 0, 0, []), (0, 0, 0, []), (65, 18, 29, [4, 24]), (0, 0, 0, []), (0, 0, 0, []), (8, 2, 0, []), (85, 47, 30, [3, 0, 13]), (0, 0, 0, []), (0, 0, 0, []), (48, 87, 0, []), (0, 0, 0, []), (0, 0, 0, []), (1, 0, 0, []), (60, 88, 0, []), (0, 0, 0, []), (0, 0, 0, []), (1, 3, 0, []), (91, 0, 0, [])]
def k31 : List jI := [(1, 0, 0, []), (14, 2, 0, []), (8, 2, 0, []), (1, 4, 0, []), (57, 31, 0, []), (0, 0, 0, []), (0, 0, 0, []), (12, 0, 0, []), (12, 0, 0, []), (65, 0, 23, [3, 14]), (0, 0, 0, []), (0, 0, 0, []), (8, 1, 0, []), (8, 2, 0, []), (85, 63, 24, [3, 0, 14]), (0, 0, 0, []), (0, 0, 0, []), (85, 29, 31, [2, 0, 13]), (0, 0, 0, []), (0, 0, 0, []), (48, 25, 0, []), (0, 0, 0, []), (0, 0, 0, []), (1, 1, 0, []), (94, 0, 0, []), (20, 2, 1, []), (0, 0, 0, []), (0, 0, 0, []), (60, 2, 0, []), (0, 0, 0, []), (0, 0, 0, []), (1, 0, 0, []), (94, 0, 0, [])]
def k32 : List jI := [(12, 0, 0, []), (85, 27, 32, [1, 99, 13]), (0, 0, 0, []), (0, 0, 0, []), (1, 0, 0, []), (14, 1, 0, []), (1, 0, 0, []), (14, 2, 0, []), (8, 2, 0, []), (12, 0, 0, []), (65, 0, 23, [3, 14]), (0, 0, 0, []), (0, 0, 0, []), (64, 1, 26, [4, 0]), (0, 0, 0, []), (0, 0, 0, []), (57, 36, 0, []), (0, 0, 0, []), (0, 0, 0, []), (12, 0, 0, []), (8, 2, 0, []), (85, 30, 33, [2, 0, 13]), (0, 0, 0, []), (0, 0, 0, []), (49, 30, 0, []), (0, 0, 0, []), (0, 0, 0, []), (20, 1, 1, []), (0, 0, 0, []), (0, 0, 0, []), (20, 2, 1, []), (0, 0, 0, []), (0, 0, 0, []), (60, 8, 0, []), (0, 0, 0, []), (0, 0, 0, []), (8, 1, 0, []), (91, 0, 0, [])]
def k33 : List jI := [(12, 0, 0, []), (85, 27, 32, [1, 99, 13]), (0, 0, 0, []), (0, 0, 0, []), (1, 0, 0, []), (14, 2, 0, []), (1, 0, 0, []), (14, 3, 0, []), (8, 3, 0, []), (12, 0, 0, []), (65, 0, 23, [3, 14]), (0, 0, 0, []), (0, 0, 0, []), (64, 1, 26, [4, 0]), (0, 0, 0, []), (0, 0, 0, []), (57, 43, 0, []), (0, 0, 0, []), (0, 0, 0, []), (12, 0, 0, []), (8, 3, 0, []), (85, 30, 33, [2, 0, 13]), (0, 0, 0, []), (0, 0, 0, []), (49, 37, 0, []), (0, 0, 0, []), (0, 0, 0, []), (8, 2, 0, []), (8, 1, 0, []), (55, 34, 0, []), (0, 0, 0, []), (0, 0, 0, []), (8, 3, 0, []), (91, 0, 0, []), (20, 2, 1, []), (0, 0, 0, []), (0, 0, 0, []), (20, 3, 1, []), (0, 0, 0, []), (0, 0, 0, []), (60, 8, 0, []), (0, 0, 0, []), (0, 0, 0, []), (1, -1, 0, []), (91, 0, 0, [])]
def k34 : List jI := [(1, 0, 0, []), (14, 3, 0, []), (1, 0, 0, []), (15, 4, 0, []), (0, 0, 0, []), (9, 4, 0, []), (0, 0, 0, []), (12, 0, 0, []), (65, 0, 23, [3, 14]), (0, 0, 0, []), (0, 0, 0, []), (64, 1, 26, [4, 0]), (0, 0, 0, []), (0, 0, 0, []), (57, 56, 0, []), (0, 0, 0, []), (0, 0, 0, []), (12, 0, 0, []), (65, 0, 23, [3, 14]), (0, 0, 0, []), (0, 0, 0, []), (9, 4, 0, []), (0, 0, 0, []), (85, 60, 34, [2, 0, 14]), (0, 0, 0, []), (0, 0, 0, []), (8, 1, 0, []), (55, 50, 0, []), (0, 0, 0, []), (0, 0, 0, []), (8, 2, 0, []), (48, 47, 0, []), (0, 0, 0, []), (0, 0, 0, []), (12, 0, 0, []), (65, 1, 24, [3, 11]), (0, 0, 0, []), (0, 0, 0, []), (9, 4, 0, []), (0, 0, 0, []), (1, 0, 0, []), (85, 13, 27, [3, 0, 11]), (0, 0, 0, []), (0, 0, 0, []), (48, 50, 0, []), (0, 0, 0, []), (0, 0, 0, []), (20, 3, 1, []), (0, 0, 0, []), (0, 0, 0, []), (20, 4, 1, []), (0, 0, 0, []), (0, 0, 0, []), (60, 5, 0, []), (0, 0, 0, []), (0, 0, 0, []), (8, 3, 0, []), (91, 0, 0, [])]
def k35 : List jI := [(1, 0, 0, []), (14, 2, 0, []), (1, 0, 0, []), (14, 3, 0, []), (8, 3, 0, []), (1, 4, 0, []), (57, 37, 0, []), (0, 0, 0, []), (0, 0, 0, []), (12, 0, 0, []), (65, 1, 24, [3, 11]), (0, 0, 0, []), (0, 0, 0, []), (12, 0, 0, []), (65, 0, 23, [3, 14]), (0, 0, 0, []), (0, 0, 0, []), (8, 1, 0, []), (8, 3, 0, []), (85, 63, 24, [3, 0, 14]), (0, 0, 0, []), (0, 0, 0, []), (85, 14, 25, [2, 0, 11]), (0, 0, 0, []), (0, 0, 0, []), (48, 31, 0, []), (0, 0, 0, []), (0, 0, 0, []), (20, 2, 1, []), (0, 0, 0, []), (0, 0, 0, []), (20, 3, 1, []), (0, 0, 0, []), (0, 0, 0, []), (60, 4, 0, []), (0, 0, 0, []), (0, 0, 0, []), (8, 2, 0, []), (91, 0, 0, [])]
def k36 : List jI := [(1, 0, 0, []), (8, 1, 0, []), (12, 0, 0, []), (65, 0, 23, [3, 14]), (0, 0, 0, []), (0, 0, 0, []), (8, 1, 0, []), (85, 57, 35, [2, 0, 14]), (0, 0, 0, []), (0, 0, 0, []), (22, 0, 0, []), (89, 337, 36, [2, 0]), (0, 0, 0, []), (0, 0, 0, []), (14, 2, 0, []), (8, 1, 0, []), (1, 1, 0, []), (22, 0, 0, []), (14, 3, 0, []), (8, 3, 0, []), (8, 2, 0, []), (56, 47, 0, []), (0, 0, 0, []), (0, 0, 0, []), (12, 0, 0, []), (65, 1, 24, [3, 11]), (0, 0, 0, []), (0, 0, 0, []), (65, 0, 30, [1, 24]), (0, 0, 0, []), (0, 0, 0, []), (8, 3, 0, []), (70, 0, 0, []), (1, 1, 0, []), (54, 41, 0, []), (0, 0, 0, []), (0, 0, 0, []), (8, 3, 0, []), (1, 1, 0, []), (21, 0, 0, []), (91, 0, 0, []), (20, 3, -1, []), (0, 0, 0, []), (0, 0, 0, []), (60, 19, 0, []), (0, 0, 0, []), (0, 0, 0, []), (8, 2, 0, []), (91, 0, 0, [])]
def k37 : List jI := [(2, 48, 0, []), (0, 0, 0, []), (8, 1, 0, []), (12, 0, 0, []), (65, 0, 23, [3, 14]), (0, 0, 0, []), (0, 0, 0, []), (8, 1, 0, []), (85, 57, 35, [2, 0, 14]), (0, 0, 0, []), (0, 0, 0, []), (22, 0, 0, []), (12, 0, 0, []), (65, 0, 23, [3, 14]), (0, 0, 0, []), (0, 0, 0, []), (64, 2, 31, [4, 0]), (0, 0, 0, []), (0, 0, 0, []), (21, 0, 0, []), (89, 339, 37, [2, 0]), (0, 0, 0, []), (0, 0, 0, []), (1, 1, 0, []), (22, 0, 0, []), (14, 2, 0, []), (8, 1, 0, []), (1, 1, 0, []), (21, 0, 0, []), (14, 3, 0, []), (8, 3, 0, []), (8, 2, 0, []), (58, 58, 0, []), (0, 0, 0, []), (0, 0, 0, []), (12, 0, 0, []), (65, 1, 24, [3, 11]), (0, 0, 0, []), (0, 0, 0, []), (65, 0, 30, [1, 24]), (0, 0, 0, []), (0, 0, 0, []), (8, 3, 0, []), (70, 0, 0, []), (1, 1, 0, []), (54, 52, 0, []), (0, 0, 0, []), (0, 0, 0, []), (8, 3, 0, []), (1, 1, 0, []), (22, 0, 0, []), (91, 0, 0, []), (20, 3, 1, []), (0, 0, 0, []), (0, 0, 0, []), (60, 30, 0, []), (0, 0, 0, []), (0, 0, 0, []), (8, 2, 0, []), (91, 0, 0, [])]
def k38 : List jI := [(12, 0, 0, []), (8, 1, 0, []), (85, 37, 38, [2, 0, 13]), (0, 0, 0, []), (0, 0, 0, []), (12, 0, 0, []), (8, 1, 0, []), (85, 36, 39, [2, 0, 13]), (0, 0, 0, []), (0, 0, 0, []), (22, 0, 0, []), (1, 1, 0, []), (21, 0, 0, []), (91, 0, 0, [])]
def k39 : List jI := [(12, 0, 0, []), (8, 1, 0, []), (85, 38, 40, [2, 0, 13]), (0, 0, 0, []), (0, 0, 0, []), (12, 0, 0, []), (65, 0, 23, [3, 14]), (0, 0, 0, []), (0, 0, 0, []), (65, 8, 32, [4, 24]), (0, 0, 0, []), (0, 0, 0, []), (1, 0, 0, []), (70, 0, 0, []), (59, 21, 0, []), (0, 0, 0, []), (0, 0, 0, []), (1, 1, 0, []), (60, 22, 0, []), (0, 0, 0, []), (0, 0, 0, []), (1, 0, 0, []), (94, 0, 0, [])]
def k40 : List jI := [(12, 0, 0, []), (65, 0, 23, [3, 14]), (0, 0, 0, []), (0, 0, 0, []), (8, 1, 0, []), (85, 60, 34, [2, 0, 14]), (0, 0, 0, []), (0, 0, 0, []), (1, -1, 0, []), (55, 14, 0, []), (0, 0, 0, []), (0, 0, 0, []), (1, 0, 0, []), (91, 0, 0, []), (12, 0, 0, []), (65, 0, 23, [3, 14]), (0, 0, 0, []), (0, 0, 0, []), (65, 9, 28, [4, 24]), (0, 0, 0, []), (0, 0, 0, []), (1, 1, 0, []), (70, 0, 0, []), (14, 2, 0, []), (8, 2, 0, []), (1, -1, 0, []), (55, 38, 0, []), (0, 0, 0, []), (0, 0, 0, []), (12, 0, 0, []), (65, 0, 23, [3, 14]), (0, 0, 0, []), (0, 0, 0, []), (8, 1, 0, []), (85, 61, 41, [2, 0, 14]), (0, 0, 0, []), (0, 0, 0, []), (91, 0, 0, []), (12, 0, 0, []), (8, 1, 0, []), (85, 45, 29, [2, 99, 13]), (0, 0, 0, []), (0, 0, 0, []), (1, 0, 0, []), (3, 999, 0, []), (0, 0, 0, []), (0, 0, 0, []), (12, 0, 0, []), (12, 0, 0, []), (65, 0, 23, [3, 14]), (0, 0, 0, []), (0, 0, 0, []), (65, 18, 29, [4, 24]), (0, 0, 0, []), (0, 0, 0, []), (8, 2, 0, []), (85, 47, 30, [3, 0, 13]), (0, 0, 0, []), (0, 0, 0, []), (89, 339, 37, [2, 0]), (0, 0, 0, []), (0, 0, 0, []), (89, 337, 36, [2, 0]), (0, 0, 0, []), (0, 0, 0, []), (91, 0, 0, [])]
def k41 : List jI := [(12, 0, 0, []), (65, 0, 23, [3, 14]), (0, 0, 0, []), (0, 0, 0, []), (8, 1, 0, []), (85, 56, 26, [2, 0, 14]), (0, 0, 0, []), (0, 0, 0, []), (49, 12, 0, []), (0, 0, 0, []), (0, 0, 0, []), (95, 0, 0, []), (12, 0, 0, []), (65, 0, 23, [3, 14]), (0, 0, 0, []), (0, 0, 0, []), (8, 1, 0, []), (85, 60, 34, [2, 0, 14]), (0, 0, 0, []), (0, 0, 0, []), (14, 3, 0, []), (12, 0, 0, []), (8, 1, 0, []), (85, 36, 39, [2, 0, 13]), (0, 0, 0, []), (0, 0, 0, []), (15, 4, 0, []), (0, 0, 0, []), (12, 0, 0, []), (8, 1, 0, []), (85, 37, 38, [2, 0, 13]), (0, 0, 0, []), (0, 0, 0, []), (15, 5, 0, []), (0, 0, 0, []), (8, 3, 0, []), (50, 57, 0, []), (0, 0, 0, []), (0, 0, 0, []), (8, 3, 0, []), (1, 5, 0, []), (57, 57, 0, []), (0, 0, 0, []), (0, 0, 0, []), (12, 0, 0, []), (65, 1, 24, [3, 11]), (0, 0, 0, []), (0, 0, 0, []), (65, 1, 33, [1, 24]), (0, 0, 0, []), (0, 0, 0, []), (8, 3, 0, []), (46, 0, 0, []), (70, 0, 0, []), (1, 1, 0, []), (21, 0, 0, []), (75, 0, 0, []), (12, 0, 0, []), (65, 1, 24, [3, 11]), (0, 0, 0, []), (0, 0, 0, []), (45, 0, 0, []), (64, 3, 34, [1, 0]), (0, 0, 0, []), (0, 0, 0, []), (8, 2, 0, []), (21, 0, 0, []), (66, 3, 34, [1, 0]), (0, 0, 0, []), (0, 0, 0, []), (12, 0, 0, []), (65, 1, 24, [3, 11]), (0, 0, 0, []), (0, 0, 0, []), (65, 0, 30, [1, 24]), (0, 0, 0, []), (0, 0, 0, []), (8, 1, 0, []), (1, 1, 0, []), (75, 0, 0, []), (9, 5, 0, []), (0, 0, 0, []), (9, 4, 0, []), (0, 0, 0, []), (22, 0, 0, []), (1, 1, 0, []), (21, 0, 0, []), (12, 0, 0, []), (65, 0, 23, [3, 14]), (0, 0, 0, []), (0, 0, 0, []), (65, 8, 32, [4, 24]), (0, 0, 0, []), (0, 0, 0, []), (1, 0, 0, []), (70, 0, 0, []), (59, 122, 0, []), (0, 0, 0, []), (0, 0, 0, []), (9, 4, 0, []), (0, 0, 0, []), (15, 6, 0, []), (0, 0, 0, []), (9, 6, 0, []), (0, 0, 0, []), (9, 5, 0, []), (0, 0, 0, []), (58, 122, 0, []), (0, 0, 0, []), (0, 0, 0, []), (12, 0, 0, []), (9, 6, 0, []), (0, 0, 0, []), (85, 43, 42, [2, 99, 13]), (0, 0, 0, []), (0, 0, 0, []), (20, 6, 1, []), (0, 0, 0, []), (0, 0, 0, []), (60, 103, 0, []), (0, 0, 0, []), (0, 0, 0, []), (95, 0, 0, [])]
def k42 : List jI := [(12, 0, 0, []), (65, 0, 23, [3, 14]), (0, 0, 0, []), (0, 0, 0, []), (8, 1, 0, []), (85, 60, 34, [2, 0, 14]), (0, 0, 0, []), (0, 0, 0, []), (14, 3, 0, []), (8, 3, 0, []), (50, 31, 0, []), (0, 0, 0, []), (0, 0, 0, []), (8, 3, 0, []), (1, 5, 0, []), (57, 31, 0, []), (0, 0, 0, []), (0, 0, 0, []), (12, 0, 0, []), (65, 1, 24, [3, 11]), (0, 0, 0, []), (0, 0, 0, []), (65, 1, 33, [1, 24]), (0, 0, 0, []), (0, 0, 0, []), (8, 3, 0, []), (46, 0, 0, []), (70, 0, 0, []), (1, 1, 0, []), (22, 0, 0, []), (75, 0, 0, []), (12, 0, 0, []), (65, 1, 24, [3, 11]), (0, 0, 0, []), (0, 0, 0, []), (45, 0, 0, []), (64, 3, 34, [1, 0]), (0, 0, 0, []), (0, 0, 0, []), (8, 2, 0, []), (22, 0, 0, []), (66, 3, 34, [1, 0]), (0, 0, 0, []), (0, 0, 0, []), (12, 0, 0, []), (8, 1, 0, []), (85, 43, 42, [2, 99, 13]), (0, 0, 0, []), (0, 0, 0, []), (1, 0, 0, []), (15, 4, 0, []), (0, 0, 0, []), (9, 4, 0, []), (0, 0, 0, []), (1, 4, 0, []), (57, 94, 0, []), (0, 0, 0, []), (0, 0, 0, []), (12, 0, 0, []), (65, 0, 23, [3, 14]), (0, 0, 0, []), (0, 0, 0, []), (8, 1, 0, []), (9, 4, 0, []), (0, 0, 0, []), (85, 63, 24, [3, 0, 14]), (0, 0, 0, []), (0, 0, 0, []), (15, 5, 0, []), (0, 0, 0, []), (12, 0, 0, []), (65, 1, 24, [3, 11]), (0, 0, 0, []), (0, 0, 0, []), (9, 5, 0, []), (0, 0, 0, []), (85, 14, 25, [2, 0, 11]), (0, 0, 0, []), (0, 0, 0, []), (48, 88, 0, []), (0, 0, 0, []), (0, 0, 0, []), (12, 0, 0, []), (9, 5, 0, []), (0, 0, 0, []), (85, 43, 42, [2, 99, 13]), (0, 0, 0, []), (0, 0, 0, []), (20, 4, 1, []), (0, 0, 0, []), (0, 0, 0, []), (60, 52, 0, []), (0, 0, 0, []), (0, 0, 0, []), (95, 0, 0, [])]
def k43 : List jI := [(12, 0, 0, []), (65, 0, 23, [3, 14]), (0, 0, 0, []), (0, 0, 0, []), (8, 1, 0, []), (85, 56, 26, [2, 0, 14]), (0, 0, 0, []), (0, 0, 0, []), (48, 21, 0, []), (0, 0, 0, []), (0, 0, 0, []), (12, 0, 0, []), (65, 1, 24, [3, 11]), (0, 0, 0, []), (0, 0, 0, []), (65, 0, 30, [1, 24]), (0, 0, 0, []), (0, 0, 0, []), (8, 1, 0, []), (1, 3, 0, []), (75, 0, 0, []), (95, 0, 0, [])]
def k44 : List jI := [(12, 0, 0, []), (8, 1, 0, []), (85, 46, 43, [2, 99, 13]), (0, 0, 0, []), (0, 0, 0, []), (12, 0, 0, []), (65, 0, 23, [3, 14]), (0, 0, 0, []), (0, 0, 0, []), (65, 9, 28, [4, 24]), (0, 0, 0, []), (0, 0, 0, []), (1, 2, 0, []), (70, 0, 0, []), (14, 2, 0, []), (8, 2, 0, []), (1, -1, 0, []), (55, 40, 0, []), (0, 0, 0, []), (0, 0, 0, []), (12, 0, 0, []), (65, 5, 22, [3, 24]), (0, 0, 0, []), (0, 0, 0, []), (2, 8, 0, []), (0, 0, 0, []), (70, 0, 0, []), (1, 2, 0, []), (12, 0, 0, []), (65, 5, 22, [3, 24]), (0, 0, 0, []), (0, 0, 0, []), (2, 9, 0, []), (0, 0, 0, []), (70, 0, 0, []), (23, 0, 0, []), (21, 0, 0, []), (60, 52, 0, []), (0, 0, 0, []), (0, 0, 0, []), (12, 0, 0, []), (12, 0, 0, []), (65, 0, 23, [3, 14]), (0, 0, 0, []), (0, 0, 0, []), (65, 18, 29, [4, 24]), (0, 0, 0, []), (0, 0, 0, []), (8, 2, 0, []), (85, 47, 30, [3, 0, 13]), (0, 0, 0, []), (0, 0, 0, []), (14, 3, 0, []), (1, 0, 0, []), (3, 9999, 0, []), (0, 0, 0, []), (0, 0, 0, []), (8, 3, 0, []), (89, 339, 37, [2, 0]), (0, 0, 0, []), (0, 0, 0, []), (89, 337, 36, [2, 0]), (0, 0, 0, []), (0, 0, 0, []), (91, 0, 0, [])]
def k45 : List jI := [(12, 0, 0, []), (65, 5, 22, [3, 24]), (0, 0, 0, []), (0, 0, 0, []), (1, 0, 0, []), (8, 1, 0, []), (75, 0, 0, []), (12, 0, 0, []), (65, 5, 22, [3, 24]), (0, 0, 0, []), (0, 0, 0, []), (1, 1, 0, []), (12, 0, 0, []), (65, 0, 23, [3, 14]), (0, 0, 0, []), (0, 0, 0, []), (8, 1, 0, []), (85, 58, 44, [2, 0, 14]), (0, 0, 0, []), (0, 0, 0, []), (75, 0, 0, []), (12, 0, 0, []), (65, 5, 22, [3, 24]), (0, 0, 0, []), (0, 0, 0, []), (1, 2, 0, []), (12, 0, 0, []), (65, 0, 23, [3, 14]), (0, 0, 0, []), (0, 0, 0, []), (8, 1, 0, []), (85, 57, 35, [2, 0, 14]), (0, 0, 0, []), (0, 0, 0, []), (75, 0, 0, []), (12, 0, 0, []), (65, 5, 22, [3, 24]), (0, 0, 0, []), (0, 0, 0, []), (1, 3, 0, []), (12, 0, 0, []), (65, 0, 23, [3, 14]), (0, 0, 0, []), (0, 0, 0, []), (8, 1, 0, []), (85, 61, 41, [2, 0, 14]), (0, 0, 0, []), (0, 0, 0, []), (75, 0, 0, []), (12, 0, 0, []), (65, 5, 22, [3, 24]), (0, 0, 0, []), (0, 0, 0, []), (1, 4, 0, []), (12, 0, 0, []), (65, 0, 23, [3, 14]), (0, 0, 0, []), (0, 0, 0, []), (8, 1, 0, []), (85, 62, 45, [2, 0, 14]), (0, 0, 0, []), (0, 0, 0, []), (75, 0, 0, []), (12, 0, 0, []), (65, 5, 22, [3, 24]), (0, 0, 0, []), (0, 0, 0, []), (1, 5, 0, []), (12, 0, 0, []), (8, 1, 0, []), (85, 35, 46, [2, 0, 13]), (0, 0, 0, []), (0, 0, 0, []), (75, 0, 0, []), (12, 0, 0, []), (65, 5, 22, [3, 24]), (0, 0, 0, []), (0, 0, 0, []), (2, 6, 0, []), (0, 0, 0, []), (12, 0, 0, []), (8, 1, 0, []), (85, 38, 40, [2, 0, 13]), (0, 0, 0, []), (0, 0, 0, []), (75, 0, 0, []), (12, 0, 0, []), (65, 5, 22, [3, 24]), (0, 0, 0, []), (0, 0, 0, []), (2, 7, 0, []), (0, 0, 0, []), (12, 0, 0, []), (65, 1, 24, [3, 11]), (0, 0, 0, []), (0, 0, 0, []), (8, 1, 0, []), (1, 0, 0, []), (85, 13, 27, [3, 0, 11]), (0, 0, 0, []), (0, 0, 0, []), (48, 108, 0, []), (0, 0, 0, []), (0, 0, 0, []), (1, 1, 0, []), (60, 109, 0, []), (0, 0, 0, []), (0, 0, 0, []), (1, 0, 0, []), (75, 0, 0, []), (12, 0, 0, []), (65, 5, 22, [3, 24]), (0, 0, 0, []), (0, 0, 0, []), (2, 8, 0, []), (0, 0, 0, []), (12, 0, 0, []), (65, 1, 24, [3, 11]), (0, 0, 0, []), (0, 0, 0, []), (8, 1, 0, []), (85, 14, 25, [2, 0, 11]), (0, 0, 0, []), (0, 0, 0, []), (48, 131, 0, []), (0, 0, 0, []), (0, 0, 0, []), (1, 1, 0, []), (60, 132, 0, []), (0, 0, 0, []), (0, 0, 0, []), (1, 0, 0, []), (75, 0, 0, []), (12, 0, 0, []), (65, 5, 22, [3, 24]), (0, 0, 0, []), (0, 0, 0, []), (2, 9, 0, []), (0, 0, 0, []), (12, 0, 0, []), (65, 1, 24, [3, 11]), (0, 0, 0, []), (0, 0, 0, []), (8, 1, 0, []), (1, 3, 0, []), (85, 13, 27, [3, 0, 11]), (0, 0, 0, []), (0, 0, 0, []), (48, 155, 0, []), (0, 0, 0, []), (0, 0, 0, []), (1, 1, 0, []), (60, 156, 0, []), (0, 0, 0, []), (0, 0, 0, []), (1, 0, 0, []), (75, 0, 0, []), (95, 0, 0, [])]
def k46 : List jI := [(12, 0, 0, []), (65, 5, 22, [3, 24]), (0, 0, 0, []), (0, 0, 0, []), (1, 0, 0, []), (89, 341, 22, [2, 99]), (0, 0, 0, []), (0, 0, 0, []), (8, 1, 0, []), (50, 29, 0, []), (0, 0, 0, []), (0, 0, 0, []), (8, 1, 0, []), (12, 0, 0, []), (65, 0, 23, [3, 14]), (0, 0, 0, []), (0, 0, 0, []), (64, 6, 35, [4, 0]), (0, 0, 0, []), (0, 0, 0, []), (57, 29, 0, []), (0, 0, 0, []), (0, 0, 0, []), (8, 1, 0, []), (2, 6, 0, []), (0, 0, 0, []), (56, 30, 0, []), (0, 0, 0, []), (0, 0, 0, []), (95, 0, 0, []), (12, 0, 0, []), (65, 0, 23, [3, 14]), (0, 0, 0, []), (0, 0, 0, []), (65, 15, 36, [4, 24]), (0, 0, 0, []), (0, 0, 0, []), (8, 1, 0, []), (70, 0, 0, []), (14, 2, 0, []), (12, 0, 0, []), (65, 5, 22, [3, 24]), (0, 0, 0, []), (0, 0, 0, []), (1, 2, 0, []), (8, 2, 0, []), (75, 0, 0, []), (1, 0, 0, []), (14, 3, 0, []), (8, 3, 0, []), (12, 0, 0, []), (65, 0, 23, [3, 14]), (0, 0, 0, []), (0, 0, 0, []), (64, 1, 26, [4, 0]), (0, 0, 0, []), (0, 0, 0, []), (57, 136, 0, []), (0, 0, 0, []), (0, 0, 0, []), (12, 0, 0, []), (65, 0, 23, [3, 14]), (0, 0, 0, []), (0, 0, 0, []), (8, 3, 0, []), (85, 57, 35, [2, 0, 14]), (0, 0, 0, []), (0, 0, 0, []), (8, 2, 0, []), (22, 0, 0, []), (89, 336, 47, [1, 0]), (0, 0, 0, []), (0, 0, 0, []), (1, 1, 0, []), (58, 130, 0, []), (0, 0, 0, []), (0, 0, 0, []), (12, 0, 0, []), (65, 5, 22, [3, 24]), (0, 0, 0, []), (0, 0, 0, []), (2, 8, 0, []), (0, 0, 0, []), (46, 0, 0, []), (70, 0, 0, []), (12, 0, 0, []), (65, 1, 24, [3, 11]), (0, 0, 0, []), (0, 0, 0, []), (8, 3, 0, []), (85, 14, 25, [2, 0, 11]), (0, 0, 0, []), (0, 0, 0, []), (48, 100, 0, []), (0, 0, 0, []), (0, 0, 0, []), (1, 1, 0, []), (60, 101, 0, []), (0, 0, 0, []), (0, 0, 0, []), (1, 0, 0, []), (21, 0, 0, []), (75, 0, 0, []), (12, 0, 0, []), (65, 5, 22, [3, 24]), (0, 0, 0, []), (0, 0, 0, []), (2, 9, 0, []), (0, 0, 0, []), (46, 0, 0, []), (70, 0, 0, []), (12, 0, 0, []), (65, 1, 24, [3, 11]), (0, 0, 0, []), (0, 0, 0, []), (8, 3, 0, []), (1, 3, 0, []), (85, 13, 27, [3, 0, 11]), (0, 0, 0, []), (0, 0, 0, []), (48, 127, 0, []), (0, 0, 0, []), (0, 0, 0, []), (1, 1, 0, []), (60, 128, 0, []), (0, 0, 0, []), (0, 0, 0, []), (1, 0, 0, []), (21, 0, 0, []), (75, 0, 0, []), (20, 3, 1, []), (0, 0, 0, []), (0, 0, 0, []), (60, 49, 0, []), (0, 0, 0, []), (0, 0, 0, []), (95, 0, 0, [])]
def k47 : List jI := [(1, 0, 0, []), (14, 3, 0, []), (1, 0, 0, []), (8, 2, 0, []), (89, 337, 36, [2, 0]), (0, 0, 0, []), (0, 0, 0, []), (15, 4, 0, []), (0, 0, 0, []), (9, 4, 0, []), (0, 0, 0, []), (12, 1, 0, []), (80, 0, 0, []), (57, 199, 0, []), (0, 0, 0, []), (0, 0, 0, []), (12, 1, 0, []), (9, 4, 0, []), (0, 0, 0, []), (70, 0, 0, []), (15, 5, 0, []), (0, 0, 0, []), (9, 5, 0, []), (0, 0, 0, []), (3, 10000, 0, []), (0, 0, 0, []), (0, 0, 0, []), (55, 33, 0, []), (0, 0, 0, []), (0, 0, 0, []), (60, 199, 0, []), (0, 0, 0, []), (0, 0, 0, []), (9, 5, 0, []), (0, 0, 0, []), (3, 10000, 0, []), (0, 0, 0, []), (0, 0, 0, []), (56, 49, 0, []), (0, 0, 0, []), (0, 0, 0, []), (9, 5, 0, []), (0, 0, 0, []), (3, 20000, 0, []), (0, 0, 0, []), (0, 0, 0, []), (56, 93, 0, []), (0, 0, 0, []), (0, 0, 0, []), (8, 3, 0, []), (12, 0, 0, []), (65, 4, 21, [3, 24]), (0, 0, 0, []), (0, 0, 0, []), (80, 0, 0, []), (57, 193, 0, []), (0, 0, 0, []), (0, 0, 0, []), (12, 0, 0, []), (65, 4, 21, [3, 24]), (0, 0, 0, []), (0, 0, 0, []), (8, 3, 0, []), (9, 5, 0, []), (0, 0, 0, []), (3, 10000, 0, []), (0, 0, 0, []), (0, 0, 0, []), (57, 76, 0, []), (0, 0, 0, []), (0, 0, 0, []), (9, 5, 0, []), (0, 0, 0, []), (60, 86, 0, []), (0, 0, 0, []), (0, 0, 0, []), (12, 0, 0, []), (9, 5, 0, []), (0, 0, 0, []), (3, 20000, 0, []), (0, 0, 0, []), (0, 0, 0, []), (22, 0, 0, []), (85, 48, 48, [2, 0, 13]), (0, 0, 0, []), (0, 0, 0, []), (75, 0, 0, []), (20, 3, 1, []), (0, 0, 0, []), (0, 0, 0, []), (60, 193, 0, []), (0, 0, 0, []), (0, 0, 0, []), (9, 5, 0, []), (0, 0, 0, []), (3, 10001, 0, []), (0, 0, 0, []), (0, 0, 0, []), (54, 109, 0, []), (0, 0, 0, []), (0, 0, 0, []), (9, 5, 0, []), (0, 0, 0, []), (3, 10002, 0, []), (0, 0, 0, []), (0, 0, 0, []), (55, 158, 0, []), (0, 0, 0, []), (0, 0, 0, []), (8, 3, 0, []), (53, 193, 0, []), (0, 0, 0, []), (0, 0, 0, []), (12, 0, 0, []), (65, 4, 21, [3, 24]), (0, 0, 0, []), (0, 0, 0, []), (8, 3, 0, []), (1, 1, 0, []), (22, 0, 0, []), (70, 0, 0, []), (15, 6, 0, []), (0, 0, 0, []), (12, 0, 0, []), (65, 4, 21, [3, 24]), (0, 0, 0, []), (0, 0, 0, []), (8, 3, 0, []), (1, 1, 0, []), (22, 0, 0, []), (9, 5, 0, []), (0, 0, 0, []), (3, 10001, 0, []), (0, 0, 0, []), (0, 0, 0, []), (55, 145, 0, []), (0, 0, 0, []), (0, 0, 0, []), (1, 1, 0, []), (9, 6, 0, []), (0, 0, 0, []), (22, 0, 0, []), (60, 154, 0, []), (0, 0, 0, []), (0, 0, 0, []), (12, 0, 0, []), (65, 1, 24, [3, 11]), (0, 0, 0, []), (0, 0, 0, []), (9, 6, 0, []), (0, 0, 0, []), (85, 16, 49, [2, 0, 11]), (0, 0, 0, []), (0, 0, 0, []), (75, 0, 0, []), (60, 193, 0, []), (0, 0, 0, []), (0, 0, 0, []), (8, 3, 0, []), (1, 1, 0, []), (59, 193, 0, []), (0, 0, 0, []), (0, 0, 0, []), (20, 3, -1, []), (0, 0, 0, []), (0, 0, 0, []), (12, 0, 0, []), (65, 4, 21, [3, 24]), (0, 0, 0, []), (0, 0, 0, []), (8, 3, 0, []), (1, 1, 0, []), (22, 0, 0, []), (9, 5, 0, []), (0, 0, 0, []), (12, 0, 0, []), (65, 4, 21, [3, 24]), (0, 0, 0, []), (0, 0, 0, []), (8, 3, 0, []), (1, 1, 0, []), (22, 0, 0, []), (70, 0, 0, []), (12, 0, 0, []), (65, 4, 21, [3, 24]), (0, 0, 0, []), (0, 0, 0, []), (8, 3, 0, []), (70, 0, 0, []), (89, 49, 50, [3, 0]), (0, 0, 0, []), (0, 0, 0, []), (75, 0, 0, []), (20, 4, 1, []), (0, 0, 0, []), (0, 0, 0, []), (60, 9, 0, []), (0, 0, 0, []), (0, 0, 0, []), (8, 3, 0, []), (53, 214, 0, []), (0, 0, 0, []), (0, 0, 0, []), (12, 0, 0, []), (65, 4, 21, [3, 24]), (0, 0, 0, []), (0, 0, 0, []), (8, 3, 0, []), (1, 1, 0, []), (22, 0, 0, []), (70, 0, 0, []), (60, 215, 0, []), (0, 0, 0, []), (0, 0, 0, []), (1, 0, 0, []), (91, 0, 0, [])]
def k48 : List jI := [(8, 1, 0, []), (50, 22, 0, []), (0, 0, 0, []), (0, 0, 0, []), (8, 1, 0, []), (12, 0, 0, []), (65, 5, 22, [3, 24]), (0, 0, 0, []), (0, 0, 0, []), (80, 0, 0, []), (57, 22, 0, []), (0, 0, 0, []), (0, 0, 0, []), (12, 0, 0, []), (65, 5, 22, [3, 24]), (0, 0, 0, []), (0, 0, 0, []), (8, 1, 0, []), (70, 0, 0, []), (60, 23, 0, []), (0, 0, 0, []), (0, 0, 0, []), (1, 0, 0, []), (91, 0, 0, [])]
def k49 : List jI := [(6, 0, 0, []), (16, 3, 0, []), (8, 0, 0, []), (62, 183, 10003, [60, 68, 76, 90, 104, 118, 127, 136, 145, 163, 173]), (0, 0, 0, []), (0, 0, 0, []), (0, 0, 0, []), (0, 0, 0, []), (0, 0, 0, []), (0, 0, 0, []), (0, 0, 0, []), (0, 0, 0, []), (0, 0, 0, []), (0, 0, 0, []), (0, 0, 0, []), (0, 0, 0, []), (0, 0, 0, []), (0, 0, 0, []), (0, 0, 0, []), (0, 0, 0, []), (0, 0, 0, []), (0, 0, 0, []), (0, 0, 0, []), (0, 0, 0, []), (0, 0, 0, []), (0, 0, 0, []), (0, 0, 0, []), (0, 0, 0, []), (0, 0, 0, []), (0, 0, 0, []), (0, 0, 0, []), (0, 0, 0, []), (0, 0, 0, []), (0, 0, 0, []), (0, 0, 0, []), (0, 0, 0, []), (0, 0, 0, []), (0, 0, 0, []), (0, 0, 0, []), (0, 0, 0, []), (0, 0, 0, []), (0, 0, 0, []), (0, 0, 0, []), (0, 0, 0, []), (0, 0, 0, []), (0, 0, 0, []), (0, 0, 0, []), (0, 0, 0, []), (0, 0, 0, []), (0, 0, 0, []), (0, 0, 0, []), (0, 0, 0, []), (0, 0, 0, []), (0, 0, 0, []), (0, 0, 0, []), (0, 0, 0, []), (0, 0, 0, []), (0, 0, 0, []), (0, 0, 0, []), (0, 0, 0, []), (8, 1, 0, []), (8, 2, 0, []), (31, 0, 0, []), (43, 0, 0, []), (16, 3, 0, []), (60, 183, 0, []), (0, 0, 0, []), (0, 0, 0, []), (8, 1, 0, []), (8, 2, 0, []), (30, 0, 0, []), (43, 0, 0, []), (16, 3, 0, []), (60, 183, 0, []), (0, 0, 0, []), (0, 0, 0, []), (8, 1, 0, []), (8, 2, 0, []), (57, 85, 0, []), (0, 0, 0, []), (0, 0, 0, []), (6, 1, 0, []), (60, 86, 0, []), (0, 0, 0, []), (0, 0, 0, []), (6, 0, 0, []), (16, 3, 0, []), (60, 183, 0, []), (0, 0, 0, []), (0, 0, 0, []), (8, 1, 0, []), (8, 2, 0, []), (59, 99, 0, []), (0, 0, 0, []), (0, 0, 0, []), (6, 1, 0, []), (60, 100, 0, []), (0, 0, 0, []), (0, 0, 0, []), (6, 0, 0, []), (16, 3, 0, []), (60, 183, 0, []), (0, 0, 0, []), (0, 0, 0, []), (8, 1, 0, []), (8, 2, 0, []), (55, 113, 0, []), (0, 0, 0, []), (0, 0, 0, []), (6, 1, 0, []), (60, 114, 0, []), (0, 0, 0, []), (0, 0, 0, []), (6, 0, 0, []), (16, 3, 0, []), (60, 183, 0, []), (0, 0, 0, []), (0, 0, 0, []), (8, 1, 0, []), (43, 0, 0, []), (8, 2, 0, []), (43, 0, 0, []), (33, 0, 0, []), (16, 3, 0, []), (60, 183, 0, []), (0, 0, 0, []), (0, 0, 0, []), (8, 1, 0, []), (43, 0, 0, []), (8, 2, 0, []), (43, 0, 0, []), (34, 0, 0, []), (16, 3, 0, []), (60, 183, 0, []), (0, 0, 0, []), (0, 0, 0, []), (8, 1, 0, []), (43, 0, 0, []), (8, 2, 0, []), (43, 0, 0, []), (35, 0, 0, []), (16, 3, 0, []), (60, 183, 0, []), (0, 0, 0, []), (0, 0, 0, []), (8, 2, 0, []), (49, 153, 0, []), (0, 0, 0, []), (0, 0, 0, []), (6, 0, 0, []), (60, 159, 0, []), (0, 0, 0, []), (0, 0, 0, []), (8, 1, 0, []), (8, 2, 0, []), (89, 335, 51, [2, 0]), (0, 0, 0, []), (0, 0, 0, []), (43, 0, 0, []), (16, 3, 0, []), (60, 183, 0, []), (0, 0, 0, []), (0, 0, 0, []), (8, 1, 0, []), (8, 2, 0, []), (89, 339, 37, [2, 0]), (0, 0, 0, []), (0, 0, 0, []), (43, 0, 0, []), (16, 3, 0, []), (60, 183, 0, []), (0, 0, 0, []), (0, 0, 0, []), (8, 1, 0, []), (8, 2, 0, []), (89, 337, 36, [2, 0]), (0, 0, 0, []), (0, 0, 0, []), (43, 0, 0, []), (16, 3, 0, []), (60, 183, 0, []), (0, 0, 0, []), (0, 0, 0, []), (7, -1000000, 175, []), (0, 0, 0, []), (0, 0, 0, []), (7, 1000000, 177, []), (0, 0, 0, []), (0, 0, 0, []), (10, 3, 0, []), (89, 340, 52, [2, 1]), (0, 0, 0, []), (0, 0, 0, []), (89, 338, 53, [2, 1]), (0, 0, 0, []), (0, 0, 0, []), (44, 0, 0, []), (91, 0, 0, [])]
def k50 : List jI := [(12, 0, 0, []), (90, 0, 3, []), (0, 0, 0, []), (0, 0, 0, []), (12, 0, 0, []), (1, 3, 0, []), (82, 14, 0, []), (0, 0, 0, []), (69, 8, 37, [4, 24]), (0, 0, 0, []), (0, 0, 0, []), (12, 0, 0, []), (1, 3, 0, []), (82, 14, 0, []), (0, 0, 0, []), (69, 9, 38, [4, 24]), (0, 0, 0, []), (0, 0, 0, []), (12, 0, 0, []), (1, 5, 0, []), (82, 14, 0, []), (0, 0, 0, []), (69, 10, 39, [4, 24]), (0, 0, 0, []), (0, 0, 0, []), (12, 0, 0, []), (1, 5, 0, []), (82, 14, 0, []), (0, 0, 0, []), (69, 11, 40, [4, 24]), (0, 0, 0, []), (0, 0, 0, []), (12, 0, 0, []), (1, 5, 0, []), (82, 14, 0, []), (0, 0, 0, []), (69, 12, 41, [4, 24]), (0, 0, 0, []), (0, 0, 0, []), (12, 0, 0, []), (2, 30, 0, []), (0, 0, 0, []), (82, 14, 0, []), (0, 0, 0, []), (69, 13, 42, [4, 24]), (0, 0, 0, []), (0, 0, 0, []), (12, 0, 0, []), (2, 36, 0, []), (0, 0, 0, []), (82, 14, 0, []), (0, 0, 0, []), (69, 14, 43, [4, 24]), (0, 0, 0, []), (0, 0, 0, []), (12, 0, 0, []), (2, 6, 0, []), (0, 0, 0, []), (82, 14, 0, []), (0, 0, 0, []), (69, 15, 44, [4, 24]), (0, 0, 0, []), (0, 0, 0, []), (12, 0, 0, []), (2, 48, 0, []), (0, 0, 0, []), (82, 14, 0, []), (0, 0, 0, []), (69, 16, 45, [4, 24]), (0, 0, 0, []), (0, 0, 0, []), (12, 0, 0, []), (3, 192, 0, []), (0, 0, 0, []), (0, 0, 0, []), (82, 14, 0, []), (0, 0, 0, []), (69, 17, 46, [4, 24]), (0, 0, 0, []), (0, 0, 0, []), (12, 0, 0, []), (3, 1600, 0, []), (0, 0, 0, []), (0, 0, 0, []), (82, 14, 0, []), (0, 0, 0, []), (69, 18, 47, [4, 24]), (0, 0, 0, []), (0, 0, 0, []), (95, 0, 0, [])]
def k51 : List jI := [(12, 0, 0, []), (1, 0, 0, []), (66, 0, 48, [4, 0]), (0, 0, 0, []), (0, 0, 0, []), (12, 0, 0, []), (1, 0, 0, []), (66, 1, 49, [4, 0]), (0, 0, 0, []), (0, 0, 0, []), (12, 0, 0, []), (1, 0, 0, []), (66, 2, 50, [4, 0]), (0, 0, 0, []), (0, 0, 0, []), (12, 0, 0, []), (1, 0, 0, []), (66, 3, 51, [4, 0]), (0, 0, 0, []), (0, 0, 0, []), (12, 0, 0, []), (1, 0, 0, []), (66, 4, 52, [4, 0]), (0, 0, 0, []), (0, 0, 0, []), (12, 0, 0, []), (1, 0, 0, []), (66, 5, 53, [4, 0]), (0, 0, 0, []), (0, 0, 0, []), (12, 0, 0, []), (1, 0, 0, []), (66, 6, 54, [4, 0]), (0, 0, 0, []), (0, 0, 0, []), (12, 0, 0, []), (1, 0, 0, []), (66, 7, 55, [4, 0]), (0, 0, 0, []), (0, 0, 0, []), (12, 0, 0, []), (65, 8, 37, [4, 24]), (0, 0, 0, []), (0, 0, 0, []), (1, 0, 0, []), (1, 3, 0, []), (75, 0, 0, []), (12, 0, 0, []), (65, 8, 37, [4, 24]), (0, 0, 0, []), (0, 0, 0, []), (1, 1, 0, []), (1, 5, 0, []), (75, 0, 0, []), (12, 0, 0, []), (65, 8, 37, [4, 24]), (0, 0, 0, []), (0, 0, 0, []), (1, 2, 0, []), (2, 10, 0, []), (0, 0, 0, []), (75, 0, 0, []), (12, 0, 0, []), (65, 9, 38, [4, 24]), (0, 0, 0, []), (0, 0, 0, []), (1, -1, 0, []), (89, 341, 54, [2, 99]), (0, 0, 0, []), (0, 0, 0, []), (12, 0, 0, []), (65, 12, 41, [4, 24]), (0, 0, 0, []), (0, 0, 0, []), (1, 0, 0, []), (89, 341, 54, [2, 99]), (0, 0, 0, []), (0, 0, 0, []), (95, 0, 0, [])]
def k52 : List jI := [(12, 0, 0, []), (12, 1, 0, []), (64, 0, 48, [4, 0]), (0, 0, 0, []), (0, 0, 0, []), (66, 0, 48, [4, 0]), (0, 0, 0, []), (0, 0, 0, []), (12, 0, 0, []), (12, 1, 0, []), (64, 2, 50, [4, 0]), (0, 0, 0, []), (0, 0, 0, []), (66, 2, 50, [4, 0]), (0, 0, 0, []), (0, 0, 0, []), (12, 0, 0, []), (12, 1, 0, []), (64, 3, 51, [4, 0]), (0, 0, 0, []), (0, 0, 0, []), (66, 3, 51, [4, 0]), (0, 0, 0, []), (0, 0, 0, []), (12, 0, 0, []), (12, 1, 0, []), (64, 4, 52, [4, 0]), (0, 0, 0, []), (0, 0, 0, []), (66, 4, 52, [4, 0]), (0, 0, 0, []), (0, 0, 0, []), (12, 0, 0, []), (12, 1, 0, []), (64, 5, 53, [4, 0]), (0, 0, 0, []), (0, 0, 0, []), (66, 5, 53, [4, 0]), (0, 0, 0, []), (0, 0, 0, []), (12, 0, 0, []), (12, 1, 0, []), (64, 6, 54, [4, 0]), (0, 0, 0, []), (0, 0, 0, []), (66, 6, 54, [4, 0]), (0, 0, 0, []), (0, 0, 0, []), (12, 0, 0, []), (12, 1, 0, []), (64, 7, 55, [4, 0]), (0, 0, 0, []), (0, 0, 0, []), (66, 7, 55, [4, 0]), (0, 0, 0, []), (0, 0, 0, []), (12, 1, 0, []), (65, 8, 37, [4, 24]), (0, 0, 0, []), (0, 0, 0, []), (12, 0, 0, []), (65, 8, 37, [4, 24]), (0, 0, 0, []), (0, 0, 0, []), (89, 53, 55, [2, 99]), (0, 0, 0, []), (0, 0, 0, []), (12, 1, 0, []), (65, 9, 38, [4, 24]), (0, 0, 0, []), (0, 0, 0, []), (12, 0, 0, []), (65, 9, 38, [4, 24]), (0, 0, 0, []), (0, 0, 0, []), (89, 53, 55, [2, 99]), (0, 0, 0, []), (0, 0, 0, []), (12, 1, 0, []), (65, 10, 39, [4, 24]), (0, 0, 0, []), (0, 0, 0, []), (12, 0, 0, []), (65, 10, 39, [4, 24]), (0, 0, 0, []), (0, 0, 0, []), (89, 53, 55, [2, 99]), (0, 0, 0, []), (0, 0, 0, []), (12, 1, 0, []), (65, 11, 40, [4, 24]), (0, 0, 0, []), (0, 0, 0, []), (12, 0, 0, []), (65, 11, 40, [4, 24]), (0, 0, 0, []), (0, 0, 0, []), (89, 53, 55, [2, 99]), (0, 0, 0, []), (0, 0, 0, []), (12, 1, 0, []), (65, 12, 41, [4, 24]), (0, 0, 0, []), (0, 0, 0, []), (12, 0, 0, []), (65, 12, 41, [4, 24]), (0, 0, 0, []), (0, 0, 0, []), (89, 53, 55, [2, 99]), (0, 0, 0, []), (0, 0, 0, []), (12, 1, 0, []), (65, 13, 42, [4, 24]), (0, 0, 0, []), (0, 0, 0, []), (12, 0, 0, []), (65, 13, 42, [4, 24]), (0, 0, 0, []), (0, 0, 0, []), (89, 53, 55, [2, 99]), (0, 0, 0, []), (0, 0, 0, []), (12, 1, 0, []), (65, 14, 43, [4, 24]), (0, 0, 0, []), (0, 0, 0, []), (12, 0, 0, []), (65, 14, 43, [4, 24]), (0, 0, 0, []), (0, 0, 0, []), (89, 53, 55, [2, 99]), (0, 0, 0, []), (0, 0, 0, []), (12, 1, 0, []), (65, 15, 44, [4, 24]), (0, 0, 0, []), (0, 0, 0, []), (12, 0, 0, []), (65, 15, 44, [4, 24]), (0, 0, 0, []), (0, 0, 0, []), (89, 53, 55, [2, 99]), (0, 0, 0, []), (0, 0, 0, []), (12, 1, 0, []), (65, 16, 45, [4, 24]), (0, 0, 0, []), (0, 0, 0, []), (12, 0, 0, []), (65, 16, 45, [4, 24]), (0, 0, 0, []), (0, 0, 0, []), (89, 53, 55, [2, 99]), (0, 0, 0, []), (0, 0, 0, []), (12, 1, 0, []), (65, 18, 47, [4, 24]), (0, 0, 0, []), (0, 0, 0, []), (12, 0, 0, []), (65, 18, 47, [4, 24]), (0, 0, 0, []), (0, 0, 0, []), (89, 53, 55, [2, 99]), (0, 0, 0, []), (0, 0, 0, []), (12, 0, 0, []), (85, 55, 56, [1, 99, 14]), (0, 0, 0, []), (0, 0, 0, []), (95, 0, 0, [])]
def k53 : List jI := [(12, 0, 0, []), (1, 0, 0, []), (12, 1, 0, []), (1, 0, 0, []), (12, 0, 0, []), (80, 0, 0, []), (12, 1, 0, []), (80, 0, 0, []), (89, 339, 57, [2, 0]), (0, 0, 0, []), (0, 0, 0, []), (97, 0, 89, []), (0, 0, 0, []), (0, 0, 0, []), (95, 0, 0, [])]
def k54 : List jI := [(12, 0, 0, []), (64, 0, 48, [4, 0]), (0, 0, 0, []), (0, 0, 0, []), (53, 11, 0, []), (0, 0, 0, []), (0, 0, 0, []), (1, 1, 0, []), (60, 12, 0, []), (0, 0, 0, []), (0, 0, 0, []), (1, 0, 0, []), (94, 0, 0, [])]
def k55 : List jI := [(12, 0, 0, []), (2, 48, 0, []), (0, 0, 0, []), (12, 0, 0, []), (64, 2, 50, [4, 0]), (0, 0, 0, []), (0, 0, 0, []), (12, 0, 0, []), (64, 4, 52, [4, 0]), (0, 0, 0, []), (0, 0, 0, []), (23, 0, 0, []), (89, 339, 57, [2, 0]), (0, 0, 0, []), (0, 0, 0, []), (66, 1, 49, [4, 0]), (0, 0, 0, []), (0, 0, 0, []), (12, 0, 0, []), (65, 17, 46, [4, 24]), (0, 0, 0, []), (0, 0, 0, []), (1, -1, 0, []), (89, 341, 54, [2, 99]), (0, 0, 0, []), (0, 0, 0, []), (1, 0, 0, []), (14, 1, 0, []), (8, 1, 0, []), (12, 0, 0, []), (64, 1, 49, [4, 0]), (0, 0, 0, []), (0, 0, 0, []), (57, 155, 0, []), (0, 0, 0, []), (0, 0, 0, []), (12, 0, 0, []), (8, 1, 0, []), (85, 57, 58, [2, 0, 14]), (0, 0, 0, []), (0, 0, 0, []), (14, 2, 0, []), (12, 0, 0, []), (65, 17, 46, [4, 24]), (0, 0, 0, []), (0, 0, 0, []), (1, 4, 0, []), (8, 1, 0, []), (23, 0, 0, []), (8, 1, 0, []), (12, 0, 0, []), (64, 2, 50, [4, 0]), (0, 0, 0, []), (0, 0, 0, []), (56, 66, 0, []), (0, 0, 0, []), (0, 0, 0, []), (8, 1, 0, []), (12, 0, 0, []), (64, 2, 50, [4, 0]), (0, 0, 0, []), (0, 0, 0, []), (22, 0, 0, []), (60, 67, 0, []), (0, 0, 0, []), (0, 0, 0, []), (1, -1, 0, []), (75, 0, 0, []), (12, 0, 0, []), (65, 17, 46, [4, 24]), (0, 0, 0, []), (0, 0, 0, []), (1, 4, 0, []), (8, 1, 0, []), (23, 0, 0, []), (1, 1, 0, []), (21, 0, 0, []), (8, 2, 0, []), (53, 87, 0, []), (0, 0, 0, []), (0, 0, 0, []), (8, 1, 0, []), (1, 1, 0, []), (22, 0, 0, []), (60, 88, 0, []), (0, 0, 0, []), (0, 0, 0, []), (1, -1, 0, []), (75, 0, 0, []), (12, 0, 0, []), (65, 17, 46, [4, 24]), (0, 0, 0, []), (0, 0, 0, []), (1, 4, 0, []), (8, 1, 0, []), (23, 0, 0, []), (1, 2, 0, []), (21, 0, 0, []), (8, 2, 0, []), (12, 0, 0, []), (64, 2, 50, [4, 0]), (0, 0, 0, []), (0, 0, 0, []), (1, 1, 0, []), (22, 0, 0, []), (57, 114, 0, []), (0, 0, 0, []), (0, 0, 0, []), (8, 1, 0, []), (1, 1, 0, []), (21, 0, 0, []), (60, 115, 0, []), (0, 0, 0, []), (0, 0, 0, []), (1, -1, 0, []), (75, 0, 0, []), (12, 0, 0, []), (65, 17, 46, [4, 24]), (0, 0, 0, []), (0, 0, 0, []), (1, 4, 0, []), (8, 1, 0, []), (23, 0, 0, []), (1, 3, 0, []), (21, 0, 0, []), (8, 1, 0, []), (12, 0, 0, []), (64, 2, 50, [4, 0]), (0, 0, 0, []), (0, 0, 0, []), (21, 0, 0, []), (12, 0, 0, []), (64, 1, 49, [4, 0]), (0, 0, 0, []), (0, 0, 0, []), (57, 147, 0, []), (0, 0, 0, []), (0, 0, 0, []), (8, 1, 0, []), (12, 0, 0, []), (64, 2, 50, [4, 0]), (0, 0, 0, []), (0, 0, 0, []), (21, 0, 0, []), (60, 148, 0, []), (0, 0, 0, []), (0, 0, 0, []), (1, -1, 0, []), (75, 0, 0, []), (20, 1, 1, []), (0, 0, 0, []), (0, 0, 0, []), (60, 28, 0, []), (0, 0, 0, []), (0, 0, 0, []), (95, 0, 0, [])]
def k56 : List jI := [(8, 1, 0, []), (50, 16, 0, []), (0, 0, 0, []), (0, 0, 0, []), (8, 1, 0, []), (12, 0, 0, []), (64, 1, 49, [4, 0]), (0, 0, 0, []), (0, 0, 0, []), (57, 16, 0, []), (0, 0, 0, []), (0, 0, 0, []), (1, 1, 0, []), (60, 17, 0, []), (0, 0, 0, []), (0, 0, 0, []), (1, 0, 0, []), (94, 0, 0, [])]
def k57 : List jI := [(12, 0, 0, []), (64, 2, 50, [4, 0]), (0, 0, 0, []), (0, 0, 0, []), (53, 16, 0, []), (0, 0, 0, []), (0, 0, 0, []), (8, 1, 0, []), (12, 0, 0, []), (64, 2, 50, [4, 0]), (0, 0, 0, []), (0, 0, 0, []), (25, 0, 0, []), (60, 17, 0, []), (0, 0, 0, []), (0, 0, 0, []), (1, 0, 0, []), (91, 0, 0, [])]
def k58 : List jI := [(12, 0, 0, []), (64, 2, 50, [4, 0]), (0, 0, 0, []), (0, 0, 0, []), (53, 16, 0, []), (0, 0, 0, []), (0, 0, 0, []), (8, 1, 0, []), (12, 0, 0, []), (64, 2, 50, [4, 0]), (0, 0, 0, []), (0, 0, 0, []), (24, 0, 0, []), (60, 17, 0, []), (0, 0, 0, []), (0, 0, 0, []), (1, 0, 0, []), (91, 0, 0, [])]
def k59 : List jI := [(8, 1, 0, []), (50, 24, 0, []), (0, 0, 0, []), (0, 0, 0, []), (8, 1, 0, []), (12, 0, 0, []), (64, 2, 50, [4, 0]), (0, 0, 0, []), (0, 0, 0, []), (57, 24, 0, []), (0, 0, 0, []), (0, 0, 0, []), (8, 2, 0, []), (50, 24, 0, []), (0, 0, 0, []), (0, 0, 0, []), (8, 2, 0, []), (12, 0, 0, []), (64, 4, 52, [4, 0]), (0, 0, 0, []), (0, 0, 0, []), (56, 26, 0, []), (0, 0, 0, []), (0, 0, 0, []), (1, 0, 0, []), (91, 0, 0, []), (8, 2, 0, []), (12, 0, 0, []), (64, 2, 50, [4, 0]), (0, 0, 0, []), (0, 0, 0, []), (23, 0, 0, []), (8, 1, 0, []), (21, 0, 0, []), (14, 3, 0, []), (12, 0, 0, []), (8, 3, 0, []), (85, 56, 59, [2, 0, 14]), (0, 0, 0, []), (0, 0, 0, []), (48, 52, 0, []), (0, 0, 0, []), (0, 0, 0, []), (12, 0, 0, []), (65, 16, 45, [4, 24]), (0, 0, 0, []), (0, 0, 0, []), (8, 3, 0, []), (70, 0, 0, []), (60, 53, 0, []), (0, 0, 0, []), (0, 0, 0, []), (1, 0, 0, []), (91, 0, 0, [])]
def k60 : List jI := [(12, 0, 0, []), (8, 1, 0, []), (85, 56, 59, [2, 0, 14]), (0, 0, 0, []), (0, 0, 0, []), (48, 19, 0, []), (0, 0, 0, []), (0, 0, 0, []), (12, 0, 0, []), (65, 16, 45, [4, 24]), (0, 0, 0, []), (0, 0, 0, []), (8, 1, 0, []), (70, 0, 0, []), (1, 1, 0, []), (22, 0, 0, []), (60, 20, 0, []), (0, 0, 0, []), (0, 0, 0, []), (1, -1, 0, []), (91, 0, 0, [])]
def k61 : List jI := [(12, 0, 0, []), (8, 1, 0, []), (85, 60, 60, [2, 0, 14]), (0, 0, 0, []), (0, 0, 0, []), (14, 2, 0, []), (8, 2, 0, []), (50, 27, 0, []), (0, 0, 0, []), (0, 0, 0, []), (8, 2, 0, []), (12, 0, 0, []), (64, 5, 53, [4, 0]), (0, 0, 0, []), (0, 0, 0, []), (57, 27, 0, []), (0, 0, 0, []), (0, 0, 0, []), (12, 0, 0, []), (65, 10, 39, [4, 24]), (0, 0, 0, []), (0, 0, 0, []), (8, 2, 0, []), (70, 0, 0, []), (60, 28, 0, []), (0, 0, 0, []), (0, 0, 0, []), (1, 0, 0, []), (91, 0, 0, [])]
def k62 : List jI := [(12, 0, 0, []), (8, 1, 0, []), (85, 60, 60, [2, 0, 14]), (0, 0, 0, []), (0, 0, 0, []), (14, 2, 0, []), (8, 2, 0, []), (50, 27, 0, []), (0, 0, 0, []), (0, 0, 0, []), (8, 2, 0, []), (12, 0, 0, []), (64, 5, 53, [4, 0]), (0, 0, 0, []), (0, 0, 0, []), (57, 27, 0, []), (0, 0, 0, []), (0, 0, 0, []), (12, 0, 0, []), (65, 11, 40, [4, 24]), (0, 0, 0, []), (0, 0, 0, []), (8, 2, 0, []), (70, 0, 0, []), (60, 28, 0, []), (0, 0, 0, []), (0, 0, 0, []), (1, 0, 0, []), (91, 0, 0, [])]
def k63 : List jI := [(12, 0, 0, []), (8, 1, 0, []), (85, 56, 59, [2, 0, 14]), (0, 0, 0, []), (0, 0, 0, []), (48, 30, 0, []), (0, 0, 0, []), (0, 0, 0, []), (8, 2, 0, []), (50, 30, 0, []), (0, 0, 0, []), (0, 0, 0, []), (8, 2, 0, []), (1, 4, 0, []), (57, 30, 0, []), (0, 0, 0, []), (0, 0, 0, []), (12, 0, 0, []), (65, 17, 46, [4, 24]), (0, 0, 0, []), (0, 0, 0, []), (1, 4, 0, []), (8, 1, 0, []), (23, 0, 0, []), (8, 2, 0, []), (21, 0, 0, []), (70, 0, 0, []), (60, 31, 0, []), (0, 0, 0, []), (0, 0, 0, []), (1, -1, 0, []), (91, 0, 0, [])]
def k64 : List jI := [(1, 0, 0, []), (15, 4, 0, []), (0, 0, 0, []), (9, 4, 0, []), (0, 0, 0, []), (8, 2, 0, []), (57, 28, 0, []), (0, 0, 0, []), (0, 0, 0, []), (12, 1, 0, []), (9, 4, 0, []), (0, 0, 0, []), (12, 3, 0, []), (89, 65, 61, [3, 0]), (0, 0, 0, []), (0, 0, 0, []), (48, 22, 0, []), (0, 0, 0, []), (0, 0, 0, []), (9, 4, 0, []), (0, 0, 0, []), (91, 0, 0, []), (20, 4, 1, []), (0, 0, 0, []), (0, 0, 0, []), (60, 3, 0, []), (0, 0, 0, []), (0, 0, 0, []), (1, -1, 0, []), (91, 0, 0, [])]
def k65 : List jI := [(8, 1, 0, []), (2, 6, 0, []), (0, 0, 0, []), (23, 0, 0, []), (14, 3, 0, []), (1, 0, 0, []), (15, 4, 0, []), (0, 0, 0, []), (9, 4, 0, []), (0, 0, 0, []), (2, 6, 0, []), (0, 0, 0, []), (57, 56, 0, []), (0, 0, 0, []), (0, 0, 0, []), (9, 4, 0, []), (0, 0, 0, []), (12, 2, 0, []), (80, 0, 0, []), (57, 56, 0, []), (0, 0, 0, []), (0, 0, 0, []), (8, 3, 0, []), (50, 48, 0, []), (0, 0, 0, []), (0, 0, 0, []), (8, 3, 0, []), (9, 4, 0, []), (0, 0, 0, []), (21, 0, 0, []), (12, 0, 0, []), (80, 0, 0, []), (57, 48, 0, []), (0, 0, 0, []), (0, 0, 0, []), (12, 0, 0, []), (8, 3, 0, []), (9, 4, 0, []), (0, 0, 0, []), (21, 0, 0, []), (70, 0, 0, []), (12, 2, 0, []), (9, 4, 0, []), (0, 0, 0, []), (70, 0, 0, []), (54, 50, 0, []), (0, 0, 0, []), (0, 0, 0, []), (1, 0, 0, []), (94, 0, 0, []), (20, 4, 1, []), (0, 0, 0, []), (0, 0, 0, []), (60, 8, 0, []), (0, 0, 0, []), (0, 0, 0, []), (1, 1, 0, []), (94, 0, 0, [])]
def k66 : List jI := [(12, 0, 0, []), (90, 0, 3, []), (0, 0, 0, []), (0, 0, 0, []), (12, 0, 0, []), (12, 1, 0, []), (69, 0, 56, [5, 17]), (0, 0, 0, []), (0, 0, 0, []), (12, 0, 0, []), (12, 2, 0, []), (69, 1, 57, [5, 14]), (0, 0, 0, []), (0, 0, 0, []), (95, 0, 0, [])]
def k67 : List jI := [(12, 0, 0, []), (65, 1, 57, [5, 14]), (0, 0, 0, []), (0, 0, 0, []), (85, 51, 62, [1, 99, 14]), (0, 0, 0, []), (0, 0, 0, []), (12, 0, 0, []), (65, 0, 56, [5, 17]), (0, 0, 0, []), (0, 0, 0, []), (12, 1, 0, []), (12, 0, 0, []), (65, 1, 57, [5, 14]), (0, 0, 0, []), (0, 0, 0, []), (65, 18, 58, [4, 24]), (0, 0, 0, []), (0, 0, 0, []), (85, 85, 63, [3, 99, 17]), (0, 0, 0, []), (0, 0, 0, []), (1, 0, 0, []), (14, 2, 0, []), (8, 2, 0, []), (2, 60, 0, []), (0, 0, 0, []), (57, 80, 0, []), (0, 0, 0, []), (0, 0, 0, []), (12, 0, 0, []), (65, 0, 56, [5, 17]), (0, 0, 0, []), (0, 0, 0, []), (85, 91, 64, [1, 0, 17]), (0, 0, 0, []), (0, 0, 0, []), (49, 80, 0, []), (0, 0, 0, []), (0, 0, 0, []), (12, 0, 0, []), (85, 68, 65, [1, 0, 15]), (0, 0, 0, []), (0, 0, 0, []), (48, 59, 0, []), (0, 0, 0, []), (0, 0, 0, []), (12, 0, 0, []), (65, 0, 56, [5, 17]), (0, 0, 0, []), (0, 0, 0, []), (2, 59, 0, []), (0, 0, 0, []), (85, 94, 66, [2, 0, 17]), (0, 0, 0, []), (0, 0, 0, []), (49, 61, 0, []), (0, 0, 0, []), (0, 0, 0, []), (1, 0, 0, []), (94, 0, 0, []), (12, 0, 0, []), (65, 1, 57, [5, 14]), (0, 0, 0, []), (0, 0, 0, []), (45, 0, 0, []), (64, 0, 59, [4, 0]), (0, 0, 0, []), (0, 0, 0, []), (1, 1, 0, []), (21, 0, 0, []), (66, 0, 59, [4, 0]), (0, 0, 0, []), (0, 0, 0, []), (20, 2, 1, []), (0, 0, 0, []), (0, 0, 0, []), (60, 24, 0, []), (0, 0, 0, []), (0, 0, 0, []), (12, 0, 0, []), (65, 0, 56, [5, 17]), (0, 0, 0, []), (0, 0, 0, []), (85, 91, 64, [1, 0, 17]), (0, 0, 0, []), (0, 0, 0, []), (49, 99, 0, []), (0, 0, 0, []), (0, 0, 0, []), (12, 0, 0, []), (65, 0, 56, [5, 17]), (0, 0, 0, []), (0, 0, 0, []), (1, 5, 0, []), (85, 87, 67, [2, 0, 17]), (0, 0, 0, []), (0, 0, 0, []), (94, 0, 0, []), (12, 0, 0, []), (65, 1, 57, [5, 14]), (0, 0, 0, []), (0, 0, 0, []), (64, 0, 59, [4, 0]), (0, 0, 0, []), (0, 0, 0, []), (52, 120, 0, []), (0, 0, 0, []), (0, 0, 0, []), (12, 0, 0, []), (65, 0, 56, [5, 17]), (0, 0, 0, []), (0, 0, 0, []), (1, 1, 0, []), (85, 87, 67, [2, 0, 17]), (0, 0, 0, []), (0, 0, 0, []), (48, 124, 0, []), (0, 0, 0, []), (0, 0, 0, []), (1, 1, 0, []), (60, 125, 0, []), (0, 0, 0, []), (0, 0, 0, []), (1, 0, 0, []), (94, 0, 0, [])]
def k68 : List jI := [(12, 0, 0, []), (65, 0, 56, [5, 17]), (0, 0, 0, []), (0, 0, 0, []), (85, 93, 68, [1, 0, 17]), (0, 0, 0, []), (0, 0, 0, []), (14, 1, 0, []), (12, 0, 0, []), (65, 1, 57, [5, 14]), (0, 0, 0, []), (0, 0, 0, []), (64, 0, 59, [4, 0]), (0, 0, 0, []), (0, 0, 0, []), (49, 23, 0, []), (0, 0, 0, []), (0, 0, 0, []), (12, 0, 0, []), (85, 69, 69, [1, 0, 15]), (0, 0, 0, []), (0, 0, 0, []), (94, 0, 0, []), (8, 1, 0, []), (62, 238, 2, [88, 238, 238, 93, 98, 103, 108, 142, 176, 210, 219, 228]), (0, 0, 0, []), (0, 0, 0, []), (0, 0, 0, []), (0, 0, 0, []), (0, 0, 0, []), (0, 0, 0, []), (0, 0, 0, []), (0, 0, 0, []), (0, 0, 0, []), (0, 0, 0, []), (0, 0, 0, []), (0, 0, 0, []), (0, 0, 0, []), (0, 0, 0, []), (0, 0, 0, []), (0, 0, 0, []), (0, 0, 0, []), (0, 0, 0, []), (0, 0, 0, []), (0, 0, 0, []), (0, 0, 0, []), (0, 0, 0, []), (0, 0, 0, []), (0, 0, 0, []), (0, 0, 0, []), (0, 0, 0, []), (0, 0, 0, []), (0, 0, 0, []), (0, 0, 0, []), (0, 0, 0, []), (0, 0, 0, []), (0, 0, 0, []), (0, 0, 0, []), (0, 0, 0, []), (0, 0, 0, []), (0, 0, 0, []), (0, 0, 0, []), (0, 0, 0, []), (0, 0, 0, []), (0, 0, 0, []), (0, 0, 0, []), (0, 0, 0, []), (0, 0, 0, []), (0, 0, 0, []), (0, 0, 0, []), (0, 0, 0, []), (0, 0, 0, []), (0, 0, 0, []), (0, 0, 0, []), (0, 0, 0, []), (0, 0, 0, []), (0, 0, 0, []), (0, 0, 0, []), (0, 0, 0, []), (0, 0, 0, []), (0, 0, 0, []), (0, 0, 0, []), (0, 0, 0, []), (0, 0, 0, []), (0, 0, 0, []), (0, 0, 0, []), (0, 0, 0, []), (0, 0, 0, []), (12, 0, 0, []), (85, 70, 70, [1, 0, 15]), (0, 0, 0, []), (0, 0, 0, []), (94, 0, 0, []), (12, 0, 0, []), (85, 72, 71, [1, 0, 15]), (0, 0, 0, []), (0, 0, 0, []), (94, 0, 0, []), (12, 0, 0, []), (85, 74, 72, [1, 0, 15]), (0, 0, 0, []), (0, 0, 0, []), (94, 0, 0, []), (12, 0, 0, []), (85, 75, 73, [1, 0, 15]), (0, 0, 0, []), (0, 0, 0, []), (94, 0, 0, []), (12, 0, 0, []), (1, 0, 0, []), (85, 77, 74, [2, 0, 15]), (0, 0, 0, []), (0, 0, 0, []), (48, 140, 0, []), (0, 0, 0, []), (0, 0, 0, []), (12, 0, 0, []), (65, 0, 56, [5, 17]), (0, 0, 0, []), (0, 0, 0, []), (86, 107, 1, [1, 0, 17]), (0, 0, 0, []), (0, 0, 0, []), (48, 140, 0, []), (0, 0, 0, []), (0, 0, 0, []), (12, 0, 0, []), (65, 0, 56, [5, 17]), (0, 0, 0, []), (0, 0, 0, []), (85, 104, 75, [1, 0, 17]), (0, 0, 0, []), (0, 0, 0, []), (48, 140, 0, []), (0, 0, 0, []), (0, 0, 0, []), (1, 1, 0, []), (60, 141, 0, []), (0, 0, 0, []), (0, 0, 0, []), (1, 0, 0, []), (94, 0, 0, []), (12, 0, 0, []), (1, 1, 0, []), (85, 77, 74, [2, 0, 15]), (0, 0, 0, []), (0, 0, 0, []), (48, 174, 0, []), (0, 0, 0, []), (0, 0, 0, []), (12, 0, 0, []), (65, 0, 56, [5, 17]), (0, 0, 0, []), (0, 0, 0, []), (86, 112, 2, [1, 0, 17]), (0, 0, 0, []), (0, 0, 0, []), (48, 174, 0, []), (0, 0, 0, []), (0, 0, 0, []), (12, 0, 0, []), (65, 0, 56, [5, 17]), (0, 0, 0, []), (0, 0, 0, []), (85, 104, 75, [1, 0, 17]), (0, 0, 0, []), (0, 0, 0, []), (48, 174, 0, []), (0, 0, 0, []), (0, 0, 0, []), (1, 1, 0, []), (60, 175, 0, []), (0, 0, 0, []), (0, 0, 0, []), (1, 0, 0, []), (94, 0, 0, []), (12, 0, 0, []), (1, 2, 0, []), (85, 77, 74, [2, 0, 15]), (0, 0, 0, []), (0, 0, 0, []), (48, 208, 0, []), (0, 0, 0, []), (0, 0, 0, []), (12, 0, 0, []), (65, 0, 56, [5, 17]), (0, 0, 0, []), (0, 0, 0, []), (86, 112, 2, [1, 0, 17]), (0, 0, 0, []), (0, 0, 0, []), (48, 208, 0, []), (0, 0, 0, []), (0, 0, 0, []), (12, 0, 0, []), (65, 0, 56, [5, 17]), (0, 0, 0, []), (0, 0, 0, []), (85, 104, 75, [1, 0, 17]), (0, 0, 0, []), (0, 0, 0, []), (48, 208, 0, []), (0, 0, 0, []), (0, 0, 0, []), (1, 1, 0, []), (60, 209, 0, []), (0, 0, 0, []), (0, 0, 0, []), (1, 0, 0, []), (94, 0, 0, []), (12, 0, 0, []), (1, 0, 0, []), (1, 1, 0, []), (2, 8, 0, []), (0, 0, 0, []), (85, 78, 76, [4, 0, 15]), (0, 0, 0, []), (0, 0, 0, []), (94, 0, 0, []), (12, 0, 0, []), (1, 1, 0, []), (1, 0, 0, []), (2, 20, 0, []), (0, 0, 0, []), (85, 78, 76, [4, 0, 15]), (0, 0, 0, []), (0, 0, 0, []), (94, 0, 0, []), (12, 0, 0, []), (1, 2, 0, []), (1, 0, 0, []), (3, 999, 0, []), (0, 0, 0, []), (0, 0, 0, []), (85, 78, 76, [4, 0, 15]), (0, 0, 0, []), (0, 0, 0, []), (94, 0, 0, []), (12, 0, 0, []), (65, 0, 56, [5, 17]), (0, 0, 0, []), (0, 0, 0, []), (1, 1, 0, []), (85, 87, 67, [2, 0, 17]), (0, 0, 0, []), (0, 0, 0, []), (94, 0, 0, [])]
def k69 : List jI := [(12, 0, 0, []), (65, 0, 56, [5, 17]), (0, 0, 0, []), (0, 0, 0, []), (1, 0, 0, []), (85, 95, 77, [2, 0, 17]), (0, 0, 0, []), (0, 0, 0, []), (49, 13, 0, []), (0, 0, 0, []), (0, 0, 0, []), (1, 0, 0, []), (94, 0, 0, []), (12, 0, 0, []), (65, 0, 56, [5, 17]), (0, 0, 0, []), (0, 0, 0, []), (1, 3, 0, []), (2, 8, 0, []), (0, 0, 0, []), (85, 96, 78, [3, 0, 17]), (0, 0, 0, []), (0, 0, 0, []), (14, 1, 0, []), (8, 1, 0, []), (1, -1, 0, []), (54, 40, 0, []), (0, 0, 0, []), (0, 0, 0, []), (12, 0, 0, []), (65, 0, 56, [5, 17]), (0, 0, 0, []), (0, 0, 0, []), (1, 1, 0, []), (85, 95, 77, [2, 0, 17]), (0, 0, 0, []), (0, 0, 0, []), (49, 42, 0, []), (0, 0, 0, []), (0, 0, 0, []), (1, 0, 0, []), (94, 0, 0, []), (12, 0, 0, []), (65, 0, 56, [5, 17]), (0, 0, 0, []), (0, 0, 0, []), (1, 0, 0, []), (8, 1, 0, []), (1, 1, 0, []), (22, 0, 0, []), (85, 96, 78, [3, 0, 17]), (0, 0, 0, []), (0, 0, 0, []), (14, 2, 0, []), (12, 0, 0, []), (65, 1, 57, [5, 14]), (0, 0, 0, []), (0, 0, 0, []), (8, 1, 0, []), (66, 2, 60, [4, 0]), (0, 0, 0, []), (0, 0, 0, []), (12, 0, 0, []), (65, 1, 57, [5, 14]), (0, 0, 0, []), (0, 0, 0, []), (8, 2, 0, []), (66, 3, 61, [4, 0]), (0, 0, 0, []), (0, 0, 0, []), (8, 2, 0, []), (1, -1, 0, []), (54, 79, 0, []), (0, 0, 0, []), (0, 0, 0, []), (1, 1, 0, []), (60, 80, 0, []), (0, 0, 0, []), (0, 0, 0, []), (1, 0, 0, []), (94, 0, 0, [])]
def k70 : List jI := [(12, 0, 0, []), (65, 1, 57, [5, 14]), (0, 0, 0, []), (0, 0, 0, []), (64, 5, 62, [4, 0]), (0, 0, 0, []), (0, 0, 0, []), (1, 5, 0, []), (57, 21, 0, []), (0, 0, 0, []), (0, 0, 0, []), (12, 0, 0, []), (65, 1, 57, [5, 14]), (0, 0, 0, []), (0, 0, 0, []), (64, 4, 63, [4, 0]), (0, 0, 0, []), (0, 0, 0, []), (53, 30, 0, []), (0, 0, 0, []), (0, 0, 0, []), (12, 0, 0, []), (65, 0, 56, [5, 17]), (0, 0, 0, []), (0, 0, 0, []), (1, 5, 0, []), (85, 87, 67, [2, 0, 17]), (0, 0, 0, []), (0, 0, 0, []), (94, 0, 0, []), (12, 0, 0, []), (65, 0, 56, [5, 17]), (0, 0, 0, []), (0, 0, 0, []), (85, 90, 79, [1, 99, 17]), (0, 0, 0, []), (0, 0, 0, []), (12, 0, 0, []), (12, 0, 0, []), (65, 1, 57, [5, 14]), (0, 0, 0, []), (0, 0, 0, []), (65, 13, 64, [4, 24]), (0, 0, 0, []), (0, 0, 0, []), (12, 0, 0, []), (65, 1, 57, [5, 14]), (0, 0, 0, []), (0, 0, 0, []), (64, 5, 62, [4, 0]), (0, 0, 0, []), (0, 0, 0, []), (85, 71, 80, [3, 0, 15]), (0, 0, 0, []), (0, 0, 0, []), (48, 69, 0, []), (0, 0, 0, []), (0, 0, 0, []), (12, 0, 0, []), (65, 0, 56, [5, 17]), (0, 0, 0, []), (0, 0, 0, []), (1, 3, 0, []), (85, 95, 77, [2, 0, 17]), (0, 0, 0, []), (0, 0, 0, []), (49, 71, 0, []), (0, 0, 0, []), (0, 0, 0, []), (1, 0, 0, []), (94, 0, 0, []), (12, 0, 0, []), (65, 0, 56, [5, 17]), (0, 0, 0, []), (0, 0, 0, []), (1, 1, 0, []), (2, 99, 0, []), (0, 0, 0, []), (85, 96, 78, [3, 0, 17]), (0, 0, 0, []), (0, 0, 0, []), (14, 1, 0, []), (8, 1, 0, []), (1, -1, 0, []), (54, 98, 0, []), (0, 0, 0, []), (0, 0, 0, []), (12, 0, 0, []), (65, 0, 56, [5, 17]), (0, 0, 0, []), (0, 0, 0, []), (1, 4, 0, []), (85, 95, 77, [2, 0, 17]), (0, 0, 0, []), (0, 0, 0, []), (49, 100, 0, []), (0, 0, 0, []), (0, 0, 0, []), (1, 0, 0, []), (94, 0, 0, []), (12, 0, 0, []), (65, 0, 56, [5, 17]), (0, 0, 0, []), (0, 0, 0, []), (1, 0, 0, []), (2, 99, 0, []), (0, 0, 0, []), (85, 96, 78, [3, 0, 17]), (0, 0, 0, []), (0, 0, 0, []), (14, 2, 0, []), (8, 2, 0, []), (1, -1, 0, []), (55, 118, 0, []), (0, 0, 0, []), (0, 0, 0, []), (1, 0, 0, []), (94, 0, 0, []), (12, 0, 0, []), (65, 1, 57, [5, 14]), (0, 0, 0, []), (0, 0, 0, []), (65, 10, 65, [4, 24]), (0, 0, 0, []), (0, 0, 0, []), (12, 0, 0, []), (65, 1, 57, [5, 14]), (0, 0, 0, []), (0, 0, 0, []), (64, 5, 62, [4, 0]), (0, 0, 0, []), (0, 0, 0, []), (8, 1, 0, []), (75, 0, 0, []), (12, 0, 0, []), (65, 1, 57, [5, 14]), (0, 0, 0, []), (0, 0, 0, []), (65, 11, 66, [4, 24]), (0, 0, 0, []), (0, 0, 0, []), (12, 0, 0, []), (65, 1, 57, [5, 14]), (0, 0, 0, []), (0, 0, 0, []), (64, 5, 62, [4, 0]), (0, 0, 0, []), (0, 0, 0, []), (8, 2, 0, []), (75, 0, 0, []), (12, 0, 0, []), (65, 1, 57, [5, 14]), (0, 0, 0, []), (0, 0, 0, []), (45, 0, 0, []), (64, 5, 62, [4, 0]), (0, 0, 0, []), (0, 0, 0, []), (1, 1, 0, []), (21, 0, 0, []), (66, 5, 62, [4, 0]), (0, 0, 0, []), (0, 0, 0, []), (1, 1, 0, []), (94, 0, 0, [])]
def k71 : List jI := [(12, 0, 0, []), (65, 0, 56, [5, 17]), (0, 0, 0, []), (0, 0, 0, []), (85, 98, 81, [1, 24, 17]), (0, 0, 0, []), (0, 0, 0, []), (18, 3, 0, []), (12, 3, 0, []), (61, 14, 0, []), (0, 0, 0, []), (0, 0, 0, []), (1, 0, 0, []), (94, 0, 0, []), (12, 0, 0, []), (65, 1, 57, [5, 14]), (0, 0, 0, []), (0, 0, 0, []), (12, 0, 0, []), (65, 1, 57, [5, 14]), (0, 0, 0, []), (0, 0, 0, []), (65, 13, 64, [4, 24]), (0, 0, 0, []), (0, 0, 0, []), (12, 0, 0, []), (65, 1, 57, [5, 14]), (0, 0, 0, []), (0, 0, 0, []), (64, 5, 62, [4, 0]), (0, 0, 0, []), (0, 0, 0, []), (12, 3, 0, []), (85, 64, 82, [4, 0, 14]), (0, 0, 0, []), (0, 0, 0, []), (1, -1, 0, []), (55, 66, 0, []), (0, 0, 0, []), (0, 0, 0, []), (12, 0, 0, []), (65, 1, 57, [5, 14]), (0, 0, 0, []), (0, 0, 0, []), (12, 0, 0, []), (65, 1, 57, [5, 14]), (0, 0, 0, []), (0, 0, 0, []), (65, 14, 67, [4, 24]), (0, 0, 0, []), (0, 0, 0, []), (12, 0, 0, []), (65, 1, 57, [5, 14]), (0, 0, 0, []), (0, 0, 0, []), (64, 6, 68, [4, 0]), (0, 0, 0, []), (0, 0, 0, []), (12, 3, 0, []), (85, 64, 82, [4, 0, 14]), (0, 0, 0, []), (0, 0, 0, []), (1, -1, 0, []), (54, 75, 0, []), (0, 0, 0, []), (0, 0, 0, []), (12, 0, 0, []), (65, 0, 56, [5, 17]), (0, 0, 0, []), (0, 0, 0, []), (1, 3, 0, []), (85, 87, 67, [2, 0, 17]), (0, 0, 0, []), (0, 0, 0, []), (94, 0, 0, []), (8, 2, 0, []), (2, 6, 0, []), (0, 0, 0, []), (23, 0, 0, []), (15, 4, 0, []), (0, 0, 0, []), (9, 4, 0, []), (0, 0, 0, []), (50, 106, 0, []), (0, 0, 0, []), (0, 0, 0, []), (9, 4, 0, []), (0, 0, 0, []), (2, 6, 0, []), (0, 0, 0, []), (21, 0, 0, []), (12, 1, 0, []), (80, 0, 0, []), (58, 106, 0, []), (0, 0, 0, []), (0, 0, 0, []), (12, 3, 0, []), (1, 0, 0, []), (12, 1, 0, []), (9, 4, 0, []), (0, 0, 0, []), (2, 6, 0, []), (0, 0, 0, []), (97, 0, 136, []), (0, 0, 0, []), (0, 0, 0, []), (12, 0, 0, []), (65, 0, 56, [5, 17]), (0, 0, 0, []), (0, 0, 0, []), (85, 90, 79, [1, 99, 17]), (0, 0, 0, []), (0, 0, 0, []), (1, 1, 0, []), (94, 0, 0, [])]
def k72 : List jI := [(12, 0, 0, []), (65, 1, 57, [5, 14]), (0, 0, 0, []), (0, 0, 0, []), (64, 4, 63, [4, 0]), (0, 0, 0, []), (0, 0, 0, []), (2, 6, 0, []), (0, 0, 0, []), (56, 21, 0, []), (0, 0, 0, []), (0, 0, 0, []), (12, 0, 0, []), (65, 0, 56, [5, 17]), (0, 0, 0, []), (0, 0, 0, []), (1, 5, 0, []), (85, 87, 67, [2, 0, 17]), (0, 0, 0, []), (0, 0, 0, []), (94, 0, 0, []), (12, 0, 0, []), (65, 0, 56, [5, 17]), (0, 0, 0, []), (0, 0, 0, []), (85, 90, 79, [1, 99, 17]), (0, 0, 0, []), (0, 0, 0, []), (12, 0, 0, []), (65, 0, 56, [5, 17]), (0, 0, 0, []), (0, 0, 0, []), (85, 99, 83, [1, 0, 17]), (0, 0, 0, []), (0, 0, 0, []), (12, 0, 0, []), (65, 1, 57, [5, 14]), (0, 0, 0, []), (0, 0, 0, []), (64, 2, 60, [4, 0]), (0, 0, 0, []), (0, 0, 0, []), (54, 54, 0, []), (0, 0, 0, []), (0, 0, 0, []), (12, 0, 0, []), (65, 0, 56, [5, 17]), (0, 0, 0, []), (0, 0, 0, []), (1, 1, 0, []), (85, 87, 67, [2, 0, 17]), (0, 0, 0, []), (0, 0, 0, []), (94, 0, 0, []), (12, 0, 0, []), (65, 1, 57, [5, 14]), (0, 0, 0, []), (0, 0, 0, []), (64, 4, 63, [4, 0]), (0, 0, 0, []), (0, 0, 0, []), (12, 0, 0, []), (65, 1, 57, [5, 14]), (0, 0, 0, []), (0, 0, 0, []), (64, 2, 60, [4, 0]), (0, 0, 0, []), (0, 0, 0, []), (23, 0, 0, []), (14, 1, 0, []), (1, 0, 0, []), (14, 2, 0, []), (8, 2, 0, []), (12, 0, 0, []), (65, 1, 57, [5, 14]), (0, 0, 0, []), (0, 0, 0, []), (64, 2, 60, [4, 0]), (0, 0, 0, []), (0, 0, 0, []), (57, 136, 0, []), (0, 0, 0, []), (0, 0, 0, []), (8, 1, 0, []), (8, 2, 0, []), (21, 0, 0, []), (2, 48, 0, []), (0, 0, 0, []), (57, 136, 0, []), (0, 0, 0, []), (0, 0, 0, []), (12, 0, 0, []), (12, 0, 0, []), (65, 0, 56, [5, 17]), (0, 0, 0, []), (0, 0, 0, []), (8, 2, 0, []), (85, 100, 84, [2, 0, 17]), (0, 0, 0, []), (0, 0, 0, []), (85, 73, 85, [2, 0, 15]), (0, 0, 0, []), (0, 0, 0, []), (14, 3, 0, []), (8, 3, 0, []), (1, -1, 0, []), (55, 118, 0, []), (0, 0, 0, []), (0, 0, 0, []), (12, 0, 0, []), (65, 0, 56, [5, 17]), (0, 0, 0, []), (0, 0, 0, []), (1, 1, 0, []), (85, 87, 67, [2, 0, 17]), (0, 0, 0, []), (0, 0, 0, []), (94, 0, 0, []), (12, 0, 0, []), (65, 1, 57, [5, 14]), (0, 0, 0, []), (0, 0, 0, []), (65, 16, 69, [4, 24]), (0, 0, 0, []), (0, 0, 0, []), (8, 1, 0, []), (8, 2, 0, []), (21, 0, 0, []), (8, 3, 0, []), (75, 0, 0, []), (20, 2, 1, []), (0, 0, 0, []), (0, 0, 0, []), (60, 72, 0, []), (0, 0, 0, []), (0, 0, 0, []), (12, 0, 0, []), (65, 1, 57, [5, 14]), (0, 0, 0, []), (0, 0, 0, []), (45, 0, 0, []), (64, 4, 63, [4, 0]), (0, 0, 0, []), (0, 0, 0, []), (1, 1, 0, []), (21, 0, 0, []), (66, 4, 63, [4, 0]), (0, 0, 0, []), (0, 0, 0, []), (12, 0, 0, []), (65, 0, 56, [5, 17]), (0, 0, 0, []), (0, 0, 0, []), (85, 90, 79, [1, 99, 17]), (0, 0, 0, []), (0, 0, 0, []), (1, 1, 0, []), (94, 0, 0, [])]
def k73 : List jI := [(8, 1, 0, []), (2, 120, 0, []), (0, 0, 0, []), (55, 8, 0, []), (0, 0, 0, []), (0, 0, 0, []), (1, 0, 0, []), (91, 0, 0, []), (8, 1, 0, []), (2, 97, 0, []), (0, 0, 0, []), (22, 0, 0, []), (14, 2, 0, []), (8, 2, 0, []), (50, 34, 0, []), (0, 0, 0, []), (0, 0, 0, []), (8, 2, 0, []), (12, 0, 0, []), (65, 1, 57, [5, 14]), (0, 0, 0, []), (0, 0, 0, []), (64, 5, 62, [4, 0]), (0, 0, 0, []), (0, 0, 0, []), (57, 34, 0, []), (0, 0, 0, []), (0, 0, 0, []), (8, 2, 0, []), (1, 1, 0, []), (21, 0, 0, []), (60, 35, 0, []), (0, 0, 0, []), (0, 0, 0, []), (1, -1, 0, []), (91, 0, 0, [])]
def k74 : List jI := [(12, 0, 0, []), (65, 1, 57, [5, 14]), (0, 0, 0, []), (0, 0, 0, []), (64, 6, 68, [4, 0]), (0, 0, 0, []), (0, 0, 0, []), (2, 6, 0, []), (0, 0, 0, []), (56, 21, 0, []), (0, 0, 0, []), (0, 0, 0, []), (12, 0, 0, []), (65, 0, 56, [5, 17]), (0, 0, 0, []), (0, 0, 0, []), (1, 5, 0, []), (85, 87, 67, [2, 0, 17]), (0, 0, 0, []), (0, 0, 0, []), (94, 0, 0, []), (12, 0, 0, []), (65, 0, 56, [5, 17]), (0, 0, 0, []), (0, 0, 0, []), (85, 90, 79, [1, 99, 17]), (0, 0, 0, []), (0, 0, 0, []), (12, 0, 0, []), (12, 0, 0, []), (65, 1, 57, [5, 14]), (0, 0, 0, []), (0, 0, 0, []), (65, 14, 67, [4, 24]), (0, 0, 0, []), (0, 0, 0, []), (12, 0, 0, []), (65, 1, 57, [5, 14]), (0, 0, 0, []), (0, 0, 0, []), (64, 6, 68, [4, 0]), (0, 0, 0, []), (0, 0, 0, []), (85, 71, 80, [3, 0, 15]), (0, 0, 0, []), (0, 0, 0, []), (48, 60, 0, []), (0, 0, 0, []), (0, 0, 0, []), (12, 0, 0, []), (65, 0, 56, [5, 17]), (0, 0, 0, []), (0, 0, 0, []), (1, 1, 0, []), (85, 95, 77, [2, 0, 17]), (0, 0, 0, []), (0, 0, 0, []), (49, 62, 0, []), (0, 0, 0, []), (0, 0, 0, []), (1, 0, 0, []), (94, 0, 0, []), (12, 0, 0, []), (65, 0, 56, [5, 17]), (0, 0, 0, []), (0, 0, 0, []), (1, 0, 0, []), (12, 0, 0, []), (65, 1, 57, [5, 14]), (0, 0, 0, []), (0, 0, 0, []), (64, 2, 60, [4, 0]), (0, 0, 0, []), (0, 0, 0, []), (1, 1, 0, []), (22, 0, 0, []), (85, 96, 78, [3, 0, 17]), (0, 0, 0, []), (0, 0, 0, []), (14, 1, 0, []), (8, 1, 0, []), (1, -1, 0, []), (55, 87, 0, []), (0, 0, 0, []), (0, 0, 0, []), (1, 0, 0, []), (94, 0, 0, []), (12, 0, 0, []), (65, 1, 57, [5, 14]), (0, 0, 0, []), (0, 0, 0, []), (65, 15, 70, [4, 24]), (0, 0, 0, []), (0, 0, 0, []), (12, 0, 0, []), (65, 1, 57, [5, 14]), (0, 0, 0, []), (0, 0, 0, []), (64, 6, 68, [4, 0]), (0, 0, 0, []), (0, 0, 0, []), (8, 1, 0, []), (75, 0, 0, []), (12, 0, 0, []), (65, 1, 57, [5, 14]), (0, 0, 0, []), (0, 0, 0, []), (45, 0, 0, []), (64, 6, 68, [4, 0]), (0, 0, 0, []), (0, 0, 0, []), (1, 1, 0, []), (21, 0, 0, []), (66, 6, 68, [4, 0]), (0, 0, 0, []), (0, 0, 0, []), (1, 1, 0, []), (94, 0, 0, [])]
def k75 : List jI := [(12, 0, 0, []), (65, 1, 57, [5, 14]), (0, 0, 0, []), (0, 0, 0, []), (64, 7, 71, [4, 0]), (0, 0, 0, []), (0, 0, 0, []), (2, 10, 0, []), (0, 0, 0, []), (56, 21, 0, []), (0, 0, 0, []), (0, 0, 0, []), (12, 0, 0, []), (65, 0, 56, [5, 17]), (0, 0, 0, []), (0, 0, 0, []), (1, 5, 0, []), (85, 87, 67, [2, 0, 17]), (0, 0, 0, []), (0, 0, 0, []), (94, 0, 0, []), (12, 0, 0, []), (65, 0, 56, [5, 17]), (0, 0, 0, []), (0, 0, 0, []), (85, 90, 79, [1, 99, 17]), (0, 0, 0, []), (0, 0, 0, []), (12, 0, 0, []), (85, 76, 86, [1, 0, 15]), (0, 0, 0, []), (0, 0, 0, []), (14, 1, 0, []), (8, 1, 0, []), (1, -1, 0, []), (55, 40, 0, []), (0, 0, 0, []), (0, 0, 0, []), (1, 0, 0, []), (94, 0, 0, []), (12, 0, 0, []), (65, 0, 56, [5, 17]), (0, 0, 0, []), (0, 0, 0, []), (85, 90, 79, [1, 99, 17]), (0, 0, 0, []), (0, 0, 0, []), (12, 0, 0, []), (85, 76, 86, [1, 0, 15]), (0, 0, 0, []), (0, 0, 0, []), (14, 2, 0, []), (8, 2, 0, []), (1, -1, 0, []), (55, 59, 0, []), (0, 0, 0, []), (0, 0, 0, []), (1, 0, 0, []), (94, 0, 0, []), (8, 1, 0, []), (8, 2, 0, []), (54, 80, 0, []), (0, 0, 0, []), (0, 0, 0, []), (12, 0, 0, []), (65, 1, 57, [5, 14]), (0, 0, 0, []), (0, 0, 0, []), (65, 12, 72, [4, 24]), (0, 0, 0, []), (0, 0, 0, []), (8, 1, 0, []), (70, 0, 0, []), (8, 2, 0, []), (28, 0, 0, []), (1, 1, 0, []), (30, 0, 0, []), (48, 89, 0, []), (0, 0, 0, []), (0, 0, 0, []), (12, 0, 0, []), (65, 0, 56, [5, 17]), (0, 0, 0, []), (0, 0, 0, []), (1, 3, 0, []), (85, 87, 67, [2, 0, 17]), (0, 0, 0, []), (0, 0, 0, []), (94, 0, 0, []), (12, 0, 0, []), (65, 1, 57, [5, 14]), (0, 0, 0, []), (0, 0, 0, []), (65, 12, 72, [4, 24]), (0, 0, 0, []), (0, 0, 0, []), (8, 1, 0, []), (46, 0, 0, []), (70, 0, 0, []), (1, 1, 0, []), (8, 2, 0, []), (27, 0, 0, []), (31, 0, 0, []), (75, 0, 0, []), (12, 0, 0, []), (65, 1, 57, [5, 14]), (0, 0, 0, []), (0, 0, 0, []), (65, 12, 72, [4, 24]), (0, 0, 0, []), (0, 0, 0, []), (8, 2, 0, []), (46, 0, 0, []), (70, 0, 0, []), (1, 1, 0, []), (8, 1, 0, []), (27, 0, 0, []), (31, 0, 0, []), (75, 0, 0, []), (12, 0, 0, []), (65, 1, 57, [5, 14]), (0, 0, 0, []), (0, 0, 0, []), (45, 0, 0, []), (64, 7, 71, [4, 0]), (0, 0, 0, []), (0, 0, 0, []), (1, 1, 0, []), (21, 0, 0, []), (66, 7, 71, [4, 0]), (0, 0, 0, []), (0, 0, 0, []), (12, 0, 0, []), (65, 0, 56, [5, 17]), (0, 0, 0, []), (0, 0, 0, []), (85, 90, 79, [1, 99, 17]), (0, 0, 0, []), (0, 0, 0, []), (1, 1, 0, []), (94, 0, 0, [])]
def k76 : List jI := [(12, 0, 0, []), (65, 0, 56, [5, 17]), (0, 0, 0, []), (0, 0, 0, []), (85, 98, 81, [1, 24, 17]), (0, 0, 0, []), (0, 0, 0, []), (18, 1, 0, []), (12, 1, 0, []), (61, 14, 0, []), (0, 0, 0, []), (0, 0, 0, []), (1, -1, 0, []), (91, 0, 0, []), (12, 0, 0, []), (65, 1, 57, [5, 14]), (0, 0, 0, []), (0, 0, 0, []), (12, 0, 0, []), (65, 1, 57, [5, 14]), (0, 0, 0, []), (0, 0, 0, []), (65, 13, 64, [4, 24]), (0, 0, 0, []), (0, 0, 0, []), (12, 0, 0, []), (65, 1, 57, [5, 14]), (0, 0, 0, []), (0, 0, 0, []), (64, 5, 62, [4, 0]), (0, 0, 0, []), (0, 0, 0, []), (12, 1, 0, []), (85, 64, 82, [4, 0, 14]), (0, 0, 0, []), (0, 0, 0, []), (14, 2, 0, []), (8, 2, 0, []), (1, -1, 0, []), (55, 51, 0, []), (0, 0, 0, []), (0, 0, 0, []), (12, 0, 0, []), (65, 0, 56, [5, 17]), (0, 0, 0, []), (0, 0, 0, []), (1, 3, 0, []), (85, 87, 67, [2, 0, 17]), (0, 0, 0, []), (0, 0, 0, []), (47, 0, 0, []), (8, 2, 0, []), (91, 0, 0, [])]
def k77 : List jI := [(12, 0, 0, []), (65, 1, 57, [5, 14]), (0, 0, 0, []), (0, 0, 0, []), (65, 9, 73, [4, 24]), (0, 0, 0, []), (0, 0, 0, []), (8, 1, 0, []), (70, 0, 0, []), (1, -1, 0, []), (54, 22, 0, []), (0, 0, 0, []), (0, 0, 0, []), (12, 0, 0, []), (65, 0, 56, [5, 17]), (0, 0, 0, []), (0, 0, 0, []), (1, 5, 0, []), (85, 87, 67, [2, 0, 17]), (0, 0, 0, []), (0, 0, 0, []), (94, 0, 0, []), (12, 0, 0, []), (65, 1, 57, [5, 14]), (0, 0, 0, []), (0, 0, 0, []), (65, 9, 73, [4, 24]), (0, 0, 0, []), (0, 0, 0, []), (8, 1, 0, []), (12, 0, 0, []), (65, 0, 56, [5, 17]), (0, 0, 0, []), (0, 0, 0, []), (85, 101, 87, [1, 0, 17]), (0, 0, 0, []), (0, 0, 0, []), (75, 0, 0, []), (12, 0, 0, []), (65, 0, 56, [5, 17]), (0, 0, 0, []), (0, 0, 0, []), (8, 1, 0, []), (1, 2, 0, []), (55, 51, 0, []), (0, 0, 0, []), (0, 0, 0, []), (1, 1, 0, []), (60, 52, 0, []), (0, 0, 0, []), (0, 0, 0, []), (1, 0, 0, []), (85, 103, 88, [2, 99, 17]), (0, 0, 0, []), (0, 0, 0, []), (12, 0, 0, []), (65, 0, 56, [5, 17]), (0, 0, 0, []), (0, 0, 0, []), (85, 90, 79, [1, 99, 17]), (0, 0, 0, []), (0, 0, 0, []), (1, 1, 0, []), (94, 0, 0, [])]
def k78 : List jI := [(12, 0, 0, []), (65, 0, 56, [5, 17]), (0, 0, 0, []), (0, 0, 0, []), (85, 90, 79, [1, 99, 17]), (0, 0, 0, []), (0, 0, 0, []), (12, 0, 0, []), (65, 0, 56, [5, 17]), (0, 0, 0, []), (0, 0, 0, []), (8, 2, 0, []), (8, 3, 0, []), (85, 96, 78, [3, 0, 17]), (0, 0, 0, []), (0, 0, 0, []), (15, 4, 0, []), (0, 0, 0, []), (9, 4, 0, []), (0, 0, 0, []), (1, -1, 0, []), (55, 26, 0, []), (0, 0, 0, []), (0, 0, 0, []), (1, 0, 0, []), (94, 0, 0, []), (12, 0, 0, []), (65, 1, 57, [5, 14]), (0, 0, 0, []), (0, 0, 0, []), (65, 8, 74, [4, 24]), (0, 0, 0, []), (0, 0, 0, []), (8, 1, 0, []), (9, 4, 0, []), (0, 0, 0, []), (75, 0, 0, []), (1, 1, 0, []), (94, 0, 0, [])]
def k79 : List jI := [(12, 0, 0, []), (90, 0, 3, []), (0, 0, 0, []), (0, 0, 0, []), (12, 0, 0, []), (12, 1, 0, []), (69, 0, 75, [6, 17]), (0, 0, 0, []), (0, 0, 0, []), (12, 0, 0, []), (1, -1, 0, []), (66, 1, 76, [6, 0]), (0, 0, 0, []), (0, 0, 0, []), (95, 0, 0, [])]
def k80 : List jI := [(12, 0, 0, []), (65, 0, 75, [6, 17]), (0, 0, 0, []), (0, 0, 0, []), (12, 1, 0, []), (12, 2, 0, []), (85, 85, 89, [3, 99, 17]), (0, 0, 0, []), (0, 0, 0, []), (12, 0, 0, []), (12, 0, 0, []), (65, 0, 75, [6, 17]), (0, 0, 0, []), (0, 0, 0, []), (85, 93, 90, [1, 0, 17]), (0, 0, 0, []), (0, 0, 0, []), (66, 1, 76, [6, 0]), (0, 0, 0, []), (0, 0, 0, []), (12, 0, 0, []), (64, 1, 76, [6, 0]), (0, 0, 0, []), (0, 0, 0, []), (2, 29, 0, []), (0, 0, 0, []), (57, 38, 0, []), (0, 0, 0, []), (0, 0, 0, []), (12, 0, 0, []), (65, 0, 75, [6, 17]), (0, 0, 0, []), (0, 0, 0, []), (1, 1, 0, []), (85, 87, 91, [2, 0, 17]), (0, 0, 0, []), (0, 0, 0, []), (94, 0, 0, []), (12, 0, 0, []), (65, 0, 75, [6, 17]), (0, 0, 0, []), (0, 0, 0, []), (1, 2, 0, []), (85, 103, 92, [2, 99, 17]), (0, 0, 0, []), (0, 0, 0, []), (12, 0, 0, []), (65, 0, 75, [6, 17]), (0, 0, 0, []), (0, 0, 0, []), (85, 90, 93, [1, 99, 17]), (0, 0, 0, []), (0, 0, 0, []), (12, 0, 0, []), (85, 81, 94, [1, 0, 16]), (0, 0, 0, []), (0, 0, 0, []), (48, 70, 0, []), (0, 0, 0, []), (0, 0, 0, []), (12, 0, 0, []), (65, 0, 75, [6, 17]), (0, 0, 0, []), (0, 0, 0, []), (86, 107, 3, [1, 0, 17]), (0, 0, 0, []), (0, 0, 0, []), (60, 77, 0, []), (0, 0, 0, []), (0, 0, 0, []), (12, 0, 0, []), (65, 0, 75, [6, 17]), (0, 0, 0, []), (0, 0, 0, []), (86, 112, 4, [1, 0, 17]), (0, 0, 0, []), (0, 0, 0, []), (14, 3, 0, []), (8, 3, 0, []), (48, 92, 0, []), (0, 0, 0, []), (0, 0, 0, []), (12, 0, 0, []), (65, 0, 75, [6, 17]), (0, 0, 0, []), (0, 0, 0, []), (85, 104, 95, [1, 0, 17]), (0, 0, 0, []), (0, 0, 0, []), (49, 94, 0, []), (0, 0, 0, []), (0, 0, 0, []), (1, 0, 0, []), (94, 0, 0, []), (12, 0, 0, []), (65, 0, 75, [6, 17]), (0, 0, 0, []), (0, 0, 0, []), (85, 91, 96, [1, 0, 17]), (0, 0, 0, []), (0, 0, 0, []), (49, 115, 0, []), (0, 0, 0, []), (0, 0, 0, []), (12, 0, 0, []), (65, 0, 75, [6, 17]), (0, 0, 0, []), (0, 0, 0, []), (1, 1, 0, []), (85, 87, 91, [2, 0, 17]), (0, 0, 0, []), (0, 0, 0, []), (48, 119, 0, []), (0, 0, 0, []), (0, 0, 0, []), (1, 1, 0, []), (60, 120, 0, []), (0, 0, 0, []), (0, 0, 0, []), (1, 0, 0, []), (94, 0, 0, [])]
def k81 : List jI := [(12, 0, 0, []), (64, 1, 76, [6, 0]), (0, 0, 0, []), (0, 0, 0, []), (2, 29, 0, []), (0, 0, 0, []), (54, 27, 0, []), (0, 0, 0, []), (0, 0, 0, []), (12, 0, 0, []), (64, 1, 76, [6, 0]), (0, 0, 0, []), (0, 0, 0, []), (2, 30, 0, []), (0, 0, 0, []), (54, 27, 0, []), (0, 0, 0, []), (0, 0, 0, []), (12, 0, 0, []), (64, 1, 76, [6, 0]), (0, 0, 0, []), (0, 0, 0, []), (2, 31, 0, []), (0, 0, 0, []), (55, 31, 0, []), (0, 0, 0, []), (0, 0, 0, []), (1, 1, 0, []), (60, 32, 0, []), (0, 0, 0, []), (0, 0, 0, []), (1, 0, 0, []), (94, 0, 0, [])]
def k82 : List jI := [(12, 0, 0, []), (64, 1, 76, [6, 0]), (0, 0, 0, []), (0, 0, 0, []), (2, 29, 0, []), (0, 0, 0, []), (54, 18, 0, []), (0, 0, 0, []), (0, 0, 0, []), (12, 0, 0, []), (64, 1, 76, [6, 0]), (0, 0, 0, []), (0, 0, 0, []), (2, 30, 0, []), (0, 0, 0, []), (55, 22, 0, []), (0, 0, 0, []), (0, 0, 0, []), (1, 1, 0, []), (60, 23, 0, []), (0, 0, 0, []), (0, 0, 0, []), (1, 0, 0, []), (14, 3, 0, []), (8, 3, 0, []), (48, 34, 0, []), (0, 0, 0, []), (0, 0, 0, []), (7, -1, 56, []), (0, 0, 0, []), (0, 0, 0, []), (60, 35, 0, []), (0, 0, 0, []), (0, 0, 0, []), (6, 0, 0, []), (17, 4, 0, []), (0, 0, 0, []), (1, 0, 0, []), (15, 6, 0, []), (0, 0, 0, []), (9, 6, 0, []), (0, 0, 0, []), (12, 1, 0, []), (65, 0, 77, [3, 14]), (0, 0, 0, []), (0, 0, 0, []), (64, 1, 78, [4, 0]), (0, 0, 0, []), (0, 0, 0, []), (57, 80, 0, []), (0, 0, 0, []), (0, 0, 0, []), (12, 1, 0, []), (9, 6, 0, []), (0, 0, 0, []), (85, 45, 97, [2, 99, 13]), (0, 0, 0, []), (0, 0, 0, []), (12, 0, 0, []), (11, 4, 0, []), (0, 0, 0, []), (12, 1, 0, []), (12, 2, 0, []), (1, 0, 0, []), (85, 47, 98, [3, 0, 13]), (0, 0, 0, []), (0, 0, 0, []), (9, 6, 0, []), (0, 0, 0, []), (85, 83, 99, [4, 1, 16]), (0, 0, 0, []), (0, 0, 0, []), (17, 4, 0, []), (0, 0, 0, []), (20, 6, 1, []), (0, 0, 0, []), (0, 0, 0, []), (60, 40, 0, []), (0, 0, 0, []), (0, 0, 0, []), (11, 4, 0, []), (0, 0, 0, []), (92, 0, 0, [])]
def k83 : List jI := [(12, 0, 0, []), (64, 1, 76, [6, 0]), (0, 0, 0, []), (0, 0, 0, []), (62, 115, 29, [44, 64, 76, 76, 81, 98]), (0, 0, 0, []), (0, 0, 0, []), (0, 0, 0, []), (0, 0, 0, []), (0, 0, 0, []), (0, 0, 0, []), (0, 0, 0, []), (0, 0, 0, []), (0, 0, 0, []), (0, 0, 0, []), (0, 0, 0, []), (0, 0, 0, []), (0, 0, 0, []), (0, 0, 0, []), (0, 0, 0, []), (0, 0, 0, []), (0, 0, 0, []), (0, 0, 0, []), (0, 0, 0, []), (0, 0, 0, []), (0, 0, 0, []), (0, 0, 0, []), (0, 0, 0, []), (0, 0, 0, []), (0, 0, 0, []), (0, 0, 0, []), (0, 0, 0, []), (0, 0, 0, []), (0, 0, 0, []), (0, 0, 0, []), (0, 0, 0, []), (0, 0, 0, []), (0, 0, 0, []), (0, 0, 0, []), (0, 0, 0, []), (0, 0, 0, []), (0, 0, 0, []), (0, 0, 0, []), (0, 0, 0, []), (10, 1, 0, []), (7, -1, 56, []), (0, 0, 0, []), (0, 0, 0, []), (42, 0, 0, []), (49, 62, 0, []), (0, 0, 0, []), (0, 0, 0, []), (8, 3, 0, []), (48, 62, 0, []), (0, 0, 0, []), (0, 0, 0, []), (9, 4, 0, []), (0, 0, 0, []), (43, 0, 0, []), (60, 63, 0, []), (0, 0, 0, []), (0, 0, 0, []), (10, 1, 0, []), (92, 0, 0, []), (8, 3, 0, []), (48, 74, 0, []), (0, 0, 0, []), (0, 0, 0, []), (9, 4, 0, []), (0, 0, 0, []), (43, 0, 0, []), (60, 75, 0, []), (0, 0, 0, []), (0, 0, 0, []), (10, 1, 0, []), (92, 0, 0, []), (10, 1, 0, []), (8, 3, 0, []), (43, 0, 0, []), (33, 0, 0, []), (92, 0, 0, []), (9, 4, 0, []), (0, 0, 0, []), (49, 91, 0, []), (0, 0, 0, []), (0, 0, 0, []), (8, 3, 0, []), (43, 0, 0, []), (60, 97, 0, []), (0, 0, 0, []), (0, 0, 0, []), (10, 1, 0, []), (8, 3, 0, []), (43, 0, 0, []), (89, 338, 100, [2, 1]), (0, 0, 0, []), (0, 0, 0, []), (92, 0, 0, []), (9, 4, 0, []), (0, 0, 0, []), (49, 108, 0, []), (0, 0, 0, []), (0, 0, 0, []), (8, 3, 0, []), (43, 0, 0, []), (60, 114, 0, []), (0, 0, 0, []), (0, 0, 0, []), (10, 1, 0, []), (8, 3, 0, []), (43, 0, 0, []), (89, 340, 101, [2, 1]), (0, 0, 0, []), (0, 0, 0, []), (92, 0, 0, []), (10, 1, 0, []), (92, 0, 0, [])]
def k84 : List jI := [(12, 0, 0, []), (90, 0, 3, []), (0, 0, 0, []), (0, 0, 0, []), (12, 0, 0, []), (81, 10, 9, [2]), (0, 0, 0, []), (0, 0, 0, []), (45, 0, 0, []), (1, 0, 0, []), (87, 142, 102, [2, 99, 20]), (0, 0, 0, []), (0, 0, 0, []), (68, 0, 79, [7, 20]), (0, 0, 0, []), (0, 0, 0, []), (12, 0, 0, []), (1, 0, 0, []), (82, 14, 0, []), (0, 0, 0, []), (68, 1, 80, [7, 24]), (0, 0, 0, []), (0, 0, 0, []), (12, 0, 0, []), (2, 6, 0, []), (0, 0, 0, []), (82, 14, 0, []), (0, 0, 0, []), (68, 2, 81, [7, 24]), (0, 0, 0, []), (0, 0, 0, []), (12, 0, 0, []), (1, -1, 0, []), (66, 10, 82, [7, 0]), (0, 0, 0, []), (0, 0, 0, []), (95, 0, 0, [])]
def k85 : List jI := [(12, 0, 0, []), (12, 1, 0, []), (68, 0, 79, [7, 20]), (0, 0, 0, []), (0, 0, 0, []), (12, 0, 0, []), (12, 2, 0, []), (68, 1, 80, [7, 24]), (0, 0, 0, []), (0, 0, 0, []), (12, 0, 0, []), (1, 0, 0, []), (66, 3, 83, [7, 0]), (0, 0, 0, []), (0, 0, 0, []), (12, 0, 0, []), (1, 0, 0, []), (66, 5, 84, [7, 0]), (0, 0, 0, []), (0, 0, 0, []), (12, 0, 0, []), (1, 0, 0, []), (66, 9, 85, [7, 0]), (0, 0, 0, []), (0, 0, 0, []), (12, 0, 0, []), (1, -1, 0, []), (66, 10, 82, [7, 0]), (0, 0, 0, []), (0, 0, 0, []), (12, 0, 0, []), (1, 0, 0, []), (66, 6, 86, [7, 0]), (0, 0, 0, []), (0, 0, 0, []), (12, 0, 0, []), (1, 0, 0, []), (66, 7, 87, [7, 0]), (0, 0, 0, []), (0, 0, 0, []), (12, 0, 0, []), (1, 0, 0, []), (66, 8, 88, [7, 0]), (0, 0, 0, []), (0, 0, 0, []), (12, 0, 0, []), (85, 90, 103, [1, 99, 17]), (0, 0, 0, []), (0, 0, 0, []), (95, 0, 0, [])]
def k86 : List jI := [(12, 0, 0, []), (8, 1, 0, []), (66, 9, 85, [7, 0]), (0, 0, 0, []), (0, 0, 0, []), (12, 0, 0, []), (8, 2, 0, []), (66, 10, 82, [7, 0]), (0, 0, 0, []), (0, 0, 0, []), (1, 0, 0, []), (94, 0, 0, [])]
def k87 : List jI := [(12, 0, 0, []), (8, 1, 0, []), (66, 9, 85, [7, 0]), (0, 0, 0, []), (0, 0, 0, []), (12, 0, 0, []), (12, 0, 0, []), (64, 7, 87, [7, 0]), (0, 0, 0, []), (0, 0, 0, []), (66, 10, 82, [7, 0]), (0, 0, 0, []), (0, 0, 0, []), (1, 0, 0, []), (94, 0, 0, [])]
def k88 : List jI := [(8, 0, 0, []), (1, -1, 0, []), (55, 7, 0, []), (0, 0, 0, []), (0, 0, 0, []), (1, 0, 0, []), (91, 0, 0, []), (8, 0, 0, []), (2, 97, 0, []), (0, 0, 0, []), (56, 21, 0, []), (0, 0, 0, []), (0, 0, 0, []), (8, 0, 0, []), (2, 122, 0, []), (0, 0, 0, []), (58, 21, 0, []), (0, 0, 0, []), (0, 0, 0, []), (1, 1, 0, []), (91, 0, 0, []), (8, 0, 0, []), (2, 48, 0, []), (0, 0, 0, []), (56, 37, 0, []), (0, 0, 0, []), (0, 0, 0, []), (8, 0, 0, []), (2, 57, 0, []), (0, 0, 0, []), (58, 37, 0, []), (0, 0, 0, []), (0, 0, 0, []), (1, 2, 0, []), (60, 38, 0, []), (0, 0, 0, []), (0, 0, 0, []), (1, 3, 0, []), (91, 0, 0, [])]
def k89 : List jI := [(8, 0, 0, []), (2, 10, 0, []), (0, 0, 0, []), (54, 12, 0, []), (0, 0, 0, []), (0, 0, 0, []), (8, 0, 0, []), (2, 32, 0, []), (0, 0, 0, []), (55, 16, 0, []), (0, 0, 0, []), (0, 0, 0, []), (1, 1, 0, []), (60, 17, 0, []), (0, 0, 0, []), (0, 0, 0, []), (1, 0, 0, []), (94, 0, 0, [])]
def k90 : List jI := [(12, 0, 0, []), (64, 6, 86, [7, 0]), (0, 0, 0, []), (0, 0, 0, []), (1, 1, 0, []), (54, 16, 0, []), (0, 0, 0, []), (0, 0, 0, []), (12, 0, 0, []), (64, 6, 86, [7, 0]), (0, 0, 0, []), (0, 0, 0, []), (1, 2, 0, []), (55, 20, 0, []), (0, 0, 0, []), (0, 0, 0, []), (1, 1, 0, []), (60, 21, 0, []), (0, 0, 0, []), (0, 0, 0, []), (1, 0, 0, []), (14, 1, 0, []), (12, 0, 0, []), (64, 8, 88, [7, 0]), (0, 0, 0, []), (0, 0, 0, []), (14, 2, 0, []), (12, 0, 0, []), (64, 8, 88, [7, 0]), (0, 0, 0, []), (0, 0, 0, []), (14, 3, 0, []), (8, 3, 0, []), (12, 0, 0, []), (65, 0, 79, [7, 20]), (0, 0, 0, []), (0, 0, 0, []), (85, 143, 104, [1, 0, 20]), (0, 0, 0, []), (0, 0, 0, []), (57, 67, 0, []), (0, 0, 0, []), (0, 0, 0, []), (12, 0, 0, []), (65, 0, 79, [7, 20]), (0, 0, 0, []), (0, 0, 0, []), (8, 3, 0, []), (85, 144, 105, [2, 0, 20]), (0, 0, 0, []), (0, 0, 0, []), (89, 89, 106, [1, 0]), (0, 0, 0, []), (0, 0, 0, []), (48, 67, 0, []), (0, 0, 0, []), (0, 0, 0, []), (8, 3, 0, []), (1, 1, 0, []), (21, 0, 0, []), (14, 2, 0, []), (20, 3, 1, []), (0, 0, 0, []), (0, 0, 0, []), (60, 32, 0, []), (0, 0, 0, []), (0, 0, 0, []), (8, 1, 0, []), (48, 83, 0, []), (0, 0, 0, []), (0, 0, 0, []), (8, 2, 0, []), (12, 0, 0, []), (64, 8, 88, [7, 0]), (0, 0, 0, []), (0, 0, 0, []), (55, 83, 0, []), (0, 0, 0, []), (0, 0, 0, []), (1, 1, 0, []), (60, 84, 0, []), (0, 0, 0, []), (0, 0, 0, []), (1, 0, 0, []), (14, 3, 0, []), (12, 0, 0, []), (8, 2, 0, []), (66, 7, 87, [7, 0]), (0, 0, 0, []), (0, 0, 0, []), (12, 0, 0, []), (8, 2, 0, []), (66, 8, 88, [7, 0]), (0, 0, 0, []), (0, 0, 0, []), (12, 0, 0, []), (12, 0, 0, []), (65, 0, 79, [7, 20]), (0, 0, 0, []), (0, 0, 0, []), (8, 2, 0, []), (85, 144, 105, [2, 0, 20]), (0, 0, 0, []), (0, 0, 0, []), (89, 88, 107, [1, 0]), (0, 0, 0, []), (0, 0, 0, []), (66, 6, 86, [7, 0]), (0, 0, 0, []), (0, 0, 0, []), (12, 0, 0, []), (64, 6, 86, [7, 0]), (0, 0, 0, []), (0, 0, 0, []), (1, 3, 0, []), (55, 125, 0, []), (0, 0, 0, []), (0, 0, 0, []), (12, 0, 0, []), (8, 2, 0, []), (1, 1, 0, []), (21, 0, 0, []), (66, 8, 88, [7, 0]), (0, 0, 0, []), (0, 0, 0, []), (12, 0, 0, []), (64, 6, 86, [7, 0]), (0, 0, 0, []), (0, 0, 0, []), (1, 1, 0, []), (54, 141, 0, []), (0, 0, 0, []), (0, 0, 0, []), (12, 0, 0, []), (64, 6, 86, [7, 0]), (0, 0, 0, []), (0, 0, 0, []), (1, 2, 0, []), (55, 205, 0, []), (0, 0, 0, []), (0, 0, 0, []), (8, 2, 0, []), (15, 4, 0, []), (0, 0, 0, []), (9, 4, 0, []), (0, 0, 0, []), (12, 0, 0, []), (65, 0, 79, [7, 20]), (0, 0, 0, []), (0, 0, 0, []), (85, 143, 104, [1, 0, 20]), (0, 0, 0, []), (0, 0, 0, []), (57, 189, 0, []), (0, 0, 0, []), (0, 0, 0, []), (12, 0, 0, []), (65, 0, 79, [7, 20]), (0, 0, 0, []), (0, 0, 0, []), (9, 4, 0, []), (0, 0, 0, []), (85, 144, 105, [2, 0, 20]), (0, 0, 0, []), (0, 0, 0, []), (89, 88, 107, [1, 0]), (0, 0, 0, []), (0, 0, 0, []), (12, 0, 0, []), (64, 6, 86, [7, 0]), (0, 0, 0, []), (0, 0, 0, []), (55, 189, 0, []), (0, 0, 0, []), (0, 0, 0, []), (12, 0, 0, []), (9, 4, 0, []), (0, 0, 0, []), (1, 1, 0, []), (21, 0, 0, []), (66, 8, 88, [7, 0]), (0, 0, 0, []), (0, 0, 0, []), (20, 4, 1, []), (0, 0, 0, []), (0, 0, 0, []), (60, 144, 0, []), (0, 0, 0, []), (0, 0, 0, []), (12, 0, 0, []), (8, 3, 0, []), (48, 198, 0, []), (0, 0, 0, []), (0, 0, 0, []), (1, 4, 0, []), (60, 202, 0, []), (0, 0, 0, []), (0, 0, 0, []), (12, 0, 0, []), (64, 6, 86, [7, 0]), (0, 0, 0, []), (0, 0, 0, []), (66, 6, 86, [7, 0]), (0, 0, 0, []), (0, 0, 0, []), (95, 0, 0, [])]
def k91 : List jI := [(12, 0, 0, []), (64, 6, 86, [7, 0]), (0, 0, 0, []), (0, 0, 0, []), (49, 11, 0, []), (0, 0, 0, []), (0, 0, 0, []), (1, 1, 0, []), (60, 12, 0, []), (0, 0, 0, []), (0, 0, 0, []), (1, 0, 0, []), (94, 0, 0, [])]
def k92 : List jI := [(12, 0, 0, []), (64, 6, 86, [7, 0]), (0, 0, 0, []), (0, 0, 0, []), (1, 3, 0, []), (55, 27, 0, []), (0, 0, 0, []), (0, 0, 0, []), (12, 0, 0, []), (65, 0, 79, [7, 20]), (0, 0, 0, []), (0, 0, 0, []), (12, 0, 0, []), (64, 7, 87, [7, 0]), (0, 0, 0, []), (0, 0, 0, []), (85, 144, 105, [2, 0, 20]), (0, 0, 0, []), (0, 0, 0, []), (8, 1, 0, []), (55, 27, 0, []), (0, 0, 0, []), (0, 0, 0, []), (1, 1, 0, []), (60, 28, 0, []), (0, 0, 0, []), (0, 0, 0, []), (1, 0, 0, []), (94, 0, 0, [])]
def k93 : List jI := [(12, 0, 0, []), (64, 6, 86, [7, 0]), (0, 0, 0, []), (0, 0, 0, []), (1, 1, 0, []), (54, 10, 0, []), (0, 0, 0, []), (0, 0, 0, []), (1, -1, 0, []), (91, 0, 0, []), (1, 0, 0, []), (14, 1, 0, []), (1, 0, 0, []), (14, 2, 0, []), (1, 0, 0, []), (14, 3, 0, []), (8, 3, 0, []), (98, 0, 67, []), (0, 0, 0, []), (99, 0, 69, []), (0, 0, 0, []), (0, 0, 0, []), (57, 113, 0, []), (0, 0, 0, []), (0, 0, 0, []), (98, 0, 67, []), (0, 0, 0, []), (8, 3, 0, []), (100, 0, 72, []), (0, 0, 0, []), (0, 0, 0, []), (15, 4, 0, []), (0, 0, 0, []), (9, 4, 0, []), (0, 0, 0, []), (2, 32, 0, []), (0, 0, 0, []), (55, 63, 0, []), (0, 0, 0, []), (0, 0, 0, []), (8, 2, 0, []), (12, 0, 0, []), (64, 8, 88, [7, 0]), (0, 0, 0, []), (0, 0, 0, []), (12, 0, 0, []), (64, 7, 87, [7, 0]), (0, 0, 0, []), (0, 0, 0, []), (22, 0, 0, []), (55, 55, 0, []), (0, 0, 0, []), (0, 0, 0, []), (8, 1, 0, []), (91, 0, 0, []), (20, 1, 1, []), (0, 0, 0, []), (0, 0, 0, []), (1, 0, 0, []), (14, 2, 0, []), (60, 107, 0, []), (0, 0, 0, []), (0, 0, 0, []), (8, 2, 0, []), (1, -1, 0, []), (54, 105, 0, []), (0, 0, 0, []), (0, 0, 0, []), (12, 0, 0, []), (64, 7, 87, [7, 0]), (0, 0, 0, []), (0, 0, 0, []), (8, 2, 0, []), (21, 0, 0, []), (12, 0, 0, []), (64, 8, 88, [7, 0]), (0, 0, 0, []), (0, 0, 0, []), (57, 105, 0, []), (0, 0, 0, []), (0, 0, 0, []), (12, 0, 0, []), (65, 0, 79, [7, 20]), (0, 0, 0, []), (0, 0, 0, []), (12, 0, 0, []), (64, 7, 87, [7, 0]), (0, 0, 0, []), (0, 0, 0, []), (8, 2, 0, []), (21, 0, 0, []), (85, 144, 105, [2, 0, 20]), (0, 0, 0, []), (0, 0, 0, []), (9, 4, 0, []), (0, 0, 0, []), (55, 105, 0, []), (0, 0, 0, []), (0, 0, 0, []), (20, 2, 1, []), (0, 0, 0, []), (0, 0, 0, []), (60, 107, 0, []), (0, 0, 0, []), (0, 0, 0, []), (1, -1, 0, []), (14, 2, 0, []), (20, 3, 1, []), (0, 0, 0, []), (0, 0, 0, []), (60, 16, 0, []), (0, 0, 0, []), (0, 0, 0, []), (1, -1, 0, []), (91, 0, 0, [])]
def k94 : List jI := [(12, 0, 0, []), (8, 1, 0, []), (85, 92, 108, [2, 0, 17]), (0, 0, 0, []), (0, 0, 0, []), (49, 14, 0, []), (0, 0, 0, []), (0, 0, 0, []), (12, 0, 0, []), (1, 1, 0, []), (85, 87, 109, [2, 0, 17]), (0, 0, 0, []), (0, 0, 0, []), (94, 0, 0, []), (12, 0, 0, []), (85, 90, 103, [1, 99, 17]), (0, 0, 0, []), (0, 0, 0, []), (1, 1, 0, []), (94, 0, 0, [])]
def k95 : List jI := [(12, 0, 0, []), (85, 93, 110, [1, 0, 17]), (0, 0, 0, []), (0, 0, 0, []), (8, 1, 0, []), (54, 14, 0, []), (0, 0, 0, []), (0, 0, 0, []), (12, 0, 0, []), (1, 1, 0, []), (85, 87, 109, [2, 0, 17]), (0, 0, 0, []), (0, 0, 0, []), (94, 0, 0, []), (12, 0, 0, []), (85, 90, 103, [1, 99, 17]), (0, 0, 0, []), (0, 0, 0, []), (1, 1, 0, []), (94, 0, 0, [])]
def k96 : List jI := [(12, 0, 0, []), (85, 97, 111, [1, 0, 17]), (0, 0, 0, []), (0, 0, 0, []), (14, 3, 0, []), (8, 3, 0, []), (1, -1, 0, []), (55, 12, 0, []), (0, 0, 0, []), (0, 0, 0, []), (1, -1, 0, []), (91, 0, 0, []), (8, 3, 0, []), (8, 1, 0, []), (56, 22, 0, []), (0, 0, 0, []), (0, 0, 0, []), (8, 3, 0, []), (8, 2, 0, []), (59, 30, 0, []), (0, 0, 0, []), (0, 0, 0, []), (12, 0, 0, []), (1, 2, 0, []), (85, 87, 109, [2, 0, 17]), (0, 0, 0, []), (0, 0, 0, []), (47, 0, 0, []), (1, -1, 0, []), (91, 0, 0, []), (12, 0, 0, []), (85, 90, 103, [1, 99, 17]), (0, 0, 0, []), (0, 0, 0, []), (8, 3, 0, []), (91, 0, 0, [])]
def k97 : List jI := [(12, 0, 0, []), (64, 6, 86, [7, 0]), (0, 0, 0, []), (0, 0, 0, []), (1, 2, 0, []), (54, 16, 0, []), (0, 0, 0, []), (0, 0, 0, []), (12, 0, 0, []), (1, 1, 0, []), (85, 87, 109, [2, 0, 17]), (0, 0, 0, []), (0, 0, 0, []), (47, 0, 0, []), (1, -1, 0, []), (91, 0, 0, []), (12, 0, 0, []), (64, 8, 88, [7, 0]), (0, 0, 0, []), (0, 0, 0, []), (12, 0, 0, []), (64, 7, 87, [7, 0]), (0, 0, 0, []), (0, 0, 0, []), (22, 0, 0, []), (1, 4, 0, []), (59, 43, 0, []), (0, 0, 0, []), (0, 0, 0, []), (12, 0, 0, []), (1, 1, 0, []), (12, 0, 0, []), (64, 7, 87, [7, 0]), (0, 0, 0, []), (0, 0, 0, []), (1, 4, 0, []), (21, 0, 0, []), (85, 86, 112, [3, 0, 17]), (0, 0, 0, []), (0, 0, 0, []), (47, 0, 0, []), (1, -1, 0, []), (91, 0, 0, []), (1, 0, 0, []), (14, 1, 0, []), (12, 0, 0, []), (64, 7, 87, [7, 0]), (0, 0, 0, []), (0, 0, 0, []), (14, 2, 0, []), (8, 2, 0, []), (12, 0, 0, []), (64, 8, 88, [7, 0]), (0, 0, 0, []), (0, 0, 0, []), (57, 81, 0, []), (0, 0, 0, []), (0, 0, 0, []), (2, 10, 0, []), (0, 0, 0, []), (8, 1, 0, []), (23, 0, 0, []), (12, 0, 0, []), (65, 0, 79, [7, 20]), (0, 0, 0, []), (0, 0, 0, []), (8, 2, 0, []), (85, 144, 105, [2, 0, 20]), (0, 0, 0, []), (0, 0, 0, []), (21, 0, 0, []), (2, 48, 0, []), (0, 0, 0, []), (22, 0, 0, []), (14, 1, 0, []), (20, 2, 1, []), (0, 0, 0, []), (0, 0, 0, []), (60, 50, 0, []), (0, 0, 0, []), (0, 0, 0, []), (8, 1, 0, []), (91, 0, 0, [])]
def k98 : List jI := [(12, 0, 0, []), (64, 6, 86, [7, 0]), (0, 0, 0, []), (0, 0, 0, []), (1, 1, 0, []), (54, 16, 0, []), (0, 0, 0, []), (0, 0, 0, []), (12, 0, 0, []), (1, 1, 0, []), (85, 87, 109, [2, 0, 17]), (0, 0, 0, []), (0, 0, 0, []), (47, 0, 0, []), (96, -1, 0, []), (93, 24, 0, []), (12, 0, 0, []), (64, 8, 88, [7, 0]), (0, 0, 0, []), (0, 0, 0, []), (12, 0, 0, []), (64, 7, 87, [7, 0]), (0, 0, 0, []), (0, 0, 0, []), (22, 0, 0, []), (2, 6, 0, []), (0, 0, 0, []), (59, 45, 0, []), (0, 0, 0, []), (0, 0, 0, []), (12, 0, 0, []), (1, 1, 0, []), (12, 0, 0, []), (64, 7, 87, [7, 0]), (0, 0, 0, []), (0, 0, 0, []), (2, 6, 0, []), (0, 0, 0, []), (21, 0, 0, []), (85, 86, 112, [3, 0, 17]), (0, 0, 0, []), (0, 0, 0, []), (47, 0, 0, []), (96, -1, 0, []), (93, 24, 0, []), (12, 0, 0, []), (85, 93, 110, [1, 0, 17]), (0, 0, 0, []), (0, 0, 0, []), (14, 1, 0, []), (8, 1, 0, []), (1, -1, 0, []), (54, 69, 0, []), (0, 0, 0, []), (0, 0, 0, []), (8, 1, 0, []), (2, 29, 0, []), (0, 0, 0, []), (57, 69, 0, []), (0, 0, 0, []), (0, 0, 0, []), (12, 0, 0, []), (1, 1, 0, []), (85, 87, 109, [2, 0, 17]), (0, 0, 0, []), (0, 0, 0, []), (47, 0, 0, []), (96, -1, 0, []), (93, 24, 0, []), (1, 0, 0, []), (14, 2, 0, []), (8, 2, 0, []), (12, 0, 0, []), (65, 2, 81, [7, 24]), (0, 0, 0, []), (0, 0, 0, []), (80, 0, 0, []), (57, 127, 0, []), (0, 0, 0, []), (0, 0, 0, []), (12, 0, 0, []), (65, 2, 81, [7, 24]), (0, 0, 0, []), (0, 0, 0, []), (8, 2, 0, []), (12, 0, 0, []), (64, 7, 87, [7, 0]), (0, 0, 0, []), (0, 0, 0, []), (8, 2, 0, []), (21, 0, 0, []), (12, 0, 0, []), (64, 8, 88, [7, 0]), (0, 0, 0, []), (0, 0, 0, []), (57, 119, 0, []), (0, 0, 0, []), (0, 0, 0, []), (12, 0, 0, []), (65, 0, 79, [7, 20]), (0, 0, 0, []), (0, 0, 0, []), (12, 0, 0, []), (64, 7, 87, [7, 0]), (0, 0, 0, []), (0, 0, 0, []), (8, 2, 0, []), (21, 0, 0, []), (85, 144, 105, [2, 0, 20]), (0, 0, 0, []), (0, 0, 0, []), (2, 97, 0, []), (0, 0, 0, []), (22, 0, 0, []), (1, 1, 0, []), (21, 0, 0, []), (60, 120, 0, []), (0, 0, 0, []), (0, 0, 0, []), (1, 0, 0, []), (75, 0, 0, []), (20, 2, 1, []), (0, 0, 0, []), (0, 0, 0, []), (60, 71, 0, []), (0, 0, 0, []), (0, 0, 0, []), (12, 0, 0, []), (65, 2, 81, [7, 24]), (0, 0, 0, []), (0, 0, 0, []), (93, 24, 0, [])]
def k99 : List jI := [(12, 0, 0, []), (64, 6, 86, [7, 0]), (0, 0, 0, []), (0, 0, 0, []), (1, 1, 0, []), (55, 20, 0, []), (0, 0, 0, []), (0, 0, 0, []), (12, 0, 0, []), (64, 8, 88, [7, 0]), (0, 0, 0, []), (0, 0, 0, []), (12, 0, 0, []), (64, 7, 87, [7, 0]), (0, 0, 0, []), (0, 0, 0, []), (22, 0, 0, []), (60, 21, 0, []), (0, 0, 0, []), (0, 0, 0, []), (1, 0, 0, []), (91, 0, 0, [])]
def k100 : List jI := [(12, 0, 0, []), (65, 0, 79, [7, 20]), (0, 0, 0, []), (0, 0, 0, []), (12, 0, 0, []), (64, 7, 87, [7, 0]), (0, 0, 0, []), (0, 0, 0, []), (8, 1, 0, []), (21, 0, 0, []), (85, 144, 105, [2, 0, 20]), (0, 0, 0, []), (0, 0, 0, []), (91, 0, 0, [])]
def k101 : List jI := [(12, 0, 0, []), (64, 3, 83, [7, 0]), (0, 0, 0, []), (0, 0, 0, []), (91, 0, 0, [])]
def k102 : List jI := [(12, 0, 0, []), (64, 3, 83, [7, 0]), (0, 0, 0, []), (0, 0, 0, []), (12, 0, 0, []), (65, 1, 80, [7, 24]), (0, 0, 0, []), (0, 0, 0, []), (80, 0, 0, []), (57, 32, 0, []), (0, 0, 0, []), (0, 0, 0, []), (12, 0, 0, []), (65, 1, 80, [7, 24]), (0, 0, 0, []), (0, 0, 0, []), (12, 0, 0, []), (64, 3, 83, [7, 0]), (0, 0, 0, []), (0, 0, 0, []), (8, 1, 0, []), (75, 0, 0, []), (12, 0, 0, []), (45, 0, 0, []), (64, 3, 83, [7, 0]), (0, 0, 0, []), (0, 0, 0, []), (1, 1, 0, []), (21, 0, 0, []), (66, 3, 83, [7, 0]), (0, 0, 0, []), (0, 0, 0, []), (95, 0, 0, [])]
def k103 : List jI := [(12, 0, 0, []), (8, 1, 0, []), (66, 4, 89, [7, 0]), (0, 0, 0, []), (0, 0, 0, []), (12, 0, 0, []), (1, 0, 0, []), (66, 5, 84, [7, 0]), (0, 0, 0, []), (0, 0, 0, []), (95, 0, 0, [])]
def k104 : List jI := [(12, 0, 0, []), (3, 10000, 0, []), (0, 0, 0, []), (0, 0, 0, []), (85, 102, 113, [2, 99, 17]), (0, 0, 0, []), (0, 0, 0, []), (1, 1, 0, []), (94, 0, 0, [])]
def k105 : List jI := [(12, 0, 0, []), (64, 5, 84, [7, 0]), (0, 0, 0, []), (0, 0, 0, []), (2, 6, 0, []), (0, 0, 0, []), (56, 15, 0, []), (0, 0, 0, []), (0, 0, 0, []), (12, 0, 0, []), (1, 4, 0, []), (85, 87, 109, [2, 0, 17]), (0, 0, 0, []), (0, 0, 0, []), (94, 0, 0, []), (12, 0, 0, []), (45, 0, 0, []), (64, 5, 84, [7, 0]), (0, 0, 0, []), (0, 0, 0, []), (1, 1, 0, []), (21, 0, 0, []), (66, 5, 84, [7, 0]), (0, 0, 0, []), (0, 0, 0, []), (1, 1, 0, []), (94, 0, 0, [])]
def k106 : List jI := [(12, 0, 0, []), (45, 0, 0, []), (64, 5, 84, [7, 0]), (0, 0, 0, []), (0, 0, 0, []), (1, 1, 0, []), (22, 0, 0, []), (66, 5, 84, [7, 0]), (0, 0, 0, []), (0, 0, 0, []), (1, 1, 0, []), (94, 0, 0, [])]
def k107 : List jI := [(12, 0, 0, []), (85, 108, 114, [1, 0, 17]), (0, 0, 0, []), (0, 0, 0, []), (14, 1, 0, []), (1, 0, 0, []), (14, 2, 0, []), (8, 2, 0, []), (3, 1600, 0, []), (0, 0, 0, []), (0, 0, 0, []), (57, 49, 0, []), (0, 0, 0, []), (0, 0, 0, []), (8, 1, 0, []), (48, 49, 0, []), (0, 0, 0, []), (0, 0, 0, []), (12, 0, 0, []), (85, 93, 110, [1, 0, 17]), (0, 0, 0, []), (0, 0, 0, []), (2, 23, 0, []), (0, 0, 0, []), (55, 49, 0, []), (0, 0, 0, []), (0, 0, 0, []), (12, 0, 0, []), (85, 90, 103, [1, 99, 17]), (0, 0, 0, []), (0, 0, 0, []), (12, 0, 0, []), (85, 108, 114, [1, 0, 17]), (0, 0, 0, []), (0, 0, 0, []), (14, 1, 0, []), (12, 0, 0, []), (3, 10003, 0, []), (0, 0, 0, []), (0, 0, 0, []), (85, 102, 113, [2, 99, 17]), (0, 0, 0, []), (0, 0, 0, []), (20, 2, 1, []), (0, 0, 0, []), (0, 0, 0, []), (60, 7, 0, []), (0, 0, 0, []), (0, 0, 0, []), (8, 1, 0, []), (94, 0, 0, [])]
def k108 : List jI := [(12, 0, 0, []), (85, 109, 115, [1, 0, 17]), (0, 0, 0, []), (0, 0, 0, []), (14, 1, 0, []), (1, 0, 0, []), (14, 2, 0, []), (8, 2, 0, []), (3, 1600, 0, []), (0, 0, 0, []), (0, 0, 0, []), (57, 49, 0, []), (0, 0, 0, []), (0, 0, 0, []), (8, 1, 0, []), (48, 49, 0, []), (0, 0, 0, []), (0, 0, 0, []), (12, 0, 0, []), (85, 93, 110, [1, 0, 17]), (0, 0, 0, []), (0, 0, 0, []), (2, 24, 0, []), (0, 0, 0, []), (55, 49, 0, []), (0, 0, 0, []), (0, 0, 0, []), (12, 0, 0, []), (85, 90, 103, [1, 99, 17]), (0, 0, 0, []), (0, 0, 0, []), (12, 0, 0, []), (85, 109, 115, [1, 0, 17]), (0, 0, 0, []), (0, 0, 0, []), (14, 1, 0, []), (12, 0, 0, []), (3, 10004, 0, []), (0, 0, 0, []), (0, 0, 0, []), (85, 102, 113, [2, 99, 17]), (0, 0, 0, []), (0, 0, 0, []), (20, 2, 1, []), (0, 0, 0, []), (0, 0, 0, []), (60, 7, 0, []), (0, 0, 0, []), (0, 0, 0, []), (8, 1, 0, []), (94, 0, 0, [])]
def k109 : List jI := [(12, 0, 0, []), (85, 93, 110, [1, 0, 17]), (0, 0, 0, []), (0, 0, 0, []), (14, 1, 0, []), (8, 1, 0, []), (2, 25, 0, []), (0, 0, 0, []), (55, 16, 0, []), (0, 0, 0, []), (0, 0, 0, []), (12, 0, 0, []), (85, 111, 116, [1, 0, 17]), (0, 0, 0, []), (0, 0, 0, []), (94, 0, 0, []), (12, 0, 0, []), (2, 91, 0, []), (0, 0, 0, []), (85, 92, 108, [2, 0, 17]), (0, 0, 0, []), (0, 0, 0, []), (48, 70, 0, []), (0, 0, 0, []), (0, 0, 0, []), (12, 0, 0, []), (85, 105, 117, [1, 0, 17]), (0, 0, 0, []), (0, 0, 0, []), (48, 68, 0, []), (0, 0, 0, []), (0, 0, 0, []), (12, 0, 0, []), (2, 91, 0, []), (0, 0, 0, []), (85, 94, 118, [2, 0, 17]), (0, 0, 0, []), (0, 0, 0, []), (48, 68, 0, []), (0, 0, 0, []), (0, 0, 0, []), (12, 0, 0, []), (85, 107, 119, [1, 0, 17]), (0, 0, 0, []), (0, 0, 0, []), (48, 68, 0, []), (0, 0, 0, []), (0, 0, 0, []), (12, 0, 0, []), (2, 93, 0, []), (0, 0, 0, []), (85, 94, 118, [2, 0, 17]), (0, 0, 0, []), (0, 0, 0, []), (48, 68, 0, []), (0, 0, 0, []), (0, 0, 0, []), (12, 0, 0, []), (85, 106, 120, [1, 0, 17]), (0, 0, 0, []), (0, 0, 0, []), (48, 68, 0, []), (0, 0, 0, []), (0, 0, 0, []), (1, 1, 0, []), (60, 69, 0, []), (0, 0, 0, []), (0, 0, 0, []), (1, 0, 0, []), (94, 0, 0, []), (8, 1, 0, []), (2, 26, 0, []), (0, 0, 0, []), (55, 87, 0, []), (0, 0, 0, []), (0, 0, 0, []), (12, 0, 0, []), (1, 1, 0, []), (85, 102, 113, [2, 99, 17]), (0, 0, 0, []), (0, 0, 0, []), (12, 0, 0, []), (85, 90, 103, [1, 99, 17]), (0, 0, 0, []), (0, 0, 0, []), (1, 1, 0, []), (94, 0, 0, []), (12, 0, 0, []), (85, 112, 121, [1, 0, 17]), (0, 0, 0, []), (0, 0, 0, []), (49, 96, 0, []), (0, 0, 0, []), (0, 0, 0, []), (1, 0, 0, []), (94, 0, 0, []), (12, 0, 0, []), (85, 110, 122, [1, 0, 17]), (0, 0, 0, []), (0, 0, 0, []), (14, 2, 0, []), (8, 2, 0, []), (1, -1, 0, []), (55, 112, 0, []), (0, 0, 0, []), (0, 0, 0, []), (12, 0, 0, []), (1, 1, 0, []), (85, 87, 109, [2, 0, 17]), (0, 0, 0, []), (0, 0, 0, []), (94, 0, 0, []), (12, 0, 0, []), (85, 90, 103, [1, 99, 17]), (0, 0, 0, []), (0, 0, 0, []), (12, 0, 0, []), (85, 112, 121, [1, 0, 17]), (0, 0, 0, []), (0, 0, 0, []), (14, 3, 0, []), (12, 0, 0, []), (8, 2, 0, []), (85, 102, 113, [2, 99, 17]), (0, 0, 0, []), (0, 0, 0, []), (8, 3, 0, []), (94, 0, 0, [])]
def k110 : List jI := [(12, 0, 0, []), (2, 60, 0, []), (0, 0, 0, []), (85, 92, 108, [2, 0, 17]), (0, 0, 0, []), (0, 0, 0, []), (48, 13, 0, []), (0, 0, 0, []), (0, 0, 0, []), (3, 10005, 0, []), (0, 0, 0, []), (0, 0, 0, []), (91, 0, 0, []), (12, 0, 0, []), (2, 62, 0, []), (0, 0, 0, []), (85, 92, 108, [2, 0, 17]), (0, 0, 0, []), (0, 0, 0, []), (48, 26, 0, []), (0, 0, 0, []), (0, 0, 0, []), (3, 10006, 0, []), (0, 0, 0, []), (0, 0, 0, []), (91, 0, 0, []), (12, 0, 0, []), (2, 61, 0, []), (0, 0, 0, []), (85, 92, 108, [2, 0, 17]), (0, 0, 0, []), (0, 0, 0, []), (48, 41, 0, []), (0, 0, 0, []), (0, 0, 0, []), (3, 10007, 0, []), (0, 0, 0, []), (0, 0, 0, []), (60, 42, 0, []), (0, 0, 0, []), (0, 0, 0, []), (1, -1, 0, []), (91, 0, 0, [])]
def k111 : List jI := [(12, 0, 0, []), (85, 105, 117, [1, 0, 17]), (0, 0, 0, []), (0, 0, 0, []), (48, 23, 0, []), (0, 0, 0, []), (0, 0, 0, []), (12, 0, 0, []), (2, 25, 0, []), (0, 0, 0, []), (85, 95, 123, [2, 0, 17]), (0, 0, 0, []), (0, 0, 0, []), (48, 23, 0, []), (0, 0, 0, []), (0, 0, 0, []), (12, 0, 0, []), (85, 109, 115, [1, 0, 17]), (0, 0, 0, []), (0, 0, 0, []), (49, 25, 0, []), (0, 0, 0, []), (0, 0, 0, []), (1, 0, 0, []), (94, 0, 0, []), (12, 0, 0, []), (3, 10001, 0, []), (0, 0, 0, []), (0, 0, 0, []), (85, 102, 113, [2, 99, 17]), (0, 0, 0, []), (0, 0, 0, []), (12, 0, 0, []), (85, 106, 120, [1, 0, 17]), (0, 0, 0, []), (0, 0, 0, []), (94, 0, 0, [])]
def k112 : List jI := [(12, 0, 0, []), (85, 113, 124, [1, 0, 17]), (0, 0, 0, []), (0, 0, 0, []), (14, 1, 0, []), (1, 0, 0, []), (14, 2, 0, []), (8, 2, 0, []), (3, 1600, 0, []), (0, 0, 0, []), (0, 0, 0, []), (57, 75, 0, []), (0, 0, 0, []), (0, 0, 0, []), (8, 1, 0, []), (48, 75, 0, []), (0, 0, 0, []), (0, 0, 0, []), (12, 0, 0, []), (2, 43, 0, []), (0, 0, 0, []), (85, 92, 108, [2, 0, 17]), (0, 0, 0, []), (0, 0, 0, []), (49, 36, 0, []), (0, 0, 0, []), (0, 0, 0, []), (12, 0, 0, []), (2, 45, 0, []), (0, 0, 0, []), (85, 92, 108, [2, 0, 17]), (0, 0, 0, []), (0, 0, 0, []), (48, 75, 0, []), (0, 0, 0, []), (0, 0, 0, []), (12, 0, 0, []), (2, 43, 0, []), (0, 0, 0, []), (85, 92, 108, [2, 0, 17]), (0, 0, 0, []), (0, 0, 0, []), (48, 51, 0, []), (0, 0, 0, []), (0, 0, 0, []), (3, 10008, 0, []), (0, 0, 0, []), (0, 0, 0, []), (60, 54, 0, []), (0, 0, 0, []), (0, 0, 0, []), (3, 10009, 0, []), (0, 0, 0, []), (0, 0, 0, []), (14, 3, 0, []), (12, 0, 0, []), (85, 90, 103, [1, 99, 17]), (0, 0, 0, []), (0, 0, 0, []), (12, 0, 0, []), (85, 113, 124, [1, 0, 17]), (0, 0, 0, []), (0, 0, 0, []), (14, 1, 0, []), (12, 0, 0, []), (8, 3, 0, []), (85, 102, 113, [2, 99, 17]), (0, 0, 0, []), (0, 0, 0, []), (20, 2, 1, []), (0, 0, 0, []), (0, 0, 0, []), (60, 7, 0, []), (0, 0, 0, []), (0, 0, 0, []), (8, 1, 0, []), (94, 0, 0, [])]
def k113 : List jI := [(12, 0, 0, []), (85, 114, 125, [1, 0, 17]), (0, 0, 0, []), (0, 0, 0, []), (14, 1, 0, []), (1, 0, 0, []), (14, 2, 0, []), (8, 2, 0, []), (3, 1600, 0, []), (0, 0, 0, []), (0, 0, 0, []), (57, 75, 0, []), (0, 0, 0, []), (0, 0, 0, []), (8, 1, 0, []), (48, 75, 0, []), (0, 0, 0, []), (0, 0, 0, []), (12, 0, 0, []), (2, 42, 0, []), (0, 0, 0, []), (85, 92, 108, [2, 0, 17]), (0, 0, 0, []), (0, 0, 0, []), (49, 36, 0, []), (0, 0, 0, []), (0, 0, 0, []), (12, 0, 0, []), (2, 47, 0, []), (0, 0, 0, []), (85, 92, 108, [2, 0, 17]), (0, 0, 0, []), (0, 0, 0, []), (48, 75, 0, []), (0, 0, 0, []), (0, 0, 0, []), (12, 0, 0, []), (2, 42, 0, []), (0, 0, 0, []), (85, 92, 108, [2, 0, 17]), (0, 0, 0, []), (0, 0, 0, []), (48, 51, 0, []), (0, 0, 0, []), (0, 0, 0, []), (3, 10010, 0, []), (0, 0, 0, []), (0, 0, 0, []), (60, 54, 0, []), (0, 0, 0, []), (0, 0, 0, []), (3, 10011, 0, []), (0, 0, 0, []), (0, 0, 0, []), (14, 3, 0, []), (12, 0, 0, []), (85, 90, 103, [1, 99, 17]), (0, 0, 0, []), (0, 0, 0, []), (12, 0, 0, []), (85, 114, 125, [1, 0, 17]), (0, 0, 0, []), (0, 0, 0, []), (14, 1, 0, []), (12, 0, 0, []), (8, 3, 0, []), (85, 102, 113, [2, 99, 17]), (0, 0, 0, []), (0, 0, 0, []), (20, 2, 1, []), (0, 0, 0, []), (0, 0, 0, []), (60, 7, 0, []), (0, 0, 0, []), (0, 0, 0, []), (8, 1, 0, []), (94, 0, 0, [])]
def k114 : List jI := [(12, 0, 0, []), (2, 40, 0, []), (0, 0, 0, []), (85, 92, 108, [2, 0, 17]), (0, 0, 0, []), (0, 0, 0, []), (48, 54, 0, []), (0, 0, 0, []), (0, 0, 0, []), (12, 0, 0, []), (85, 105, 117, [1, 0, 17]), (0, 0, 0, []), (0, 0, 0, []), (48, 52, 0, []), (0, 0, 0, []), (0, 0, 0, []), (12, 0, 0, []), (2, 40, 0, []), (0, 0, 0, []), (85, 94, 118, [2, 0, 17]), (0, 0, 0, []), (0, 0, 0, []), (48, 52, 0, []), (0, 0, 0, []), (0, 0, 0, []), (12, 0, 0, []), (85, 112, 121, [1, 0, 17]), (0, 0, 0, []), (0, 0, 0, []), (48, 52, 0, []), (0, 0, 0, []), (0, 0, 0, []), (12, 0, 0, []), (2, 41, 0, []), (0, 0, 0, []), (85, 94, 118, [2, 0, 17]), (0, 0, 0, []), (0, 0, 0, []), (48, 52, 0, []), (0, 0, 0, []), (0, 0, 0, []), (12, 0, 0, []), (85, 106, 120, [1, 0, 17]), (0, 0, 0, []), (0, 0, 0, []), (48, 52, 0, []), (0, 0, 0, []), (0, 0, 0, []), (1, 1, 0, []), (60, 53, 0, []), (0, 0, 0, []), (0, 0, 0, []), (1, 0, 0, []), (94, 0, 0, []), (12, 0, 0, []), (85, 93, 110, [1, 0, 17]), (0, 0, 0, []), (0, 0, 0, []), (14, 1, 0, []), (8, 1, 0, []), (2, 27, 0, []), (0, 0, 0, []), (54, 71, 0, []), (0, 0, 0, []), (0, 0, 0, []), (8, 1, 0, []), (2, 28, 0, []), (0, 0, 0, []), (55, 77, 0, []), (0, 0, 0, []), (0, 0, 0, []), (12, 0, 0, []), (8, 1, 0, []), (85, 115, 126, [2, 0, 17]), (0, 0, 0, []), (0, 0, 0, []), (94, 0, 0, []), (8, 1, 0, []), (2, 22, 0, []), (0, 0, 0, []), (55, 96, 0, []), (0, 0, 0, []), (0, 0, 0, []), (12, 0, 0, []), (64, 4, 89, [7, 0]), (0, 0, 0, []), (0, 0, 0, []), (1, 2, 0, []), (55, 96, 0, []), (0, 0, 0, []), (0, 0, 0, []), (12, 0, 0, []), (85, 116, 127, [1, 0, 17]), (0, 0, 0, []), (0, 0, 0, []), (94, 0, 0, []), (12, 0, 0, []), (64, 6, 86, [7, 0]), (0, 0, 0, []), (0, 0, 0, []), (1, 2, 0, []), (55, 111, 0, []), (0, 0, 0, []), (0, 0, 0, []), (12, 0, 0, []), (85, 97, 111, [1, 0, 17]), (0, 0, 0, []), (0, 0, 0, []), (60, 116, 0, []), (0, 0, 0, []), (0, 0, 0, []), (12, 0, 0, []), (8, 1, 0, []), (85, 117, 128, [2, 0, 17]), (0, 0, 0, []), (0, 0, 0, []), (14, 2, 0, []), (8, 2, 0, []), (1, -1, 0, []), (55, 124, 0, []), (0, 0, 0, []), (0, 0, 0, []), (1, 0, 0, []), (94, 0, 0, []), (12, 0, 0, []), (8, 2, 0, []), (85, 102, 113, [2, 99, 17]), (0, 0, 0, []), (0, 0, 0, []), (12, 0, 0, []), (85, 90, 103, [1, 99, 17]), (0, 0, 0, []), (0, 0, 0, []), (1, 1, 0, []), (94, 0, 0, [])]
def k115 : List jI := [(12, 0, 0, []), (85, 90, 103, [1, 99, 17]), (0, 0, 0, []), (0, 0, 0, []), (12, 0, 0, []), (2, 40, 0, []), (0, 0, 0, []), (85, 92, 108, [2, 0, 17]), (0, 0, 0, []), (0, 0, 0, []), (49, 19, 0, []), (0, 0, 0, []), (0, 0, 0, []), (12, 0, 0, []), (1, 1, 0, []), (85, 87, 109, [2, 0, 17]), (0, 0, 0, []), (0, 0, 0, []), (94, 0, 0, []), (12, 0, 0, []), (85, 105, 117, [1, 0, 17]), (0, 0, 0, []), (0, 0, 0, []), (48, 67, 0, []), (0, 0, 0, []), (0, 0, 0, []), (12, 0, 0, []), (2, 40, 0, []), (0, 0, 0, []), (85, 94, 118, [2, 0, 17]), (0, 0, 0, []), (0, 0, 0, []), (48, 67, 0, []), (0, 0, 0, []), (0, 0, 0, []), (12, 0, 0, []), (85, 112, 121, [1, 0, 17]), (0, 0, 0, []), (0, 0, 0, []), (48, 67, 0, []), (0, 0, 0, []), (0, 0, 0, []), (12, 0, 0, []), (2, 44, 0, []), (0, 0, 0, []), (85, 94, 118, [2, 0, 17]), (0, 0, 0, []), (0, 0, 0, []), (48, 67, 0, []), (0, 0, 0, []), (0, 0, 0, []), (12, 0, 0, []), (85, 112, 121, [1, 0, 17]), (0, 0, 0, []), (0, 0, 0, []), (48, 67, 0, []), (0, 0, 0, []), (0, 0, 0, []), (12, 0, 0, []), (2, 41, 0, []), (0, 0, 0, []), (85, 94, 118, [2, 0, 17]), (0, 0, 0, []), (0, 0, 0, []), (49, 69, 0, []), (0, 0, 0, []), (0, 0, 0, []), (1, 0, 0, []), (94, 0, 0, []), (12, 0, 0, []), (8, 1, 0, []), (2, 27, 0, []), (0, 0, 0, []), (55, 82, 0, []), (0, 0, 0, []), (0, 0, 0, []), (3, 10012, 0, []), (0, 0, 0, []), (0, 0, 0, []), (60, 85, 0, []), (0, 0, 0, []), (0, 0, 0, []), (3, 10013, 0, []), (0, 0, 0, []), (0, 0, 0, []), (85, 102, 113, [2, 99, 17]), (0, 0, 0, []), (0, 0, 0, []), (12, 0, 0, []), (85, 106, 120, [1, 0, 17]), (0, 0, 0, []), (0, 0, 0, []), (94, 0, 0, [])]
def k116 : List jI := [(12, 0, 0, []), (85, 105, 117, [1, 0, 17]), (0, 0, 0, []), (0, 0, 0, []), (48, 23, 0, []), (0, 0, 0, []), (0, 0, 0, []), (12, 0, 0, []), (2, 22, 0, []), (0, 0, 0, []), (85, 95, 123, [2, 0, 17]), (0, 0, 0, []), (0, 0, 0, []), (48, 23, 0, []), (0, 0, 0, []), (0, 0, 0, []), (12, 0, 0, []), (85, 114, 125, [1, 0, 17]), (0, 0, 0, []), (0, 0, 0, []), (49, 25, 0, []), (0, 0, 0, []), (0, 0, 0, []), (1, 0, 0, []), (94, 0, 0, []), (12, 0, 0, []), (3, 10002, 0, []), (0, 0, 0, []), (0, 0, 0, []), (85, 102, 113, [2, 99, 17]), (0, 0, 0, []), (0, 0, 0, []), (12, 0, 0, []), (85, 106, 120, [1, 0, 17]), (0, 0, 0, []), (0, 0, 0, []), (94, 0, 0, [])]
def k117 : List jI := [(12, 0, 0, []), (64, 4, 89, [7, 0]), (0, 0, 0, []), (0, 0, 0, []), (1, 1, 0, []), (55, 15, 0, []), (0, 0, 0, []), (0, 0, 0, []), (8, 1, 0, []), (89, 118, 129, [1, 0]), (0, 0, 0, []), (0, 0, 0, []), (60, 19, 0, []), (0, 0, 0, []), (0, 0, 0, []), (8, 1, 0, []), (89, 119, 130, [1, 0]), (0, 0, 0, []), (0, 0, 0, []), (14, 2, 0, []), (8, 2, 0, []), (1, -1, 0, []), (55, 38, 0, []), (0, 0, 0, []), (0, 0, 0, []), (12, 0, 0, []), (64, 4, 89, [7, 0]), (0, 0, 0, []), (0, 0, 0, []), (1, 2, 0, []), (55, 38, 0, []), (0, 0, 0, []), (0, 0, 0, []), (8, 1, 0, []), (89, 120, 131, [1, 0]), (0, 0, 0, []), (0, 0, 0, []), (14, 2, 0, []), (8, 2, 0, []), (1, -1, 0, []), (55, 51, 0, []), (0, 0, 0, []), (0, 0, 0, []), (12, 0, 0, []), (1, 1, 0, []), (85, 87, 109, [2, 0, 17]), (0, 0, 0, []), (0, 0, 0, []), (47, 0, 0, []), (1, -1, 0, []), (91, 0, 0, []), (3, 20000, 0, []), (0, 0, 0, []), (0, 0, 0, []), (8, 2, 0, []), (21, 0, 0, []), (91, 0, 0, [])]
def k118 : List jI := [(8, 0, 0, []), (62, 44, 15, [42, 44, 44, 36, 39]), (0, 0, 0, []), (0, 0, 0, []), (0, 0, 0, []), (0, 0, 0, []), (0, 0, 0, []), (0, 0, 0, []), (0, 0, 0, []), (0, 0, 0, []), (0, 0, 0, []), (0, 0, 0, []), (0, 0, 0, []), (0, 0, 0, []), (0, 0, 0, []), (0, 0, 0, []), (0, 0, 0, []), (0, 0, 0, []), (0, 0, 0, []), (0, 0, 0, []), (0, 0, 0, []), (0, 0, 0, []), (0, 0, 0, []), (0, 0, 0, []), (0, 0, 0, []), (0, 0, 0, []), (0, 0, 0, []), (0, 0, 0, []), (0, 0, 0, []), (0, 0, 0, []), (0, 0, 0, []), (0, 0, 0, []), (0, 0, 0, []), (0, 0, 0, []), (0, 0, 0, []), (0, 0, 0, []), (2, 8, 0, []), (0, 0, 0, []), (91, 0, 0, []), (2, 9, 0, []), (0, 0, 0, []), (91, 0, 0, []), (1, 2, 0, []), (91, 0, 0, []), (1, -1, 0, []), (91, 0, 0, [])]
def k119 : List jI := [(8, 0, 0, []), (62, 89, 3, [80, 82, 89, 89, 89, 89, 89, 89, 89, 89, 89, 76, 78, 84, 86]), (0, 0, 0, []), (0, 0, 0, []), (0, 0, 0, []), (0, 0, 0, []), (0, 0, 0, []), (0, 0, 0, []), (0, 0, 0, []), (0, 0, 0, []), (0, 0, 0, []), (0, 0, 0, []), (0, 0, 0, []), (0, 0, 0, []), (0, 0, 0, []), (0, 0, 0, []), (0, 0, 0, []), (0, 0, 0, []), (0, 0, 0, []), (0, 0, 0, []), (0, 0, 0, []), (0, 0, 0, []), (0, 0, 0, []), (0, 0, 0, []), (0, 0, 0, []), (0, 0, 0, []), (0, 0, 0, []), (0, 0, 0, []), (0, 0, 0, []), (0, 0, 0, []), (0, 0, 0, []), (0, 0, 0, []), (0, 0, 0, []), (0, 0, 0, []), (0, 0, 0, []), (0, 0, 0, []), (0, 0, 0, []), (0, 0, 0, []), (0, 0, 0, []), (0, 0, 0, []), (0, 0, 0, []), (0, 0, 0, []), (0, 0, 0, []), (0, 0, 0, []), (0, 0, 0, []), (0, 0, 0, []), (0, 0, 0, []), (0, 0, 0, []), (0, 0, 0, []), (0, 0, 0, []), (0, 0, 0, []), (0, 0, 0, []), (0, 0, 0, []), (0, 0, 0, []), (0, 0, 0, []), (0, 0, 0, []), (0, 0, 0, []), (0, 0, 0, []), (0, 0, 0, []), (0, 0, 0, []), (0, 0, 0, []), (0, 0, 0, []), (0, 0, 0, []), (0, 0, 0, []), (0, 0, 0, []), (0, 0, 0, []), (0, 0, 0, []), (0, 0, 0, []), (0, 0, 0, []), (0, 0, 0, []), (0, 0, 0, []), (0, 0, 0, []), (0, 0, 0, []), (0, 0, 0, []), (0, 0, 0, []), (0, 0, 0, []), (1, 1, 0, []), (91, 0, 0, []), (1, 2, 0, []), (91, 0, 0, []), (1, 3, 0, []), (91, 0, 0, []), (1, 4, 0, []), (91, 0, 0, []), (1, 5, 0, []), (91, 0, 0, []), (2, 6, 0, []), (0, 0, 0, []), (91, 0, 0, []), (1, -1, 0, []), (91, 0, 0, [])]
def k120 : List jI := [(8, 0, 0, []), (62, 43, 18, [37, 40, 34, 32]), (0, 0, 0, []), (0, 0, 0, []), (0, 0, 0, []), (0, 0, 0, []), (0, 0, 0, []), (0, 0, 0, []), (0, 0, 0, []), (0, 0, 0, []), (0, 0, 0, []), (0, 0, 0, []), (0, 0, 0, []), (0, 0, 0, []), (0, 0, 0, []), (0, 0, 0, []), (0, 0, 0, []), (0, 0, 0, []), (0, 0, 0, []), (0, 0, 0, []), (0, 0, 0, []), (0, 0, 0, []), (0, 0, 0, []), (0, 0, 0, []), (0, 0, 0, []), (0, 0, 0, []), (0, 0, 0, []), (0, 0, 0, []), (0, 0, 0, []), (0, 0, 0, []), (0, 0, 0, []), (0, 0, 0, []), (1, 0, 0, []), (91, 0, 0, []), (2, 7, 0, []), (0, 0, 0, []), (91, 0, 0, []), (2, 8, 0, []), (0, 0, 0, []), (91, 0, 0, []), (2, 9, 0, []), (0, 0, 0, []), (91, 0, 0, []), (1, -1, 0, []), (91, 0, 0, [])]
def k121 : List jI := [(12, 0, 0, []), (90, 0, 3, []), (0, 0, 0, []), (0, 0, 0, []), (12, 0, 0, []), (1, 3, 0, []), (83, 18, 9, []), (0, 0, 0, []), (0, 0, 0, []), (69, 2, 90, [8, 28]), (0, 0, 0, []), (0, 0, 0, []), (12, 0, 0, []), (1, 3, 0, []), (82, 14, 0, []), (0, 0, 0, []), (69, 3, 91, [8, 24]), (0, 0, 0, []), (0, 0, 0, []), (12, 0, 0, []), (1, 3, 0, []), (82, 14, 0, []), (0, 0, 0, []), (69, 4, 92, [8, 24]), (0, 0, 0, []), (0, 0, 0, []), (12, 0, 0, []), (1, 4, 0, []), (1, 3, 0, []), (84, 0, 24, []), (0, 0, 0, []), (0, 0, 0, []), (0, 0, 0, []), (69, 5, 93, [8, 29]), (0, 0, 0, []), (0, 0, 0, []), (12, 0, 0, []), (12, 1, 0, []), (69, 0, 94, [8, 14]), (0, 0, 0, []), (0, 0, 0, []), (12, 0, 0, []), (12, 2, 0, []), (69, 1, 95, [8, 11]), (0, 0, 0, []), (0, 0, 0, []), (1, 0, 0, []), (14, 3, 0, []), (8, 3, 0, []), (12, 0, 0, []), (65, 2, 90, [8, 28]), (0, 0, 0, []), (0, 0, 0, []), (80, 0, 0, []), (57, 84, 0, []), (0, 0, 0, []), (0, 0, 0, []), (12, 0, 0, []), (65, 2, 90, [8, 28]), (0, 0, 0, []), (0, 0, 0, []), (8, 3, 0, []), (81, 3, 9, [7]), (0, 0, 0, []), (0, 0, 0, []), (45, 0, 0, []), (12, 1, 0, []), (81, 1, 37, [5]), (0, 0, 0, []), (0, 0, 0, []), (45, 0, 0, []), (88, 10, 5, [1, 99, 11]), (0, 0, 0, []), (0, 0, 0, []), (87, 26, 132, [3, 99, 13]), (0, 0, 0, []), (0, 0, 0, []), (79, 28, 13, []), (20, 3, 1, []), (0, 0, 0, []), (0, 0, 0, []), (60, 48, 0, []), (0, 0, 0, []), (0, 0, 0, []), (12, 0, 0, []), (1, -1, 0, []), (66, 9, 96, [8, 0]), (0, 0, 0, []), (0, 0, 0, []), (12, 0, 0, []), (1, -1, 0, []), (66, 10, 97, [8, 0]), (0, 0, 0, []), (0, 0, 0, []), (95, 0, 0, [])]
def k122 : List jI := [(12, 0, 0, []), (1, -1, 0, []), (66, 9, 96, [8, 0]), (0, 0, 0, []), (0, 0, 0, []), (12, 0, 0, []), (1, -1, 0, []), (66, 10, 97, [8, 0]), (0, 0, 0, []), (0, 0, 0, []), (95, 0, 0, [])]
def k123 : List jI := [(12, 0, 0, []), (12, 1, 0, []), (85, 124, 133, [2, 0, 18]), (0, 0, 0, []), (0, 0, 0, []), (48, 14, 0, []), (0, 0, 0, []), (0, 0, 0, []), (12, 2, 0, []), (80, 0, 0, []), (1, 3, 0, []), (57, 16, 0, []), (0, 0, 0, []), (0, 0, 0, []), (1, -1, 0, []), (91, 0, 0, []), (12, 0, 0, []), (65, 2, 90, [8, 28]), (0, 0, 0, []), (0, 0, 0, []), (1, 0, 0, []), (74, 28, 13, []), (18, 3, 0, []), (12, 3, 0, []), (65, 1, 98, [3, 11]), (0, 0, 0, []), (0, 0, 0, []), (12, 0, 0, []), (65, 1, 95, [8, 11]), (0, 0, 0, []), (0, 0, 0, []), (85, 12, 134, [2, 99, 11]), (0, 0, 0, []), (0, 0, 0, []), (1, 0, 0, []), (15, 4, 0, []), (0, 0, 0, []), (1, 0, 0, []), (15, 5, 0, []), (0, 0, 0, []), (1, 0, 0, []), (15, 6, 0, []), (0, 0, 0, []), (1, 0, 0, []), (15, 7, 0, []), (0, 0, 0, []), (9, 7, 0, []), (0, 0, 0, []), (12, 1, 0, []), (85, 143, 135, [1, 0, 20]), (0, 0, 0, []), (0, 0, 0, []), (57, 121, 0, []), (0, 0, 0, []), (0, 0, 0, []), (9, 5, 0, []), (0, 0, 0, []), (49, 121, 0, []), (0, 0, 0, []), (0, 0, 0, []), (12, 3, 0, []), (85, 27, 136, [1, 99, 13]), (0, 0, 0, []), (0, 0, 0, []), (12, 3, 0, []), (12, 1, 0, []), (9, 7, 0, []), (0, 0, 0, []), (85, 144, 137, [2, 0, 20]), (0, 0, 0, []), (0, 0, 0, []), (85, 30, 138, [2, 0, 13]), (0, 0, 0, []), (0, 0, 0, []), (15, 5, 0, []), (0, 0, 0, []), (9, 5, 0, []), (0, 0, 0, []), (49, 115, 0, []), (0, 0, 0, []), (0, 0, 0, []), (12, 3, 0, []), (12, 1, 0, []), (9, 7, 0, []), (0, 0, 0, []), (85, 144, 137, [2, 0, 20]), (0, 0, 0, []), (0, 0, 0, []), (85, 40, 139, [2, 0, 13]), (0, 0, 0, []), (0, 0, 0, []), (15, 8, 0, []), (0, 0, 0, []), (12, 3, 0, []), (12, 1, 0, []), (9, 7, 0, []), (0, 0, 0, []), (85, 144, 137, [2, 0, 20]), (0, 0, 0, []), (0, 0, 0, []), (9, 8, 0, []), (0, 0, 0, []), (85, 41, 140, [3, 99, 13]), (0, 0, 0, []), (0, 0, 0, []), (9, 6, 0, []), (0, 0, 0, []), (9, 8, 0, []), (0, 0, 0, []), (21, 0, 0, []), (15, 6, 0, []), (0, 0, 0, []), (20, 4, 1, []), (0, 0, 0, []), (0, 0, 0, []), (20, 7, 1, []), (0, 0, 0, []), (0, 0, 0, []), (60, 46, 0, []), (0, 0, 0, []), (0, 0, 0, []), (12, 2, 0, []), (1, 0, 0, []), (9, 5, 0, []), (0, 0, 0, []), (75, 0, 0, []), (12, 2, 0, []), (1, 1, 0, []), (9, 6, 0, []), (0, 0, 0, []), (75, 0, 0, []), (12, 2, 0, []), (1, 2, 0, []), (12, 3, 0, []), (65, 1, 98, [3, 11]), (0, 0, 0, []), (0, 0, 0, []), (1, 3, 0, []), (85, 15, 141, [2, 0, 11]), (0, 0, 0, []), (0, 0, 0, []), (12, 0, 0, []), (65, 1, 95, [8, 11]), (0, 0, 0, []), (0, 0, 0, []), (1, 3, 0, []), (85, 15, 141, [2, 0, 11]), (0, 0, 0, []), (0, 0, 0, []), (22, 0, 0, []), (75, 0, 0, []), (9, 4, 0, []), (0, 0, 0, []), (91, 0, 0, [])]
def k124 : List jI := [(12, 1, 0, []), (85, 143, 135, [1, 0, 20]), (0, 0, 0, []), (0, 0, 0, []), (2, 48, 0, []), (0, 0, 0, []), (59, 11, 0, []), (0, 0, 0, []), (0, 0, 0, []), (1, 0, 0, []), (94, 0, 0, []), (1, 0, 0, []), (14, 2, 0, []), (8, 2, 0, []), (12, 1, 0, []), (85, 143, 135, [1, 0, 20]), (0, 0, 0, []), (0, 0, 0, []), (57, 44, 0, []), (0, 0, 0, []), (0, 0, 0, []), (12, 0, 0, []), (65, 0, 94, [8, 14]), (0, 0, 0, []), (0, 0, 0, []), (12, 1, 0, []), (8, 2, 0, []), (85, 144, 137, [2, 0, 20]), (0, 0, 0, []), (0, 0, 0, []), (85, 56, 142, [2, 0, 14]), (0, 0, 0, []), (0, 0, 0, []), (49, 38, 0, []), (0, 0, 0, []), (0, 0, 0, []), (1, 0, 0, []), (94, 0, 0, []), (20, 2, 1, []), (0, 0, 0, []), (0, 0, 0, []), (60, 13, 0, []), (0, 0, 0, []), (0, 0, 0, []), (1, 1, 0, []), (94, 0, 0, [])]
def k125 : List jI := [(8, 1, 0, []), (12, 0, 0, []), (64, 9, 96, [8, 0]), (0, 0, 0, []), (0, 0, 0, []), (54, 46, 0, []), (0, 0, 0, []), (0, 0, 0, []), (12, 0, 0, []), (1, 0, 0, []), (66, 6, 99, [8, 0]), (0, 0, 0, []), (0, 0, 0, []), (12, 0, 0, []), (1, 0, 0, []), (66, 7, 100, [8, 0]), (0, 0, 0, []), (0, 0, 0, []), (12, 0, 0, []), (65, 2, 90, [8, 28]), (0, 0, 0, []), (0, 0, 0, []), (1, 0, 0, []), (74, 28, 13, []), (65, 1, 98, [3, 11]), (0, 0, 0, []), (0, 0, 0, []), (12, 0, 0, []), (65, 1, 95, [8, 11]), (0, 0, 0, []), (0, 0, 0, []), (85, 12, 134, [2, 99, 11]), (0, 0, 0, []), (0, 0, 0, []), (12, 0, 0, []), (1, 0, 0, []), (8, 1, 0, []), (1, 0, 0, []), (85, 126, 143, [4, 99, 18]), (0, 0, 0, []), (0, 0, 0, []), (12, 0, 0, []), (8, 1, 0, []), (66, 9, 96, [8, 0]), (0, 0, 0, []), (0, 0, 0, []), (12, 0, 0, []), (64, 6, 99, [8, 0]), (0, 0, 0, []), (0, 0, 0, []), (49, 55, 0, []), (0, 0, 0, []), (0, 0, 0, []), (1, -1, 0, []), (91, 0, 0, []), (8, 2, 0, []), (1, -1, 0, []), (55, 65, 0, []), (0, 0, 0, []), (0, 0, 0, []), (12, 0, 0, []), (64, 7, 100, [8, 0]), (0, 0, 0, []), (0, 0, 0, []), (91, 0, 0, []), (8, 2, 0, []), (2, 20, 0, []), (0, 0, 0, []), (55, 76, 0, []), (0, 0, 0, []), (0, 0, 0, []), (12, 0, 0, []), (64, 6, 99, [8, 0]), (0, 0, 0, []), (0, 0, 0, []), (91, 0, 0, []), (8, 2, 0, []), (50, 106, 0, []), (0, 0, 0, []), (0, 0, 0, []), (8, 2, 0, []), (12, 0, 0, []), (64, 6, 99, [8, 0]), (0, 0, 0, []), (0, 0, 0, []), (57, 106, 0, []), (0, 0, 0, []), (0, 0, 0, []), (8, 2, 0, []), (12, 0, 0, []), (65, 4, 92, [8, 24]), (0, 0, 0, []), (0, 0, 0, []), (80, 0, 0, []), (57, 106, 0, []), (0, 0, 0, []), (0, 0, 0, []), (12, 0, 0, []), (65, 4, 92, [8, 24]), (0, 0, 0, []), (0, 0, 0, []), (8, 2, 0, []), (70, 0, 0, []), (60, 107, 0, []), (0, 0, 0, []), (0, 0, 0, []), (1, -1, 0, []), (91, 0, 0, [])]
def k126 : List jI := [(12, 0, 0, []), (8, 1, 0, []), (8, 3, 0, []), (85, 127, 144, [3, 99, 18]), (0, 0, 0, []), (0, 0, 0, []), (8, 1, 0, []), (8, 2, 0, []), (57, 20, 0, []), (0, 0, 0, []), (0, 0, 0, []), (8, 1, 0, []), (12, 0, 0, []), (65, 2, 90, [8, 28]), (0, 0, 0, []), (0, 0, 0, []), (80, 0, 0, []), (56, 21, 0, []), (0, 0, 0, []), (0, 0, 0, []), (95, 0, 0, []), (12, 0, 0, []), (65, 2, 90, [8, 28]), (0, 0, 0, []), (0, 0, 0, []), (8, 1, 0, []), (74, 28, 13, []), (19, 4, 0, []), (0, 0, 0, []), (13, 4, 0, []), (0, 0, 0, []), (85, 27, 136, [1, 99, 13]), (0, 0, 0, []), (0, 0, 0, []), (1, 0, 0, []), (15, 5, 0, []), (0, 0, 0, []), (9, 5, 0, []), (0, 0, 0, []), (12, 0, 0, []), (65, 0, 94, [8, 14]), (0, 0, 0, []), (0, 0, 0, []), (64, 1, 101, [4, 0]), (0, 0, 0, []), (0, 0, 0, []), (57, 113, 0, []), (0, 0, 0, []), (0, 0, 0, []), (13, 4, 0, []), (0, 0, 0, []), (9, 5, 0, []), (0, 0, 0, []), (85, 30, 138, [2, 0, 13]), (0, 0, 0, []), (0, 0, 0, []), (49, 107, 0, []), (0, 0, 0, []), (0, 0, 0, []), (13, 4, 0, []), (0, 0, 0, []), (9, 5, 0, []), (0, 0, 0, []), (85, 39, 145, [2, 0, 13]), (0, 0, 0, []), (0, 0, 0, []), (49, 107, 0, []), (0, 0, 0, []), (0, 0, 0, []), (13, 4, 0, []), (0, 0, 0, []), (9, 5, 0, []), (0, 0, 0, []), (85, 40, 139, [2, 0, 13]), (0, 0, 0, []), (0, 0, 0, []), (15, 6, 0, []), (0, 0, 0, []), (12, 0, 0, []), (65, 3, 91, [8, 24]), (0, 0, 0, []), (0, 0, 0, []), (8, 1, 0, []), (9, 5, 0, []), (0, 0, 0, []), (75, 0, 0, []), (12, 0, 0, []), (8, 1, 0, []), (9, 5, 0, []), (0, 0, 0, []), (9, 6, 0, []), (0, 0, 0, []), (85, 128, 146, [4, 99, 18]), (0, 0, 0, []), (0, 0, 0, []), (12, 0, 0, []), (8, 1, 0, []), (1, 1, 0, []), (21, 0, 0, []), (8, 2, 0, []), (8, 3, 0, []), (9, 6, 0, []), (0, 0, 0, []), (21, 0, 0, []), (85, 126, 143, [4, 99, 18]), (0, 0, 0, []), (0, 0, 0, []), (20, 5, 1, []), (0, 0, 0, []), (0, 0, 0, []), (60, 37, 0, []), (0, 0, 0, []), (0, 0, 0, []), (95, 0, 0, [])]
def k127 : List jI := [(8, 1, 0, []), (12, 0, 0, []), (64, 6, 99, [8, 0]), (0, 0, 0, []), (0, 0, 0, []), (58, 24, 0, []), (0, 0, 0, []), (0, 0, 0, []), (8, 1, 0, []), (12, 0, 0, []), (64, 6, 99, [8, 0]), (0, 0, 0, []), (0, 0, 0, []), (55, 48, 0, []), (0, 0, 0, []), (0, 0, 0, []), (8, 2, 0, []), (12, 0, 0, []), (64, 7, 100, [8, 0]), (0, 0, 0, []), (0, 0, 0, []), (59, 48, 0, []), (0, 0, 0, []), (0, 0, 0, []), (12, 0, 0, []), (8, 1, 0, []), (66, 6, 99, [8, 0]), (0, 0, 0, []), (0, 0, 0, []), (12, 0, 0, []), (8, 2, 0, []), (66, 7, 100, [8, 0]), (0, 0, 0, []), (0, 0, 0, []), (12, 0, 0, []), (65, 3, 91, [8, 24]), (0, 0, 0, []), (0, 0, 0, []), (1, 0, 0, []), (12, 0, 0, []), (65, 4, 92, [8, 24]), (0, 0, 0, []), (0, 0, 0, []), (1, 0, 0, []), (1, 3, 0, []), (97, 0, 115, []), (0, 0, 0, []), (0, 0, 0, []), (95, 0, 0, [])]
def k128 : List jI := [(8, 1, 0, []), (1, 1, 0, []), (21, 0, 0, []), (12, 0, 0, []), (65, 2, 90, [8, 28]), (0, 0, 0, []), (0, 0, 0, []), (80, 0, 0, []), (57, 47, 0, []), (0, 0, 0, []), (0, 0, 0, []), (12, 0, 0, []), (65, 2, 90, [8, 28]), (0, 0, 0, []), (0, 0, 0, []), (8, 1, 0, []), (1, 1, 0, []), (21, 0, 0, []), (74, 28, 13, []), (65, 1, 98, [3, 11]), (0, 0, 0, []), (0, 0, 0, []), (12, 0, 0, []), (65, 2, 90, [8, 28]), (0, 0, 0, []), (0, 0, 0, []), (8, 1, 0, []), (74, 28, 13, []), (65, 1, 98, [3, 11]), (0, 0, 0, []), (0, 0, 0, []), (85, 12, 134, [2, 99, 11]), (0, 0, 0, []), (0, 0, 0, []), (12, 0, 0, []), (65, 2, 90, [8, 28]), (0, 0, 0, []), (0, 0, 0, []), (8, 1, 0, []), (1, 1, 0, []), (21, 0, 0, []), (74, 28, 13, []), (8, 2, 0, []), (8, 3, 0, []), (85, 41, 140, [3, 99, 13]), (0, 0, 0, []), (0, 0, 0, []), (95, 0, 0, [])]
def k129 : List jI := [(8, 1, 0, []), (12, 0, 0, []), (64, 10, 97, [8, 0]), (0, 0, 0, []), (0, 0, 0, []), (54, 39, 0, []), (0, 0, 0, []), (0, 0, 0, []), (12, 0, 0, []), (65, 2, 90, [8, 28]), (0, 0, 0, []), (0, 0, 0, []), (1, 0, 0, []), (74, 28, 13, []), (65, 1, 98, [3, 11]), (0, 0, 0, []), (0, 0, 0, []), (12, 0, 0, []), (65, 1, 95, [8, 11]), (0, 0, 0, []), (0, 0, 0, []), (85, 12, 134, [2, 99, 11]), (0, 0, 0, []), (0, 0, 0, []), (12, 0, 0, []), (12, 0, 0, []), (1, 0, 0, []), (8, 1, 0, []), (85, 130, 147, [3, 0, 18]), (0, 0, 0, []), (0, 0, 0, []), (66, 8, 102, [8, 0]), (0, 0, 0, []), (0, 0, 0, []), (12, 0, 0, []), (8, 1, 0, []), (66, 10, 97, [8, 0]), (0, 0, 0, []), (0, 0, 0, []), (8, 2, 0, []), (50, 59, 0, []), (0, 0, 0, []), (0, 0, 0, []), (8, 2, 0, []), (1, 3, 0, []), (57, 59, 0, []), (0, 0, 0, []), (0, 0, 0, []), (12, 0, 0, []), (65, 5, 93, [8, 29]), (0, 0, 0, []), (0, 0, 0, []), (1, 0, 0, []), (74, 29, 24, []), (8, 2, 0, []), (70, 0, 0, []), (60, 63, 0, []), (0, 0, 0, []), (0, 0, 0, []), (12, 0, 0, []), (64, 8, 102, [8, 0]), (0, 0, 0, []), (0, 0, 0, []), (91, 0, 0, [])]
def k130 : List jI := [(8, 1, 0, []), (8, 2, 0, []), (57, 14, 0, []), (0, 0, 0, []), (0, 0, 0, []), (8, 1, 0, []), (12, 0, 0, []), (65, 2, 90, [8, 28]), (0, 0, 0, []), (0, 0, 0, []), (80, 0, 0, []), (56, 16, 0, []), (0, 0, 0, []), (0, 0, 0, []), (1, 0, 0, []), (91, 0, 0, []), (12, 0, 0, []), (65, 2, 90, [8, 28]), (0, 0, 0, []), (0, 0, 0, []), (8, 1, 0, []), (74, 28, 13, []), (18, 3, 0, []), (1, 0, 0, []), (15, 4, 0, []), (0, 0, 0, []), (1, 0, 0, []), (15, 5, 0, []), (0, 0, 0, []), (12, 0, 0, []), (65, 5, 93, [8, 29]), (0, 0, 0, []), (0, 0, 0, []), (8, 1, 0, []), (74, 29, 24, []), (2, 100, 0, []), (0, 0, 0, []), (89, 341, 148, [2, 99]), (0, 0, 0, []), (0, 0, 0, []), (12, 3, 0, []), (85, 27, 136, [1, 99, 13]), (0, 0, 0, []), (0, 0, 0, []), (1, 0, 0, []), (15, 6, 0, []), (0, 0, 0, []), (9, 6, 0, []), (0, 0, 0, []), (12, 0, 0, []), (65, 0, 94, [8, 14]), (0, 0, 0, []), (0, 0, 0, []), (64, 1, 101, [4, 0]), (0, 0, 0, []), (0, 0, 0, []), (57, 130, 0, []), (0, 0, 0, []), (0, 0, 0, []), (12, 3, 0, []), (9, 6, 0, []), (0, 0, 0, []), (85, 30, 138, [2, 0, 13]), (0, 0, 0, []), (0, 0, 0, []), (49, 124, 0, []), (0, 0, 0, []), (0, 0, 0, []), (12, 3, 0, []), (9, 6, 0, []), (0, 0, 0, []), (85, 40, 139, [2, 0, 13]), (0, 0, 0, []), (0, 0, 0, []), (15, 7, 0, []), (0, 0, 0, []), (12, 0, 0, []), (8, 1, 0, []), (9, 6, 0, []), (0, 0, 0, []), (9, 7, 0, []), (0, 0, 0, []), (85, 128, 146, [4, 99, 18]), (0, 0, 0, []), (0, 0, 0, []), (9, 7, 0, []), (0, 0, 0, []), (12, 0, 0, []), (8, 1, 0, []), (1, 1, 0, []), (21, 0, 0, []), (8, 2, 0, []), (85, 130, 147, [3, 0, 18]), (0, 0, 0, []), (0, 0, 0, []), (22, 0, 0, []), (15, 8, 0, []), (0, 0, 0, []), (9, 5, 0, []), (0, 0, 0, []), (48, 110, 0, []), (0, 0, 0, []), (0, 0, 0, []), (9, 8, 0, []), (0, 0, 0, []), (9, 4, 0, []), (0, 0, 0, []), (59, 124, 0, []), (0, 0, 0, []), (0, 0, 0, []), (1, 1, 0, []), (15, 5, 0, []), (0, 0, 0, []), (9, 8, 0, []), (0, 0, 0, []), (15, 4, 0, []), (0, 0, 0, []), (12, 0, 0, []), (8, 1, 0, []), (9, 6, 0, []), (0, 0, 0, []), (85, 131, 149, [3, 99, 18]), (0, 0, 0, []), (0, 0, 0, []), (20, 6, 1, []), (0, 0, 0, []), (0, 0, 0, []), (60, 47, 0, []), (0, 0, 0, []), (0, 0, 0, []), (9, 4, 0, []), (0, 0, 0, []), (91, 0, 0, [])]
def k131 : List jI := [(12, 0, 0, []), (65, 5, 93, [8, 29]), (0, 0, 0, []), (0, 0, 0, []), (8, 1, 0, []), (1, 1, 0, []), (21, 0, 0, []), (74, 29, 24, []), (1, 0, 0, []), (12, 0, 0, []), (65, 5, 93, [8, 29]), (0, 0, 0, []), (0, 0, 0, []), (8, 1, 0, []), (74, 29, 24, []), (1, 0, 0, []), (1, 3, 0, []), (97, 0, 115, []), (0, 0, 0, []), (0, 0, 0, []), (12, 0, 0, []), (65, 5, 93, [8, 29]), (0, 0, 0, []), (0, 0, 0, []), (8, 1, 0, []), (74, 29, 24, []), (8, 1, 0, []), (8, 2, 0, []), (75, 0, 0, []), (95, 0, 0, [])]
def k132 : List jI := [(12, 0, 0, []), (90, 0, 3, []), (0, 0, 0, []), (0, 0, 0, []), (12, 0, 0, []), (1, 5, 0, []), (82, 14, 0, []), (0, 0, 0, []), (69, 2, 103, [9, 24]), (0, 0, 0, []), (0, 0, 0, []), (12, 0, 0, []), (1, 5, 0, []), (82, 14, 0, []), (0, 0, 0, []), (69, 3, 104, [9, 24]), (0, 0, 0, []), (0, 0, 0, []), (12, 0, 0, []), (1, 5, 0, []), (82, 14, 0, []), (0, 0, 0, []), (69, 4, 105, [9, 24]), (0, 0, 0, []), (0, 0, 0, []), (12, 0, 0, []), (2, 6, 0, []), (0, 0, 0, []), (82, 14, 0, []), (0, 0, 0, []), (69, 5, 106, [9, 24]), (0, 0, 0, []), (0, 0, 0, []), (12, 0, 0, []), (12, 1, 0, []), (69, 0, 107, [9, 14]), (0, 0, 0, []), (0, 0, 0, []), (12, 0, 0, []), (12, 2, 0, []), (69, 1, 108, [9, 11]), (0, 0, 0, []), (0, 0, 0, []), (95, 0, 0, [])]
def k133 : List jI := [(1, 5, 0, []), (12, 0, 0, []), (65, 0, 107, [9, 14]), (0, 0, 0, []), (0, 0, 0, []), (64, 5, 109, [4, 0]), (0, 0, 0, []), (0, 0, 0, []), (89, 339, 150, [2, 0]), (0, 0, 0, []), (0, 0, 0, []), (91, 0, 0, [])]
def k134 : List jI := [(1, 0, 0, []), (14, 1, 0, []), (8, 1, 0, []), (1, 5, 0, []), (57, 25, 0, []), (0, 0, 0, []), (0, 0, 0, []), (12, 0, 0, []), (1, 0, 0, []), (1, 0, 0, []), (8, 1, 0, []), (85, 136, 151, [4, 0, 19]), (0, 0, 0, []), (0, 0, 0, []), (48, 19, 0, []), (0, 0, 0, []), (0, 0, 0, []), (8, 1, 0, []), (91, 0, 0, []), (20, 1, 1, []), (0, 0, 0, []), (0, 0, 0, []), (60, 2, 0, []), (0, 0, 0, []), (0, 0, 0, []), (12, 0, 0, []), (1, 0, 0, []), (1, 0, 0, []), (1, 5, 0, []), (85, 136, 151, [4, 0, 19]), (0, 0, 0, []), (0, 0, 0, []), (47, 0, 0, []), (1, 5, 0, []), (91, 0, 0, [])]
def k135 : List jI := [(8, 1, 0, []), (50, 18, 0, []), (0, 0, 0, []), (0, 0, 0, []), (8, 1, 0, []), (1, 5, 0, []), (57, 18, 0, []), (0, 0, 0, []), (0, 0, 0, []), (12, 0, 0, []), (65, 2, 103, [9, 24]), (0, 0, 0, []), (0, 0, 0, []), (8, 1, 0, []), (70, 0, 0, []), (60, 19, 0, []), (0, 0, 0, []), (0, 0, 0, []), (1, -1, 0, []), (91, 0, 0, [])]
def k136 : List jI := [(8, 1, 0, []), (12, 0, 0, []), (85, 133, 152, [1, 0, 19]), (0, 0, 0, []), (0, 0, 0, []), (56, 10, 0, []), (0, 0, 0, []), (0, 0, 0, []), (1, 1, 0, []), (94, 0, 0, []), (1, 0, 0, []), (15, 4, 0, []), (0, 0, 0, []), (9, 4, 0, []), (0, 0, 0, []), (8, 2, 0, []), (58, 70, 0, []), (0, 0, 0, []), (0, 0, 0, []), (9, 4, 0, []), (0, 0, 0, []), (8, 3, 0, []), (57, 70, 0, []), (0, 0, 0, []), (0, 0, 0, []), (12, 0, 0, []), (8, 1, 0, []), (9, 4, 0, []), (0, 0, 0, []), (85, 137, 153, [3, 0, 19]), (0, 0, 0, []), (0, 0, 0, []), (48, 64, 0, []), (0, 0, 0, []), (0, 0, 0, []), (12, 0, 0, []), (65, 2, 103, [9, 24]), (0, 0, 0, []), (0, 0, 0, []), (8, 1, 0, []), (9, 4, 0, []), (0, 0, 0, []), (75, 0, 0, []), (12, 0, 0, []), (8, 1, 0, []), (1, 1, 0, []), (21, 0, 0, []), (8, 2, 0, []), (9, 4, 0, []), (0, 0, 0, []), (1, 1, 0, []), (21, 0, 0, []), (89, 337, 154, [2, 0]), (0, 0, 0, []), (0, 0, 0, []), (8, 3, 0, []), (85, 136, 151, [4, 0, 19]), (0, 0, 0, []), (0, 0, 0, []), (48, 64, 0, []), (0, 0, 0, []), (0, 0, 0, []), (1, 1, 0, []), (94, 0, 0, []), (20, 4, 1, []), (0, 0, 0, []), (0, 0, 0, []), (60, 13, 0, []), (0, 0, 0, []), (0, 0, 0, []), (1, 0, 0, []), (94, 0, 0, [])]
def k137 : List jI := [(1, 0, 0, []), (14, 3, 0, []), (8, 3, 0, []), (8, 1, 0, []), (57, 41, 0, []), (0, 0, 0, []), (0, 0, 0, []), (12, 0, 0, []), (65, 2, 103, [9, 24]), (0, 0, 0, []), (0, 0, 0, []), (8, 3, 0, []), (70, 0, 0, []), (8, 2, 0, []), (55, 35, 0, []), (0, 0, 0, []), (0, 0, 0, []), (12, 0, 0, []), (65, 0, 107, [9, 14]), (0, 0, 0, []), (0, 0, 0, []), (65, 12, 110, [4, 24]), (0, 0, 0, []), (0, 0, 0, []), (8, 1, 0, []), (70, 0, 0, []), (8, 3, 0, []), (28, 0, 0, []), (1, 1, 0, []), (30, 0, 0, []), (48, 35, 0, []), (0, 0, 0, []), (0, 0, 0, []), (1, 0, 0, []), (94, 0, 0, []), (20, 3, 1, []), (0, 0, 0, []), (0, 0, 0, []), (60, 2, 0, []), (0, 0, 0, []), (0, 0, 0, []), (1, 1, 0, []), (94, 0, 0, [])]
def k138 : List jI := [(12, 0, 0, []), (1, 0, 0, []), (66, 6, 111, [9, 0]), (0, 0, 0, []), (0, 0, 0, []), (12, 0, 0, []), (65, 5, 106, [9, 24]), (0, 0, 0, []), (0, 0, 0, []), (12, 0, 0, []), (85, 133, 152, [1, 0, 19]), (0, 0, 0, []), (0, 0, 0, []), (1, 0, 0, []), (75, 0, 0, []), (12, 0, 0, []), (85, 133, 152, [1, 0, 19]), (0, 0, 0, []), (0, 0, 0, []), (1, 1, 0, []), (22, 0, 0, []), (14, 2, 0, []), (8, 2, 0, []), (50, 66, 0, []), (0, 0, 0, []), (0, 0, 0, []), (12, 0, 0, []), (65, 5, 106, [9, 24]), (0, 0, 0, []), (0, 0, 0, []), (8, 2, 0, []), (12, 0, 0, []), (65, 5, 106, [9, 24]), (0, 0, 0, []), (0, 0, 0, []), (8, 2, 0, []), (1, 1, 0, []), (21, 0, 0, []), (70, 0, 0, []), (12, 0, 0, []), (65, 0, 107, [9, 14]), (0, 0, 0, []), (0, 0, 0, []), (65, 10, 112, [4, 24]), (0, 0, 0, []), (0, 0, 0, []), (8, 2, 0, []), (70, 0, 0, []), (12, 0, 0, []), (65, 1, 108, [9, 11]), (0, 0, 0, []), (0, 0, 0, []), (65, 1, 113, [1, 24]), (0, 0, 0, []), (0, 0, 0, []), (8, 2, 0, []), (70, 0, 0, []), (23, 0, 0, []), (21, 0, 0, []), (75, 0, 0, []), (20, 2, -1, []), (0, 0, 0, []), (0, 0, 0, []), (60, 22, 0, []), (0, 0, 0, []), (0, 0, 0, []), (12, 0, 0, []), (1, 0, 0, []), (8, 1, 0, []), (85, 140, 155, [3, 99, 19]), (0, 0, 0, []), (0, 0, 0, []), (12, 0, 0, []), (64, 6, 111, [9, 0]), (0, 0, 0, []), (0, 0, 0, []), (91, 0, 0, [])]
def k139 : List jI := [(8, 1, 0, []), (50, 18, 0, []), (0, 0, 0, []), (0, 0, 0, []), (8, 1, 0, []), (1, 5, 0, []), (57, 18, 0, []), (0, 0, 0, []), (0, 0, 0, []), (12, 0, 0, []), (65, 4, 105, [9, 24]), (0, 0, 0, []), (0, 0, 0, []), (8, 1, 0, []), (70, 0, 0, []), (60, 19, 0, []), (0, 0, 0, []), (0, 0, 0, []), (1, -1, 0, []), (91, 0, 0, [])]
def k140 : List jI := [(8, 1, 0, []), (12, 0, 0, []), (85, 133, 152, [1, 0, 19]), (0, 0, 0, []), (0, 0, 0, []), (56, 17, 0, []), (0, 0, 0, []), (0, 0, 0, []), (8, 2, 0, []), (49, 16, 0, []), (0, 0, 0, []), (0, 0, 0, []), (12, 0, 0, []), (85, 141, 156, [1, 99, 19]), (0, 0, 0, []), (0, 0, 0, []), (95, 0, 0, []), (12, 0, 0, []), (65, 0, 107, [9, 14]), (0, 0, 0, []), (0, 0, 0, []), (65, 10, 112, [4, 24]), (0, 0, 0, []), (0, 0, 0, []), (8, 1, 0, []), (70, 0, 0, []), (14, 3, 0, []), (8, 3, 0, []), (53, 41, 0, []), (0, 0, 0, []), (0, 0, 0, []), (8, 2, 0, []), (12, 0, 0, []), (65, 5, 106, [9, 24]), (0, 0, 0, []), (0, 0, 0, []), (8, 1, 0, []), (70, 0, 0, []), (59, 42, 0, []), (0, 0, 0, []), (0, 0, 0, []), (95, 0, 0, []), (1, 0, 0, []), (8, 2, 0, []), (12, 0, 0, []), (65, 5, 106, [9, 24]), (0, 0, 0, []), (0, 0, 0, []), (8, 1, 0, []), (1, 1, 0, []), (21, 0, 0, []), (70, 0, 0, []), (22, 0, 0, []), (89, 337, 154, [2, 0]), (0, 0, 0, []), (0, 0, 0, []), (15, 4, 0, []), (0, 0, 0, []), (12, 0, 0, []), (65, 1, 108, [9, 11]), (0, 0, 0, []), (0, 0, 0, []), (65, 1, 113, [1, 24]), (0, 0, 0, []), (0, 0, 0, []), (8, 1, 0, []), (70, 0, 0, []), (8, 2, 0, []), (8, 3, 0, []), (24, 0, 0, []), (89, 339, 150, [2, 0]), (0, 0, 0, []), (0, 0, 0, []), (15, 5, 0, []), (0, 0, 0, []), (9, 4, 0, []), (0, 0, 0, []), (8, 3, 0, []), (21, 0, 0, []), (1, 1, 0, []), (22, 0, 0, []), (8, 3, 0, []), (24, 0, 0, []), (15, 6, 0, []), (0, 0, 0, []), (9, 6, 0, []), (0, 0, 0, []), (9, 5, 0, []), (0, 0, 0, []), (58, 119, 0, []), (0, 0, 0, []), (0, 0, 0, []), (12, 0, 0, []), (65, 3, 104, [9, 24]), (0, 0, 0, []), (0, 0, 0, []), (8, 1, 0, []), (9, 6, 0, []), (0, 0, 0, []), (75, 0, 0, []), (12, 0, 0, []), (8, 1, 0, []), (1, 1, 0, []), (21, 0, 0, []), (8, 2, 0, []), (9, 6, 0, []), (0, 0, 0, []), (8, 3, 0, []), (23, 0, 0, []), (22, 0, 0, []), (85, 140, 155, [3, 99, 19]), (0, 0, 0, []), (0, 0, 0, []), (20, 6, 1, []), (0, 0, 0, []), (0, 0, 0, []), (60, 85, 0, []), (0, 0, 0, []), (0, 0, 0, []), (95, 0, 0, [])]
def k141 : List jI := [(1, 0, 0, []), (14, 1, 0, []), (8, 1, 0, []), (12, 0, 0, []), (85, 133, 152, [1, 0, 19]), (0, 0, 0, []), (0, 0, 0, []), (57, 50, 0, []), (0, 0, 0, []), (0, 0, 0, []), (12, 0, 0, []), (64, 6, 111, [9, 0]), (0, 0, 0, []), (0, 0, 0, []), (48, 32, 0, []), (0, 0, 0, []), (0, 0, 0, []), (12, 0, 0, []), (65, 3, 104, [9, 24]), (0, 0, 0, []), (0, 0, 0, []), (8, 1, 0, []), (70, 0, 0, []), (12, 0, 0, []), (65, 4, 105, [9, 24]), (0, 0, 0, []), (0, 0, 0, []), (8, 1, 0, []), (70, 0, 0, []), (57, 44, 0, []), (0, 0, 0, []), (0, 0, 0, []), (12, 0, 0, []), (65, 4, 105, [9, 24]), (0, 0, 0, []), (0, 0, 0, []), (8, 1, 0, []), (12, 0, 0, []), (65, 3, 104, [9, 24]), (0, 0, 0, []), (0, 0, 0, []), (8, 1, 0, []), (70, 0, 0, []), (75, 0, 0, []), (20, 1, 1, []), (0, 0, 0, []), (0, 0, 0, []), (60, 2, 0, []), (0, 0, 0, []), (0, 0, 0, []), (12, 0, 0, []), (45, 0, 0, []), (64, 6, 111, [9, 0]), (0, 0, 0, []), (0, 0, 0, []), (1, 1, 0, []), (21, 0, 0, []), (66, 6, 111, [9, 0]), (0, 0, 0, []), (0, 0, 0, []), (95, 0, 0, [])]
def k142 : List jI := [(12, 0, 0, []), (90, 0, 3, []), (0, 0, 0, []), (0, 0, 0, []), (12, 0, 0, []), (1, 0, 0, []), (8, 1, 0, []), (89, 337, 157, [2, 0]), (0, 0, 0, []), (0, 0, 0, []), (82, 14, 0, []), (0, 0, 0, []), (69, 0, 114, [10, 24]), (0, 0, 0, []), (0, 0, 0, []), (12, 0, 0, []), (1, 0, 0, []), (66, 1, 115, [10, 0]), (0, 0, 0, []), (0, 0, 0, []), (95, 0, 0, [])]
def k143 : List jI := [(12, 0, 0, []), (64, 1, 115, [10, 0]), (0, 0, 0, []), (0, 0, 0, []), (91, 0, 0, [])]
def k144 : List jI := [(8, 1, 0, []), (50, 12, 0, []), (0, 0, 0, []), (0, 0, 0, []), (8, 1, 0, []), (12, 0, 0, []), (64, 1, 115, [10, 0]), (0, 0, 0, []), (0, 0, 0, []), (56, 16, 0, []), (0, 0, 0, []), (0, 0, 0, []), (1, -1, 0, []), (60, 22, 0, []), (0, 0, 0, []), (0, 0, 0, []), (12, 0, 0, []), (65, 0, 114, [10, 24]), (0, 0, 0, []), (0, 0, 0, []), (8, 1, 0, []), (70, 0, 0, []), (91, 0, 0, [])]
def k145 : List jI := [(8, 1, 0, []), (50, 17, 0, []), (0, 0, 0, []), (0, 0, 0, []), (8, 1, 0, []), (12, 0, 0, []), (64, 1, 115, [10, 0]), (0, 0, 0, []), (0, 0, 0, []), (58, 17, 0, []), (0, 0, 0, []), (0, 0, 0, []), (12, 0, 0, []), (8, 1, 0, []), (66, 1, 115, [10, 0]), (0, 0, 0, []), (0, 0, 0, []), (95, 0, 0, [])]
def k146 : List jI := [(12, 0, 0, []), (64, 1, 115, [10, 0]), (0, 0, 0, []), (0, 0, 0, []), (12, 0, 0, []), (65, 0, 114, [10, 24]), (0, 0, 0, []), (0, 0, 0, []), (80, 0, 0, []), (57, 36, 0, []), (0, 0, 0, []), (0, 0, 0, []), (12, 0, 0, []), (65, 0, 114, [10, 24]), (0, 0, 0, []), (0, 0, 0, []), (12, 0, 0, []), (64, 1, 115, [10, 0]), (0, 0, 0, []), (0, 0, 0, []), (8, 1, 0, []), (3, 255, 0, []), (0, 0, 0, []), (0, 0, 0, []), (30, 0, 0, []), (75, 0, 0, []), (12, 0, 0, []), (45, 0, 0, []), (64, 1, 115, [10, 0]), (0, 0, 0, []), (0, 0, 0, []), (1, 1, 0, []), (21, 0, 0, []), (66, 1, 115, [10, 0]), (0, 0, 0, []), (0, 0, 0, []), (95, 0, 0, [])]
def k147 : List jI := [(12, 0, 0, []), (8, 1, 0, []), (2, 16, 0, []), (0, 0, 0, []), (29, 0, 0, []), (85, 146, 158, [2, 99, 20]), (0, 0, 0, []), (0, 0, 0, []), (12, 0, 0, []), (8, 1, 0, []), (2, 8, 0, []), (0, 0, 0, []), (29, 0, 0, []), (85, 146, 158, [2, 99, 20]), (0, 0, 0, []), (0, 0, 0, []), (12, 0, 0, []), (8, 1, 0, []), (85, 146, 158, [2, 99, 20]), (0, 0, 0, []), (0, 0, 0, []), (95, 0, 0, [])]
def k148 : List jI := [(12, 0, 0, []), (8, 1, 0, []), (2, 24, 0, []), (0, 0, 0, []), (29, 0, 0, []), (85, 146, 158, [2, 99, 20]), (0, 0, 0, []), (0, 0, 0, []), (12, 0, 0, []), (8, 1, 0, []), (85, 147, 159, [2, 99, 20]), (0, 0, 0, []), (0, 0, 0, []), (95, 0, 0, [])]
def k149 : List jI := [(12, 0, 0, []), (8, 1, 0, []), (85, 144, 160, [2, 0, 20]), (0, 0, 0, []), (0, 0, 0, []), (2, 16, 0, []), (0, 0, 0, []), (27, 0, 0, []), (12, 0, 0, []), (8, 1, 0, []), (1, 1, 0, []), (21, 0, 0, []), (85, 144, 160, [2, 0, 20]), (0, 0, 0, []), (0, 0, 0, []), (2, 8, 0, []), (0, 0, 0, []), (27, 0, 0, []), (21, 0, 0, []), (12, 0, 0, []), (8, 1, 0, []), (1, 2, 0, []), (21, 0, 0, []), (85, 144, 160, [2, 0, 20]), (0, 0, 0, []), (0, 0, 0, []), (21, 0, 0, []), (91, 0, 0, [])]
def k150 : List jI := [(3, 223, 0, []), (0, 0, 0, []), (0, 0, 0, []), (14, 2, 0, []), (1, 0, 0, []), (14, 3, 0, []), (8, 3, 0, []), (8, 1, 0, []), (57, 40, 0, []), (0, 0, 0, []), (0, 0, 0, []), (8, 3, 0, []), (12, 0, 0, []), (64, 1, 115, [10, 0]), (0, 0, 0, []), (0, 0, 0, []), (57, 40, 0, []), (0, 0, 0, []), (0, 0, 0, []), (1, 3, 0, []), (8, 2, 0, []), (23, 0, 0, []), (12, 0, 0, []), (65, 0, 114, [10, 24]), (0, 0, 0, []), (0, 0, 0, []), (8, 3, 0, []), (70, 0, 0, []), (21, 0, 0, []), (3, 251, 0, []), (0, 0, 0, []), (0, 0, 0, []), (25, 0, 0, []), (14, 2, 0, []), (20, 3, 1, []), (0, 0, 0, []), (0, 0, 0, []), (60, 6, 0, []), (0, 0, 0, []), (0, 0, 0, []), (8, 2, 0, []), (91, 0, 0, [])]
def k151 : List jI := [(12, 0, 0, []), (90, 0, 1, []), (0, 0, 0, []), (0, 0, 0, []), (81, 4, 7, [19]), (0, 0, 0, []), (0, 0, 0, []), (45, 0, 0, []), (88, 50, 6, [1, 99, 14]), (0, 0, 0, []), (0, 0, 0, []), (18, 1, 0, []), (81, 4, 7, [19]), (0, 0, 0, []), (0, 0, 0, []), (45, 0, 0, []), (88, 50, 6, [1, 99, 14]), (0, 0, 0, []), (0, 0, 0, []), (18, 2, 0, []), (81, 1, 10, [5]), (0, 0, 0, []), (0, 0, 0, []), (45, 0, 0, []), (88, 10, 7, [1, 99, 11]), (0, 0, 0, []), (0, 0, 0, []), (18, 3, 0, []), (81, 7, 13, [11]), (0, 0, 0, []), (0, 0, 0, []), (45, 0, 0, []), (87, 84, 161, [1, 99, 17]), (0, 0, 0, []), (0, 0, 0, []), (19, 4, 0, []), (0, 0, 0, []), (12, 1, 0, []), (85, 51, 162, [1, 99, 14]), (0, 0, 0, []), (0, 0, 0, []), (12, 2, 0, []), (85, 51, 162, [1, 99, 14]), (0, 0, 0, []), (0, 0, 0, []), (12, 3, 0, []), (12, 1, 0, []), (85, 11, 163, [2, 99, 11]), (0, 0, 0, []), (0, 0, 0, []), (12, 0, 0, []), (81, 10, 23, [2]), (0, 0, 0, []), (0, 0, 0, []), (45, 0, 0, []), (3, 1600, 0, []), (0, 0, 0, []), (0, 0, 0, []), (87, 142, 164, [2, 99, 20]), (0, 0, 0, []), (0, 0, 0, []), (69, 0, 116, [11, 20]), (0, 0, 0, []), (0, 0, 0, []), (12, 0, 0, []), (81, 10, 23, [2]), (0, 0, 0, []), (0, 0, 0, []), (45, 0, 0, []), (2, 61, 0, []), (0, 0, 0, []), (87, 142, 164, [2, 99, 20]), (0, 0, 0, []), (0, 0, 0, []), (69, 1, 117, [11, 20]), (0, 0, 0, []), (0, 0, 0, []), (12, 0, 0, []), (12, 1, 0, []), (69, 2, 118, [11, 14]), (0, 0, 0, []), (0, 0, 0, []), (12, 0, 0, []), (12, 2, 0, []), (69, 3, 119, [11, 14]), (0, 0, 0, []), (0, 0, 0, []), (12, 0, 0, []), (12, 3, 0, []), (69, 4, 120, [11, 11]), (0, 0, 0, []), (0, 0, 0, []), (12, 0, 0, []), (81, 3, 48, [7]), (0, 0, 0, []), (0, 0, 0, []), (45, 0, 0, []), (12, 1, 0, []), (12, 3, 0, []), (87, 26, 165, [3, 99, 13]), (0, 0, 0, []), (0, 0, 0, []), (69, 5, 121, [11, 13]), (0, 0, 0, []), (0, 0, 0, []), (12, 0, 0, []), (81, 2, 57, [3]), (0, 0, 0, []), (0, 0, 0, []), (45, 0, 0, []), (87, 21, 166, [1, 99, 12]), (0, 0, 0, []), (0, 0, 0, []), (69, 6, 122, [11, 12]), (0, 0, 0, []), (0, 0, 0, []), (12, 0, 0, []), (81, 8, 64, [11]), (0, 0, 0, []), (0, 0, 0, []), (45, 0, 0, []), (12, 1, 0, []), (12, 3, 0, []), (87, 121, 167, [3, 99, 18]), (0, 0, 0, []), (0, 0, 0, []), (69, 7, 123, [11, 18]), (0, 0, 0, []), (0, 0, 0, []), (12, 0, 0, []), (81, 0, 71, [4]), (0, 0, 0, []), (0, 0, 0, []), (45, 0, 0, []), (12, 1, 0, []), (87, 0, 168, [2, 99, 10]), (0, 0, 0, []), (0, 0, 0, []), (69, 8, 124, [11, 10]), (0, 0, 0, []), (0, 0, 0, []), (12, 0, 0, []), (81, 9, 79, [7]), (0, 0, 0, []), (0, 0, 0, []), (45, 0, 0, []), (12, 1, 0, []), (12, 3, 0, []), (87, 132, 169, [3, 99, 19]), (0, 0, 0, []), (0, 0, 0, []), (69, 9, 125, [11, 19]), (0, 0, 0, []), (0, 0, 0, []), (12, 0, 0, []), (13, 4, 0, []), (0, 0, 0, []), (69, 10, 126, [11, 17]), (0, 0, 0, []), (0, 0, 0, []), (12, 0, 0, []), (81, 5, 90, [2]), (0, 0, 0, []), (0, 0, 0, []), (45, 0, 0, []), (13, 4, 0, []), (0, 0, 0, []), (12, 2, 0, []), (87, 66, 170, [3, 99, 15]), (0, 0, 0, []), (0, 0, 0, []), (69, 11, 127, [11, 15]), (0, 0, 0, []), (0, 0, 0, []), (12, 0, 0, []), (81, 6, 99, [2]), (0, 0, 0, []), (0, 0, 0, []), (45, 0, 0, []), (13, 4, 0, []), (0, 0, 0, []), (87, 79, 171, [2, 99, 16]), (0, 0, 0, []), (0, 0, 0, []), (69, 12, 128, [11, 16]), (0, 0, 0, []), (0, 0, 0, []), (12, 0, 0, []), (2, 6, 0, []), (0, 0, 0, []), (82, 14, 0, []), (0, 0, 0, []), (69, 13, 129, [11, 24]), (0, 0, 0, []), (0, 0, 0, []), (12, 0, 0, []), (1, 3, 0, []), (82, 14, 0, []), (0, 0, 0, []), (69, 14, 130, [11, 24]), (0, 0, 0, []), (0, 0, 0, []), (12, 0, 0, []), (1, 0, 0, []), (67, 15, 131, [11, 0]), (0, 0, 0, []), (0, 0, 0, []), (12, 0, 0, []), (1, 0, 0, []), (66, 16, 132, [11, 0]), (0, 0, 0, []), (0, 0, 0, []), (12, 0, 0, []), (1, -1, 0, []), (66, 17, 133, [11, 0]), (0, 0, 0, []), (0, 0, 0, []), (12, 0, 0, []), (1, 1, 0, []), (66, 18, 134, [11, 0]), (0, 0, 0, []), (0, 0, 0, []), (95, 0, 0, [])]
def k152 : List jI := [(12, 0, 0, []), (65, 0, 116, [11, 20]), (0, 0, 0, []), (0, 0, 0, []), (85, 143, 172, [1, 0, 20]), (0, 0, 0, []), (0, 0, 0, []), (2, 20, 0, []), (0, 0, 0, []), (21, 0, 0, []), (3, 1600, 0, []), (0, 0, 0, []), (0, 0, 0, []), (59, 22, 0, []), (0, 0, 0, []), (0, 0, 0, []), (12, 0, 0, []), (1, 0, 0, []), (85, 181, 173, [2, 0, 21]), (0, 0, 0, []), (0, 0, 0, []), (91, 0, 0, []), (12, 0, 0, []), (65, 0, 116, [11, 20]), (0, 0, 0, []), (0, 0, 0, []), (8, 1, 0, []), (85, 148, 174, [2, 99, 20]), (0, 0, 0, []), (0, 0, 0, []), (12, 0, 0, []), (65, 0, 116, [11, 20]), (0, 0, 0, []), (0, 0, 0, []), (8, 2, 0, []), (85, 148, 174, [2, 99, 20]), (0, 0, 0, []), (0, 0, 0, []), (12, 0, 0, []), (65, 0, 116, [11, 20]), (0, 0, 0, []), (0, 0, 0, []), (8, 3, 0, []), (85, 148, 174, [2, 99, 20]), (0, 0, 0, []), (0, 0, 0, []), (12, 0, 0, []), (65, 0, 116, [11, 20]), (0, 0, 0, []), (0, 0, 0, []), (9, 4, 0, []), (0, 0, 0, []), (85, 148, 174, [2, 99, 20]), (0, 0, 0, []), (0, 0, 0, []), (12, 0, 0, []), (65, 0, 116, [11, 20]), (0, 0, 0, []), (0, 0, 0, []), (9, 5, 0, []), (0, 0, 0, []), (85, 148, 174, [2, 99, 20]), (0, 0, 0, []), (0, 0, 0, []), (12, 0, 0, []), (65, 0, 116, [11, 20]), (0, 0, 0, []), (0, 0, 0, []), (85, 143, 172, [1, 0, 20]), (0, 0, 0, []), (0, 0, 0, []), (91, 0, 0, [])]
def k153 : List jI := [(8, 1, 0, []), (50, 15, 0, []), (0, 0, 0, []), (0, 0, 0, []), (8, 1, 0, []), (12, 0, 0, []), (65, 0, 116, [11, 20]), (0, 0, 0, []), (0, 0, 0, []), (85, 143, 172, [1, 0, 20]), (0, 0, 0, []), (0, 0, 0, []), (59, 23, 0, []), (0, 0, 0, []), (0, 0, 0, []), (12, 0, 0, []), (1, 0, 0, []), (85, 181, 173, [2, 0, 21]), (0, 0, 0, []), (0, 0, 0, []), (47, 0, 0, []), (1, 0, 0, []), (94, 0, 0, []), (12, 0, 0, []), (65, 0, 116, [11, 20]), (0, 0, 0, []), (0, 0, 0, []), (8, 1, 0, []), (85, 145, 175, [2, 99, 20]), (0, 0, 0, []), (0, 0, 0, []), (1, 1, 0, []), (94, 0, 0, [])]
def k154 : List jI := [(12, 0, 0, []), (65, 11, 127, [11, 15]), (0, 0, 0, []), (0, 0, 0, []), (12, 0, 0, []), (65, 0, 116, [11, 20]), (0, 0, 0, []), (0, 0, 0, []), (85, 67, 176, [2, 0, 15]), (0, 0, 0, []), (0, 0, 0, []), (14, 1, 0, []), (12, 0, 0, []), (65, 0, 116, [11, 20]), (0, 0, 0, []), (0, 0, 0, []), (1, 0, 0, []), (85, 145, 175, [2, 99, 20]), (0, 0, 0, []), (0, 0, 0, []), (12, 0, 0, []), (85, 182, 177, [1, 99, 21]), (0, 0, 0, []), (0, 0, 0, []), (8, 1, 0, []), (49, 34, 0, []), (0, 0, 0, []), (0, 0, 0, []), (12, 0, 0, []), (1, 1, 0, []), (85, 181, 173, [2, 0, 21]), (0, 0, 0, []), (0, 0, 0, []), (91, 0, 0, []), (12, 0, 0, []), (65, 2, 118, [11, 14]), (0, 0, 0, []), (0, 0, 0, []), (12, 0, 0, []), (65, 3, 119, [11, 14]), (0, 0, 0, []), (0, 0, 0, []), (85, 52, 178, [2, 99, 14]), (0, 0, 0, []), (0, 0, 0, []), (12, 0, 0, []), (65, 4, 120, [11, 11]), (0, 0, 0, []), (0, 0, 0, []), (12, 0, 0, []), (65, 2, 118, [11, 14]), (0, 0, 0, []), (0, 0, 0, []), (85, 11, 163, [2, 99, 11]), (0, 0, 0, []), (0, 0, 0, []), (12, 0, 0, []), (65, 8, 124, [11, 10]), (0, 0, 0, []), (0, 0, 0, []), (85, 1, 179, [1, 99, 10]), (0, 0, 0, []), (0, 0, 0, []), (12, 0, 0, []), (65, 6, 122, [11, 12]), (0, 0, 0, []), (0, 0, 0, []), (85, 23, 180, [1, 99, 12]), (0, 0, 0, []), (0, 0, 0, []), (12, 0, 0, []), (65, 7, 123, [11, 18]), (0, 0, 0, []), (0, 0, 0, []), (85, 122, 181, [1, 99, 18]), (0, 0, 0, []), (0, 0, 0, []), (12, 0, 0, []), (1, 0, 0, []), (67, 15, 131, [11, 0]), (0, 0, 0, []), (0, 0, 0, []), (12, 0, 0, []), (65, 2, 118, [11, 14]), (0, 0, 0, []), (0, 0, 0, []), (64, 0, 135, [4, 0]), (0, 0, 0, []), (0, 0, 0, []), (91, 0, 0, [])]
def k155 : List jI := [(8, 1, 0, []), (63, 38, 0, [0, 28, 1, 33]), (0, 0, 0, []), (0, 0, 0, []), (0, 0, 0, []), (0, 0, 0, []), (0, 0, 0, []), (0, 0, 0, []), (0, 0, 0, []), (0, 0, 0, []), (0, 0, 0, []), (0, 0, 0, []), (0, 0, 0, []), (0, 0, 0, []), (0, 0, 0, []), (0, 0, 0, []), (0, 0, 0, []), (0, 0, 0, []), (0, 0, 0, []), (0, 0, 0, []), (0, 0, 0, []), (0, 0, 0, []), (0, 0, 0, []), (0, 0, 0, []), (0, 0, 0, []), (0, 0, 0, []), (0, 0, 0, []), (0, 0, 0, []), (12, 0, 0, []), (64, 16, 132, [11, 0]), (0, 0, 0, []), (0, 0, 0, []), (91, 0, 0, []), (12, 0, 0, []), (64, 17, 133, [11, 0]), (0, 0, 0, []), (0, 0, 0, []), (91, 0, 0, []), (1, -1, 0, []), (91, 0, 0, [])]
def k156 : List jI := [(8, 1, 0, []), (62, 197, 0, [72, 80, 88, 96, 104, 112, 122, 130, 138, 146, 154, 172, 181, 189]), (0, 0, 0, []), (0, 0, 0, []), (0, 0, 0, []), (0, 0, 0, []), (0, 0, 0, []), (0, 0, 0, []), (0, 0, 0, []), (0, 0, 0, []), (0, 0, 0, []), (0, 0, 0, []), (0, 0, 0, []), (0, 0, 0, []), (0, 0, 0, []), (0, 0, 0, []), (0, 0, 0, []), (0, 0, 0, []), (0, 0, 0, []), (0, 0, 0, []), (0, 0, 0, []), (0, 0, 0, []), (0, 0, 0, []), (0, 0, 0, []), (0, 0, 0, []), (0, 0, 0, []), (0, 0, 0, []), (0, 0, 0, []), (0, 0, 0, []), (0, 0, 0, []), (0, 0, 0, []), (0, 0, 0, []), (0, 0, 0, []), (0, 0, 0, []), (0, 0, 0, []), (0, 0, 0, []), (0, 0, 0, []), (0, 0, 0, []), (0, 0, 0, []), (0, 0, 0, []), (0, 0, 0, []), (0, 0, 0, []), (0, 0, 0, []), (0, 0, 0, []), (0, 0, 0, []), (0, 0, 0, []), (0, 0, 0, []), (0, 0, 0, []), (0, 0, 0, []), (0, 0, 0, []), (0, 0, 0, []), (0, 0, 0, []), (0, 0, 0, []), (0, 0, 0, []), (0, 0, 0, []), (0, 0, 0, []), (0, 0, 0, []), (0, 0, 0, []), (0, 0, 0, []), (0, 0, 0, []), (0, 0, 0, []), (0, 0, 0, []), (0, 0, 0, []), (0, 0, 0, []), (0, 0, 0, []), (0, 0, 0, []), (0, 0, 0, []), (0, 0, 0, []), (0, 0, 0, []), (0, 0, 0, []), (0, 0, 0, []), (0, 0, 0, []), (12, 0, 0, []), (65, 2, 118, [11, 14]), (0, 0, 0, []), (0, 0, 0, []), (64, 2, 136, [4, 0]), (0, 0, 0, []), (0, 0, 0, []), (91, 0, 0, []), (12, 0, 0, []), (65, 2, 118, [11, 14]), (0, 0, 0, []), (0, 0, 0, []), (64, 4, 137, [4, 0]), (0, 0, 0, []), (0, 0, 0, []), (91, 0, 0, []), (12, 0, 0, []), (65, 2, 118, [11, 14]), (0, 0, 0, []), (0, 0, 0, []), (64, 5, 138, [4, 0]), (0, 0, 0, []), (0, 0, 0, []), (91, 0, 0, []), (12, 0, 0, []), (65, 2, 118, [11, 14]), (0, 0, 0, []), (0, 0, 0, []), (64, 6, 139, [4, 0]), (0, 0, 0, []), (0, 0, 0, []), (91, 0, 0, []), (12, 0, 0, []), (65, 2, 118, [11, 14]), (0, 0, 0, []), (0, 0, 0, []), (64, 7, 140, [4, 0]), (0, 0, 0, []), (0, 0, 0, []), (91, 0, 0, []), (12, 0, 0, []), (65, 2, 118, [11, 14]), (0, 0, 0, []), (0, 0, 0, []), (65, 8, 141, [4, 24]), (0, 0, 0, []), (0, 0, 0, []), (1, 0, 0, []), (70, 0, 0, []), (91, 0, 0, []), (12, 0, 0, []), (65, 4, 120, [11, 11]), (0, 0, 0, []), (0, 0, 0, []), (64, 2, 142, [1, 0]), (0, 0, 0, []), (0, 0, 0, []), (91, 0, 0, []), (12, 0, 0, []), (65, 4, 120, [11, 11]), (0, 0, 0, []), (0, 0, 0, []), (85, 17, 182, [1, 0, 11]), (0, 0, 0, []), (0, 0, 0, []), (91, 0, 0, []), (12, 0, 0, []), (65, 4, 120, [11, 11]), (0, 0, 0, []), (0, 0, 0, []), (64, 3, 143, [1, 0]), (0, 0, 0, []), (0, 0, 0, []), (91, 0, 0, []), (12, 0, 0, []), (65, 4, 120, [11, 11]), (0, 0, 0, []), (0, 0, 0, []), (64, 4, 144, [1, 0]), (0, 0, 0, []), (0, 0, 0, []), (91, 0, 0, []), (12, 0, 0, []), (65, 4, 120, [11, 11]), (0, 0, 0, []), (0, 0, 0, []), (1, 1, 0, []), (85, 15, 183, [2, 0, 11]), (0, 0, 0, []), (0, 0, 0, []), (12, 0, 0, []), (65, 4, 120, [11, 11]), (0, 0, 0, []), (0, 0, 0, []), (1, 2, 0, []), (85, 15, 183, [2, 0, 11]), (0, 0, 0, []), (0, 0, 0, []), (21, 0, 0, []), (91, 0, 0, []), (12, 0, 0, []), (65, 4, 120, [11, 11]), (0, 0, 0, []), (0, 0, 0, []), (1, 3, 0, []), (85, 15, 183, [2, 0, 11]), (0, 0, 0, []), (0, 0, 0, []), (91, 0, 0, []), (12, 0, 0, []), (65, 5, 121, [11, 13]), (0, 0, 0, []), (0, 0, 0, []), (85, 32, 184, [1, 0, 13]), (0, 0, 0, []), (0, 0, 0, []), (91, 0, 0, []), (12, 0, 0, []), (65, 6, 122, [11, 12]), (0, 0, 0, []), (0, 0, 0, []), (85, 22, 185, [1, 0, 12]), (0, 0, 0, []), (0, 0, 0, []), (91, 0, 0, []), (1, -1, 0, []), (91, 0, 0, [])]
def k157 : List jI := [(8, 2, 0, []), (50, 14, 0, []), (0, 0, 0, []), (0, 0, 0, []), (8, 3, 0, []), (50, 14, 0, []), (0, 0, 0, []), (0, 0, 0, []), (8, 3, 0, []), (2, 6, 0, []), (0, 0, 0, []), (56, 16, 0, []), (0, 0, 0, []), (0, 0, 0, []), (1, -1, 0, []), (91, 0, 0, []), (8, 1, 0, []), (49, 46, 0, []), (0, 0, 0, []), (0, 0, 0, []), (8, 2, 0, []), (12, 0, 0, []), (65, 2, 118, [11, 14]), (0, 0, 0, []), (0, 0, 0, []), (64, 5, 138, [4, 0]), (0, 0, 0, []), (0, 0, 0, []), (57, 46, 0, []), (0, 0, 0, []), (0, 0, 0, []), (12, 0, 0, []), (65, 2, 118, [11, 14]), (0, 0, 0, []), (0, 0, 0, []), (65, 13, 145, [4, 24]), (0, 0, 0, []), (0, 0, 0, []), (8, 2, 0, []), (2, 6, 0, []), (0, 0, 0, []), (23, 0, 0, []), (8, 3, 0, []), (21, 0, 0, []), (70, 0, 0, []), (91, 0, 0, []), (8, 1, 0, []), (1, 1, 0, []), (55, 77, 0, []), (0, 0, 0, []), (0, 0, 0, []), (8, 2, 0, []), (12, 0, 0, []), (65, 2, 118, [11, 14]), (0, 0, 0, []), (0, 0, 0, []), (64, 6, 139, [4, 0]), (0, 0, 0, []), (0, 0, 0, []), (57, 77, 0, []), (0, 0, 0, []), (0, 0, 0, []), (12, 0, 0, []), (65, 2, 118, [11, 14]), (0, 0, 0, []), (0, 0, 0, []), (65, 14, 146, [4, 24]), (0, 0, 0, []), (0, 0, 0, []), (8, 2, 0, []), (2, 6, 0, []), (0, 0, 0, []), (23, 0, 0, []), (8, 3, 0, []), (21, 0, 0, []), (70, 0, 0, []), (91, 0, 0, []), (1, -1, 0, []), (91, 0, 0, [])]
def k158 : List jI := [(8, 1, 0, []), (50, 15, 0, []), (0, 0, 0, []), (0, 0, 0, []), (8, 1, 0, []), (12, 0, 0, []), (65, 2, 118, [11, 14]), (0, 0, 0, []), (0, 0, 0, []), (64, 5, 138, [4, 0]), (0, 0, 0, []), (0, 0, 0, []), (56, 17, 0, []), (0, 0, 0, []), (0, 0, 0, []), (1, -1, 0, []), (91, 0, 0, []), (8, 2, 0, []), (62, 116, 0, [56, 66, 76, 86, 96, 106]), (0, 0, 0, []), (0, 0, 0, []), (0, 0, 0, []), (0, 0, 0, []), (0, 0, 0, []), (0, 0, 0, []), (0, 0, 0, []), (0, 0, 0, []), (0, 0, 0, []), (0, 0, 0, []), (0, 0, 0, []), (0, 0, 0, []), (0, 0, 0, []), (0, 0, 0, []), (0, 0, 0, []), (0, 0, 0, []), (0, 0, 0, []), (0, 0, 0, []), (0, 0, 0, []), (0, 0, 0, []), (0, 0, 0, []), (0, 0, 0, []), (0, 0, 0, []), (0, 0, 0, []), (0, 0, 0, []), (0, 0, 0, []), (0, 0, 0, []), (0, 0, 0, []), (0, 0, 0, []), (0, 0, 0, []), (0, 0, 0, []), (0, 0, 0, []), (0, 0, 0, []), (0, 0, 0, []), (0, 0, 0, []), (0, 0, 0, []), (0, 0, 0, []), (12, 0, 0, []), (65, 2, 118, [11, 14]), (0, 0, 0, []), (0, 0, 0, []), (65, 10, 147, [4, 24]), (0, 0, 0, []), (0, 0, 0, []), (8, 1, 0, []), (70, 0, 0, []), (91, 0, 0, []), (12, 0, 0, []), (65, 2, 118, [11, 14]), (0, 0, 0, []), (0, 0, 0, []), (65, 11, 148, [4, 24]), (0, 0, 0, []), (0, 0, 0, []), (8, 1, 0, []), (70, 0, 0, []), (91, 0, 0, []), (12, 0, 0, []), (65, 4, 120, [11, 11]), (0, 0, 0, []), (0, 0, 0, []), (65, 1, 149, [1, 24]), (0, 0, 0, []), (0, 0, 0, []), (8, 1, 0, []), (70, 0, 0, []), (91, 0, 0, []), (12, 0, 0, []), (65, 2, 118, [11, 14]), (0, 0, 0, []), (0, 0, 0, []), (65, 12, 150, [4, 24]), (0, 0, 0, []), (0, 0, 0, []), (8, 1, 0, []), (70, 0, 0, []), (91, 0, 0, []), (12, 0, 0, []), (65, 5, 121, [11, 13]), (0, 0, 0, []), (0, 0, 0, []), (8, 1, 0, []), (1, 0, 0, []), (85, 34, 186, [3, 0, 13]), (0, 0, 0, []), (0, 0, 0, []), (91, 0, 0, []), (12, 0, 0, []), (65, 5, 121, [11, 13]), (0, 0, 0, []), (0, 0, 0, []), (8, 1, 0, []), (1, 1, 0, []), (85, 34, 186, [3, 0, 13]), (0, 0, 0, []), (0, 0, 0, []), (91, 0, 0, []), (1, -1, 0, []), (91, 0, 0, [])]
def k159 : List jI := [(12, 0, 0, []), (65, 2, 118, [11, 14]), (0, 0, 0, []), (0, 0, 0, []), (8, 1, 0, []), (85, 56, 187, [2, 0, 14]), (0, 0, 0, []), (0, 0, 0, []), (49, 13, 0, []), (0, 0, 0, []), (0, 0, 0, []), (1, -1, 0, []), (91, 0, 0, []), (8, 2, 0, []), (62, 142, 0, [56, 65, 75, 84, 93, 117, 133]), (0, 0, 0, []), (0, 0, 0, []), (0, 0, 0, []), (0, 0, 0, []), (0, 0, 0, []), (0, 0, 0, []), (0, 0, 0, []), (0, 0, 0, []), (0, 0, 0, []), (0, 0, 0, []), (0, 0, 0, []), (0, 0, 0, []), (0, 0, 0, []), (0, 0, 0, []), (0, 0, 0, []), (0, 0, 0, []), (0, 0, 0, []), (0, 0, 0, []), (0, 0, 0, []), (0, 0, 0, []), (0, 0, 0, []), (0, 0, 0, []), (0, 0, 0, []), (0, 0, 0, []), (0, 0, 0, []), (0, 0, 0, []), (0, 0, 0, []), (0, 0, 0, []), (0, 0, 0, []), (0, 0, 0, []), (0, 0, 0, []), (0, 0, 0, []), (0, 0, 0, []), (0, 0, 0, []), (0, 0, 0, []), (0, 0, 0, []), (0, 0, 0, []), (0, 0, 0, []), (0, 0, 0, []), (0, 0, 0, []), (0, 0, 0, []), (12, 0, 0, []), (65, 2, 118, [11, 14]), (0, 0, 0, []), (0, 0, 0, []), (8, 1, 0, []), (85, 60, 188, [2, 0, 14]), (0, 0, 0, []), (0, 0, 0, []), (91, 0, 0, []), (12, 0, 0, []), (65, 4, 120, [11, 11]), (0, 0, 0, []), (0, 0, 0, []), (65, 0, 151, [1, 24]), (0, 0, 0, []), (0, 0, 0, []), (8, 1, 0, []), (70, 0, 0, []), (91, 0, 0, []), (12, 0, 0, []), (65, 5, 121, [11, 13]), (0, 0, 0, []), (0, 0, 0, []), (8, 1, 0, []), (85, 35, 189, [2, 0, 13]), (0, 0, 0, []), (0, 0, 0, []), (91, 0, 0, []), (12, 0, 0, []), (65, 5, 121, [11, 13]), (0, 0, 0, []), (0, 0, 0, []), (8, 1, 0, []), (85, 38, 190, [2, 0, 13]), (0, 0, 0, []), (0, 0, 0, []), (91, 0, 0, []), (12, 0, 0, []), (65, 5, 121, [11, 13]), (0, 0, 0, []), (0, 0, 0, []), (85, 27, 191, [1, 99, 13]), (0, 0, 0, []), (0, 0, 0, []), (12, 0, 0, []), (65, 5, 121, [11, 13]), (0, 0, 0, []), (0, 0, 0, []), (8, 1, 0, []), (85, 29, 192, [2, 0, 13]), (0, 0, 0, []), (0, 0, 0, []), (48, 115, 0, []), (0, 0, 0, []), (0, 0, 0, []), (1, 1, 0, []), (60, 116, 0, []), (0, 0, 0, []), (0, 0, 0, []), (1, 0, 0, []), (91, 0, 0, []), (12, 0, 0, []), (65, 5, 121, [11, 13]), (0, 0, 0, []), (0, 0, 0, []), (85, 27, 191, [1, 99, 13]), (0, 0, 0, []), (0, 0, 0, []), (12, 0, 0, []), (65, 5, 121, [11, 13]), (0, 0, 0, []), (0, 0, 0, []), (8, 1, 0, []), (85, 30, 193, [2, 0, 13]), (0, 0, 0, []), (0, 0, 0, []), (91, 0, 0, []), (12, 0, 0, []), (65, 5, 121, [11, 13]), (0, 0, 0, []), (0, 0, 0, []), (8, 1, 0, []), (85, 40, 194, [2, 0, 13]), (0, 0, 0, []), (0, 0, 0, []), (91, 0, 0, []), (1, -1, 0, []), (91, 0, 0, [])]
def k160 : List jI := [(8, 1, 0, []), (50, 15, 0, []), (0, 0, 0, []), (0, 0, 0, []), (8, 1, 0, []), (12, 0, 0, []), (65, 2, 118, [11, 14]), (0, 0, 0, []), (0, 0, 0, []), (64, 6, 139, [4, 0]), (0, 0, 0, []), (0, 0, 0, []), (56, 17, 0, []), (0, 0, 0, []), (0, 0, 0, []), (1, -1, 0, []), (91, 0, 0, []), (8, 2, 0, []), (62, 89, 0, [44, 54, 63]), (0, 0, 0, []), (0, 0, 0, []), (0, 0, 0, []), (0, 0, 0, []), (0, 0, 0, []), (0, 0, 0, []), (0, 0, 0, []), (0, 0, 0, []), (0, 0, 0, []), (0, 0, 0, []), (0, 0, 0, []), (0, 0, 0, []), (0, 0, 0, []), (0, 0, 0, []), (0, 0, 0, []), (0, 0, 0, []), (0, 0, 0, []), (0, 0, 0, []), (0, 0, 0, []), (0, 0, 0, []), (0, 0, 0, []), (0, 0, 0, []), (0, 0, 0, []), (0, 0, 0, []), (0, 0, 0, []), (12, 0, 0, []), (65, 2, 118, [11, 14]), (0, 0, 0, []), (0, 0, 0, []), (65, 15, 152, [4, 24]), (0, 0, 0, []), (0, 0, 0, []), (8, 1, 0, []), (70, 0, 0, []), (91, 0, 0, []), (12, 0, 0, []), (65, 5, 121, [11, 13]), (0, 0, 0, []), (0, 0, 0, []), (8, 1, 0, []), (85, 44, 195, [2, 0, 13]), (0, 0, 0, []), (0, 0, 0, []), (91, 0, 0, []), (12, 0, 0, []), (65, 5, 121, [11, 13]), (0, 0, 0, []), (0, 0, 0, []), (8, 1, 0, []), (85, 44, 195, [2, 0, 13]), (0, 0, 0, []), (0, 0, 0, []), (12, 0, 0, []), (65, 2, 118, [11, 14]), (0, 0, 0, []), (0, 0, 0, []), (65, 8, 141, [4, 24]), (0, 0, 0, []), (0, 0, 0, []), (1, 2, 0, []), (70, 0, 0, []), (59, 87, 0, []), (0, 0, 0, []), (0, 0, 0, []), (1, 1, 0, []), (60, 88, 0, []), (0, 0, 0, []), (0, 0, 0, []), (1, 0, 0, []), (91, 0, 0, []), (1, -1, 0, []), (91, 0, 0, [])]
def k161 : List jI := [(12, 0, 0, []), (65, 7, 123, [11, 18]), (0, 0, 0, []), (0, 0, 0, []), (12, 0, 0, []), (65, 0, 116, [11, 20]), (0, 0, 0, []), (0, 0, 0, []), (12, 0, 0, []), (65, 14, 130, [11, 24]), (0, 0, 0, []), (0, 0, 0, []), (85, 123, 196, [3, 0, 18]), (0, 0, 0, []), (0, 0, 0, []), (14, 1, 0, []), (12, 0, 0, []), (65, 0, 116, [11, 20]), (0, 0, 0, []), (0, 0, 0, []), (1, 0, 0, []), (85, 145, 175, [2, 99, 20]), (0, 0, 0, []), (0, 0, 0, []), (8, 1, 0, []), (1, -1, 0, []), (55, 35, 0, []), (0, 0, 0, []), (0, 0, 0, []), (12, 0, 0, []), (1, 1, 0, []), (85, 181, 173, [2, 0, 21]), (0, 0, 0, []), (0, 0, 0, []), (91, 0, 0, []), (12, 0, 0, []), (1, 1, 0, []), (67, 15, 131, [11, 0]), (0, 0, 0, []), (0, 0, 0, []), (8, 1, 0, []), (91, 0, 0, [])]
def k162 : List jI := [(12, 0, 0, []), (64, 15, 131, [11, 0]), (0, 0, 0, []), (0, 0, 0, []), (48, 20, 0, []), (0, 0, 0, []), (0, 0, 0, []), (8, 1, 0, []), (50, 20, 0, []), (0, 0, 0, []), (0, 0, 0, []), (8, 1, 0, []), (12, 0, 0, []), (65, 14, 130, [11, 24]), (0, 0, 0, []), (0, 0, 0, []), (80, 0, 0, []), (56, 22, 0, []), (0, 0, 0, []), (0, 0, 0, []), (1, -1, 0, []), (91, 0, 0, []), (12, 0, 0, []), (65, 14, 130, [11, 24]), (0, 0, 0, []), (0, 0, 0, []), (8, 1, 0, []), (70, 0, 0, []), (91, 0, 0, [])]
def k163 : List jI := [(8, 1, 0, []), (1, 1, 0, []), (56, 10, 0, []), (0, 0, 0, []), (0, 0, 0, []), (8, 1, 0, []), (1, 3, 0, []), (59, 12, 0, []), (0, 0, 0, []), (0, 0, 0, []), (1, -1, 0, []), (91, 0, 0, []), (12, 0, 0, []), (65, 7, 123, [11, 18]), (0, 0, 0, []), (0, 0, 0, []), (8, 1, 0, []), (8, 2, 0, []), (85, 125, 197, [3, 0, 18]), (0, 0, 0, []), (0, 0, 0, []), (91, 0, 0, [])]
def k164 : List jI := [(8, 1, 0, []), (50, 19, 0, []), (0, 0, 0, []), (0, 0, 0, []), (8, 1, 0, []), (1, 3, 0, []), (58, 19, 0, []), (0, 0, 0, []), (0, 0, 0, []), (8, 2, 0, []), (1, -1, 0, []), (56, 19, 0, []), (0, 0, 0, []), (0, 0, 0, []), (8, 2, 0, []), (8, 1, 0, []), (56, 23, 0, []), (0, 0, 0, []), (0, 0, 0, []), (7, -1000000000000000, 263, []), (0, 0, 0, []), (0, 0, 0, []), (92, 0, 0, []), (12, 0, 0, []), (65, 7, 123, [11, 18]), (0, 0, 0, []), (0, 0, 0, []), (8, 1, 0, []), (8, 2, 0, []), (85, 129, 198, [3, 0, 18]), (0, 0, 0, []), (0, 0, 0, []), (43, 0, 0, []), (92, 0, 0, [])]
def k165 : List jI := [(8, 1, 0, []), (1, -1, 0, []), (56, 16, 0, []), (0, 0, 0, []), (0, 0, 0, []), (8, 1, 0, []), (12, 0, 0, []), (65, 2, 118, [11, 14]), (0, 0, 0, []), (0, 0, 0, []), (64, 5, 138, [4, 0]), (0, 0, 0, []), (0, 0, 0, []), (56, 18, 0, []), (0, 0, 0, []), (0, 0, 0, []), (1, -1, 0, []), (91, 0, 0, []), (12, 0, 0, []), (65, 9, 125, [11, 19]), (0, 0, 0, []), (0, 0, 0, []), (85, 134, 199, [1, 0, 19]), (0, 0, 0, []), (0, 0, 0, []), (14, 2, 0, []), (8, 1, 0, []), (1, -1, 0, []), (55, 35, 0, []), (0, 0, 0, []), (0, 0, 0, []), (8, 2, 0, []), (60, 43, 0, []), (0, 0, 0, []), (0, 0, 0, []), (12, 0, 0, []), (65, 9, 125, [11, 19]), (0, 0, 0, []), (0, 0, 0, []), (8, 1, 0, []), (85, 135, 200, [2, 0, 19]), (0, 0, 0, []), (0, 0, 0, []), (91, 0, 0, [])]
def k166 : List jI := [(12, 0, 0, []), (65, 5, 121, [11, 13]), (0, 0, 0, []), (0, 0, 0, []), (85, 27, 191, [1, 99, 13]), (0, 0, 0, []), (0, 0, 0, []), (12, 0, 0, []), (65, 5, 121, [11, 13]), (0, 0, 0, []), (0, 0, 0, []), (8, 1, 0, []), (85, 30, 193, [2, 0, 13]), (0, 0, 0, []), (0, 0, 0, []), (48, 24, 0, []), (0, 0, 0, []), (0, 0, 0, []), (12, 0, 0, []), (1, 2, 0, []), (85, 181, 173, [2, 0, 21]), (0, 0, 0, []), (0, 0, 0, []), (91, 0, 0, []), (12, 0, 0, []), (85, 183, 201, [1, 99, 21]), (0, 0, 0, []), (0, 0, 0, []), (12, 0, 0, []), (65, 5, 121, [11, 13]), (0, 0, 0, []), (0, 0, 0, []), (8, 1, 0, []), (85, 40, 194, [2, 0, 13]), (0, 0, 0, []), (0, 0, 0, []), (14, 2, 0, []), (12, 0, 0, []), (65, 5, 121, [11, 13]), (0, 0, 0, []), (0, 0, 0, []), (8, 1, 0, []), (8, 2, 0, []), (85, 41, 202, [3, 99, 13]), (0, 0, 0, []), (0, 0, 0, []), (8, 2, 0, []), (91, 0, 0, [])]
def k167 : List jI := [(12, 0, 0, []), (65, 2, 118, [11, 14]), (0, 0, 0, []), (0, 0, 0, []), (8, 1, 0, []), (85, 56, 187, [2, 0, 14]), (0, 0, 0, []), (0, 0, 0, []), (48, 34, 0, []), (0, 0, 0, []), (0, 0, 0, []), (12, 0, 0, []), (65, 4, 120, [11, 11]), (0, 0, 0, []), (0, 0, 0, []), (65, 0, 151, [1, 24]), (0, 0, 0, []), (0, 0, 0, []), (8, 1, 0, []), (70, 0, 0, []), (1, 1, 0, []), (55, 34, 0, []), (0, 0, 0, []), (0, 0, 0, []), (12, 0, 0, []), (65, 4, 120, [11, 11]), (0, 0, 0, []), (0, 0, 0, []), (64, 2, 142, [1, 0]), (0, 0, 0, []), (0, 0, 0, []), (52, 42, 0, []), (0, 0, 0, []), (0, 0, 0, []), (12, 0, 0, []), (1, 2, 0, []), (85, 181, 173, [2, 0, 21]), (0, 0, 0, []), (0, 0, 0, []), (47, 0, 0, []), (1, 0, 0, []), (94, 0, 0, []), (12, 0, 0, []), (85, 183, 201, [1, 99, 21]), (0, 0, 0, []), (0, 0, 0, []), (12, 0, 0, []), (65, 4, 120, [11, 11]), (0, 0, 0, []), (0, 0, 0, []), (65, 0, 151, [1, 24]), (0, 0, 0, []), (0, 0, 0, []), (8, 1, 0, []), (1, 2, 0, []), (75, 0, 0, []), (12, 0, 0, []), (65, 4, 120, [11, 11]), (0, 0, 0, []), (0, 0, 0, []), (45, 0, 0, []), (64, 2, 142, [1, 0]), (0, 0, 0, []), (0, 0, 0, []), (1, 1, 0, []), (22, 0, 0, []), (66, 2, 142, [1, 0]), (0, 0, 0, []), (0, 0, 0, []), (1, 1, 0, []), (94, 0, 0, [])]
def k168 : List jI := [(8, 1, 0, []), (50, 27, 0, []), (0, 0, 0, []), (0, 0, 0, []), (8, 1, 0, []), (12, 0, 0, []), (65, 2, 118, [11, 14]), (0, 0, 0, []), (0, 0, 0, []), (64, 5, 138, [4, 0]), (0, 0, 0, []), (0, 0, 0, []), (57, 27, 0, []), (0, 0, 0, []), (0, 0, 0, []), (12, 0, 0, []), (65, 4, 120, [11, 11]), (0, 0, 0, []), (0, 0, 0, []), (65, 1, 149, [1, 24]), (0, 0, 0, []), (0, 0, 0, []), (8, 1, 0, []), (70, 0, 0, []), (52, 35, 0, []), (0, 0, 0, []), (0, 0, 0, []), (12, 0, 0, []), (1, 2, 0, []), (85, 181, 173, [2, 0, 21]), (0, 0, 0, []), (0, 0, 0, []), (47, 0, 0, []), (1, 0, 0, []), (94, 0, 0, []), (12, 0, 0, []), (85, 183, 201, [1, 99, 21]), (0, 0, 0, []), (0, 0, 0, []), (12, 0, 0, []), (65, 4, 120, [11, 11]), (0, 0, 0, []), (0, 0, 0, []), (65, 1, 149, [1, 24]), (0, 0, 0, []), (0, 0, 0, []), (8, 1, 0, []), (46, 0, 0, []), (70, 0, 0, []), (1, 1, 0, []), (22, 0, 0, []), (75, 0, 0, []), (12, 0, 0, []), (65, 4, 120, [11, 11]), (0, 0, 0, []), (0, 0, 0, []), (45, 0, 0, []), (64, 4, 144, [1, 0]), (0, 0, 0, []), (0, 0, 0, []), (12, 0, 0, []), (65, 2, 118, [11, 14]), (0, 0, 0, []), (0, 0, 0, []), (65, 10, 147, [4, 24]), (0, 0, 0, []), (0, 0, 0, []), (8, 1, 0, []), (70, 0, 0, []), (21, 0, 0, []), (66, 4, 144, [1, 0]), (0, 0, 0, []), (0, 0, 0, []), (1, 1, 0, []), (94, 0, 0, [])]
def k169 : List jI := [(8, 1, 0, []), (1, 1, 0, []), (56, 21, 0, []), (0, 0, 0, []), (0, 0, 0, []), (8, 1, 0, []), (2, 30, 0, []), (0, 0, 0, []), (58, 21, 0, []), (0, 0, 0, []), (0, 0, 0, []), (12, 0, 0, []), (65, 2, 118, [11, 14]), (0, 0, 0, []), (0, 0, 0, []), (85, 54, 203, [1, 0, 14]), (0, 0, 0, []), (0, 0, 0, []), (49, 27, 0, []), (0, 0, 0, []), (0, 0, 0, []), (12, 0, 0, []), (1, 3, 0, []), (85, 181, 173, [2, 0, 21]), (0, 0, 0, []), (0, 0, 0, []), (91, 0, 0, []), (12, 0, 0, []), (85, 183, 201, [1, 99, 21]), (0, 0, 0, []), (0, 0, 0, []), (1, 0, 0, []), (14, 2, 0, []), (1, 0, 0, []), (14, 3, 0, []), (8, 3, 0, []), (8, 1, 0, []), (57, 56, 0, []), (0, 0, 0, []), (0, 0, 0, []), (12, 0, 0, []), (85, 185, 204, [1, 0, 21]), (0, 0, 0, []), (0, 0, 0, []), (48, 50, 0, []), (0, 0, 0, []), (0, 0, 0, []), (20, 2, 1, []), (0, 0, 0, []), (0, 0, 0, []), (20, 3, 1, []), (0, 0, 0, []), (0, 0, 0, []), (60, 35, 0, []), (0, 0, 0, []), (0, 0, 0, []), (8, 2, 0, []), (91, 0, 0, [])]
def k170 : List jI := [(12, 0, 0, []), (65, 6, 122, [11, 12]), (0, 0, 0, []), (0, 0, 0, []), (12, 0, 0, []), (65, 4, 120, [11, 11]), (0, 0, 0, []), (0, 0, 0, []), (85, 25, 205, [2, 0, 12]), (0, 0, 0, []), (0, 0, 0, []), (49, 22, 0, []), (0, 0, 0, []), (0, 0, 0, []), (12, 0, 0, []), (1, 4, 0, []), (85, 181, 173, [2, 0, 21]), (0, 0, 0, []), (0, 0, 0, []), (47, 0, 0, []), (1, 0, 0, []), (94, 0, 0, []), (12, 0, 0, []), (65, 7, 123, [11, 18]), (0, 0, 0, []), (0, 0, 0, []), (85, 122, 181, [1, 99, 18]), (0, 0, 0, []), (0, 0, 0, []), (1, 1, 0, []), (94, 0, 0, [])]
def k171 : List jI := [(8, 1, 0, []), (51, 12, 0, []), (0, 0, 0, []), (0, 0, 0, []), (12, 0, 0, []), (1, 5, 0, []), (85, 181, 173, [2, 0, 21]), (0, 0, 0, []), (0, 0, 0, []), (47, 0, 0, []), (1, 0, 0, []), (94, 0, 0, []), (12, 0, 0, []), (8, 1, 0, []), (66, 18, 134, [11, 0]), (0, 0, 0, []), (0, 0, 0, []), (1, 1, 0, []), (94, 0, 0, [])]
def k172 : List jI := [(12, 0, 0, []), (65, 8, 124, [11, 10]), (0, 0, 0, []), (0, 0, 0, []), (12, 0, 0, []), (65, 0, 116, [11, 20]), (0, 0, 0, []), (0, 0, 0, []), (85, 2, 206, [2, 0, 10]), (0, 0, 0, []), (0, 0, 0, []), (14, 1, 0, []), (12, 0, 0, []), (65, 0, 116, [11, 20]), (0, 0, 0, []), (0, 0, 0, []), (1, 0, 0, []), (85, 145, 175, [2, 99, 20]), (0, 0, 0, []), (0, 0, 0, []), (8, 1, 0, []), (1, -1, 0, []), (55, 33, 0, []), (0, 0, 0, []), (0, 0, 0, []), (12, 0, 0, []), (1, 1, 0, []), (85, 181, 173, [2, 0, 21]), (0, 0, 0, []), (0, 0, 0, []), (60, 34, 0, []), (0, 0, 0, []), (0, 0, 0, []), (8, 1, 0, []), (91, 0, 0, [])]
def k173 : List jI := [(8, 1, 0, []), (62, 55, 0, [28, 39, 47]), (0, 0, 0, []), (0, 0, 0, []), (0, 0, 0, []), (0, 0, 0, []), (0, 0, 0, []), (0, 0, 0, []), (0, 0, 0, []), (0, 0, 0, []), (0, 0, 0, []), (0, 0, 0, []), (0, 0, 0, []), (0, 0, 0, []), (0, 0, 0, []), (0, 0, 0, []), (0, 0, 0, []), (0, 0, 0, []), (0, 0, 0, []), (0, 0, 0, []), (0, 0, 0, []), (0, 0, 0, []), (0, 0, 0, []), (0, 0, 0, []), (0, 0, 0, []), (0, 0, 0, []), (0, 0, 0, []), (0, 0, 0, []), (12, 0, 0, []), (65, 8, 124, [11, 10]), (0, 0, 0, []), (0, 0, 0, []), (85, 5, 207, [1, 0, 10]), (0, 0, 0, []), (0, 0, 0, []), (89, 334, 208, [1, 0]), (0, 0, 0, []), (0, 0, 0, []), (91, 0, 0, []), (12, 0, 0, []), (65, 8, 124, [11, 10]), (0, 0, 0, []), (0, 0, 0, []), (85, 5, 207, [1, 0, 10]), (0, 0, 0, []), (0, 0, 0, []), (91, 0, 0, []), (12, 0, 0, []), (65, 8, 124, [11, 10]), (0, 0, 0, []), (0, 0, 0, []), (85, 6, 209, [1, 0, 10]), (0, 0, 0, []), (0, 0, 0, []), (91, 0, 0, []), (1, -1, 0, []), (91, 0, 0, [])]
def k174 : List jI := [(8, 1, 0, []), (63, 51, 0, [0, 28, 1, 36]), (0, 0, 0, []), (0, 0, 0, []), (0, 0, 0, []), (0, 0, 0, []), (0, 0, 0, []), (0, 0, 0, []), (0, 0, 0, []), (0, 0, 0, []), (0, 0, 0, []), (0, 0, 0, []), (0, 0, 0, []), (0, 0, 0, []), (0, 0, 0, []), (0, 0, 0, []), (0, 0, 0, []), (0, 0, 0, []), (0, 0, 0, []), (0, 0, 0, []), (0, 0, 0, []), (0, 0, 0, []), (0, 0, 0, []), (0, 0, 0, []), (0, 0, 0, []), (0, 0, 0, []), (0, 0, 0, []), (0, 0, 0, []), (12, 0, 0, []), (65, 8, 124, [11, 10]), (0, 0, 0, []), (0, 0, 0, []), (85, 7, 210, [1, 0, 10]), (0, 0, 0, []), (0, 0, 0, []), (91, 0, 0, []), (12, 0, 0, []), (65, 8, 124, [11, 10]), (0, 0, 0, []), (0, 0, 0, []), (12, 0, 0, []), (65, 8, 124, [11, 10]), (0, 0, 0, []), (0, 0, 0, []), (85, 7, 210, [1, 0, 10]), (0, 0, 0, []), (0, 0, 0, []), (85, 8, 211, [2, 0, 10]), (0, 0, 0, []), (0, 0, 0, []), (91, 0, 0, []), (1, -1, 0, []), (91, 0, 0, [])]
def k175 : List jI := [(8, 1, 0, []), (51, 6, 0, []), (0, 0, 0, []), (0, 0, 0, []), (1, -1, 0, []), (91, 0, 0, []), (8, 2, 0, []), (49, 19, 0, []), (0, 0, 0, []), (0, 0, 0, []), (12, 0, 0, []), (65, 9, 125, [11, 19]), (0, 0, 0, []), (0, 0, 0, []), (8, 1, 0, []), (85, 138, 212, [2, 0, 19]), (0, 0, 0, []), (0, 0, 0, []), (91, 0, 0, []), (8, 2, 0, []), (2, 10, 0, []), (0, 0, 0, []), (56, 39, 0, []), (0, 0, 0, []), (0, 0, 0, []), (8, 2, 0, []), (2, 10, 0, []), (0, 0, 0, []), (12, 0, 0, []), (65, 2, 118, [11, 14]), (0, 0, 0, []), (0, 0, 0, []), (64, 5, 138, [4, 0]), (0, 0, 0, []), (0, 0, 0, []), (21, 0, 0, []), (56, 41, 0, []), (0, 0, 0, []), (0, 0, 0, []), (1, -1, 0, []), (91, 0, 0, []), (12, 0, 0, []), (65, 9, 125, [11, 19]), (0, 0, 0, []), (0, 0, 0, []), (8, 1, 0, []), (85, 138, 212, [2, 0, 19]), (0, 0, 0, []), (0, 0, 0, []), (49, 56, 0, []), (0, 0, 0, []), (0, 0, 0, []), (1, -1, 0, []), (60, 67, 0, []), (0, 0, 0, []), (0, 0, 0, []), (12, 0, 0, []), (65, 9, 125, [11, 19]), (0, 0, 0, []), (0, 0, 0, []), (8, 2, 0, []), (2, 10, 0, []), (0, 0, 0, []), (22, 0, 0, []), (85, 139, 213, [2, 0, 19]), (0, 0, 0, []), (0, 0, 0, []), (91, 0, 0, [])]
def k176 : List jI := [(12, 0, 0, []), (65, 2, 118, [11, 14]), (0, 0, 0, []), (0, 0, 0, []), (85, 54, 203, [1, 0, 14]), (0, 0, 0, []), (0, 0, 0, []), (49, 22, 0, []), (0, 0, 0, []), (0, 0, 0, []), (12, 0, 0, []), (65, 0, 116, [11, 20]), (0, 0, 0, []), (0, 0, 0, []), (1, 0, 0, []), (85, 145, 175, [2, 99, 20]), (0, 0, 0, []), (0, 0, 0, []), (7, -1000000000000000, 263, []), (0, 0, 0, []), (0, 0, 0, []), (92, 0, 0, []), (12, 0, 0, []), (65, 12, 128, [11, 16]), (0, 0, 0, []), (0, 0, 0, []), (12, 0, 0, []), (65, 0, 116, [11, 20]), (0, 0, 0, []), (0, 0, 0, []), (12, 0, 0, []), (65, 3, 119, [11, 14]), (0, 0, 0, []), (0, 0, 0, []), (65, 18, 153, [4, 24]), (0, 0, 0, []), (0, 0, 0, []), (85, 80, 214, [3, 0, 16]), (0, 0, 0, []), (0, 0, 0, []), (14, 1, 0, []), (12, 0, 0, []), (65, 0, 116, [11, 20]), (0, 0, 0, []), (0, 0, 0, []), (1, 0, 0, []), (85, 145, 175, [2, 99, 20]), (0, 0, 0, []), (0, 0, 0, []), (12, 0, 0, []), (85, 182, 177, [1, 99, 21]), (0, 0, 0, []), (0, 0, 0, []), (8, 1, 0, []), (48, 78, 0, []), (0, 0, 0, []), (0, 0, 0, []), (12, 0, 0, []), (65, 12, 128, [11, 16]), (0, 0, 0, []), (0, 0, 0, []), (12, 0, 0, []), (65, 5, 121, [11, 13]), (0, 0, 0, []), (0, 0, 0, []), (12, 0, 0, []), (65, 3, 119, [11, 14]), (0, 0, 0, []), (0, 0, 0, []), (65, 18, 153, [4, 24]), (0, 0, 0, []), (0, 0, 0, []), (85, 82, 215, [3, 1, 16]), (0, 0, 0, []), (0, 0, 0, []), (60, 81, 0, []), (0, 0, 0, []), (0, 0, 0, []), (7, -1000000000000000, 263, []), (0, 0, 0, []), (0, 0, 0, []), (92, 0, 0, [])]
def k177 : List jI := [(12, 0, 0, []), (65, 4, 120, [11, 11]), (0, 0, 0, []), (0, 0, 0, []), (12, 0, 0, []), (65, 2, 118, [11, 14]), (0, 0, 0, []), (0, 0, 0, []), (12, 0, 0, []), (65, 1, 117, [11, 20]), (0, 0, 0, []), (0, 0, 0, []), (85, 18, 216, [3, 99, 11]), (0, 0, 0, []), (0, 0, 0, []), (12, 0, 0, []), (65, 1, 117, [11, 20]), (0, 0, 0, []), (0, 0, 0, []), (85, 143, 172, [1, 0, 20]), (0, 0, 0, []), (0, 0, 0, []), (91, 0, 0, [])]
def k178 : List jI := [(12, 0, 0, []), (65, 1, 117, [11, 20]), (0, 0, 0, []), (0, 0, 0, []), (8, 1, 0, []), (85, 144, 217, [2, 0, 20]), (0, 0, 0, []), (0, 0, 0, []), (91, 0, 0, [])]
def k179 : List jI := [(12, 0, 0, []), (65, 2, 118, [11, 14]), (0, 0, 0, []), (0, 0, 0, []), (85, 54, 203, [1, 0, 14]), (0, 0, 0, []), (0, 0, 0, []), (48, 28, 0, []), (0, 0, 0, []), (0, 0, 0, []), (12, 0, 0, []), (65, 2, 118, [11, 14]), (0, 0, 0, []), (0, 0, 0, []), (12, 0, 0, []), (65, 0, 116, [11, 20]), (0, 0, 0, []), (0, 0, 0, []), (89, 19, 218, [2, 0]), (0, 0, 0, []), (0, 0, 0, []), (48, 28, 0, []), (0, 0, 0, []), (0, 0, 0, []), (1, 1, 0, []), (60, 29, 0, []), (0, 0, 0, []), (0, 0, 0, []), (1, 0, 0, []), (14, 1, 0, []), (8, 1, 0, []), (48, 66, 0, []), (0, 0, 0, []), (0, 0, 0, []), (12, 0, 0, []), (65, 4, 120, [11, 11]), (0, 0, 0, []), (0, 0, 0, []), (12, 0, 0, []), (65, 2, 118, [11, 14]), (0, 0, 0, []), (0, 0, 0, []), (12, 0, 0, []), (65, 0, 116, [11, 20]), (0, 0, 0, []), (0, 0, 0, []), (85, 20, 219, [3, 99, 11]), (0, 0, 0, []), (0, 0, 0, []), (12, 0, 0, []), (65, 6, 122, [11, 12]), (0, 0, 0, []), (0, 0, 0, []), (85, 23, 180, [1, 99, 12]), (0, 0, 0, []), (0, 0, 0, []), (12, 0, 0, []), (65, 7, 123, [11, 18]), (0, 0, 0, []), (0, 0, 0, []), (85, 122, 181, [1, 99, 18]), (0, 0, 0, []), (0, 0, 0, []), (60, 72, 0, []), (0, 0, 0, []), (0, 0, 0, []), (12, 0, 0, []), (1, 5, 0, []), (85, 181, 173, [2, 0, 21]), (0, 0, 0, []), (0, 0, 0, []), (47, 0, 0, []), (12, 0, 0, []), (65, 0, 116, [11, 20]), (0, 0, 0, []), (0, 0, 0, []), (1, 0, 0, []), (85, 145, 175, [2, 99, 20]), (0, 0, 0, []), (0, 0, 0, []), (8, 1, 0, []), (94, 0, 0, [])]
def k180 : List jI := [(8, 1, 0, []), (50, 13, 0, []), (0, 0, 0, []), (0, 0, 0, []), (8, 1, 0, []), (12, 0, 0, []), (65, 13, 129, [11, 24]), (0, 0, 0, []), (0, 0, 0, []), (80, 0, 0, []), (56, 15, 0, []), (0, 0, 0, []), (0, 0, 0, []), (1, -1, 0, []), (91, 0, 0, []), (12, 0, 0, []), (65, 13, 129, [11, 24]), (0, 0, 0, []), (0, 0, 0, []), (8, 1, 0, []), (70, 0, 0, []), (91, 0, 0, [])]
def k181 : List jI := [(12, 0, 0, []), (65, 13, 129, [11, 24]), (0, 0, 0, []), (0, 0, 0, []), (8, 1, 0, []), (46, 0, 0, []), (70, 0, 0, []), (1, 1, 0, []), (21, 0, 0, []), (75, 0, 0, []), (1, -1, 0, []), (91, 0, 0, [])]
def k182 : List jI := [(12, 0, 0, []), (12, 0, 0, []), (65, 10, 126, [11, 17]), (0, 0, 0, []), (0, 0, 0, []), (64, 9, 154, [7, 0]), (0, 0, 0, []), (0, 0, 0, []), (66, 16, 132, [11, 0]), (0, 0, 0, []), (0, 0, 0, []), (12, 0, 0, []), (12, 0, 0, []), (65, 10, 126, [11, 17]), (0, 0, 0, []), (0, 0, 0, []), (64, 10, 155, [7, 0]), (0, 0, 0, []), (0, 0, 0, []), (66, 17, 133, [11, 0]), (0, 0, 0, []), (0, 0, 0, []), (95, 0, 0, [])]
def k183 : List jI := [(12, 0, 0, []), (65, 6, 122, [11, 12]), (0, 0, 0, []), (0, 0, 0, []), (12, 0, 0, []), (65, 4, 120, [11, 11]), (0, 0, 0, []), (0, 0, 0, []), (85, 24, 220, [2, 99, 12]), (0, 0, 0, []), (0, 0, 0, []), (12, 0, 0, []), (65, 7, 123, [11, 18]), (0, 0, 0, []), (0, 0, 0, []), (85, 122, 181, [1, 99, 18]), (0, 0, 0, []), (0, 0, 0, []), (95, 0, 0, [])]
def k184 : List jI := [(7, 1103515245, 354, []), (0, 0, 0, []), (0, 0, 0, []), (12, 0, 0, []), (64, 18, 134, [11, 0]), (0, 0, 0, []), (0, 0, 0, []), (43, 0, 0, []), (35, 0, 0, []), (7, 12345, 356, []), (0, 0, 0, []), (0, 0, 0, []), (33, 0, 0, []), (16, 2, 0, []), (12, 0, 0, []), (10, 2, 0, []), (7, 2147483647, 358, []), (0, 0, 0, []), (0, 0, 0, []), (38, 0, 0, []), (44, 0, 0, []), (66, 18, 134, [11, 0]), (0, 0, 0, []), (0, 0, 0, []), (8, 1, 0, []), (53, 40, 0, []), (0, 0, 0, []), (0, 0, 0, []), (12, 0, 0, []), (64, 18, 134, [11, 0]), (0, 0, 0, []), (0, 0, 0, []), (2, 64, 0, []), (0, 0, 0, []), (24, 0, 0, []), (8, 1, 0, []), (25, 0, 0, []), (60, 41, 0, []), (0, 0, 0, []), (0, 0, 0, []), (1, 0, 0, []), (91, 0, 0, [])]
def k185 : List jI := [(12, 0, 0, []), (65, 5, 121, [11, 13]), (0, 0, 0, []), (0, 0, 0, []), (85, 32, 184, [1, 0, 13]), (0, 0, 0, []), (0, 0, 0, []), (14, 1, 0, []), (8, 1, 0, []), (49, 14, 0, []), (0, 0, 0, []), (0, 0, 0, []), (1, 0, 0, []), (94, 0, 0, []), (12, 0, 0, []), (65, 5, 121, [11, 13]), (0, 0, 0, []), (0, 0, 0, []), (12, 0, 0, []), (8, 1, 0, []), (85, 184, 221, [2, 0, 21]), (0, 0, 0, []), (0, 0, 0, []), (85, 33, 222, [2, 0, 13]), (0, 0, 0, []), (0, 0, 0, []), (14, 2, 0, []), (8, 2, 0, []), (1, -1, 0, []), (55, 34, 0, []), (0, 0, 0, []), (0, 0, 0, []), (1, 0, 0, []), (94, 0, 0, []), (12, 0, 0, []), (65, 5, 121, [11, 13]), (0, 0, 0, []), (0, 0, 0, []), (8, 2, 0, []), (85, 40, 194, [2, 0, 13]), (0, 0, 0, []), (0, 0, 0, []), (14, 3, 0, []), (12, 0, 0, []), (65, 5, 121, [11, 13]), (0, 0, 0, []), (0, 0, 0, []), (8, 2, 0, []), (8, 3, 0, []), (85, 41, 202, [3, 99, 13]), (0, 0, 0, []), (0, 0, 0, []), (12, 0, 0, []), (2, 100, 0, []), (0, 0, 0, []), (85, 184, 221, [2, 0, 21]), (0, 0, 0, []), (0, 0, 0, []), (12, 0, 0, []), (65, 2, 118, [11, 14]), (0, 0, 0, []), (0, 0, 0, []), (8, 2, 0, []), (85, 62, 223, [2, 0, 14]), (0, 0, 0, []), (0, 0, 0, []), (56, 71, 0, []), (0, 0, 0, []), (0, 0, 0, []), (1, 0, 0, []), (94, 0, 0, []), (12, 0, 0, []), (65, 5, 121, [11, 13]), (0, 0, 0, []), (0, 0, 0, []), (8, 2, 0, []), (8, 3, 0, []), (85, 42, 224, [3, 99, 13]), (0, 0, 0, []), (0, 0, 0, []), (1, 1, 0, []), (94, 0, 0, [])]
def k186 : List jI := [(12, 0, 0, []), (90, 0, 1, []), (0, 0, 0, []), (0, 0, 0, []), (12, 0, 0, []), (3, 1600, 0, []), (0, 0, 0, []), (0, 0, 0, []), (82, 14, 0, []), (0, 0, 0, []), (69, 0, 156, [12, 24]), (0, 0, 0, []), (0, 0, 0, []), (12, 0, 0, []), (1, -1, 0, []), (66, 8, 157, [12, 0]), (0, 0, 0, []), (0, 0, 0, []), (12, 0, 0, []), (2, 6, 0, []), (0, 0, 0, []), (82, 14, 0, []), (0, 0, 0, []), (69, 9, 158, [12, 24]), (0, 0, 0, []), (0, 0, 0, []), (12, 0, 0, []), (1, 3, 0, []), (82, 13, 0, []), (0, 0, 0, []), (45, 0, 0, []), (1, 0, 0, []), (2, 112, 0, []), (0, 0, 0, []), (78, 0, 0, []), (45, 0, 0, []), (1, 1, 0, []), (2, 105, 0, []), (0, 0, 0, []), (78, 0, 0, []), (45, 0, 0, []), (1, 2, 0, []), (2, 116, 0, []), (0, 0, 0, []), (78, 0, 0, []), (69, 10, 159, [12, 23]), (0, 0, 0, []), (0, 0, 0, []), (12, 0, 0, []), (1, 2, 0, []), (82, 13, 0, []), (0, 0, 0, []), (45, 0, 0, []), (1, 0, 0, []), (2, 97, 0, []), (0, 0, 0, []), (78, 0, 0, []), (45, 0, 0, []), (1, 1, 0, []), (2, 116, 0, []), (0, 0, 0, []), (78, 0, 0, []), (69, 11, 160, [12, 23]), (0, 0, 0, []), (0, 0, 0, []), (12, 0, 0, []), (1, 4, 0, []), (82, 13, 0, []), (0, 0, 0, []), (45, 0, 0, []), (1, 0, 0, []), (2, 107, 0, []), (0, 0, 0, []), (78, 0, 0, []), (45, 0, 0, []), (1, 1, 0, []), (2, 105, 0, []), (0, 0, 0, []), (78, 0, 0, []), (45, 0, 0, []), (1, 2, 0, []), (2, 110, 0, []), (0, 0, 0, []), (78, 0, 0, []), (45, 0, 0, []), (1, 3, 0, []), (2, 100, 0, []), (0, 0, 0, []), (78, 0, 0, []), (69, 12, 161, [12, 23]), (0, 0, 0, []), (0, 0, 0, []), (12, 0, 0, []), (1, 4, 0, []), (82, 13, 0, []), (0, 0, 0, []), (45, 0, 0, []), (1, 0, 0, []), (2, 114, 0, []), (0, 0, 0, []), (78, 0, 0, []), (45, 0, 0, []), (1, 1, 0, []), (2, 101, 0, []), (0, 0, 0, []), (78, 0, 0, []), (45, 0, 0, []), (1, 2, 0, []), (2, 115, 0, []), (0, 0, 0, []), (78, 0, 0, []), (45, 0, 0, []), (1, 3, 0, []), (2, 116, 0, []), (0, 0, 0, []), (78, 0, 0, []), (69, 13, 162, [12, 23]), (0, 0, 0, []), (0, 0, 0, []), (12, 0, 0, []), (1, 3, 0, []), (82, 13, 0, []), (0, 0, 0, []), (45, 0, 0, []), (1, 0, 0, []), (2, 103, 0, []), (0, 0, 0, []), (78, 0, 0, []), (45, 0, 0, []), (1, 1, 0, []), (2, 97, 0, []), (0, 0, 0, []), (78, 0, 0, []), (45, 0, 0, []), (1, 2, 0, []), (2, 115, 0, []), (0, 0, 0, []), (78, 0, 0, []), (69, 14, 163, [12, 23]), (0, 0, 0, []), (0, 0, 0, []), (12, 0, 0, []), (1, 3, 0, []), (82, 13, 0, []), (0, 0, 0, []), (45, 0, 0, []), (1, 0, 0, []), (2, 114, 0, []), (0, 0, 0, []), (78, 0, 0, []), (45, 0, 0, []), (1, 1, 0, []), (2, 111, 0, []), (0, 0, 0, []), (78, 0, 0, []), (45, 0, 0, []), (1, 2, 0, []), (2, 119, 0, []), (0, 0, 0, []), (78, 0, 0, []), (69, 15, 164, [12, 23]), (0, 0, 0, []), (0, 0, 0, []), (12, 0, 0, []), (1, 5, 0, []), (82, 13, 0, []), (0, 0, 0, []), (45, 0, 0, []), (1, 0, 0, []), (2, 104, 0, []), (0, 0, 0, []), (78, 0, 0, []), (45, 0, 0, []), (1, 1, 0, []), (2, 111, 0, []), (0, 0, 0, []), (78, 0, 0, []), (45, 0, 0, []), (1, 2, 0, []), (2, 117, 0, []), (0, 0, 0, []), (78, 0, 0, []), (45, 0, 0, []), (1, 3, 0, []), (2, 115, 0, []), (0, 0, 0, []), (78, 0, 0, []), (45, 0, 0, []), (1, 4, 0, []), (2, 101, 0, []), (0, 0, 0, []), (78, 0, 0, []), (69, 16, 165, [12, 23]), (0, 0, 0, []), (0, 0, 0, []), (12, 0, 0, []), (1, 3, 0, []), (82, 13, 0, []), (0, 0, 0, []), (45, 0, 0, []), (1, 0, 0, []), (2, 109, 0, []), (0, 0, 0, []), (78, 0, 0, []), (45, 0, 0, []), (1, 1, 0, []), (2, 105, 0, []), (0, 0, 0, []), (78, 0, 0, []), (45, 0, 0, []), (1, 2, 0, []), (2, 120, 0, []), (0, 0, 0, []), (78, 0, 0, []), (69, 17, 166, [12, 23]), (0, 0, 0, []), (0, 0, 0, []), (12, 0, 0, []), (1, 3, 0, []), (82, 13, 0, []), (0, 0, 0, []), (45, 0, 0, []), (1, 0, 0, []), (2, 109, 0, []), (0, 0, 0, []), (78, 0, 0, []), (45, 0, 0, []), (1, 1, 0, []), (2, 97, 0, []), (0, 0, 0, []), (78, 0, 0, []), (45, 0, 0, []), (1, 2, 0, []), (2, 121, 0, []), (0, 0, 0, []), (78, 0, 0, []), (69, 18, 167, [12, 23]), (0, 0, 0, []), (0, 0, 0, []), (12, 0, 0, []), (1, 5, 0, []), (82, 13, 0, []), (0, 0, 0, []), (45, 0, 0, []), (1, 0, 0, []), (2, 119, 0, []), (0, 0, 0, []), (78, 0, 0, []), (45, 0, 0, []), (1, 1, 0, []), (2, 111, 0, []), (0, 0, 0, []), (78, 0, 0, []), (45, 0, 0, []), (1, 2, 0, []), (2, 114, 0, []), (0, 0, 0, []), (78, 0, 0, []), (45, 0, 0, []), (1, 3, 0, []), (2, 116, 0, []), (0, 0, 0, []), (78, 0, 0, []), (45, 0, 0, []), (1, 4, 0, []), (2, 104, 0, []), (0, 0, 0, []), (78, 0, 0, []), (69, 19, 168, [12, 23]), (0, 0, 0, []), (0, 0, 0, []), (12, 0, 0, []), (1, 4, 0, []), (82, 13, 0, []), (0, 0, 0, []), (45, 0, 0, []), (1, 0, 0, []), (2, 116, 0, []), (0, 0, 0, []), (78, 0, 0, []), (45, 0, 0, []), (1, 1, 0, []), (2, 105, 0, []), (0, 0, 0, []), (78, 0, 0, []), (45, 0, 0, []), (1, 2, 0, []), (2, 108, 0, []), (0, 0, 0, []), (78, 0, 0, []), (45, 0, 0, []), (1, 3, 0, []), (2, 116, 0, []), (0, 0, 0, []), (78, 0, 0, []), (69, 20, 169, [12, 23]), (0, 0, 0, []), (0, 0, 0, []), (12, 0, 0, []), (1, 5, 0, []), (82, 13, 0, []), (0, 0, 0, []), (45, 0, 0, []), (1, 0, 0, []), (2, 104, 0, []), (0, 0, 0, []), (78, 0, 0, []), (45, 0, 0, []), (1, 1, 0, []), (2, 111, 0, []), (0, 0, 0, []), (78, 0, 0, []), (45, 0, 0, []), (1, 2, 0, []), (2, 108, 0, []), (0, 0, 0, []), (78, 0, 0, []), (45, 0, 0, []), (1, 3, 0, []), (2, 100, 0, []), (0, 0, 0, []), (78, 0, 0, []), (45, 0, 0, []), (1, 4, 0, []), (2, 115, 0, []), (0, 0, 0, []), (78, 0, 0, []), (69, 21, 170, [12, 23]), (0, 0, 0, []), (0, 0, 0, []), (12, 0, 0, []), (1, 5, 0, []), (82, 13, 0, []), (0, 0, 0, []), (45, 0, 0, []), (1, 0, 0, []), (2, 112, 0, []), (0, 0, 0, []), (78, 0, 0, []), (45, 0, 0, []), (1, 1, 0, []), (2, 114, 0, []), (0, 0, 0, []), (78, 0, 0, []), (45, 0, 0, []), (1, 2, 0, []), (2, 111, 0, []), (0, 0, 0, []), (78, 0, 0, []), (45, 0, 0, []), (1, 3, 0, []), (2, 112, 0, []), (0, 0, 0, []), (78, 0, 0, []), (45, 0, 0, []), (1, 4, 0, []), (2, 115, 0, []), (0, 0, 0, []), (78, 0, 0, []), (69, 22, 171, [12, 23]), (0, 0, 0, []), (0, 0, 0, []), (12, 0, 0, []), (1, 5, 0, []), (82, 13, 0, []), (0, 0, 0, []), (45, 0, 0, []), (1, 0, 0, []), (2, 108, 0, []), (0, 0, 0, []), (78, 0, 0, []), (45, 0, 0, []), (1, 1, 0, []), (2, 101, 0, []), (0, 0, 0, []), (78, 0, 0, []), (45, 0, 0, []), (1, 2, 0, []), (2, 97, 0, []), (0, 0, 0, []), (78, 0, 0, []), (45, 0, 0, []), (1, 3, 0, []), (2, 110, 0, []), (0, 0, 0, []), (78, 0, 0, []), (45, 0, 0, []), (1, 4, 0, []), (2, 115, 0, []), (0, 0, 0, []), (78, 0, 0, []), (69, 23, 172, [12, 23]), (0, 0, 0, []), (0, 0, 0, []), (12, 0, 0, []), (1, 5, 0, []), (82, 13, 0, []), (0, 0, 0, []), (45, 0, 0, []), (1, 0, 0, []), (2, 100, 0, []), (0, 0, 0, []), (78, 0, 0, []), (45, 0, 0, []), (1, 1, 0, []), (2, 101, 0, []), (0, 0, 0, []), (78, 0, 0, []), (45, 0, 0, []), (1, 2, 0, []), (2, 112, 0, []), (0, 0, 0, []), (78, 0, 0, []), (45, 0, 0, []), (1, 3, 0, []), (2, 116, 0, []), (0, 0, 0, []), (78, 0, 0, []), (45, 0, 0, []), (1, 4, 0, []), (2, 104, 0, []), (0, 0, 0, []), (78, 0, 0, []), (69, 24, 173, [12, 23]), (0, 0, 0, []), (0, 0, 0, []), (12, 0, 0, []), (2, 6, 0, []), (0, 0, 0, []), (82, 13, 0, []), (0, 0, 0, []), (45, 0, 0, []), (1, 0, 0, []), (2, 97, 0, []), (0, 0, 0, []), (78, 0, 0, []), (45, 0, 0, []), (1, 1, 0, []), (2, 99, 0, []), (0, 0, 0, []), (78, 0, 0, []), (45, 0, 0, []), (1, 2, 0, []), (2, 114, 0, []), (0, 0, 0, []), (78, 0, 0, []), (45, 0, 0, []), (1, 3, 0, []), (2, 111, 0, []), (0, 0, 0, []), (78, 0, 0, []), (45, 0, 0, []), (1, 4, 0, []), (2, 115, 0, []), (0, 0, 0, []), (78, 0, 0, []), (45, 0, 0, []), (1, 5, 0, []), (2, 115, 0, []), (0, 0, 0, []), (78, 0, 0, []), (69, 25, 174, [12, 23]), (0, 0, 0, []), (0, 0, 0, []), (12, 0, 0, []), (1, 4, 0, []), (82, 13, 0, []), (0, 0, 0, []), (45, 0, 0, []), (1, 0, 0, []), (2, 110, 0, []), (0, 0, 0, []), (78, 0, 0, []), (45, 0, 0, []), (1, 1, 0, []), (2, 101, 0, []), (0, 0, 0, []), (78, 0, 0, []), (45, 0, 0, []), (1, 2, 0, []), (2, 97, 0, []), (0, 0, 0, []), (78, 0, 0, []), (45, 0, 0, []), (1, 3, 0, []), (2, 114, 0, []), (0, 0, 0, []), (78, 0, 0, []), (69, 26, 175, [12, 23]), (0, 0, 0, []), (0, 0, 0, []), (12, 0, 0, []), (1, 4, 0, []), (82, 13, 0, []), (0, 0, 0, []), (45, 0, 0, []), (1, 0, 0, []), (2, 115, 0, []), (0, 0, 0, []), (78, 0, 0, []), (45, 0, 0, []), (1, 1, 0, []), (2, 112, 0, []), (0, 0, 0, []), (78, 0, 0, []), (45, 0, 0, []), (1, 2, 0, []), (2, 97, 0, []), (0, 0, 0, []), (78, 0, 0, []), (45, 0, 0, []), (1, 3, 0, []), (2, 110, 0, []), (0, 0, 0, []), (78, 0, 0, []), (69, 27, 176, [12, 23]), (0, 0, 0, []), (0, 0, 0, []), (12, 0, 0, []), (1, 4, 0, []), (82, 13, 0, []), (0, 0, 0, []), (45, 0, 0, []), (1, 0, 0, []), (2, 111, 0, []), (0, 0, 0, []), (78, 0, 0, []), (45, 0, 0, []), (1, 1, 0, []), (2, 112, 0, []), (0, 0, 0, []), (78, 0, 0, []), (45, 0, 0, []), (1, 2, 0, []), (2, 101, 0, []), (0, 0, 0, []), (78, 0, 0, []), (45, 0, 0, []), (1, 3, 0, []), (2, 110, 0, []), (0, 0, 0, []), (78, 0, 0, []), (69, 28, 177, [12, 23]), (0, 0, 0, []), (0, 0, 0, []), (12, 0, 0, []), (2, 6, 0, []), (0, 0, 0, []), (82, 13, 0, []), (0, 0, 0, []), (45, 0, 0, []), (1, 0, 0, []), (2, 102, 0, []), (0, 0, 0, []), (78, 0, 0, []), (45, 0, 0, []), (1, 1, 0, []), (2, 97, 0, []), (0, 0, 0, []), (78, 0, 0, []), (45, 0, 0, []), (1, 2, 0, []), (2, 108, 0, []), (0, 0, 0, []), (78, 0, 0, []), (45, 0, 0, []), (1, 3, 0, []), (2, 108, 0, []), (0, 0, 0, []), (78, 0, 0, []), (45, 0, 0, []), (1, 4, 0, []), (2, 101, 0, []), (0, 0, 0, []), (78, 0, 0, []), (45, 0, 0, []), (1, 5, 0, []), (2, 110, 0, []), (0, 0, 0, []), (78, 0, 0, []), (69, 29, 178, [12, 23]), (0, 0, 0, []), (0, 0, 0, []), (12, 0, 0, []), (1, 5, 0, []), (82, 13, 0, []), (0, 0, 0, []), (45, 0, 0, []), (1, 0, 0, []), (2, 119, 0, []), (0, 0, 0, []), (78, 0, 0, []), (45, 0, 0, []), (1, 1, 0, []), (2, 104, 0, []), (0, 0, 0, []), (78, 0, 0, []), (45, 0, 0, []), (1, 2, 0, []), (2, 111, 0, []), (0, 0, 0, []), (78, 0, 0, []), (45, 0, 0, []), (1, 3, 0, []), (2, 108, 0, []), (0, 0, 0, []), (78, 0, 0, []), (45, 0, 0, []), (1, 4, 0, []), (2, 101, 0, []), (0, 0, 0, []), (78, 0, 0, []), (69, 30, 179, [12, 23]), (0, 0, 0, []), (0, 0, 0, []), (12, 0, 0, []), (2, 6, 0, []), (0, 0, 0, []), (82, 13, 0, []), (0, 0, 0, []), (45, 0, 0, []), (1, 0, 0, []), (2, 110, 0, []), (0, 0, 0, []), (78, 0, 0, []), (45, 0, 0, []), (1, 1, 0, []), (2, 117, 0, []), (0, 0, 0, []), (78, 0, 0, []), (45, 0, 0, []), (1, 2, 0, []), (2, 109, 0, []), (0, 0, 0, []), (78, 0, 0, []), (45, 0, 0, []), (1, 3, 0, []), (2, 98, 0, []), (0, 0, 0, []), (78, 0, 0, []), (45, 0, 0, []), (1, 4, 0, []), (2, 101, 0, []), (0, 0, 0, []), (78, 0, 0, []), (45, 0, 0, []), (1, 5, 0, []), (2, 114, 0, []), (0, 0, 0, []), (78, 0, 0, []), (69, 31, 180, [12, 23]), (0, 0, 0, []), (0, 0, 0, []), (12, 0, 0, []), (1, 4, 0, []), (82, 13, 0, []), (0, 0, 0, []), (45, 0, 0, []), (1, 0, 0, []), (2, 116, 0, []), (0, 0, 0, []), (78, 0, 0, []), (45, 0, 0, []), (1, 1, 0, []), (2, 117, 0, []), (0, 0, 0, []), (78, 0, 0, []), (45, 0, 0, []), (1, 2, 0, []), (2, 98, 0, []), (0, 0, 0, []), (78, 0, 0, []), (45, 0, 0, []), (1, 3, 0, []), (2, 115, 0, []), (0, 0, 0, []), (78, 0, 0, []), (69, 32, 181, [12, 23]), (0, 0, 0, []), (0, 0, 0, []), (12, 0, 0, []), (1, 2, 0, []), (82, 13, 0, []), (0, 0, 0, []), (45, 0, 0, []), (1, 0, 0, []), (2, 111, 0, []), (0, 0, 0, []), (78, 0, 0, []), (45, 0, 0, []), (1, 1, 0, []), (2, 114, 0, []), (0, 0, 0, []), (78, 0, 0, []), (69, 33, 182, [12, 23]), (0, 0, 0, []), (0, 0, 0, []), (12, 0, 0, []), (1, 3, 0, []), (82, 13, 0, []), (0, 0, 0, []), (45, 0, 0, []), (1, 0, 0, []), (2, 97, 0, []), (0, 0, 0, []), (78, 0, 0, []), (45, 0, 0, []), (1, 1, 0, []), (2, 110, 0, []), (0, 0, 0, []), (78, 0, 0, []), (45, 0, 0, []), (1, 2, 0, []), (2, 100, 0, []), (0, 0, 0, []), (78, 0, 0, []), (69, 34, 183, [12, 23]), (0, 0, 0, []), (0, 0, 0, []), (12, 0, 0, []), (1, 3, 0, []), (82, 13, 0, []), (0, 0, 0, []), (45, 0, 0, []), (1, 0, 0, []), (2, 110, 0, []), (0, 0, 0, []), (78, 0, 0, []), (45, 0, 0, []), (1, 1, 0, []), (2, 111, 0, []), (0, 0, 0, []), (78, 0, 0, []), (45, 0, 0, []), (1, 2, 0, []), (2, 116, 0, []), (0, 0, 0, []), (78, 0, 0, []), (69, 35, 184, [12, 23]), (0, 0, 0, []), (0, 0, 0, []), (12, 0, 0, []), (1, 3, 0, []), (82, 13, 0, []), (0, 0, 0, []), (45, 0, 0, []), (1, 0, 0, []), (2, 97, 0, []), (0, 0, 0, []), (78, 0, 0, []), (45, 0, 0, []), (1, 1, 0, []), (2, 108, 0, []), (0, 0, 0, []), (78, 0, 0, []), (45, 0, 0, []), (1, 2, 0, []), (2, 108, 0, []), (0, 0, 0, []), (78, 0, 0, []), (69, 36, 185, [12, 23]), (0, 0, 0, []), (0, 0, 0, []), (12, 0, 0, []), (1, 3, 0, []), (82, 13, 0, []), (0, 0, 0, []), (45, 0, 0, []), (1, 0, 0, []), (2, 109, 0, []), (0, 0, 0, []), (78, 0, 0, []), (45, 0, 0, []), (1, 1, 0, []), (2, 105, 0, []), (0, 0, 0, []), (78, 0, 0, []), (45, 0, 0, []), (1, 2, 0, []), (2, 110, 0, []), (0, 0, 0, []), (78, 0, 0, []), (69, 37, 186, [12, 23]), (0, 0, 0, []), (0, 0, 0, []), (12, 0, 0, []), (1, 3, 0, []), (82, 13, 0, []), (0, 0, 0, []), (45, 0, 0, []), (1, 0, 0, []), (2, 109, 0, []), (0, 0, 0, []), (78, 0, 0, []), (45, 0, 0, []), (1, 1, 0, []), (2, 97, 0, []), (0, 0, 0, []), (78, 0, 0, []), (45, 0, 0, []), (1, 2, 0, []), (2, 120, 0, []), (0, 0, 0, []), (78, 0, 0, []), (69, 38, 187, [12, 23]), (0, 0, 0, []), (0, 0, 0, []), (12, 0, 0, []), (2, 12, 0, []), (0, 0, 0, []), (82, 14, 0, []), (0, 0, 0, []), (69, 40, 188, [12, 24]), (0, 0, 0, []), (0, 0, 0, []), (12, 0, 0, []), (2, 24, 0, []), (0, 0, 0, []), (82, 15, 0, []), (0, 0, 0, []), (69, 41, 189, [12, 25]), (0, 0, 0, []), (0, 0, 0, []), (12, 0, 0, []), (2, 30, 0, []), (0, 0, 0, []), (82, 14, 0, []), (0, 0, 0, []), (69, 42, 190, [12, 24]), (0, 0, 0, []), (0, 0, 0, []), (12, 0, 0, []), (2, 96, 0, []), (0, 0, 0, []), (82, 14, 0, []), (0, 0, 0, []), (69, 43, 191, [12, 24]), (0, 0, 0, []), (0, 0, 0, []), (12, 0, 0, []), (2, 12, 0, []), (0, 0, 0, []), (82, 14, 0, []), (0, 0, 0, []), (69, 44, 192, [12, 24]), (0, 0, 0, []), (0, 0, 0, []), (12, 0, 0, []), (2, 6, 0, []), (0, 0, 0, []), (82, 14, 0, []), (0, 0, 0, []), (45, 0, 0, []), (1, 0, 0, []), (1, 3, 0, []), (75, 0, 0, []), (45, 0, 0, []), (1, 1, 0, []), (1, 5, 0, []), (75, 0, 0, []), (45, 0, 0, []), (1, 2, 0, []), (2, 10, 0, []), (0, 0, 0, []), (75, 0, 0, []), (45, 0, 0, []), (1, 3, 0, []), (1, 3, 0, []), (75, 0, 0, []), (45, 0, 0, []), (1, 4, 0, []), (1, 5, 0, []), (75, 0, 0, []), (45, 0, 0, []), (1, 5, 0, []), (2, 10, 0, []), (0, 0, 0, []), (75, 0, 0, []), (69, 45, 193, [12, 24]), (0, 0, 0, []), (0, 0, 0, []), (12, 0, 0, []), (2, 6, 0, []), (0, 0, 0, []), (82, 14, 0, []), (0, 0, 0, []), (45, 0, 0, []), (1, 0, 0, []), (1, -1, 0, []), (75, 0, 0, []), (45, 0, 0, []), (1, 1, 0, []), (1, -1, 0, []), (75, 0, 0, []), (45, 0, 0, []), (1, 2, 0, []), (1, -1, 0, []), (75, 0, 0, []), (45, 0, 0, []), (1, 3, 0, []), (1, -1, 0, []), (75, 0, 0, []), (45, 0, 0, []), (1, 4, 0, []), (1, -1, 0, []), (75, 0, 0, []), (45, 0, 0, []), (1, 5, 0, []), (1, -1, 0, []), (75, 0, 0, []), (69, 46, 194, [12, 24]), (0, 0, 0, []), (0, 0, 0, []), (12, 0, 0, []), (2, 6, 0, []), (0, 0, 0, []), (82, 14, 0, []), (0, 0, 0, []), (69, 47, 195, [12, 24]), (0, 0, 0, []), (0, 0, 0, []), (12, 0, 0, []), (3, 3200, 0, []), (0, 0, 0, []), (0, 0, 0, []), (82, 14, 0, []), (0, 0, 0, []), (69, 48, 196, [12, 24]), (0, 0, 0, []), (0, 0, 0, []), (12, 0, 0, []), (2, 56, 0, []), (0, 0, 0, []), (82, 14, 0, []), (0, 0, 0, []), (45, 0, 0, []), (1, 0, 0, []), (1, 5, 0, []), (75, 0, 0, []), (45, 0, 0, []), (1, 1, 0, []), (1, 0, 0, []), (75, 0, 0, []), (45, 0, 0, []), (1, 2, 0, []), (1, 0, 0, []), (75, 0, 0, []), (45, 0, 0, []), (1, 3, 0, []), (1, 0, 0, []), (75, 0, 0, []), (45, 0, 0, []), (1, 4, 0, []), (1, 0, 0, []), (75, 0, 0, []), (45, 0, 0, []), (1, 5, 0, []), (1, 0, 0, []), (75, 0, 0, []), (45, 0, 0, []), (2, 6, 0, []), (0, 0, 0, []), (1, 0, 0, []), (75, 0, 0, []), (45, 0, 0, []), (2, 7, 0, []), (0, 0, 0, []), (1, 0, 0, []), (75, 0, 0, []), (45, 0, 0, []), (2, 8, 0, []), (0, 0, 0, []), (1, 0, 0, []), (75, 0, 0, []), (45, 0, 0, []), (2, 9, 0, []), (0, 0, 0, []), (1, 0, 0, []), (75, 0, 0, []), (45, 0, 0, []), (2, 10, 0, []), (0, 0, 0, []), (1, 0, 0, []), (75, 0, 0, []), (45, 0, 0, []), (2, 11, 0, []), (0, 0, 0, []), (1, 0, 0, []), (75, 0, 0, []), (45, 0, 0, []), (2, 12, 0, []), (0, 0, 0, []), (1, 0, 0, []), (75, 0, 0, []), (45, 0, 0, []), (2, 13, 0, []), (0, 0, 0, []), (1, 0, 0, []), (75, 0, 0, []), (45, 0, 0, []), (2, 14, 0, []), (0, 0, 0, []), (1, 0, 0, []), (75, 0, 0, []), (45, 0, 0, []), (2, 15, 0, []), (0, 0, 0, []), (1, 0, 0, []), (75, 0, 0, []), (45, 0, 0, []), (2, 16, 0, []), (0, 0, 0, []), (1, 0, 0, []), (75, 0, 0, []), (45, 0, 0, []), (2, 17, 0, []), (0, 0, 0, []), (1, 0, 0, []), (75, 0, 0, []), (45, 0, 0, []), (2, 18, 0, []), (0, 0, 0, []), (1, 0, 0, []), (75, 0, 0, []), (45, 0, 0, []), (2, 19, 0, []), (0, 0, 0, []), (1, 0, 0, []), (75, 0, 0, []), (45, 0, 0, []), (2, 20, 0, []), (0, 0, 0, []), (1, 0, 0, []), (75, 0, 0, []), (45, 0, 0, []), (2, 21, 0, []), (0, 0, 0, []), (1, 0, 0, []), (75, 0, 0, []), (45, 0, 0, []), (2, 22, 0, []), (0, 0, 0, []), (1, 0, 0, []), (75, 0, 0, []), (45, 0, 0, []), (2, 23, 0, []), (0, 0, 0, []), (1, 0, 0, []), (75, 0, 0, []), (45, 0, 0, []), (2, 24, 0, []), (0, 0, 0, []), (1, 0, 0, []), (75, 0, 0, []), (45, 0, 0, []), (2, 25, 0, []), (0, 0, 0, []), (1, 0, 0, []), (75, 0, 0, []), (45, 0, 0, []), (2, 26, 0, []), (0, 0, 0, []), (1, 0, 0, []), (75, 0, 0, []), (45, 0, 0, []), (2, 27, 0, []), (0, 0, 0, []), (1, 0, 0, []), (75, 0, 0, []), (45, 0, 0, []), (2, 28, 0, []), (0, 0, 0, []), (1, 0, 0, []), (75, 0, 0, []), (45, 0, 0, []), (2, 29, 0, []), (0, 0, 0, []), (1, 0, 0, []), (75, 0, 0, []), (45, 0, 0, []), (2, 30, 0, []), (0, 0, 0, []), (1, 0, 0, []), (75, 0, 0, []), (45, 0, 0, []), (2, 31, 0, []), (0, 0, 0, []), (1, 0, 0, []), (75, 0, 0, []), (45, 0, 0, []), (2, 32, 0, []), (0, 0, 0, []), (1, 0, 0, []), (75, 0, 0, []), (45, 0, 0, []), (2, 33, 0, []), (0, 0, 0, []), (1, 0, 0, []), (75, 0, 0, []), (45, 0, 0, []), (2, 34, 0, []), (0, 0, 0, []), (1, 0, 0, []), (75, 0, 0, []), (45, 0, 0, []), (2, 35, 0, []), (0, 0, 0, []), (1, 0, 0, []), (75, 0, 0, []), (45, 0, 0, []), (2, 36, 0, []), (0, 0, 0, []), (1, 0, 0, []), (75, 0, 0, []), (45, 0, 0, []), (2, 37, 0, []), (0, 0, 0, []), (1, 0, 0, []), (75, 0, 0, []), (45, 0, 0, []), (2, 38, 0, []), (0, 0, 0, []), (1, 0, 0, []), (75, 0, 0, []), (45, 0, 0, []), (2, 39, 0, []), (0, 0, 0, []), (1, 0, 0, []), (75, 0, 0, []), (45, 0, 0, []), (2, 40, 0, []), (0, 0, 0, []), (1, 0, 0, []), (75, 0, 0, []), (45, 0, 0, []), (2, 41, 0, []), (0, 0, 0, []), (1, 0, 0, []), (75, 0, 0, []), (45, 0, 0, []), (2, 42, 0, []), (0, 0, 0, []), (1, 0, 0, []), (75, 0, 0, []), (45, 0, 0, []), (2, 43, 0, []), (0, 0, 0, []), (1, 0, 0, []), (75, 0, 0, []), (45, 0, 0, []), (2, 44, 0, []), (0, 0, 0, []), (1, 0, 0, []), (75, 0, 0, []), (45, 0, 0, []), (2, 45, 0, []), (0, 0, 0, []), (1, 0, 0, []), (75, 0, 0, []), (45, 0, 0, []), (2, 46, 0, []), (0, 0, 0, []), (1, 0, 0, []), (75, 0, 0, []), (45, 0, 0, []), (2, 47, 0, []), (0, 0, 0, []), (1, 0, 0, []), (75, 0, 0, []), (45, 0, 0, []), (2, 48, 0, []), (0, 0, 0, []), (1, 0, 0, []), (75, 0, 0, []), (45, 0, 0, []), (2, 49, 0, []), (0, 0, 0, []), (1, 0, 0, []), (75, 0, 0, []), (45, 0, 0, []), (2, 50, 0, []), (0, 0, 0, []), (1, 0, 0, []), (75, 0, 0, []), (45, 0, 0, []), (2, 51, 0, []), (0, 0, 0, []), (1, 0, 0, []), (75, 0, 0, []), (45, 0, 0, []), (2, 52, 0, []), (0, 0, 0, []), (1, 0, 0, []), (75, 0, 0, []), (45, 0, 0, []), (2, 53, 0, []), (0, 0, 0, []), (1, 0, 0, []), (75, 0, 0, []), (45, 0, 0, []), (2, 54, 0, []), (0, 0, 0, []), (1, 0, 0, []), (75, 0, 0, []), (45, 0, 0, []), (2, 55, 0, []), (0, 0, 0, []), (1, 0, 0, []), (75, 0, 0, []), (69, 53, 197, [12, 24]), (0, 0, 0, []), (0, 0, 0, []), (12, 0, 0, []), (3, 336, 0, []), (0, 0, 0, []), (0, 0, 0, []), (82, 14, 0, []), (0, 0, 0, []), (69, 54, 198, [12, 24]), (0, 0, 0, []), (0, 0, 0, []), (12, 0, 0, []), (2, 48, 0, []), (0, 0, 0, []), (82, 16, 0, []), (0, 0, 0, []), (69, 63, 199, [12, 26]), (0, 0, 0, []), (0, 0, 0, []), (12, 0, 0, []), (1, 5, 0, []), (82, 15, 0, []), (0, 0, 0, []), (69, 69, 200, [12, 25]), (0, 0, 0, []), (0, 0, 0, []), (12, 0, 0, []), (1, 5, 0, []), (82, 14, 0, []), (0, 0, 0, []), (69, 70, 201, [12, 24]), (0, 0, 0, []), (0, 0, 0, []), (12, 0, 0, []), (1, 5, 0, []), (82, 14, 0, []), (0, 0, 0, []), (69, 71, 202, [12, 24]), (0, 0, 0, []), (0, 0, 0, []), (12, 0, 0, []), (1, 5, 0, []), (82, 14, 0, []), (0, 0, 0, []), (69, 72, 203, [12, 24]), (0, 0, 0, []), (0, 0, 0, []), (12, 0, 0, []), (2, 25, 0, []), (0, 0, 0, []), (82, 14, 0, []), (0, 0, 0, []), (69, 73, 204, [12, 24]), (0, 0, 0, []), (0, 0, 0, []), (12, 0, 0, []), (1, 5, 0, []), (82, 14, 0, []), (0, 0, 0, []), (69, 74, 205, [12, 24]), (0, 0, 0, []), (0, 0, 0, []), (12, 0, 0, []), (1, 5, 0, []), (82, 14, 0, []), (0, 0, 0, []), (69, 75, 206, [12, 24]), (0, 0, 0, []), (0, 0, 0, []), (12, 0, 0, []), (1, 5, 0, []), (82, 14, 0, []), (0, 0, 0, []), (69, 76, 207, [12, 24]), (0, 0, 0, []), (0, 0, 0, []), (12, 0, 0, []), (3, 1120, 0, []), (0, 0, 0, []), (0, 0, 0, []), (82, 14, 0, []), (0, 0, 0, []), (69, 77, 208, [12, 24]), (0, 0, 0, []), (0, 0, 0, []), (12, 0, 0, []), (6, 1, 0, []), (66, 80, 209, [12, 1]), (0, 0, 0, []), (0, 0, 0, []), (12, 0, 0, []), (2, 60, 0, []), (0, 0, 0, []), (82, 14, 0, []), (0, 0, 0, []), (69, 82, 210, [12, 24]), (0, 0, 0, []), (0, 0, 0, []), (12, 0, 0, []), (4, 100001, 180, []), (0, 0, 0, []), (82, 15, 0, []), (0, 0, 0, []), (69, 83, 211, [12, 25]), (0, 0, 0, []), (0, 0, 0, []), (12, 0, 0, []), (1, 5, 0, []), (82, 13, 0, []), (0, 0, 0, []), (45, 0, 0, []), (1, 0, 0, []), (2, 102, 0, []), (0, 0, 0, []), (78, 0, 0, []), (45, 0, 0, []), (1, 1, 0, []), (2, 105, 0, []), (0, 0, 0, []), (78, 0, 0, []), (45, 0, 0, []), (1, 2, 0, []), (2, 114, 0, []), (0, 0, 0, []), (78, 0, 0, []), (45, 0, 0, []), (1, 3, 0, []), (2, 115, 0, []), (0, 0, 0, []), (78, 0, 0, []), (45, 0, 0, []), (1, 4, 0, []), (2, 116, 0, []), (0, 0, 0, []), (78, 0, 0, []), (69, 85, 212, [12, 23]), (0, 0, 0, []), (0, 0, 0, []), (12, 0, 0, []), (1, 4, 0, []), (82, 13, 0, []), (0, 0, 0, []), (45, 0, 0, []), (1, 0, 0, []), (2, 108, 0, []), (0, 0, 0, []), (78, 0, 0, []), (45, 0, 0, []), (1, 1, 0, []), (2, 97, 0, []), (0, 0, 0, []), (78, 0, 0, []), (45, 0, 0, []), (1, 2, 0, []), (2, 115, 0, []), (0, 0, 0, []), (78, 0, 0, []), (45, 0, 0, []), (1, 3, 0, []), (2, 116, 0, []), (0, 0, 0, []), (78, 0, 0, []), (69, 86, 213, [12, 23]), (0, 0, 0, []), (0, 0, 0, []), (12, 0, 0, []), (1, 5, 0, []), (82, 13, 0, []), (0, 0, 0, []), (45, 0, 0, []), (1, 0, 0, []), (2, 111, 0, []), (0, 0, 0, []), (78, 0, 0, []), (45, 0, 0, []), (1, 1, 0, []), (2, 102, 0, []), (0, 0, 0, []), (78, 0, 0, []), (45, 0, 0, []), (1, 2, 0, []), (2, 116, 0, []), (0, 0, 0, []), (78, 0, 0, []), (45, 0, 0, []), (1, 3, 0, []), (2, 101, 0, []), (0, 0, 0, []), (78, 0, 0, []), (45, 0, 0, []), (1, 4, 0, []), (2, 110, 0, []), (0, 0, 0, []), (78, 0, 0, []), (69, 87, 214, [12, 23]), (0, 0, 0, []), (0, 0, 0, []), (12, 0, 0, []), (1, 5, 0, []), (82, 13, 0, []), (0, 0, 0, []), (45, 0, 0, []), (1, 0, 0, []), (2, 116, 0, []), (0, 0, 0, []), (78, 0, 0, []), (45, 0, 0, []), (1, 1, 0, []), (2, 111, 0, []), (0, 0, 0, []), (78, 0, 0, []), (45, 0, 0, []), (1, 2, 0, []), (2, 116, 0, []), (0, 0, 0, []), (78, 0, 0, []), (45, 0, 0, []), (1, 3, 0, []), (2, 97, 0, []), (0, 0, 0, []), (78, 0, 0, []), (45, 0, 0, []), (1, 4, 0, []), (2, 108, 0, []), (0, 0, 0, []), (78, 0, 0, []), (69, 88, 215, [12, 23]), (0, 0, 0, []), (0, 0, 0, []), (12, 0, 0, []), (1, 4, 0, []), (82, 13, 0, []), (0, 0, 0, []), (45, 0, 0, []), (1, 0, 0, []), (2, 109, 0, []), (0, 0, 0, []), (78, 0, 0, []), (45, 0, 0, []), (1, 1, 0, []), (2, 111, 0, []), (0, 0, 0, []), (78, 0, 0, []), (45, 0, 0, []), (1, 2, 0, []), (2, 115, 0, []), (0, 0, 0, []), (78, 0, 0, []), (45, 0, 0, []), (1, 3, 0, []), (2, 116, 0, []), (0, 0, 0, []), (78, 0, 0, []), (69, 89, 216, [12, 23]), (0, 0, 0, []), (0, 0, 0, []), (12, 0, 0, []), (1, 5, 0, []), (82, 13, 0, []), (0, 0, 0, []), (45, 0, 0, []), (1, 0, 0, []), (2, 108, 0, []), (0, 0, 0, []), (78, 0, 0, []), (45, 0, 0, []), (1, 1, 0, []), (2, 101, 0, []), (0, 0, 0, []), (78, 0, 0, []), (45, 0, 0, []), (1, 2, 0, []), (2, 97, 0, []), (0, 0, 0, []), (78, 0, 0, []), (45, 0, 0, []), (1, 3, 0, []), (2, 115, 0, []), (0, 0, 0, []), (78, 0, 0, []), (45, 0, 0, []), (1, 4, 0, []), (2, 116, 0, []), (0, 0, 0, []), (78, 0, 0, []), (69, 90, 217, [12, 23]), (0, 0, 0, []), (0, 0, 0, []), (12, 0, 0, []), (1, 3, 0, []), (82, 13, 0, []), (0, 0, 0, []), (45, 0, 0, []), (1, 0, 0, []), (2, 110, 0, []), (0, 0, 0, []), (78, 0, 0, []), (45, 0, 0, []), (1, 1, 0, []), (2, 111, 0, []), (0, 0, 0, []), (78, 0, 0, []), (45, 0, 0, []), (1, 2, 0, []), (2, 116, 0, []), (0, 0, 0, []), (78, 0, 0, []), (69, 91, 218, [12, 23]), (0, 0, 0, []), (0, 0, 0, []), (12, 0, 0, []), (1, 3, 0, []), (82, 13, 0, []), (0, 0, 0, []), (45, 0, 0, []), (1, 0, 0, []), (2, 97, 0, []), (0, 0, 0, []), (78, 0, 0, []), (45, 0, 0, []), (1, 1, 0, []), (2, 110, 0, []), (0, 0, 0, []), (78, 0, 0, []), (45, 0, 0, []), (1, 2, 0, []), (2, 100, 0, []), (0, 0, 0, []), (78, 0, 0, []), (69, 92, 219, [12, 23]), (0, 0, 0, []), (0, 0, 0, []), (12, 0, 0, []), (1, 2, 0, []), (82, 13, 0, []), (0, 0, 0, []), (45, 0, 0, []), (1, 0, 0, []), (2, 111, 0, []), (0, 0, 0, []), (78, 0, 0, []), (45, 0, 0, []), (1, 1, 0, []), (2, 114, 0, []), (0, 0, 0, []), (78, 0, 0, []), (69, 93, 220, [12, 23]), (0, 0, 0, []), (0, 0, 0, []), (12, 0, 0, []), (1, 3, 0, []), (82, 13, 0, []), (0, 0, 0, []), (45, 0, 0, []), (1, 0, 0, []), (2, 97, 0, []), (0, 0, 0, []), (78, 0, 0, []), (45, 0, 0, []), (1, 1, 0, []), (2, 108, 0, []), (0, 0, 0, []), (78, 0, 0, []), (45, 0, 0, []), (1, 2, 0, []), (2, 108, 0, []), (0, 0, 0, []), (78, 0, 0, []), (69, 94, 221, [12, 23]), (0, 0, 0, []), (0, 0, 0, []), (12, 0, 0, []), (1, 3, 0, []), (82, 13, 0, []), (0, 0, 0, []), (45, 0, 0, []), (1, 0, 0, []), (2, 109, 0, []), (0, 0, 0, []), (78, 0, 0, []), (45, 0, 0, []), (1, 1, 0, []), (2, 105, 0, []), (0, 0, 0, []), (78, 0, 0, []), (45, 0, 0, []), (1, 2, 0, []), (2, 110, 0, []), (0, 0, 0, []), (78, 0, 0, []), (69, 95, 222, [12, 23]), (0, 0, 0, []), (0, 0, 0, []), (12, 0, 0, []), (1, 3, 0, []), (82, 13, 0, []), (0, 0, 0, []), (45, 0, 0, []), (1, 0, 0, []), (2, 109, 0, []), (0, 0, 0, []), (78, 0, 0, []), (45, 0, 0, []), (1, 1, 0, []), (2, 97, 0, []), (0, 0, 0, []), (78, 0, 0, []), (45, 0, 0, []), (1, 2, 0, []), (2, 120, 0, []), (0, 0, 0, []), (78, 0, 0, []), (69, 96, 223, [12, 23]), (0, 0, 0, []), (0, 0, 0, []), (12, 0, 0, []), (1, 5, 0, []), (82, 13, 0, []), (0, 0, 0, []), (45, 0, 0, []), (1, 0, 0, []), (2, 100, 0, []), (0, 0, 0, []), (78, 0, 0, []), (45, 0, 0, []), (1, 1, 0, []), (2, 101, 0, []), (0, 0, 0, []), (78, 0, 0, []), (45, 0, 0, []), (1, 2, 0, []), (2, 112, 0, []), (0, 0, 0, []), (78, 0, 0, []), (45, 0, 0, []), (1, 3, 0, []), (2, 116, 0, []), (0, 0, 0, []), (78, 0, 0, []), (45, 0, 0, []), (1, 4, 0, []), (2, 104, 0, []), (0, 0, 0, []), (78, 0, 0, []), (69, 97, 224, [12, 23]), (0, 0, 0, []), (0, 0, 0, []), (12, 0, 0, []), (2, 6, 0, []), (0, 0, 0, []), (82, 13, 0, []), (0, 0, 0, []), (45, 0, 0, []), (1, 0, 0, []), (2, 97, 0, []), (0, 0, 0, []), (78, 0, 0, []), (45, 0, 0, []), (1, 1, 0, []), (2, 99, 0, []), (0, 0, 0, []), (78, 0, 0, []), (45, 0, 0, []), (1, 2, 0, []), (2, 114, 0, []), (0, 0, 0, []), (78, 0, 0, []), (45, 0, 0, []), (1, 3, 0, []), (2, 111, 0, []), (0, 0, 0, []), (78, 0, 0, []), (45, 0, 0, []), (1, 4, 0, []), (2, 115, 0, []), (0, 0, 0, []), (78, 0, 0, []), (45, 0, 0, []), (1, 5, 0, []), (2, 115, 0, []), (0, 0, 0, []), (78, 0, 0, []), (69, 98, 225, [12, 23]), (0, 0, 0, []), (0, 0, 0, []), (12, 0, 0, []), (1, 4, 0, []), (82, 13, 0, []), (0, 0, 0, []), (45, 0, 0, []), (1, 0, 0, []), (2, 114, 0, []), (0, 0, 0, []), (78, 0, 0, []), (45, 0, 0, []), (1, 1, 0, []), (2, 101, 0, []), (0, 0, 0, []), (78, 0, 0, []), (45, 0, 0, []), (1, 2, 0, []), (2, 115, 0, []), (0, 0, 0, []), (78, 0, 0, []), (45, 0, 0, []), (1, 3, 0, []), (2, 116, 0, []), (0, 0, 0, []), (78, 0, 0, []), (69, 99, 226, [12, 23]), (0, 0, 0, []), (0, 0, 0, []), (12, 0, 0, []), (1, 3, 0, []), (82, 13, 0, []), (0, 0, 0, []), (45, 0, 0, []), (1, 0, 0, []), (2, 103, 0, []), (0, 0, 0, []), (78, 0, 0, []), (45, 0, 0, []), (1, 1, 0, []), (2, 97, 0, []), (0, 0, 0, []), (78, 0, 0, []), (45, 0, 0, []), (1, 2, 0, []), (2, 115, 0, []), (0, 0, 0, []), (78, 0, 0, []), (69, 100, 227, [12, 23]), (0, 0, 0, []), (0, 0, 0, []), (12, 0, 0, []), (1, 4, 0, []), (82, 13, 0, []), (0, 0, 0, []), (45, 0, 0, []), (1, 0, 0, []), (2, 110, 0, []), (0, 0, 0, []), (78, 0, 0, []), (45, 0, 0, []), (1, 1, 0, []), (2, 101, 0, []), (0, 0, 0, []), (78, 0, 0, []), (45, 0, 0, []), (1, 2, 0, []), (2, 97, 0, []), (0, 0, 0, []), (78, 0, 0, []), (45, 0, 0, []), (1, 3, 0, []), (2, 114, 0, []), (0, 0, 0, []), (78, 0, 0, []), (69, 101, 228, [12, 23]), (0, 0, 0, []), (0, 0, 0, []), (12, 0, 0, []), (1, 4, 0, []), (82, 13, 0, []), (0, 0, 0, []), (45, 0, 0, []), (1, 0, 0, []), (2, 115, 0, []), (0, 0, 0, []), (78, 0, 0, []), (45, 0, 0, []), (1, 1, 0, []), (2, 112, 0, []), (0, 0, 0, []), (78, 0, 0, []), (45, 0, 0, []), (1, 2, 0, []), (2, 97, 0, []), (0, 0, 0, []), (78, 0, 0, []), (45, 0, 0, []), (1, 3, 0, []), (2, 110, 0, []), (0, 0, 0, []), (78, 0, 0, []), (69, 102, 229, [12, 23]), (0, 0, 0, []), (0, 0, 0, []), (12, 0, 0, []), (1, 4, 0, []), (82, 13, 0, []), (0, 0, 0, []), (45, 0, 0, []), (1, 0, 0, []), (2, 111, 0, []), (0, 0, 0, []), (78, 0, 0, []), (45, 0, 0, []), (1, 1, 0, []), (2, 112, 0, []), (0, 0, 0, []), (78, 0, 0, []), (45, 0, 0, []), (1, 2, 0, []), (2, 101, 0, []), (0, 0, 0, []), (78, 0, 0, []), (45, 0, 0, []), (1, 3, 0, []), (2, 110, 0, []), (0, 0, 0, []), (78, 0, 0, []), (69, 103, 230, [12, 23]), (0, 0, 0, []), (0, 0, 0, []), (12, 0, 0, []), (2, 6, 0, []), (0, 0, 0, []), (82, 13, 0, []), (0, 0, 0, []), (45, 0, 0, []), (1, 0, 0, []), (2, 102, 0, []), (0, 0, 0, []), (78, 0, 0, []), (45, 0, 0, []), (1, 1, 0, []), (2, 97, 0, []), (0, 0, 0, []), (78, 0, 0, []), (45, 0, 0, []), (1, 2, 0, []), (2, 108, 0, []), (0, 0, 0, []), (78, 0, 0, []), (45, 0, 0, []), (1, 3, 0, []), (2, 108, 0, []), (0, 0, 0, []), (78, 0, 0, []), (45, 0, 0, []), (1, 4, 0, []), (2, 101, 0, []), (0, 0, 0, []), (78, 0, 0, []), (45, 0, 0, []), (1, 5, 0, []), (2, 110, 0, []), (0, 0, 0, []), (78, 0, 0, []), (69, 104, 231, [12, 23]), (0, 0, 0, []), (0, 0, 0, []), (12, 0, 0, []), (2, 6, 0, []), (0, 0, 0, []), (82, 13, 0, []), (0, 0, 0, []), (45, 0, 0, []), (1, 0, 0, []), (2, 110, 0, []), (0, 0, 0, []), (78, 0, 0, []), (45, 0, 0, []), (1, 1, 0, []), (2, 117, 0, []), (0, 0, 0, []), (78, 0, 0, []), (45, 0, 0, []), (1, 2, 0, []), (2, 109, 0, []), (0, 0, 0, []), (78, 0, 0, []), (45, 0, 0, []), (1, 3, 0, []), (2, 98, 0, []), (0, 0, 0, []), (78, 0, 0, []), (45, 0, 0, []), (1, 4, 0, []), (2, 101, 0, []), (0, 0, 0, []), (78, 0, 0, []), (45, 0, 0, []), (1, 5, 0, []), (2, 114, 0, []), (0, 0, 0, []), (78, 0, 0, []), (69, 105, 232, [12, 23]), (0, 0, 0, []), (0, 0, 0, []), (12, 0, 0, []), (1, 5, 0, []), (82, 13, 0, []), (0, 0, 0, []), (45, 0, 0, []), (1, 0, 0, []), (2, 119, 0, []), (0, 0, 0, []), (78, 0, 0, []), (45, 0, 0, []), (1, 1, 0, []), (2, 104, 0, []), (0, 0, 0, []), (78, 0, 0, []), (45, 0, 0, []), (1, 2, 0, []), (2, 111, 0, []), (0, 0, 0, []), (78, 0, 0, []), (45, 0, 0, []), (1, 3, 0, []), (2, 108, 0, []), (0, 0, 0, []), (78, 0, 0, []), (45, 0, 0, []), (1, 4, 0, []), (2, 101, 0, []), (0, 0, 0, []), (78, 0, 0, []), (69, 106, 233, [12, 23]), (0, 0, 0, []), (0, 0, 0, []), (12, 0, 0, []), (1, 4, 0, []), (82, 13, 0, []), (0, 0, 0, []), (45, 0, 0, []), (1, 0, 0, []), (2, 116, 0, []), (0, 0, 0, []), (78, 0, 0, []), (45, 0, 0, []), (1, 1, 0, []), (2, 117, 0, []), (0, 0, 0, []), (78, 0, 0, []), (45, 0, 0, []), (1, 2, 0, []), (2, 98, 0, []), (0, 0, 0, []), (78, 0, 0, []), (45, 0, 0, []), (1, 3, 0, []), (2, 115, 0, []), (0, 0, 0, []), (78, 0, 0, []), (69, 107, 234, [12, 23]), (0, 0, 0, []), (0, 0, 0, []), (12, 0, 0, []), (3, 1700, 0, []), (0, 0, 0, []), (0, 0, 0, []), (82, 14, 0, []), (0, 0, 0, []), (69, 108, 235, [12, 24]), (0, 0, 0, []), (0, 0, 0, []), (12, 0, 0, []), (3, 1700, 0, []), (0, 0, 0, []), (0, 0, 0, []), (82, 14, 0, []), (0, 0, 0, []), (69, 110, 236, [12, 24]), (0, 0, 0, []), (0, 0, 0, []), (12, 0, 0, []), (3, 1700, 0, []), (0, 0, 0, []), (0, 0, 0, []), (82, 15, 0, []), (0, 0, 0, []), (69, 114, 237, [12, 25]), (0, 0, 0, []), (0, 0, 0, []), (12, 0, 0, []), (2, 61, 0, []), (0, 0, 0, []), (82, 14, 0, []), (0, 0, 0, []), (69, 118, 238, [12, 24]), (0, 0, 0, []), (0, 0, 0, []), (95, 0, 0, [])]
def k187 : List jI := [(10, 0, 0, []), (10, 2, 0, []), (42, 0, 0, []), (50, 17, 0, []), (0, 0, 0, []), (0, 0, 0, []), (10, 0, 0, []), (11, 4, 0, []), (0, 0, 0, []), (42, 0, 0, []), (52, 17, 0, []), (0, 0, 0, []), (0, 0, 0, []), (1, 1, 0, []), (60, 18, 0, []), (0, 0, 0, []), (0, 0, 0, []), (1, 0, 0, []), (94, 0, 0, [])]
def k188 : List jI := [(12, 0, 0, []), (64, 1, 239, [12, 0]), (0, 0, 0, []), (0, 0, 0, []), (2, 20, 0, []), (0, 0, 0, []), (21, 0, 0, []), (3, 1600, 0, []), (0, 0, 0, []), (0, 0, 0, []), (59, 25, 0, []), (0, 0, 0, []), (0, 0, 0, []), (12, 0, 0, []), (65, 9, 158, [12, 24]), (0, 0, 0, []), (0, 0, 0, []), (1, 0, 0, []), (46, 0, 0, []), (70, 0, 0, []), (1, 1, 0, []), (21, 0, 0, []), (75, 0, 0, []), (1, -1, 0, []), (91, 0, 0, []), (1, 0, 0, []), (15, 6, 0, []), (0, 0, 0, []), (9, 6, 0, []), (0, 0, 0, []), (2, 20, 0, []), (0, 0, 0, []), (57, 124, 0, []), (0, 0, 0, []), (0, 0, 0, []), (9, 6, 0, []), (0, 0, 0, []), (1, 4, 0, []), (57, 45, 0, []), (0, 0, 0, []), (0, 0, 0, []), (8, 1, 0, []), (60, 81, 0, []), (0, 0, 0, []), (0, 0, 0, []), (9, 6, 0, []), (0, 0, 0, []), (2, 8, 0, []), (0, 0, 0, []), (57, 56, 0, []), (0, 0, 0, []), (0, 0, 0, []), (8, 2, 0, []), (60, 81, 0, []), (0, 0, 0, []), (0, 0, 0, []), (9, 6, 0, []), (0, 0, 0, []), (2, 12, 0, []), (0, 0, 0, []), (57, 67, 0, []), (0, 0, 0, []), (0, 0, 0, []), (8, 3, 0, []), (60, 81, 0, []), (0, 0, 0, []), (0, 0, 0, []), (9, 6, 0, []), (0, 0, 0, []), (2, 16, 0, []), (0, 0, 0, []), (57, 79, 0, []), (0, 0, 0, []), (0, 0, 0, []), (9, 4, 0, []), (0, 0, 0, []), (60, 81, 0, []), (0, 0, 0, []), (0, 0, 0, []), (9, 5, 0, []), (0, 0, 0, []), (15, 7, 0, []), (0, 0, 0, []), (12, 0, 0, []), (65, 0, 156, [12, 24]), (0, 0, 0, []), (0, 0, 0, []), (12, 0, 0, []), (64, 1, 239, [12, 0]), (0, 0, 0, []), (0, 0, 0, []), (9, 7, 0, []), (0, 0, 0, []), (2, 8, 0, []), (0, 0, 0, []), (1, 3, 0, []), (9, 6, 0, []), (0, 0, 0, []), (1, 4, 0, []), (25, 0, 0, []), (22, 0, 0, []), (23, 0, 0, []), (28, 0, 0, []), (3, 255, 0, []), (0, 0, 0, []), (0, 0, 0, []), (30, 0, 0, []), (75, 0, 0, []), (12, 0, 0, []), (45, 0, 0, []), (64, 1, 239, [12, 0]), (0, 0, 0, []), (0, 0, 0, []), (1, 1, 0, []), (21, 0, 0, []), (66, 1, 239, [12, 0]), (0, 0, 0, []), (0, 0, 0, []), (20, 6, 1, []), (0, 0, 0, []), (0, 0, 0, []), (60, 28, 0, []), (0, 0, 0, []), (0, 0, 0, []), (12, 0, 0, []), (64, 1, 239, [12, 0]), (0, 0, 0, []), (0, 0, 0, []), (91, 0, 0, [])]
def k189 : List jI := [(8, 1, 0, []), (50, 12, 0, []), (0, 0, 0, []), (0, 0, 0, []), (8, 1, 0, []), (12, 0, 0, []), (64, 1, 239, [12, 0]), (0, 0, 0, []), (0, 0, 0, []), (59, 24, 0, []), (0, 0, 0, []), (0, 0, 0, []), (12, 0, 0, []), (65, 9, 158, [12, 24]), (0, 0, 0, []), (0, 0, 0, []), (1, 0, 0, []), (46, 0, 0, []), (70, 0, 0, []), (1, 1, 0, []), (21, 0, 0, []), (75, 0, 0, []), (1, 0, 0, []), (94, 0, 0, []), (12, 0, 0, []), (8, 1, 0, []), (66, 1, 239, [12, 0]), (0, 0, 0, []), (0, 0, 0, []), (1, 1, 0, []), (94, 0, 0, [])]
def k190 : List jI := [(12, 0, 0, []), (64, 5, 240, [12, 0]), (0, 0, 0, []), (0, 0, 0, []), (48, 8, 0, []), (0, 0, 0, []), (0, 0, 0, []), (95, 0, 0, []), (12, 0, 0, []), (8, 1, 0, []), (66, 5, 240, [12, 0]), (0, 0, 0, []), (0, 0, 0, []), (12, 0, 0, []), (8, 2, 0, []), (66, 6, 241, [12, 0]), (0, 0, 0, []), (0, 0, 0, []), (95, 0, 0, [])]
def k191 : List jI := [(8, 0, 0, []), (2, 97, 0, []), (0, 0, 0, []), (56, 16, 0, []), (0, 0, 0, []), (0, 0, 0, []), (8, 0, 0, []), (2, 122, 0, []), (0, 0, 0, []), (58, 16, 0, []), (0, 0, 0, []), (0, 0, 0, []), (1, 1, 0, []), (60, 17, 0, []), (0, 0, 0, []), (0, 0, 0, []), (1, 0, 0, []), (94, 0, 0, [])]
def k192 : List jI := [(8, 0, 0, []), (2, 48, 0, []), (0, 0, 0, []), (56, 16, 0, []), (0, 0, 0, []), (0, 0, 0, []), (8, 0, 0, []), (2, 57, 0, []), (0, 0, 0, []), (58, 16, 0, []), (0, 0, 0, []), (0, 0, 0, []), (1, 1, 0, []), (60, 17, 0, []), (0, 0, 0, []), (0, 0, 0, []), (1, 0, 0, []), (94, 0, 0, [])]
def k193 : List jI := [(12, 0, 0, []), (64, 2, 242, [12, 0]), (0, 0, 0, []), (0, 0, 0, []), (12, 0, 0, []), (64, 3, 243, [12, 0]), (0, 0, 0, []), (0, 0, 0, []), (57, 52, 0, []), (0, 0, 0, []), (0, 0, 0, []), (12, 0, 0, []), (65, 0, 156, [12, 24]), (0, 0, 0, []), (0, 0, 0, []), (12, 0, 0, []), (64, 2, 242, [12, 0]), (0, 0, 0, []), (0, 0, 0, []), (70, 0, 0, []), (2, 10, 0, []), (0, 0, 0, []), (54, 39, 0, []), (0, 0, 0, []), (0, 0, 0, []), (12, 0, 0, []), (65, 0, 156, [12, 24]), (0, 0, 0, []), (0, 0, 0, []), (12, 0, 0, []), (64, 2, 242, [12, 0]), (0, 0, 0, []), (0, 0, 0, []), (70, 0, 0, []), (2, 32, 0, []), (0, 0, 0, []), (55, 52, 0, []), (0, 0, 0, []), (0, 0, 0, []), (12, 0, 0, []), (45, 0, 0, []), (64, 2, 242, [12, 0]), (0, 0, 0, []), (0, 0, 0, []), (1, 1, 0, []), (21, 0, 0, []), (66, 2, 242, [12, 0]), (0, 0, 0, []), (0, 0, 0, []), (60, 0, 0, []), (0, 0, 0, []), (0, 0, 0, []), (12, 0, 0, []), (64, 2, 242, [12, 0]), (0, 0, 0, []), (0, 0, 0, []), (12, 0, 0, []), (64, 3, 243, [12, 0]), (0, 0, 0, []), (0, 0, 0, []), (57, 75, 0, []), (0, 0, 0, []), (0, 0, 0, []), (12, 0, 0, []), (65, 0, 156, [12, 24]), (0, 0, 0, []), (0, 0, 0, []), (12, 0, 0, []), (64, 2, 242, [12, 0]), (0, 0, 0, []), (0, 0, 0, []), (70, 0, 0, []), (60, 76, 0, []), (0, 0, 0, []), (0, 0, 0, []), (1, -1, 0, []), (91, 0, 0, [])]
def k194 : List jI := [(12, 0, 0, []), (64, 5, 240, [12, 0]), (0, 0, 0, []), (0, 0, 0, []), (49, 28, 0, []), (0, 0, 0, []), (0, 0, 0, []), (12, 0, 0, []), (85, 193, 225, [1, 0, 22]), (0, 0, 0, []), (0, 0, 0, []), (89, 191, 226, [1, 0]), (0, 0, 0, []), (0, 0, 0, []), (48, 28, 0, []), (0, 0, 0, []), (0, 0, 0, []), (12, 0, 0, []), (64, 2, 242, [12, 0]), (0, 0, 0, []), (0, 0, 0, []), (12, 0, 0, []), (64, 4, 244, [12, 0]), (0, 0, 0, []), (0, 0, 0, []), (55, 30, 0, []), (0, 0, 0, []), (0, 0, 0, []), (1, 0, 0, []), (94, 0, 0, []), (12, 0, 0, []), (64, 2, 242, [12, 0]), (0, 0, 0, []), (0, 0, 0, []), (14, 2, 0, []), (8, 2, 0, []), (12, 0, 0, []), (64, 3, 243, [12, 0]), (0, 0, 0, []), (0, 0, 0, []), (57, 61, 0, []), (0, 0, 0, []), (0, 0, 0, []), (12, 0, 0, []), (65, 0, 156, [12, 24]), (0, 0, 0, []), (0, 0, 0, []), (8, 2, 0, []), (70, 0, 0, []), (89, 191, 226, [1, 0]), (0, 0, 0, []), (0, 0, 0, []), (48, 61, 0, []), (0, 0, 0, []), (0, 0, 0, []), (20, 2, 1, []), (0, 0, 0, []), (0, 0, 0, []), (60, 35, 0, []), (0, 0, 0, []), (0, 0, 0, []), (8, 2, 0, []), (12, 0, 0, []), (64, 2, 242, [12, 0]), (0, 0, 0, []), (0, 0, 0, []), (22, 0, 0, []), (12, 1, 0, []), (80, 0, 0, []), (54, 74, 0, []), (0, 0, 0, []), (0, 0, 0, []), (1, 0, 0, []), (94, 0, 0, []), (1, 0, 0, []), (14, 3, 0, []), (8, 3, 0, []), (12, 1, 0, []), (80, 0, 0, []), (57, 107, 0, []), (0, 0, 0, []), (0, 0, 0, []), (12, 0, 0, []), (65, 0, 156, [12, 24]), (0, 0, 0, []), (0, 0, 0, []), (12, 0, 0, []), (64, 2, 242, [12, 0]), (0, 0, 0, []), (0, 0, 0, []), (8, 3, 0, []), (21, 0, 0, []), (70, 0, 0, []), (12, 1, 0, []), (8, 3, 0, []), (73, 0, 0, []), (54, 101, 0, []), (0, 0, 0, []), (0, 0, 0, []), (1, 0, 0, []), (94, 0, 0, []), (20, 3, 1, []), (0, 0, 0, []), (0, 0, 0, []), (60, 76, 0, []), (0, 0, 0, []), (0, 0, 0, []), (1, 1, 0, []), (94, 0, 0, [])]
def k195 : List jI := [(12, 0, 0, []), (12, 1, 0, []), (85, 194, 227, [2, 0, 22]), (0, 0, 0, []), (0, 0, 0, []), (49, 10, 0, []), (0, 0, 0, []), (0, 0, 0, []), (1, 0, 0, []), (94, 0, 0, []), (12, 0, 0, []), (45, 0, 0, []), (64, 2, 242, [12, 0]), (0, 0, 0, []), (0, 0, 0, []), (12, 1, 0, []), (80, 0, 0, []), (21, 0, 0, []), (66, 2, 242, [12, 0]), (0, 0, 0, []), (0, 0, 0, []), (12, 0, 0, []), (12, 0, 0, []), (64, 2, 242, [12, 0]), (0, 0, 0, []), (0, 0, 0, []), (66, 4, 244, [12, 0]), (0, 0, 0, []), (0, 0, 0, []), (1, 1, 0, []), (94, 0, 0, [])]
def k196 : List jI := [(12, 0, 0, []), (64, 5, 240, [12, 0]), (0, 0, 0, []), (0, 0, 0, []), (49, 24, 0, []), (0, 0, 0, []), (0, 0, 0, []), (12, 0, 0, []), (12, 1, 0, []), (85, 195, 228, [2, 0, 22]), (0, 0, 0, []), (0, 0, 0, []), (49, 24, 0, []), (0, 0, 0, []), (0, 0, 0, []), (12, 0, 0, []), (1, 1, 0, []), (12, 0, 0, []), (64, 2, 242, [12, 0]), (0, 0, 0, []), (0, 0, 0, []), (85, 190, 229, [3, 99, 22]), (0, 0, 0, []), (0, 0, 0, []), (95, 0, 0, [])]
def k197 : List jI := [(12, 0, 0, []), (64, 5, 240, [12, 0]), (0, 0, 0, []), (0, 0, 0, []), (49, 15, 0, []), (0, 0, 0, []), (0, 0, 0, []), (12, 0, 0, []), (85, 193, 225, [1, 0, 22]), (0, 0, 0, []), (0, 0, 0, []), (8, 1, 0, []), (54, 17, 0, []), (0, 0, 0, []), (0, 0, 0, []), (1, 0, 0, []), (94, 0, 0, []), (12, 0, 0, []), (45, 0, 0, []), (64, 2, 242, [12, 0]), (0, 0, 0, []), (0, 0, 0, []), (1, 1, 0, []), (21, 0, 0, []), (66, 2, 242, [12, 0]), (0, 0, 0, []), (0, 0, 0, []), (1, 1, 0, []), (94, 0, 0, [])]
def k198 : List jI := [(12, 0, 0, []), (64, 5, 240, [12, 0]), (0, 0, 0, []), (0, 0, 0, []), (49, 24, 0, []), (0, 0, 0, []), (0, 0, 0, []), (12, 0, 0, []), (8, 1, 0, []), (85, 197, 230, [2, 0, 22]), (0, 0, 0, []), (0, 0, 0, []), (49, 24, 0, []), (0, 0, 0, []), (0, 0, 0, []), (12, 0, 0, []), (1, 1, 0, []), (12, 0, 0, []), (64, 2, 242, [12, 0]), (0, 0, 0, []), (0, 0, 0, []), (85, 190, 229, [3, 99, 22]), (0, 0, 0, []), (0, 0, 0, []), (95, 0, 0, [])]
def k199 : List jI := [(12, 0, 0, []), (64, 5, 240, [12, 0]), (0, 0, 0, []), (0, 0, 0, []), (48, 9, 0, []), (0, 0, 0, []), (0, 0, 0, []), (1, 0, 0, []), (91, 0, 0, []), (12, 0, 0, []), (85, 193, 225, [1, 0, 22]), (0, 0, 0, []), (0, 0, 0, []), (89, 192, 231, [1, 0]), (0, 0, 0, []), (0, 0, 0, []), (48, 30, 0, []), (0, 0, 0, []), (0, 0, 0, []), (12, 0, 0, []), (64, 2, 242, [12, 0]), (0, 0, 0, []), (0, 0, 0, []), (12, 0, 0, []), (64, 4, 244, [12, 0]), (0, 0, 0, []), (0, 0, 0, []), (55, 41, 0, []), (0, 0, 0, []), (0, 0, 0, []), (12, 0, 0, []), (1, 1, 0, []), (12, 0, 0, []), (64, 2, 242, [12, 0]), (0, 0, 0, []), (0, 0, 0, []), (85, 190, 229, [3, 99, 22]), (0, 0, 0, []), (0, 0, 0, []), (1, 0, 0, []), (91, 0, 0, []), (12, 0, 0, []), (64, 2, 242, [12, 0]), (0, 0, 0, []), (0, 0, 0, []), (14, 3, 0, []), (1, 0, 0, []), (15, 4, 0, []), (0, 0, 0, []), (12, 0, 0, []), (64, 2, 242, [12, 0]), (0, 0, 0, []), (0, 0, 0, []), (12, 0, 0, []), (64, 3, 243, [12, 0]), (0, 0, 0, []), (0, 0, 0, []), (57, 129, 0, []), (0, 0, 0, []), (0, 0, 0, []), (12, 0, 0, []), (65, 0, 156, [12, 24]), (0, 0, 0, []), (0, 0, 0, []), (12, 0, 0, []), (64, 2, 242, [12, 0]), (0, 0, 0, []), (0, 0, 0, []), (70, 0, 0, []), (89, 192, 231, [1, 0]), (0, 0, 0, []), (0, 0, 0, []), (48, 129, 0, []), (0, 0, 0, []), (0, 0, 0, []), (12, 0, 0, []), (64, 2, 242, [12, 0]), (0, 0, 0, []), (0, 0, 0, []), (8, 3, 0, []), (22, 0, 0, []), (1, 4, 0, []), (55, 96, 0, []), (0, 0, 0, []), (0, 0, 0, []), (12, 0, 0, []), (1, 1, 0, []), (12, 0, 0, []), (64, 2, 242, [12, 0]), (0, 0, 0, []), (0, 0, 0, []), (85, 190, 229, [3, 99, 22]), (0, 0, 0, []), (0, 0, 0, []), (1, 0, 0, []), (91, 0, 0, []), (2, 10, 0, []), (0, 0, 0, []), (9, 4, 0, []), (0, 0, 0, []), (23, 0, 0, []), (12, 0, 0, []), (65, 0, 156, [12, 24]), (0, 0, 0, []), (0, 0, 0, []), (12, 0, 0, []), (64, 2, 242, [12, 0]), (0, 0, 0, []), (0, 0, 0, []), (70, 0, 0, []), (21, 0, 0, []), (2, 48, 0, []), (0, 0, 0, []), (22, 0, 0, []), (15, 4, 0, []), (0, 0, 0, []), (12, 0, 0, []), (45, 0, 0, []), (64, 2, 242, [12, 0]), (0, 0, 0, []), (0, 0, 0, []), (1, 1, 0, []), (21, 0, 0, []), (66, 2, 242, [12, 0]), (0, 0, 0, []), (0, 0, 0, []), (60, 49, 0, []), (0, 0, 0, []), (0, 0, 0, []), (12, 0, 0, []), (12, 0, 0, []), (64, 2, 242, [12, 0]), (0, 0, 0, []), (0, 0, 0, []), (66, 4, 244, [12, 0]), (0, 0, 0, []), (0, 0, 0, []), (9, 4, 0, []), (0, 0, 0, []), (43, 0, 0, []), (8, 1, 0, []), (43, 0, 0, []), (8, 2, 0, []), (43, 0, 0, []), (89, 187, 232, [3, 0]), (0, 0, 0, []), (0, 0, 0, []), (49, 156, 0, []), (0, 0, 0, []), (0, 0, 0, []), (12, 0, 0, []), (1, 2, 0, []), (8, 3, 0, []), (85, 190, 229, [3, 99, 22]), (0, 0, 0, []), (0, 0, 0, []), (9, 4, 0, []), (0, 0, 0, []), (91, 0, 0, [])]
def k200 : List jI := [(12, 0, 0, []), (12, 0, 0, []), (65, 10, 159, [12, 23]), (0, 0, 0, []), (0, 0, 0, []), (85, 194, 227, [2, 0, 22]), (0, 0, 0, []), (0, 0, 0, []), (49, 66, 0, []), (0, 0, 0, []), (0, 0, 0, []), (12, 0, 0, []), (12, 0, 0, []), (65, 11, 160, [12, 23]), (0, 0, 0, []), (0, 0, 0, []), (85, 194, 227, [2, 0, 22]), (0, 0, 0, []), (0, 0, 0, []), (49, 66, 0, []), (0, 0, 0, []), (0, 0, 0, []), (12, 0, 0, []), (12, 0, 0, []), (65, 12, 161, [12, 23]), (0, 0, 0, []), (0, 0, 0, []), (85, 194, 227, [2, 0, 22]), (0, 0, 0, []), (0, 0, 0, []), (49, 66, 0, []), (0, 0, 0, []), (0, 0, 0, []), (12, 0, 0, []), (12, 0, 0, []), (65, 13, 162, [12, 23]), (0, 0, 0, []), (0, 0, 0, []), (85, 194, 227, [2, 0, 22]), (0, 0, 0, []), (0, 0, 0, []), (49, 66, 0, []), (0, 0, 0, []), (0, 0, 0, []), (12, 0, 0, []), (12, 0, 0, []), (65, 14, 163, [12, 23]), (0, 0, 0, []), (0, 0, 0, []), (85, 194, 227, [2, 0, 22]), (0, 0, 0, []), (0, 0, 0, []), (49, 66, 0, []), (0, 0, 0, []), (0, 0, 0, []), (12, 0, 0, []), (12, 0, 0, []), (65, 15, 164, [12, 23]), (0, 0, 0, []), (0, 0, 0, []), (85, 194, 227, [2, 0, 22]), (0, 0, 0, []), (0, 0, 0, []), (48, 70, 0, []), (0, 0, 0, []), (0, 0, 0, []), (1, 1, 0, []), (60, 71, 0, []), (0, 0, 0, []), (0, 0, 0, []), (1, 0, 0, []), (14, 1, 0, []), (8, 1, 0, []), (49, 142, 0, []), (0, 0, 0, []), (0, 0, 0, []), (12, 0, 0, []), (12, 0, 0, []), (65, 16, 165, [12, 23]), (0, 0, 0, []), (0, 0, 0, []), (85, 194, 227, [2, 0, 22]), (0, 0, 0, []), (0, 0, 0, []), (49, 142, 0, []), (0, 0, 0, []), (0, 0, 0, []), (12, 0, 0, []), (12, 0, 0, []), (65, 17, 166, [12, 23]), (0, 0, 0, []), (0, 0, 0, []), (85, 194, 227, [2, 0, 22]), (0, 0, 0, []), (0, 0, 0, []), (49, 142, 0, []), (0, 0, 0, []), (0, 0, 0, []), (12, 0, 0, []), (12, 0, 0, []), (65, 18, 167, [12, 23]), (0, 0, 0, []), (0, 0, 0, []), (85, 194, 227, [2, 0, 22]), (0, 0, 0, []), (0, 0, 0, []), (49, 142, 0, []), (0, 0, 0, []), (0, 0, 0, []), (12, 0, 0, []), (12, 0, 0, []), (65, 19, 168, [12, 23]), (0, 0, 0, []), (0, 0, 0, []), (85, 194, 227, [2, 0, 22]), (0, 0, 0, []), (0, 0, 0, []), (49, 142, 0, []), (0, 0, 0, []), (0, 0, 0, []), (12, 0, 0, []), (12, 0, 0, []), (65, 20, 169, [12, 23]), (0, 0, 0, []), (0, 0, 0, []), (85, 194, 227, [2, 0, 22]), (0, 0, 0, []), (0, 0, 0, []), (49, 142, 0, []), (0, 0, 0, []), (0, 0, 0, []), (12, 0, 0, []), (12, 0, 0, []), (65, 21, 170, [12, 23]), (0, 0, 0, []), (0, 0, 0, []), (85, 194, 227, [2, 0, 22]), (0, 0, 0, []), (0, 0, 0, []), (48, 146, 0, []), (0, 0, 0, []), (0, 0, 0, []), (1, 1, 0, []), (60, 147, 0, []), (0, 0, 0, []), (0, 0, 0, []), (1, 0, 0, []), (14, 1, 0, []), (8, 1, 0, []), (49, 218, 0, []), (0, 0, 0, []), (0, 0, 0, []), (12, 0, 0, []), (12, 0, 0, []), (65, 22, 171, [12, 23]), (0, 0, 0, []), (0, 0, 0, []), (85, 194, 227, [2, 0, 22]), (0, 0, 0, []), (0, 0, 0, []), (49, 218, 0, []), (0, 0, 0, []), (0, 0, 0, []), (12, 0, 0, []), (12, 0, 0, []), (65, 23, 172, [12, 23]), (0, 0, 0, []), (0, 0, 0, []), (85, 194, 227, [2, 0, 22]), (0, 0, 0, []), (0, 0, 0, []), (49, 218, 0, []), (0, 0, 0, []), (0, 0, 0, []), (12, 0, 0, []), (12, 0, 0, []), (65, 24, 173, [12, 23]), (0, 0, 0, []), (0, 0, 0, []), (85, 194, 227, [2, 0, 22]), (0, 0, 0, []), (0, 0, 0, []), (49, 218, 0, []), (0, 0, 0, []), (0, 0, 0, []), (12, 0, 0, []), (12, 0, 0, []), (65, 25, 174, [12, 23]), (0, 0, 0, []), (0, 0, 0, []), (85, 194, 227, [2, 0, 22]), (0, 0, 0, []), (0, 0, 0, []), (49, 218, 0, []), (0, 0, 0, []), (0, 0, 0, []), (12, 0, 0, []), (12, 0, 0, []), (65, 26, 175, [12, 23]), (0, 0, 0, []), (0, 0, 0, []), (85, 194, 227, [2, 0, 22]), (0, 0, 0, []), (0, 0, 0, []), (49, 218, 0, []), (0, 0, 0, []), (0, 0, 0, []), (12, 0, 0, []), (12, 0, 0, []), (65, 27, 176, [12, 23]), (0, 0, 0, []), (0, 0, 0, []), (85, 194, 227, [2, 0, 22]), (0, 0, 0, []), (0, 0, 0, []), (48, 222, 0, []), (0, 0, 0, []), (0, 0, 0, []), (1, 1, 0, []), (60, 223, 0, []), (0, 0, 0, []), (0, 0, 0, []), (1, 0, 0, []), (14, 1, 0, []), (8, 1, 0, []), (49, 294, 0, []), (0, 0, 0, []), (0, 0, 0, []), (12, 0, 0, []), (12, 0, 0, []), (65, 28, 177, [12, 23]), (0, 0, 0, []), (0, 0, 0, []), (85, 194, 227, [2, 0, 22]), (0, 0, 0, []), (0, 0, 0, []), (49, 294, 0, []), (0, 0, 0, []), (0, 0, 0, []), (12, 0, 0, []), (12, 0, 0, []), (65, 29, 178, [12, 23]), (0, 0, 0, []), (0, 0, 0, []), (85, 194, 227, [2, 0, 22]), (0, 0, 0, []), (0, 0, 0, []), (49, 294, 0, []), (0, 0, 0, []), (0, 0, 0, []), (12, 0, 0, []), (12, 0, 0, []), (65, 30, 179, [12, 23]), (0, 0, 0, []), (0, 0, 0, []), (85, 194, 227, [2, 0, 22]), (0, 0, 0, []), (0, 0, 0, []), (49, 294, 0, []), (0, 0, 0, []), (0, 0, 0, []), (12, 0, 0, []), (12, 0, 0, []), (65, 31, 180, [12, 23]), (0, 0, 0, []), (0, 0, 0, []), (85, 194, 227, [2, 0, 22]), (0, 0, 0, []), (0, 0, 0, []), (49, 294, 0, []), (0, 0, 0, []), (0, 0, 0, []), (12, 0, 0, []), (12, 0, 0, []), (65, 32, 181, [12, 23]), (0, 0, 0, []), (0, 0, 0, []), (85, 194, 227, [2, 0, 22]), (0, 0, 0, []), (0, 0, 0, []), (49, 294, 0, []), (0, 0, 0, []), (0, 0, 0, []), (12, 0, 0, []), (12, 0, 0, []), (65, 33, 182, [12, 23]), (0, 0, 0, []), (0, 0, 0, []), (85, 194, 227, [2, 0, 22]), (0, 0, 0, []), (0, 0, 0, []), (48, 298, 0, []), (0, 0, 0, []), (0, 0, 0, []), (1, 1, 0, []), (60, 299, 0, []), (0, 0, 0, []), (0, 0, 0, []), (1, 0, 0, []), (14, 1, 0, []), (8, 1, 0, []), (49, 359, 0, []), (0, 0, 0, []), (0, 0, 0, []), (12, 0, 0, []), (12, 0, 0, []), (65, 34, 183, [12, 23]), (0, 0, 0, []), (0, 0, 0, []), (85, 194, 227, [2, 0, 22]), (0, 0, 0, []), (0, 0, 0, []), (49, 359, 0, []), (0, 0, 0, []), (0, 0, 0, []), (12, 0, 0, []), (12, 0, 0, []), (65, 35, 184, [12, 23]), (0, 0, 0, []), (0, 0, 0, []), (85, 194, 227, [2, 0, 22]), (0, 0, 0, []), (0, 0, 0, []), (49, 359, 0, []), (0, 0, 0, []), (0, 0, 0, []), (12, 0, 0, []), (12, 0, 0, []), (65, 36, 185, [12, 23]), (0, 0, 0, []), (0, 0, 0, []), (85, 194, 227, [2, 0, 22]), (0, 0, 0, []), (0, 0, 0, []), (49, 359, 0, []), (0, 0, 0, []), (0, 0, 0, []), (12, 0, 0, []), (12, 0, 0, []), (65, 37, 186, [12, 23]), (0, 0, 0, []), (0, 0, 0, []), (85, 194, 227, [2, 0, 22]), (0, 0, 0, []), (0, 0, 0, []), (49, 359, 0, []), (0, 0, 0, []), (0, 0, 0, []), (12, 0, 0, []), (12, 0, 0, []), (65, 38, 187, [12, 23]), (0, 0, 0, []), (0, 0, 0, []), (85, 194, 227, [2, 0, 22]), (0, 0, 0, []), (0, 0, 0, []), (48, 363, 0, []), (0, 0, 0, []), (0, 0, 0, []), (1, 1, 0, []), (60, 364, 0, []), (0, 0, 0, []), (0, 0, 0, []), (1, 0, 0, []), (14, 1, 0, []), (8, 1, 0, []), (94, 0, 0, [])]
def k201 : List jI := [(12, 0, 0, []), (64, 5, 240, [12, 0]), (0, 0, 0, []), (0, 0, 0, []), (48, 9, 0, []), (0, 0, 0, []), (0, 0, 0, []), (6, 0, 0, []), (92, 0, 0, []), (12, 0, 0, []), (85, 193, 225, [1, 0, 22]), (0, 0, 0, []), (0, 0, 0, []), (89, 191, 226, [1, 0]), (0, 0, 0, []), (0, 0, 0, []), (48, 37, 0, []), (0, 0, 0, []), (0, 0, 0, []), (12, 0, 0, []), (64, 2, 242, [12, 0]), (0, 0, 0, []), (0, 0, 0, []), (12, 0, 0, []), (64, 4, 244, [12, 0]), (0, 0, 0, []), (0, 0, 0, []), (54, 37, 0, []), (0, 0, 0, []), (0, 0, 0, []), (12, 0, 0, []), (85, 200, 233, [1, 0, 22]), (0, 0, 0, []), (0, 0, 0, []), (48, 48, 0, []), (0, 0, 0, []), (0, 0, 0, []), (12, 0, 0, []), (1, 1, 0, []), (12, 0, 0, []), (64, 2, 242, [12, 0]), (0, 0, 0, []), (0, 0, 0, []), (85, 190, 229, [3, 99, 22]), (0, 0, 0, []), (0, 0, 0, []), (6, 0, 0, []), (92, 0, 0, []), (12, 0, 0, []), (12, 0, 0, []), (64, 2, 242, [12, 0]), (0, 0, 0, []), (0, 0, 0, []), (66, 39, 245, [12, 0]), (0, 0, 0, []), (0, 0, 0, []), (6, 0, 0, []), (16, 1, 0, []), (12, 0, 0, []), (64, 2, 242, [12, 0]), (0, 0, 0, []), (0, 0, 0, []), (12, 0, 0, []), (64, 3, 243, [12, 0]), (0, 0, 0, []), (0, 0, 0, []), (57, 145, 0, []), (0, 0, 0, []), (0, 0, 0, []), (12, 0, 0, []), (65, 0, 156, [12, 24]), (0, 0, 0, []), (0, 0, 0, []), (12, 0, 0, []), (64, 2, 242, [12, 0]), (0, 0, 0, []), (0, 0, 0, []), (70, 0, 0, []), (89, 191, 226, [1, 0]), (0, 0, 0, []), (0, 0, 0, []), (48, 145, 0, []), (0, 0, 0, []), (0, 0, 0, []), (12, 0, 0, []), (64, 2, 242, [12, 0]), (0, 0, 0, []), (0, 0, 0, []), (12, 0, 0, []), (64, 39, 245, [12, 0]), (0, 0, 0, []), (0, 0, 0, []), (22, 0, 0, []), (2, 6, 0, []), (0, 0, 0, []), (55, 109, 0, []), (0, 0, 0, []), (0, 0, 0, []), (12, 0, 0, []), (1, 1, 0, []), (12, 0, 0, []), (64, 2, 242, [12, 0]), (0, 0, 0, []), (0, 0, 0, []), (85, 190, 229, [3, 99, 22]), (0, 0, 0, []), (0, 0, 0, []), (6, 0, 0, []), (92, 0, 0, []), (7, 27, 319, []), (0, 0, 0, []), (0, 0, 0, []), (10, 1, 0, []), (35, 0, 0, []), (12, 0, 0, []), (65, 0, 156, [12, 24]), (0, 0, 0, []), (0, 0, 0, []), (12, 0, 0, []), (64, 2, 242, [12, 0]), (0, 0, 0, []), (0, 0, 0, []), (70, 0, 0, []), (43, 0, 0, []), (33, 0, 0, []), (7, 97, 321, []), (0, 0, 0, []), (0, 0, 0, []), (34, 0, 0, []), (6, 1, 0, []), (33, 0, 0, []), (16, 1, 0, []), (12, 0, 0, []), (45, 0, 0, []), (64, 2, 242, [12, 0]), (0, 0, 0, []), (0, 0, 0, []), (1, 1, 0, []), (21, 0, 0, []), (66, 2, 242, [12, 0]), (0, 0, 0, []), (0, 0, 0, []), (60, 58, 0, []), (0, 0, 0, []), (0, 0, 0, []), (12, 0, 0, []), (12, 0, 0, []), (64, 2, 242, [12, 0]), (0, 0, 0, []), (0, 0, 0, []), (66, 4, 244, [12, 0]), (0, 0, 0, []), (0, 0, 0, []), (10, 1, 0, []), (92, 0, 0, [])]
def k202 : List jI := [(12, 0, 0, []), (64, 52, 246, [12, 0]), (0, 0, 0, []), (0, 0, 0, []), (1, 2, 0, []), (54, 41, 0, []), (0, 0, 0, []), (0, 0, 0, []), (12, 0, 0, []), (64, 52, 246, [12, 0]), (0, 0, 0, []), (0, 0, 0, []), (49, 24, 0, []), (0, 0, 0, []), (0, 0, 0, []), (8, 1, 0, []), (2, 6, 0, []), (0, 0, 0, []), (57, 45, 0, []), (0, 0, 0, []), (0, 0, 0, []), (60, 41, 0, []), (0, 0, 0, []), (0, 0, 0, []), (8, 1, 0, []), (1, 1, 0, []), (54, 41, 0, []), (0, 0, 0, []), (0, 0, 0, []), (8, 1, 0, []), (2, 6, 0, []), (0, 0, 0, []), (54, 41, 0, []), (0, 0, 0, []), (0, 0, 0, []), (8, 1, 0, []), (2, 7, 0, []), (0, 0, 0, []), (55, 45, 0, []), (0, 0, 0, []), (0, 0, 0, []), (1, 1, 0, []), (60, 46, 0, []), (0, 0, 0, []), (0, 0, 0, []), (1, 0, 0, []), (94, 0, 0, [])]
def k203 : List jI := [(12, 0, 0, []), (64, 5, 240, [12, 0]), (0, 0, 0, []), (0, 0, 0, []), (49, 23, 0, []), (0, 0, 0, []), (0, 0, 0, []), (12, 0, 0, []), (65, 40, 188, [12, 24]), (0, 0, 0, []), (0, 0, 0, []), (8, 1, 0, []), (70, 0, 0, []), (8, 2, 0, []), (55, 23, 0, []), (0, 0, 0, []), (0, 0, 0, []), (12, 0, 0, []), (1, 5, 0, []), (8, 3, 0, []), (85, 190, 229, [3, 99, 22]), (0, 0, 0, []), (0, 0, 0, []), (12, 0, 0, []), (64, 5, 240, [12, 0]), (0, 0, 0, []), (0, 0, 0, []), (48, 34, 0, []), (0, 0, 0, []), (0, 0, 0, []), (1, 1, 0, []), (60, 35, 0, []), (0, 0, 0, []), (0, 0, 0, []), (1, 0, 0, []), (94, 0, 0, [])]
def k204 : List jI := [(1, 0, 0, []), (14, 3, 0, []), (8, 3, 0, []), (12, 0, 0, []), (65, 40, 188, [12, 24]), (0, 0, 0, []), (0, 0, 0, []), (1, 2, 0, []), (70, 0, 0, []), (57, 31, 0, []), (0, 0, 0, []), (0, 0, 0, []), (12, 0, 0, []), (65, 41, 189, [12, 25]), (0, 0, 0, []), (0, 0, 0, []), (8, 3, 0, []), (71, 0, 0, []), (10, 1, 0, []), (42, 0, 0, []), (49, 25, 0, []), (0, 0, 0, []), (0, 0, 0, []), (8, 3, 0, []), (91, 0, 0, []), (20, 3, 1, []), (0, 0, 0, []), (0, 0, 0, []), (60, 2, 0, []), (0, 0, 0, []), (0, 0, 0, []), (1, -1, 0, []), (91, 0, 0, [])]
def k205 : List jI := [(12, 0, 0, []), (85, 201, 234, [1, 1, 22]), (0, 0, 0, []), (0, 0, 0, []), (16, 1, 0, []), (12, 0, 0, []), (64, 5, 240, [12, 0]), (0, 0, 0, []), (0, 0, 0, []), (49, 30, 0, []), (0, 0, 0, []), (0, 0, 0, []), (12, 0, 0, []), (10, 1, 0, []), (85, 204, 235, [2, 0, 22]), (0, 0, 0, []), (0, 0, 0, []), (1, -1, 0, []), (54, 30, 0, []), (0, 0, 0, []), (0, 0, 0, []), (12, 0, 0, []), (1, 3, 0, []), (12, 0, 0, []), (64, 39, 245, [12, 0]), (0, 0, 0, []), (0, 0, 0, []), (85, 190, 229, [3, 99, 22]), (0, 0, 0, []), (0, 0, 0, []), (1, 0, 0, []), (14, 3, 0, []), (8, 3, 0, []), (12, 0, 0, []), (65, 40, 188, [12, 24]), (0, 0, 0, []), (0, 0, 0, []), (1, 3, 0, []), (70, 0, 0, []), (57, 78, 0, []), (0, 0, 0, []), (0, 0, 0, []), (12, 0, 0, []), (64, 5, 240, [12, 0]), (0, 0, 0, []), (0, 0, 0, []), (49, 72, 0, []), (0, 0, 0, []), (0, 0, 0, []), (12, 0, 0, []), (65, 41, 189, [12, 25]), (0, 0, 0, []), (0, 0, 0, []), (2, 6, 0, []), (0, 0, 0, []), (8, 3, 0, []), (21, 0, 0, []), (71, 0, 0, []), (10, 1, 0, []), (42, 0, 0, []), (49, 72, 0, []), (0, 0, 0, []), (0, 0, 0, []), (12, 0, 0, []), (1, 3, 0, []), (12, 0, 0, []), (64, 39, 245, [12, 0]), (0, 0, 0, []), (0, 0, 0, []), (85, 190, 229, [3, 99, 22]), (0, 0, 0, []), (0, 0, 0, []), (20, 3, 1, []), (0, 0, 0, []), (0, 0, 0, []), (60, 32, 0, []), (0, 0, 0, []), (0, 0, 0, []), (10, 1, 0, []), (92, 0, 0, [])]
def k206 : List jI := [(12, 0, 0, []), (12, 0, 0, []), (65, 10, 159, [12, 23]), (0, 0, 0, []), (0, 0, 0, []), (85, 196, 236, [2, 99, 22]), (0, 0, 0, []), (0, 0, 0, []), (12, 0, 0, []), (65, 40, 188, [12, 24]), (0, 0, 0, []), (0, 0, 0, []), (1, 0, 0, []), (12, 0, 0, []), (1, 3, 0, []), (2, 8, 0, []), (0, 0, 0, []), (85, 199, 237, [3, 0, 22]), (0, 0, 0, []), (0, 0, 0, []), (75, 0, 0, []), (12, 0, 0, []), (12, 0, 0, []), (65, 11, 160, [12, 23]), (0, 0, 0, []), (0, 0, 0, []), (85, 196, 236, [2, 99, 22]), (0, 0, 0, []), (0, 0, 0, []), (12, 0, 0, []), (65, 40, 188, [12, 24]), (0, 0, 0, []), (0, 0, 0, []), (1, 5, 0, []), (12, 0, 0, []), (1, 0, 0, []), (12, 0, 0, []), (65, 40, 188, [12, 24]), (0, 0, 0, []), (0, 0, 0, []), (1, 0, 0, []), (70, 0, 0, []), (1, 1, 0, []), (22, 0, 0, []), (85, 199, 237, [3, 0, 22]), (0, 0, 0, []), (0, 0, 0, []), (75, 0, 0, []), (12, 0, 0, []), (2, 59, 0, []), (0, 0, 0, []), (85, 198, 238, [2, 99, 22]), (0, 0, 0, []), (0, 0, 0, []), (95, 0, 0, [])]
def k207 : List jI := [(12, 0, 0, []), (64, 5, 240, [12, 0]), (0, 0, 0, []), (0, 0, 0, []), (49, 22, 0, []), (0, 0, 0, []), (0, 0, 0, []), (12, 0, 0, []), (65, 40, 188, [12, 24]), (0, 0, 0, []), (0, 0, 0, []), (1, 1, 0, []), (70, 0, 0, []), (53, 22, 0, []), (0, 0, 0, []), (0, 0, 0, []), (12, 0, 0, []), (1, 5, 0, []), (8, 1, 0, []), (85, 190, 229, [3, 99, 22]), (0, 0, 0, []), (0, 0, 0, []), (12, 0, 0, []), (1, 2, 0, []), (1, 5, 0, []), (8, 1, 0, []), (85, 203, 239, [4, 0, 22]), (0, 0, 0, []), (0, 0, 0, []), (48, 33, 0, []), (0, 0, 0, []), (0, 0, 0, []), (95, 0, 0, []), (12, 0, 0, []), (85, 205, 240, [1, 1, 22]), (0, 0, 0, []), (0, 0, 0, []), (16, 2, 0, []), (12, 0, 0, []), (12, 0, 0, []), (65, 13, 162, [12, 23]), (0, 0, 0, []), (0, 0, 0, []), (85, 196, 236, [2, 99, 22]), (0, 0, 0, []), (0, 0, 0, []), (12, 0, 0, []), (1, 1, 0, []), (2, 99, 0, []), (0, 0, 0, []), (85, 199, 237, [3, 0, 22]), (0, 0, 0, []), (0, 0, 0, []), (15, 4, 0, []), (0, 0, 0, []), (12, 0, 0, []), (12, 0, 0, []), (65, 14, 163, [12, 23]), (0, 0, 0, []), (0, 0, 0, []), (85, 196, 236, [2, 99, 22]), (0, 0, 0, []), (0, 0, 0, []), (12, 0, 0, []), (1, 0, 0, []), (2, 99, 0, []), (0, 0, 0, []), (85, 199, 237, [3, 0, 22]), (0, 0, 0, []), (0, 0, 0, []), (15, 5, 0, []), (0, 0, 0, []), (12, 0, 0, []), (64, 5, 240, [12, 0]), (0, 0, 0, []), (0, 0, 0, []), (48, 80, 0, []), (0, 0, 0, []), (0, 0, 0, []), (95, 0, 0, []), (12, 0, 0, []), (65, 41, 189, [12, 25]), (0, 0, 0, []), (0, 0, 0, []), (12, 0, 0, []), (65, 40, 188, [12, 24]), (0, 0, 0, []), (0, 0, 0, []), (1, 2, 0, []), (70, 0, 0, []), (10, 2, 0, []), (76, 0, 0, []), (12, 0, 0, []), (65, 42, 190, [12, 24]), (0, 0, 0, []), (0, 0, 0, []), (1, 3, 0, []), (12, 0, 0, []), (65, 40, 188, [12, 24]), (0, 0, 0, []), (0, 0, 0, []), (1, 2, 0, []), (70, 0, 0, []), (23, 0, 0, []), (9, 4, 0, []), (0, 0, 0, []), (75, 0, 0, []), (12, 0, 0, []), (65, 42, 190, [12, 24]), (0, 0, 0, []), (0, 0, 0, []), (1, 3, 0, []), (12, 0, 0, []), (65, 40, 188, [12, 24]), (0, 0, 0, []), (0, 0, 0, []), (1, 2, 0, []), (70, 0, 0, []), (23, 0, 0, []), (1, 1, 0, []), (21, 0, 0, []), (9, 5, 0, []), (0, 0, 0, []), (75, 0, 0, []), (12, 0, 0, []), (65, 42, 190, [12, 24]), (0, 0, 0, []), (0, 0, 0, []), (1, 3, 0, []), (12, 0, 0, []), (65, 40, 188, [12, 24]), (0, 0, 0, []), (0, 0, 0, []), (1, 2, 0, []), (70, 0, 0, []), (23, 0, 0, []), (1, 2, 0, []), (21, 0, 0, []), (1, 0, 0, []), (75, 0, 0, []), (12, 0, 0, []), (65, 40, 188, [12, 24]), (0, 0, 0, []), (0, 0, 0, []), (1, 2, 0, []), (46, 0, 0, []), (70, 0, 0, []), (1, 1, 0, []), (21, 0, 0, []), (75, 0, 0, []), (95, 0, 0, [])]
def k208 : List jI := [(12, 0, 0, []), (1, 1, 0, []), (2, 6, 0, []), (0, 0, 0, []), (8, 1, 0, []), (85, 203, 239, [4, 0, 22]), (0, 0, 0, []), (0, 0, 0, []), (48, 12, 0, []), (0, 0, 0, []), (0, 0, 0, []), (95, 0, 0, []), (12, 0, 0, []), (85, 193, 225, [1, 0, 22]), (0, 0, 0, []), (0, 0, 0, []), (1, -1, 0, []), (55, 27, 0, []), (0, 0, 0, []), (0, 0, 0, []), (12, 0, 0, []), (64, 3, 243, [12, 0]), (0, 0, 0, []), (0, 0, 0, []), (60, 31, 0, []), (0, 0, 0, []), (0, 0, 0, []), (12, 0, 0, []), (64, 2, 242, [12, 0]), (0, 0, 0, []), (0, 0, 0, []), (14, 2, 0, []), (1, 0, 0, []), (14, 3, 0, []), (12, 0, 0, []), (64, 2, 242, [12, 0]), (0, 0, 0, []), (0, 0, 0, []), (12, 0, 0, []), (64, 4, 244, [12, 0]), (0, 0, 0, []), (0, 0, 0, []), (54, 49, 0, []), (0, 0, 0, []), (0, 0, 0, []), (1, 1, 0, []), (60, 50, 0, []), (0, 0, 0, []), (0, 0, 0, []), (1, 0, 0, []), (15, 4, 0, []), (0, 0, 0, []), (12, 0, 0, []), (64, 2, 242, [12, 0]), (0, 0, 0, []), (0, 0, 0, []), (12, 0, 0, []), (64, 3, 243, [12, 0]), (0, 0, 0, []), (0, 0, 0, []), (57, 196, 0, []), (0, 0, 0, []), (0, 0, 0, []), (12, 0, 0, []), (65, 0, 156, [12, 24]), (0, 0, 0, []), (0, 0, 0, []), (12, 0, 0, []), (64, 2, 242, [12, 0]), (0, 0, 0, []), (0, 0, 0, []), (70, 0, 0, []), (89, 191, 226, [1, 0]), (0, 0, 0, []), (0, 0, 0, []), (48, 196, 0, []), (0, 0, 0, []), (0, 0, 0, []), (12, 0, 0, []), (65, 0, 156, [12, 24]), (0, 0, 0, []), (0, 0, 0, []), (12, 0, 0, []), (64, 2, 242, [12, 0]), (0, 0, 0, []), (0, 0, 0, []), (70, 0, 0, []), (2, 97, 0, []), (0, 0, 0, []), (22, 0, 0, []), (15, 5, 0, []), (0, 0, 0, []), (9, 4, 0, []), (0, 0, 0, []), (48, 136, 0, []), (0, 0, 0, []), (0, 0, 0, []), (8, 3, 0, []), (12, 0, 0, []), (65, 40, 188, [12, 24]), (0, 0, 0, []), (0, 0, 0, []), (1, 0, 0, []), (70, 0, 0, []), (57, 136, 0, []), (0, 0, 0, []), (0, 0, 0, []), (9, 5, 0, []), (0, 0, 0, []), (12, 0, 0, []), (65, 40, 188, [12, 24]), (0, 0, 0, []), (0, 0, 0, []), (1, 2, 0, []), (70, 0, 0, []), (56, 132, 0, []), (0, 0, 0, []), (0, 0, 0, []), (12, 0, 0, []), (65, 0, 156, [12, 24]), (0, 0, 0, []), (0, 0, 0, []), (12, 0, 0, []), (64, 2, 242, [12, 0]), (0, 0, 0, []), (0, 0, 0, []), (70, 0, 0, []), (2, 120, 0, []), (0, 0, 0, []), (55, 136, 0, []), (0, 0, 0, []), (0, 0, 0, []), (1, 1, 0, []), (60, 137, 0, []), (0, 0, 0, []), (0, 0, 0, []), (1, 0, 0, []), (15, 4, 0, []), (0, 0, 0, []), (9, 4, 0, []), (0, 0, 0, []), (48, 180, 0, []), (0, 0, 0, []), (0, 0, 0, []), (12, 0, 0, []), (65, 43, 191, [12, 24]), (0, 0, 0, []), (0, 0, 0, []), (2, 8, 0, []), (0, 0, 0, []), (12, 0, 0, []), (65, 40, 188, [12, 24]), (0, 0, 0, []), (0, 0, 0, []), (1, 1, 0, []), (70, 0, 0, []), (23, 0, 0, []), (8, 3, 0, []), (21, 0, 0, []), (12, 0, 0, []), (65, 0, 156, [12, 24]), (0, 0, 0, []), (0, 0, 0, []), (12, 0, 0, []), (64, 2, 242, [12, 0]), (0, 0, 0, []), (0, 0, 0, []), (70, 0, 0, []), (2, 120, 0, []), (0, 0, 0, []), (55, 177, 0, []), (0, 0, 0, []), (0, 0, 0, []), (1, -1, 0, []), (60, 179, 0, []), (0, 0, 0, []), (0, 0, 0, []), (9, 5, 0, []), (0, 0, 0, []), (75, 0, 0, []), (20, 3, 1, []), (0, 0, 0, []), (0, 0, 0, []), (12, 0, 0, []), (45, 0, 0, []), (64, 2, 242, [12, 0]), (0, 0, 0, []), (0, 0, 0, []), (1, 1, 0, []), (21, 0, 0, []), (66, 2, 242, [12, 0]), (0, 0, 0, []), (0, 0, 0, []), (60, 52, 0, []), (0, 0, 0, []), (0, 0, 0, []), (9, 4, 0, []), (0, 0, 0, []), (48, 211, 0, []), (0, 0, 0, []), (0, 0, 0, []), (8, 3, 0, []), (12, 0, 0, []), (65, 40, 188, [12, 24]), (0, 0, 0, []), (0, 0, 0, []), (1, 0, 0, []), (70, 0, 0, []), (54, 223, 0, []), (0, 0, 0, []), (0, 0, 0, []), (12, 0, 0, []), (8, 2, 0, []), (66, 2, 242, [12, 0]), (0, 0, 0, []), (0, 0, 0, []), (12, 0, 0, []), (1, 1, 0, []), (8, 2, 0, []), (85, 190, 229, [3, 99, 22]), (0, 0, 0, []), (0, 0, 0, []), (95, 0, 0, []), (12, 0, 0, []), (12, 0, 0, []), (64, 2, 242, [12, 0]), (0, 0, 0, []), (0, 0, 0, []), (66, 4, 244, [12, 0]), (0, 0, 0, []), (0, 0, 0, []), (12, 0, 0, []), (65, 40, 188, [12, 24]), (0, 0, 0, []), (0, 0, 0, []), (1, 1, 0, []), (46, 0, 0, []), (70, 0, 0, []), (1, 1, 0, []), (21, 0, 0, []), (75, 0, 0, []), (95, 0, 0, [])]
def k209 : List jI := [(12, 0, 0, []), (1, 3, 0, []), (2, 6, 0, []), (0, 0, 0, []), (8, 1, 0, []), (85, 203, 239, [4, 0, 22]), (0, 0, 0, []), (0, 0, 0, []), (48, 12, 0, []), (0, 0, 0, []), (0, 0, 0, []), (95, 0, 0, []), (12, 0, 0, []), (85, 205, 240, [1, 1, 22]), (0, 0, 0, []), (0, 0, 0, []), (16, 2, 0, []), (12, 0, 0, []), (12, 0, 0, []), (65, 11, 160, [12, 23]), (0, 0, 0, []), (0, 0, 0, []), (85, 196, 236, [2, 99, 22]), (0, 0, 0, []), (0, 0, 0, []), (12, 0, 0, []), (1, 0, 0, []), (12, 0, 0, []), (65, 40, 188, [12, 24]), (0, 0, 0, []), (0, 0, 0, []), (1, 0, 0, []), (70, 0, 0, []), (1, 1, 0, []), (22, 0, 0, []), (85, 199, 237, [3, 0, 22]), (0, 0, 0, []), (0, 0, 0, []), (15, 4, 0, []), (0, 0, 0, []), (12, 0, 0, []), (64, 5, 240, [12, 0]), (0, 0, 0, []), (0, 0, 0, []), (48, 48, 0, []), (0, 0, 0, []), (0, 0, 0, []), (95, 0, 0, []), (12, 0, 0, []), (65, 41, 189, [12, 25]), (0, 0, 0, []), (0, 0, 0, []), (2, 6, 0, []), (0, 0, 0, []), (12, 0, 0, []), (65, 40, 188, [12, 24]), (0, 0, 0, []), (0, 0, 0, []), (1, 3, 0, []), (70, 0, 0, []), (21, 0, 0, []), (10, 2, 0, []), (76, 0, 0, []), (12, 0, 0, []), (65, 44, 192, [12, 24]), (0, 0, 0, []), (0, 0, 0, []), (12, 0, 0, []), (65, 40, 188, [12, 24]), (0, 0, 0, []), (0, 0, 0, []), (1, 3, 0, []), (70, 0, 0, []), (9, 4, 0, []), (0, 0, 0, []), (75, 0, 0, []), (12, 0, 0, []), (65, 40, 188, [12, 24]), (0, 0, 0, []), (0, 0, 0, []), (1, 3, 0, []), (46, 0, 0, []), (70, 0, 0, []), (1, 1, 0, []), (21, 0, 0, []), (75, 0, 0, []), (95, 0, 0, [])]
def k210 : List jI := [(12, 0, 0, []), (85, 201, 234, [1, 1, 22]), (0, 0, 0, []), (0, 0, 0, []), (16, 1, 0, []), (12, 0, 0, []), (10, 1, 0, []), (85, 204, 235, [2, 0, 22]), (0, 0, 0, []), (0, 0, 0, []), (14, 3, 0, []), (12, 0, 0, []), (64, 5, 240, [12, 0]), (0, 0, 0, []), (0, 0, 0, []), (49, 32, 0, []), (0, 0, 0, []), (0, 0, 0, []), (8, 3, 0, []), (1, -1, 0, []), (55, 32, 0, []), (0, 0, 0, []), (0, 0, 0, []), (12, 0, 0, []), (1, 3, 0, []), (12, 0, 0, []), (64, 39, 245, [12, 0]), (0, 0, 0, []), (0, 0, 0, []), (85, 190, 229, [3, 99, 22]), (0, 0, 0, []), (0, 0, 0, []), (12, 0, 0, []), (64, 5, 240, [12, 0]), (0, 0, 0, []), (0, 0, 0, []), (49, 43, 0, []), (0, 0, 0, []), (0, 0, 0, []), (8, 3, 0, []), (60, 44, 0, []), (0, 0, 0, []), (0, 0, 0, []), (1, 0, 0, []), (91, 0, 0, [])]
def k211 : List jI := [(12, 0, 0, []), (1, 4, 0, []), (2, 10, 0, []), (0, 0, 0, []), (8, 1, 0, []), (85, 203, 239, [4, 0, 22]), (0, 0, 0, []), (0, 0, 0, []), (48, 12, 0, []), (0, 0, 0, []), (0, 0, 0, []), (95, 0, 0, []), (12, 0, 0, []), (85, 210, 241, [1, 0, 22]), (0, 0, 0, []), (0, 0, 0, []), (14, 2, 0, []), (12, 0, 0, []), (85, 210, 241, [1, 0, 22]), (0, 0, 0, []), (0, 0, 0, []), (14, 3, 0, []), (12, 0, 0, []), (64, 5, 240, [12, 0]), (0, 0, 0, []), (0, 0, 0, []), (49, 61, 0, []), (0, 0, 0, []), (0, 0, 0, []), (8, 2, 0, []), (8, 3, 0, []), (54, 52, 0, []), (0, 0, 0, []), (0, 0, 0, []), (12, 0, 0, []), (65, 42, 190, [12, 24]), (0, 0, 0, []), (0, 0, 0, []), (1, 3, 0, []), (8, 2, 0, []), (23, 0, 0, []), (1, 2, 0, []), (21, 0, 0, []), (70, 0, 0, []), (8, 3, 0, []), (28, 0, 0, []), (1, 1, 0, []), (30, 0, 0, []), (1, 1, 0, []), (55, 61, 0, []), (0, 0, 0, []), (0, 0, 0, []), (12, 0, 0, []), (1, 3, 0, []), (12, 0, 0, []), (64, 39, 245, [12, 0]), (0, 0, 0, []), (0, 0, 0, []), (85, 190, 229, [3, 99, 22]), (0, 0, 0, []), (0, 0, 0, []), (12, 0, 0, []), (64, 5, 240, [12, 0]), (0, 0, 0, []), (0, 0, 0, []), (48, 69, 0, []), (0, 0, 0, []), (0, 0, 0, []), (95, 0, 0, []), (12, 0, 0, []), (65, 42, 190, [12, 24]), (0, 0, 0, []), (0, 0, 0, []), (1, 3, 0, []), (8, 2, 0, []), (23, 0, 0, []), (1, 2, 0, []), (21, 0, 0, []), (46, 0, 0, []), (70, 0, 0, []), (1, 1, 0, []), (8, 3, 0, []), (27, 0, 0, []), (31, 0, 0, []), (75, 0, 0, []), (12, 0, 0, []), (65, 42, 190, [12, 24]), (0, 0, 0, []), (0, 0, 0, []), (1, 3, 0, []), (8, 3, 0, []), (23, 0, 0, []), (1, 2, 0, []), (21, 0, 0, []), (46, 0, 0, []), (70, 0, 0, []), (1, 1, 0, []), (8, 2, 0, []), (27, 0, 0, []), (31, 0, 0, []), (75, 0, 0, []), (12, 0, 0, []), (65, 40, 188, [12, 24]), (0, 0, 0, []), (0, 0, 0, []), (1, 4, 0, []), (46, 0, 0, []), (70, 0, 0, []), (1, 1, 0, []), (21, 0, 0, []), (75, 0, 0, []), (95, 0, 0, [])]
def k212 : List jI := [(12, 0, 0, []), (64, 5, 240, [12, 0]), (0, 0, 0, []), (0, 0, 0, []), (49, 23, 0, []), (0, 0, 0, []), (0, 0, 0, []), (12, 0, 0, []), (65, 46, 194, [12, 24]), (0, 0, 0, []), (0, 0, 0, []), (8, 1, 0, []), (70, 0, 0, []), (1, -1, 0, []), (54, 23, 0, []), (0, 0, 0, []), (0, 0, 0, []), (12, 0, 0, []), (1, 5, 0, []), (8, 2, 0, []), (85, 190, 229, [3, 99, 22]), (0, 0, 0, []), (0, 0, 0, []), (12, 0, 0, []), (64, 5, 240, [12, 0]), (0, 0, 0, []), (0, 0, 0, []), (48, 31, 0, []), (0, 0, 0, []), (0, 0, 0, []), (95, 0, 0, []), (12, 0, 0, []), (8, 1, 0, []), (1, 2, 0, []), (55, 41, 0, []), (0, 0, 0, []), (0, 0, 0, []), (1, 1, 0, []), (60, 42, 0, []), (0, 0, 0, []), (0, 0, 0, []), (1, 0, 0, []), (66, 52, 246, [12, 0]), (0, 0, 0, []), (0, 0, 0, []), (12, 0, 0, []), (1, 0, 0, []), (66, 109, 247, [12, 0]), (0, 0, 0, []), (0, 0, 0, []), (12, 0, 0, []), (1, 0, 0, []), (66, 111, 248, [12, 0]), (0, 0, 0, []), (0, 0, 0, []), (12, 0, 0, []), (1, 0, 0, []), (66, 112, 249, [12, 0]), (0, 0, 0, []), (0, 0, 0, []), (12, 0, 0, []), (1, 0, 0, []), (66, 113, 250, [12, 0]), (0, 0, 0, []), (0, 0, 0, []), (8, 1, 0, []), (49, 76, 0, []), (0, 0, 0, []), (0, 0, 0, []), (12, 0, 0, []), (85, 312, 242, [1, 99, 22]), (0, 0, 0, []), (0, 0, 0, []), (60, 80, 0, []), (0, 0, 0, []), (0, 0, 0, []), (12, 0, 0, []), (85, 308, 243, [1, 99, 22]), (0, 0, 0, []), (0, 0, 0, []), (12, 0, 0, []), (64, 5, 240, [12, 0]), (0, 0, 0, []), (0, 0, 0, []), (48, 88, 0, []), (0, 0, 0, []), (0, 0, 0, []), (95, 0, 0, []), (12, 0, 0, []), (65, 46, 194, [12, 24]), (0, 0, 0, []), (0, 0, 0, []), (8, 1, 0, []), (12, 0, 0, []), (64, 49, 251, [12, 0]), (0, 0, 0, []), (0, 0, 0, []), (75, 0, 0, []), (1, 0, 0, []), (14, 3, 0, []), (8, 3, 0, []), (12, 0, 0, []), (64, 109, 247, [12, 0]), (0, 0, 0, []), (0, 0, 0, []), (57, 139, 0, []), (0, 0, 0, []), (0, 0, 0, []), (12, 0, 0, []), (65, 48, 196, [12, 24]), (0, 0, 0, []), (0, 0, 0, []), (12, 0, 0, []), (64, 49, 251, [12, 0]), (0, 0, 0, []), (0, 0, 0, []), (12, 0, 0, []), (65, 108, 235, [12, 24]), (0, 0, 0, []), (0, 0, 0, []), (8, 3, 0, []), (70, 0, 0, []), (75, 0, 0, []), (12, 0, 0, []), (45, 0, 0, []), (64, 49, 251, [12, 0]), (0, 0, 0, []), (0, 0, 0, []), (1, 1, 0, []), (21, 0, 0, []), (66, 49, 251, [12, 0]), (0, 0, 0, []), (0, 0, 0, []), (20, 3, 1, []), (0, 0, 0, []), (0, 0, 0, []), (60, 100, 0, []), (0, 0, 0, []), (0, 0, 0, []), (12, 0, 0, []), (65, 47, 195, [12, 24]), (0, 0, 0, []), (0, 0, 0, []), (8, 1, 0, []), (12, 0, 0, []), (64, 49, 251, [12, 0]), (0, 0, 0, []), (0, 0, 0, []), (75, 0, 0, []), (95, 0, 0, [])]
def k213 : List jI := [(12, 0, 0, []), (64, 2, 242, [12, 0]), (0, 0, 0, []), (0, 0, 0, []), (14, 1, 0, []), (12, 0, 0, []), (64, 50, 252, [12, 0]), (0, 0, 0, []), (0, 0, 0, []), (2, 60, 0, []), (0, 0, 0, []), (55, 21, 0, []), (0, 0, 0, []), (0, 0, 0, []), (12, 0, 0, []), (1, 5, 0, []), (8, 1, 0, []), (85, 190, 229, [3, 99, 22]), (0, 0, 0, []), (0, 0, 0, []), (95, 0, 0, []), (12, 0, 0, []), (12, 0, 0, []), (65, 12, 161, [12, 23]), (0, 0, 0, []), (0, 0, 0, []), (85, 195, 228, [2, 0, 22]), (0, 0, 0, []), (0, 0, 0, []), (48, 40, 0, []), (0, 0, 0, []), (0, 0, 0, []), (12, 0, 0, []), (8, 1, 0, []), (85, 207, 244, [2, 99, 22]), (0, 0, 0, []), (0, 0, 0, []), (60, 233, 0, []), (0, 0, 0, []), (0, 0, 0, []), (12, 0, 0, []), (12, 0, 0, []), (65, 15, 164, [12, 23]), (0, 0, 0, []), (0, 0, 0, []), (85, 195, 228, [2, 0, 22]), (0, 0, 0, []), (0, 0, 0, []), (48, 59, 0, []), (0, 0, 0, []), (0, 0, 0, []), (12, 0, 0, []), (8, 1, 0, []), (85, 208, 245, [2, 99, 22]), (0, 0, 0, []), (0, 0, 0, []), (60, 233, 0, []), (0, 0, 0, []), (0, 0, 0, []), (12, 0, 0, []), (12, 0, 0, []), (65, 16, 165, [12, 23]), (0, 0, 0, []), (0, 0, 0, []), (85, 195, 228, [2, 0, 22]), (0, 0, 0, []), (0, 0, 0, []), (48, 78, 0, []), (0, 0, 0, []), (0, 0, 0, []), (12, 0, 0, []), (8, 1, 0, []), (85, 209, 246, [2, 99, 22]), (0, 0, 0, []), (0, 0, 0, []), (60, 233, 0, []), (0, 0, 0, []), (0, 0, 0, []), (12, 0, 0, []), (12, 0, 0, []), (65, 17, 166, [12, 23]), (0, 0, 0, []), (0, 0, 0, []), (85, 195, 228, [2, 0, 22]), (0, 0, 0, []), (0, 0, 0, []), (48, 97, 0, []), (0, 0, 0, []), (0, 0, 0, []), (12, 0, 0, []), (8, 1, 0, []), (85, 211, 247, [2, 99, 22]), (0, 0, 0, []), (0, 0, 0, []), (60, 233, 0, []), (0, 0, 0, []), (0, 0, 0, []), (12, 0, 0, []), (12, 0, 0, []), (65, 18, 167, [12, 23]), (0, 0, 0, []), (0, 0, 0, []), (85, 195, 228, [2, 0, 22]), (0, 0, 0, []), (0, 0, 0, []), (48, 117, 0, []), (0, 0, 0, []), (0, 0, 0, []), (12, 0, 0, []), (1, 0, 0, []), (8, 1, 0, []), (85, 212, 248, [3, 99, 22]), (0, 0, 0, []), (0, 0, 0, []), (60, 233, 0, []), (0, 0, 0, []), (0, 0, 0, []), (12, 0, 0, []), (12, 0, 0, []), (65, 19, 168, [12, 23]), (0, 0, 0, []), (0, 0, 0, []), (85, 195, 228, [2, 0, 22]), (0, 0, 0, []), (0, 0, 0, []), (48, 137, 0, []), (0, 0, 0, []), (0, 0, 0, []), (12, 0, 0, []), (1, 1, 0, []), (8, 1, 0, []), (85, 212, 248, [3, 99, 22]), (0, 0, 0, []), (0, 0, 0, []), (60, 233, 0, []), (0, 0, 0, []), (0, 0, 0, []), (12, 0, 0, []), (12, 0, 0, []), (65, 20, 169, [12, 23]), (0, 0, 0, []), (0, 0, 0, []), (85, 195, 228, [2, 0, 22]), (0, 0, 0, []), (0, 0, 0, []), (48, 157, 0, []), (0, 0, 0, []), (0, 0, 0, []), (12, 0, 0, []), (1, 2, 0, []), (8, 1, 0, []), (85, 212, 248, [3, 99, 22]), (0, 0, 0, []), (0, 0, 0, []), (60, 233, 0, []), (0, 0, 0, []), (0, 0, 0, []), (12, 0, 0, []), (12, 0, 0, []), (65, 21, 170, [12, 23]), (0, 0, 0, []), (0, 0, 0, []), (85, 195, 228, [2, 0, 22]), (0, 0, 0, []), (0, 0, 0, []), (48, 184, 0, []), (0, 0, 0, []), (0, 0, 0, []), (12, 0, 0, []), (65, 45, 193, [12, 24]), (0, 0, 0, []), (0, 0, 0, []), (1, 0, 0, []), (12, 0, 0, []), (1, 1, 0, []), (2, 8, 0, []), (0, 0, 0, []), (85, 199, 237, [3, 0, 22]), (0, 0, 0, []), (0, 0, 0, []), (75, 0, 0, []), (60, 233, 0, []), (0, 0, 0, []), (0, 0, 0, []), (12, 0, 0, []), (12, 0, 0, []), (65, 22, 171, [12, 23]), (0, 0, 0, []), (0, 0, 0, []), (85, 195, 228, [2, 0, 22]), (0, 0, 0, []), (0, 0, 0, []), (48, 211, 0, []), (0, 0, 0, []), (0, 0, 0, []), (12, 0, 0, []), (65, 45, 193, [12, 24]), (0, 0, 0, []), (0, 0, 0, []), (1, 1, 0, []), (12, 0, 0, []), (1, 0, 0, []), (2, 20, 0, []), (0, 0, 0, []), (85, 199, 237, [3, 0, 22]), (0, 0, 0, []), (0, 0, 0, []), (75, 0, 0, []), (60, 233, 0, []), (0, 0, 0, []), (0, 0, 0, []), (12, 0, 0, []), (12, 0, 0, []), (65, 23, 172, [12, 23]), (0, 0, 0, []), (0, 0, 0, []), (85, 196, 236, [2, 99, 22]), (0, 0, 0, []), (0, 0, 0, []), (12, 0, 0, []), (65, 45, 193, [12, 24]), (0, 0, 0, []), (0, 0, 0, []), (1, 2, 0, []), (12, 0, 0, []), (1, 0, 0, []), (3, 999, 0, []), (0, 0, 0, []), (0, 0, 0, []), (85, 199, 237, [3, 0, 22]), (0, 0, 0, []), (0, 0, 0, []), (75, 0, 0, []), (12, 0, 0, []), (2, 59, 0, []), (0, 0, 0, []), (85, 198, 238, [2, 99, 22]), (0, 0, 0, []), (0, 0, 0, []), (12, 0, 0, []), (45, 0, 0, []), (64, 50, 252, [12, 0]), (0, 0, 0, []), (0, 0, 0, []), (1, 1, 0, []), (21, 0, 0, []), (66, 50, 252, [12, 0]), (0, 0, 0, []), (0, 0, 0, []), (95, 0, 0, [])]
def k214 : List jI := [(12, 0, 0, []), (12, 0, 0, []), (64, 1, 239, [12, 0]), (0, 0, 0, []), (0, 0, 0, []), (66, 3, 243, [12, 0]), (0, 0, 0, []), (0, 0, 0, []), (12, 0, 0, []), (1, 0, 0, []), (66, 1, 239, [12, 0]), (0, 0, 0, []), (0, 0, 0, []), (12, 0, 0, []), (1, 0, 0, []), (66, 2, 242, [12, 0]), (0, 0, 0, []), (0, 0, 0, []), (12, 0, 0, []), (1, -1, 0, []), (66, 4, 244, [12, 0]), (0, 0, 0, []), (0, 0, 0, []), (12, 0, 0, []), (1, 0, 0, []), (66, 5, 240, [12, 0]), (0, 0, 0, []), (0, 0, 0, []), (12, 0, 0, []), (1, -1, 0, []), (66, 6, 241, [12, 0]), (0, 0, 0, []), (0, 0, 0, []), (12, 0, 0, []), (1, 0, 0, []), (66, 49, 251, [12, 0]), (0, 0, 0, []), (0, 0, 0, []), (1, 0, 0, []), (14, 1, 0, []), (8, 1, 0, []), (2, 6, 0, []), (0, 0, 0, []), (57, 59, 0, []), (0, 0, 0, []), (0, 0, 0, []), (12, 0, 0, []), (65, 40, 188, [12, 24]), (0, 0, 0, []), (0, 0, 0, []), (8, 1, 0, []), (1, 0, 0, []), (75, 0, 0, []), (20, 1, 1, []), (0, 0, 0, []), (0, 0, 0, []), (60, 40, 0, []), (0, 0, 0, []), (0, 0, 0, []), (12, 0, 0, []), (65, 45, 193, [12, 24]), (0, 0, 0, []), (0, 0, 0, []), (1, 0, 0, []), (1, 3, 0, []), (75, 0, 0, []), (12, 0, 0, []), (65, 45, 193, [12, 24]), (0, 0, 0, []), (0, 0, 0, []), (1, 1, 0, []), (1, 5, 0, []), (75, 0, 0, []), (12, 0, 0, []), (65, 45, 193, [12, 24]), (0, 0, 0, []), (0, 0, 0, []), (1, 2, 0, []), (2, 10, 0, []), (0, 0, 0, []), (75, 0, 0, []), (1, 0, 0, []), (14, 1, 0, []), (8, 1, 0, []), (1, 3, 0, []), (57, 101, 0, []), (0, 0, 0, []), (0, 0, 0, []), (12, 0, 0, []), (65, 46, 194, [12, 24]), (0, 0, 0, []), (0, 0, 0, []), (8, 1, 0, []), (1, -1, 0, []), (75, 0, 0, []), (20, 1, 1, []), (0, 0, 0, []), (0, 0, 0, []), (60, 83, 0, []), (0, 0, 0, []), (0, 0, 0, []), (12, 0, 0, []), (85, 206, 249, [1, 99, 22]), (0, 0, 0, []), (0, 0, 0, []), (12, 0, 0, []), (1, 1, 0, []), (66, 50, 252, [12, 0]), (0, 0, 0, []), (0, 0, 0, []), (12, 0, 0, []), (64, 5, 240, [12, 0]), (0, 0, 0, []), (0, 0, 0, []), (49, 132, 0, []), (0, 0, 0, []), (0, 0, 0, []), (12, 0, 0, []), (85, 193, 225, [1, 0, 22]), (0, 0, 0, []), (0, 0, 0, []), (1, -1, 0, []), (54, 132, 0, []), (0, 0, 0, []), (0, 0, 0, []), (12, 0, 0, []), (85, 213, 250, [1, 99, 22]), (0, 0, 0, []), (0, 0, 0, []), (60, 110, 0, []), (0, 0, 0, []), (0, 0, 0, []), (12, 0, 0, []), (12, 0, 0, []), (64, 5, 240, [12, 0]), (0, 0, 0, []), (0, 0, 0, []), (66, 7, 253, [12, 0]), (0, 0, 0, []), (0, 0, 0, []), (12, 0, 0, []), (12, 0, 0, []), (64, 6, 241, [12, 0]), (0, 0, 0, []), (0, 0, 0, []), (66, 8, 157, [12, 0]), (0, 0, 0, []), (0, 0, 0, []), (12, 0, 0, []), (64, 5, 240, [12, 0]), (0, 0, 0, []), (0, 0, 0, []), (48, 167, 0, []), (0, 0, 0, []), (0, 0, 0, []), (12, 0, 0, []), (65, 9, 158, [12, 24]), (0, 0, 0, []), (0, 0, 0, []), (1, 1, 0, []), (46, 0, 0, []), (70, 0, 0, []), (1, 1, 0, []), (21, 0, 0, []), (75, 0, 0, []), (1, -1, 0, []), (91, 0, 0, []), (12, 0, 0, []), (85, 215, 251, [1, 99, 22]), (0, 0, 0, []), (0, 0, 0, []), (12, 0, 0, []), (64, 50, 252, [12, 0]), (0, 0, 0, []), (0, 0, 0, []), (91, 0, 0, [])]
def k215 : List jI := [(12, 0, 0, []), (1, 1, 0, []), (67, 51, 254, [12, 0]), (0, 0, 0, []), (0, 0, 0, []), (1, 0, 0, []), (14, 1, 0, []), (8, 1, 0, []), (2, 6, 0, []), (0, 0, 0, []), (57, 34, 0, []), (0, 0, 0, []), (0, 0, 0, []), (12, 0, 0, []), (65, 40, 188, [12, 24]), (0, 0, 0, []), (0, 0, 0, []), (2, 6, 0, []), (0, 0, 0, []), (8, 1, 0, []), (21, 0, 0, []), (12, 0, 0, []), (65, 40, 188, [12, 24]), (0, 0, 0, []), (0, 0, 0, []), (8, 1, 0, []), (70, 0, 0, []), (75, 0, 0, []), (20, 1, 1, []), (0, 0, 0, []), (0, 0, 0, []), (60, 7, 0, []), (0, 0, 0, []), (0, 0, 0, []), (1, 0, 0, []), (14, 1, 0, []), (8, 1, 0, []), (2, 12, 0, []), (0, 0, 0, []), (57, 63, 0, []), (0, 0, 0, []), (0, 0, 0, []), (12, 0, 0, []), (65, 41, 189, [12, 25]), (0, 0, 0, []), (0, 0, 0, []), (2, 12, 0, []), (0, 0, 0, []), (8, 1, 0, []), (21, 0, 0, []), (12, 0, 0, []), (65, 41, 189, [12, 25]), (0, 0, 0, []), (0, 0, 0, []), (8, 1, 0, []), (71, 0, 0, []), (76, 0, 0, []), (20, 1, 1, []), (0, 0, 0, []), (0, 0, 0, []), (60, 36, 0, []), (0, 0, 0, []), (0, 0, 0, []), (1, 0, 0, []), (14, 1, 0, []), (8, 1, 0, []), (2, 15, 0, []), (0, 0, 0, []), (57, 92, 0, []), (0, 0, 0, []), (0, 0, 0, []), (12, 0, 0, []), (65, 42, 190, [12, 24]), (0, 0, 0, []), (0, 0, 0, []), (2, 15, 0, []), (0, 0, 0, []), (8, 1, 0, []), (21, 0, 0, []), (12, 0, 0, []), (65, 42, 190, [12, 24]), (0, 0, 0, []), (0, 0, 0, []), (8, 1, 0, []), (70, 0, 0, []), (75, 0, 0, []), (20, 1, 1, []), (0, 0, 0, []), (0, 0, 0, []), (60, 65, 0, []), (0, 0, 0, []), (0, 0, 0, []), (1, 0, 0, []), (14, 1, 0, []), (8, 1, 0, []), (2, 48, 0, []), (0, 0, 0, []), (57, 121, 0, []), (0, 0, 0, []), (0, 0, 0, []), (12, 0, 0, []), (65, 43, 191, [12, 24]), (0, 0, 0, []), (0, 0, 0, []), (2, 48, 0, []), (0, 0, 0, []), (8, 1, 0, []), (21, 0, 0, []), (12, 0, 0, []), (65, 43, 191, [12, 24]), (0, 0, 0, []), (0, 0, 0, []), (8, 1, 0, []), (70, 0, 0, []), (75, 0, 0, []), (20, 1, 1, []), (0, 0, 0, []), (0, 0, 0, []), (60, 94, 0, []), (0, 0, 0, []), (0, 0, 0, []), (1, 0, 0, []), (14, 1, 0, []), (8, 1, 0, []), (2, 6, 0, []), (0, 0, 0, []), (57, 150, 0, []), (0, 0, 0, []), (0, 0, 0, []), (12, 0, 0, []), (65, 44, 192, [12, 24]), (0, 0, 0, []), (0, 0, 0, []), (2, 6, 0, []), (0, 0, 0, []), (8, 1, 0, []), (21, 0, 0, []), (12, 0, 0, []), (65, 44, 192, [12, 24]), (0, 0, 0, []), (0, 0, 0, []), (8, 1, 0, []), (70, 0, 0, []), (75, 0, 0, []), (20, 1, 1, []), (0, 0, 0, []), (0, 0, 0, []), (60, 123, 0, []), (0, 0, 0, []), (0, 0, 0, []), (1, 0, 0, []), (14, 1, 0, []), (8, 1, 0, []), (1, 3, 0, []), (57, 205, 0, []), (0, 0, 0, []), (0, 0, 0, []), (12, 0, 0, []), (65, 45, 193, [12, 24]), (0, 0, 0, []), (0, 0, 0, []), (1, 3, 0, []), (8, 1, 0, []), (21, 0, 0, []), (12, 0, 0, []), (65, 45, 193, [12, 24]), (0, 0, 0, []), (0, 0, 0, []), (8, 1, 0, []), (70, 0, 0, []), (75, 0, 0, []), (12, 0, 0, []), (65, 46, 194, [12, 24]), (0, 0, 0, []), (0, 0, 0, []), (1, 3, 0, []), (8, 1, 0, []), (21, 0, 0, []), (12, 0, 0, []), (65, 46, 194, [12, 24]), (0, 0, 0, []), (0, 0, 0, []), (8, 1, 0, []), (70, 0, 0, []), (75, 0, 0, []), (12, 0, 0, []), (65, 47, 195, [12, 24]), (0, 0, 0, []), (0, 0, 0, []), (1, 3, 0, []), (8, 1, 0, []), (21, 0, 0, []), (12, 0, 0, []), (65, 47, 195, [12, 24]), (0, 0, 0, []), (0, 0, 0, []), (8, 1, 0, []), (70, 0, 0, []), (75, 0, 0, []), (20, 1, 1, []), (0, 0, 0, []), (0, 0, 0, []), (60, 152, 0, []), (0, 0, 0, []), (0, 0, 0, []), (1, 0, 0, []), (14, 1, 0, []), (8, 1, 0, []), (12, 0, 0, []), (64, 49, 251, [12, 0]), (0, 0, 0, []), (0, 0, 0, []), (57, 237, 0, []), (0, 0, 0, []), (0, 0, 0, []), (12, 0, 0, []), (65, 48, 196, [12, 24]), (0, 0, 0, []), (0, 0, 0, []), (3, 1600, 0, []), (0, 0, 0, []), (0, 0, 0, []), (8, 1, 0, []), (21, 0, 0, []), (12, 0, 0, []), (65, 48, 196, [12, 24]), (0, 0, 0, []), (0, 0, 0, []), (8, 1, 0, []), (70, 0, 0, []), (75, 0, 0, []), (20, 1, 1, []), (0, 0, 0, []), (0, 0, 0, []), (60, 207, 0, []), (0, 0, 0, []), (0, 0, 0, []), (1, 0, 0, []), (14, 1, 0, []), (8, 1, 0, []), (2, 56, 0, []), (0, 0, 0, []), (57, 258, 0, []), (0, 0, 0, []), (0, 0, 0, []), (12, 0, 0, []), (65, 53, 197, [12, 24]), (0, 0, 0, []), (0, 0, 0, []), (8, 1, 0, []), (1, 0, 0, []), (75, 0, 0, []), (20, 1, 1, []), (0, 0, 0, []), (0, 0, 0, []), (60, 239, 0, []), (0, 0, 0, []), (0, 0, 0, []), (12, 0, 0, []), (65, 53, 197, [12, 24]), (0, 0, 0, []), (0, 0, 0, []), (1, 0, 0, []), (12, 0, 0, []), (65, 45, 193, [12, 24]), (0, 0, 0, []), (0, 0, 0, []), (1, 1, 0, []), (70, 0, 0, []), (75, 0, 0, []), (12, 0, 0, []), (1, 0, 0, []), (66, 78, 255, [12, 0]), (0, 0, 0, []), (0, 0, 0, []), (12, 0, 0, []), (1, 0, 0, []), (66, 81, 256, [12, 0]), (0, 0, 0, []), (0, 0, 0, []), (12, 0, 0, []), (1, 0, 0, []), (67, 65, 257, [12, 0]), (0, 0, 0, []), (0, 0, 0, []), (95, 0, 0, [])]
def k216 : List jI := [(8, 1, 0, []), (49, 11, 0, []), (0, 0, 0, []), (0, 0, 0, []), (12, 0, 0, []), (64, 7, 253, [12, 0]), (0, 0, 0, []), (0, 0, 0, []), (60, 24, 0, []), (0, 0, 0, []), (0, 0, 0, []), (8, 1, 0, []), (1, 1, 0, []), (55, 23, 0, []), (0, 0, 0, []), (0, 0, 0, []), (12, 0, 0, []), (64, 8, 157, [12, 0]), (0, 0, 0, []), (0, 0, 0, []), (60, 24, 0, []), (0, 0, 0, []), (0, 0, 0, []), (1, -1, 0, []), (91, 0, 0, [])]
def k217 : List jI := [(12, 0, 0, []), (65, 40, 188, [12, 24]), (0, 0, 0, []), (0, 0, 0, []), (2, 6, 0, []), (0, 0, 0, []), (70, 0, 0, []), (91, 0, 0, [])]
def k218 : List jI := [(12, 0, 0, []), (65, 40, 188, [12, 24]), (0, 0, 0, []), (0, 0, 0, []), (2, 7, 0, []), (0, 0, 0, []), (70, 0, 0, []), (91, 0, 0, [])]
def k219 : List jI := [(12, 0, 0, []), (65, 40, 188, [12, 24]), (0, 0, 0, []), (0, 0, 0, []), (2, 8, 0, []), (0, 0, 0, []), (70, 0, 0, []), (91, 0, 0, [])]
def k220 : List jI := [(12, 0, 0, []), (85, 217, 252, [1, 0, 22]), (0, 0, 0, []), (0, 0, 0, []), (12, 0, 0, []), (85, 218, 253, [1, 0, 22]), (0, 0, 0, []), (0, 0, 0, []), (23, 0, 0, []), (91, 0, 0, [])]
def k221 : List jI := [(8, 1, 0, []), (43, 0, 0, []), (6, 0, 0, []), (12, 0, 0, []), (85, 220, 254, [1, 0, 22]), (0, 0, 0, []), (0, 0, 0, []), (1, 1, 0, []), (22, 0, 0, []), (43, 0, 0, []), (89, 187, 232, [3, 0]), (0, 0, 0, []), (0, 0, 0, []), (94, 0, 0, [])]
def k222 : List jI := [(8, 1, 0, []), (43, 0, 0, []), (6, 0, 0, []), (12, 0, 0, []), (85, 219, 255, [1, 0, 22]), (0, 0, 0, []), (0, 0, 0, []), (1, 1, 0, []), (22, 0, 0, []), (43, 0, 0, []), (89, 187, 232, [3, 0]), (0, 0, 0, []), (0, 0, 0, []), (94, 0, 0, [])]
def k223 : List jI := [(12, 0, 0, []), (65, 45, 193, [12, 24]), (0, 0, 0, []), (0, 0, 0, []), (1, 3, 0, []), (70, 0, 0, []), (91, 0, 0, [])]
def k224 : List jI := [(8, 1, 0, []), (43, 0, 0, []), (6, 0, 0, []), (12, 0, 0, []), (85, 217, 252, [1, 0, 22]), (0, 0, 0, []), (0, 0, 0, []), (1, 1, 0, []), (22, 0, 0, []), (43, 0, 0, []), (89, 187, 232, [3, 0]), (0, 0, 0, []), (0, 0, 0, []), (48, 49, 0, []), (0, 0, 0, []), (0, 0, 0, []), (8, 2, 0, []), (43, 0, 0, []), (6, 0, 0, []), (12, 0, 0, []), (85, 218, 253, [1, 0, 22]), (0, 0, 0, []), (0, 0, 0, []), (1, 1, 0, []), (22, 0, 0, []), (43, 0, 0, []), (89, 187, 232, [3, 0]), (0, 0, 0, []), (0, 0, 0, []), (48, 49, 0, []), (0, 0, 0, []), (0, 0, 0, []), (12, 0, 0, []), (65, 43, 191, [12, 24]), (0, 0, 0, []), (0, 0, 0, []), (2, 48, 0, []), (0, 0, 0, []), (2, 8, 0, []), (0, 0, 0, []), (8, 2, 0, []), (23, 0, 0, []), (21, 0, 0, []), (8, 1, 0, []), (21, 0, 0, []), (70, 0, 0, []), (60, 50, 0, []), (0, 0, 0, []), (0, 0, 0, []), (1, -1, 0, []), (91, 0, 0, [])]
def k225 : List jI := [(12, 0, 0, []), (8, 1, 0, []), (12, 0, 0, []), (85, 217, 252, [1, 0, 22]), (0, 0, 0, []), (0, 0, 0, []), (25, 0, 0, []), (8, 1, 0, []), (12, 0, 0, []), (85, 217, 252, [1, 0, 22]), (0, 0, 0, []), (0, 0, 0, []), (24, 0, 0, []), (85, 224, 256, [3, 0, 22]), (0, 0, 0, []), (0, 0, 0, []), (91, 0, 0, [])]
def k226 : List jI := [(12, 0, 0, []), (65, 53, 197, [12, 24]), (0, 0, 0, []), (0, 0, 0, []), (2, 8, 0, []), (0, 0, 0, []), (8, 1, 0, []), (21, 0, 0, []), (70, 0, 0, []), (91, 0, 0, [])]
def k227 : List jI := [(12, 0, 0, []), (8, 1, 0, []), (85, 226, 257, [2, 0, 22]), (0, 0, 0, []), (0, 0, 0, []), (1, 1, 0, []), (54, 18, 0, []), (0, 0, 0, []), (0, 0, 0, []), (12, 0, 0, []), (8, 1, 0, []), (85, 226, 257, [2, 0, 22]), (0, 0, 0, []), (0, 0, 0, []), (1, 2, 0, []), (55, 22, 0, []), (0, 0, 0, []), (0, 0, 0, []), (1, 1, 0, []), (60, 23, 0, []), (0, 0, 0, []), (0, 0, 0, []), (1, 0, 0, []), (94, 0, 0, [])]
def k228 : List jI := [(12, 0, 0, []), (65, 53, 197, [12, 24]), (0, 0, 0, []), (0, 0, 0, []), (1, 3, 0, []), (8, 1, 0, []), (21, 0, 0, []), (70, 0, 0, []), (91, 0, 0, [])]
def k229 : List jI := [(8, 1, 0, []), (12, 0, 0, []), (85, 217, 252, [1, 0, 22]), (0, 0, 0, []), (0, 0, 0, []), (25, 0, 0, []), (14, 3, 0, []), (8, 1, 0, []), (12, 0, 0, []), (85, 217, 252, [1, 0, 22]), (0, 0, 0, []), (0, 0, 0, []), (24, 0, 0, []), (15, 4, 0, []), (0, 0, 0, []), (8, 2, 0, []), (49, 31, 0, []), (0, 0, 0, []), (0, 0, 0, []), (8, 3, 0, []), (53, 29, 0, []), (0, 0, 0, []), (0, 0, 0, []), (8, 1, 0, []), (1, 1, 0, []), (22, 0, 0, []), (60, 30, 0, []), (0, 0, 0, []), (0, 0, 0, []), (1, -1, 0, []), (91, 0, 0, []), (8, 2, 0, []), (1, 1, 0, []), (55, 54, 0, []), (0, 0, 0, []), (0, 0, 0, []), (8, 3, 0, []), (1, 1, 0, []), (21, 0, 0, []), (12, 0, 0, []), (85, 217, 252, [1, 0, 22]), (0, 0, 0, []), (0, 0, 0, []), (57, 52, 0, []), (0, 0, 0, []), (0, 0, 0, []), (8, 1, 0, []), (1, 1, 0, []), (21, 0, 0, []), (60, 53, 0, []), (0, 0, 0, []), (0, 0, 0, []), (1, -1, 0, []), (91, 0, 0, []), (8, 2, 0, []), (1, 2, 0, []), (55, 75, 0, []), (0, 0, 0, []), (0, 0, 0, []), (9, 4, 0, []), (0, 0, 0, []), (53, 73, 0, []), (0, 0, 0, []), (0, 0, 0, []), (8, 1, 0, []), (12, 0, 0, []), (85, 217, 252, [1, 0, 22]), (0, 0, 0, []), (0, 0, 0, []), (22, 0, 0, []), (60, 74, 0, []), (0, 0, 0, []), (0, 0, 0, []), (1, -1, 0, []), (91, 0, 0, []), (9, 4, 0, []), (0, 0, 0, []), (1, 1, 0, []), (21, 0, 0, []), (12, 0, 0, []), (85, 218, 253, [1, 0, 22]), (0, 0, 0, []), (0, 0, 0, []), (57, 95, 0, []), (0, 0, 0, []), (0, 0, 0, []), (8, 1, 0, []), (12, 0, 0, []), (85, 217, 252, [1, 0, 22]), (0, 0, 0, []), (0, 0, 0, []), (21, 0, 0, []), (60, 96, 0, []), (0, 0, 0, []), (0, 0, 0, []), (1, -1, 0, []), (91, 0, 0, [])]
def k230 : List jI := [(1, 0, 0, []), (14, 2, 0, []), (1, 0, 0, []), (14, 3, 0, []), (8, 3, 0, []), (1, 4, 0, []), (57, 41, 0, []), (0, 0, 0, []), (0, 0, 0, []), (12, 0, 0, []), (8, 1, 0, []), (8, 3, 0, []), (85, 229, 258, [3, 0, 22]), (0, 0, 0, []), (0, 0, 0, []), (1, -1, 0, []), (54, 35, 0, []), (0, 0, 0, []), (0, 0, 0, []), (12, 0, 0, []), (12, 0, 0, []), (8, 1, 0, []), (8, 3, 0, []), (85, 229, 258, [3, 0, 22]), (0, 0, 0, []), (0, 0, 0, []), (85, 227, 259, [2, 0, 22]), (0, 0, 0, []), (0, 0, 0, []), (48, 35, 0, []), (0, 0, 0, []), (0, 0, 0, []), (20, 2, 1, []), (0, 0, 0, []), (0, 0, 0, []), (20, 3, 1, []), (0, 0, 0, []), (0, 0, 0, []), (60, 4, 0, []), (0, 0, 0, []), (0, 0, 0, []), (8, 2, 0, []), (91, 0, 0, [])]
def k231 : List jI := [(1, 0, 0, []), (14, 2, 0, []), (8, 2, 0, []), (8, 1, 0, []), (12, 0, 0, []), (85, 217, 252, [1, 0, 22]), (0, 0, 0, []), (0, 0, 0, []), (25, 0, 0, []), (57, 31, 0, []), (0, 0, 0, []), (0, 0, 0, []), (12, 0, 0, []), (8, 1, 0, []), (8, 2, 0, []), (22, 0, 0, []), (1, 1, 0, []), (22, 0, 0, []), (85, 226, 257, [2, 0, 22]), (0, 0, 0, []), (0, 0, 0, []), (1, 1, 0, []), (55, 31, 0, []), (0, 0, 0, []), (0, 0, 0, []), (20, 2, 1, []), (0, 0, 0, []), (0, 0, 0, []), (60, 2, 0, []), (0, 0, 0, []), (0, 0, 0, []), (8, 2, 0, []), (91, 0, 0, [])]
def k232 : List jI := [(1, 0, 0, []), (14, 2, 0, []), (8, 1, 0, []), (12, 0, 0, []), (85, 217, 252, [1, 0, 22]), (0, 0, 0, []), (0, 0, 0, []), (25, 0, 0, []), (8, 2, 0, []), (21, 0, 0, []), (1, 1, 0, []), (21, 0, 0, []), (12, 0, 0, []), (85, 217, 252, [1, 0, 22]), (0, 0, 0, []), (0, 0, 0, []), (57, 38, 0, []), (0, 0, 0, []), (0, 0, 0, []), (12, 0, 0, []), (8, 1, 0, []), (8, 2, 0, []), (21, 0, 0, []), (1, 1, 0, []), (21, 0, 0, []), (85, 226, 257, [2, 0, 22]), (0, 0, 0, []), (0, 0, 0, []), (1, 1, 0, []), (55, 38, 0, []), (0, 0, 0, []), (0, 0, 0, []), (20, 2, 1, []), (0, 0, 0, []), (0, 0, 0, []), (60, 2, 0, []), (0, 0, 0, []), (0, 0, 0, []), (8, 2, 0, []), (91, 0, 0, [])]
def k233 : List jI := [(12, 0, 0, []), (8, 1, 0, []), (85, 231, 260, [2, 0, 22]), (0, 0, 0, []), (0, 0, 0, []), (12, 0, 0, []), (8, 1, 0, []), (85, 232, 261, [2, 0, 22]), (0, 0, 0, []), (0, 0, 0, []), (21, 0, 0, []), (1, 1, 0, []), (21, 0, 0, []), (91, 0, 0, [])]
def k234 : List jI := [(12, 0, 0, []), (8, 1, 0, []), (12, 0, 0, []), (85, 217, 252, [1, 0, 22]), (0, 0, 0, []), (0, 0, 0, []), (24, 0, 0, []), (43, 0, 0, []), (66, 55, 258, [12, 1]), (0, 0, 0, []), (0, 0, 0, []), (12, 0, 0, []), (8, 1, 0, []), (12, 0, 0, []), (85, 217, 252, [1, 0, 22]), (0, 0, 0, []), (0, 0, 0, []), (25, 0, 0, []), (43, 0, 0, []), (66, 56, 259, [12, 1]), (0, 0, 0, []), (0, 0, 0, []), (12, 0, 0, []), (12, 0, 0, []), (12, 0, 0, []), (8, 1, 0, []), (85, 225, 262, [2, 0, 22]), (0, 0, 0, []), (0, 0, 0, []), (85, 235, 263, [2, 0, 22]), (0, 0, 0, []), (0, 0, 0, []), (43, 0, 0, []), (66, 57, 260, [12, 1]), (0, 0, 0, []), (0, 0, 0, []), (12, 0, 0, []), (12, 0, 0, []), (12, 0, 0, []), (8, 1, 0, []), (85, 225, 262, [2, 0, 22]), (0, 0, 0, []), (0, 0, 0, []), (85, 236, 264, [2, 0, 22]), (0, 0, 0, []), (0, 0, 0, []), (43, 0, 0, []), (66, 58, 261, [12, 1]), (0, 0, 0, []), (0, 0, 0, []), (12, 0, 0, []), (12, 0, 0, []), (8, 1, 0, []), (85, 230, 265, [2, 0, 22]), (0, 0, 0, []), (0, 0, 0, []), (43, 0, 0, []), (66, 59, 262, [12, 1]), (0, 0, 0, []), (0, 0, 0, []), (12, 0, 0, []), (12, 0, 0, []), (8, 1, 0, []), (85, 233, 266, [2, 0, 22]), (0, 0, 0, []), (0, 0, 0, []), (43, 0, 0, []), (66, 60, 263, [12, 1]), (0, 0, 0, []), (0, 0, 0, []), (95, 0, 0, [])]
def k235 : List jI := [(8, 1, 0, []), (1, -1, 0, []), (55, 9, 0, []), (0, 0, 0, []), (0, 0, 0, []), (1, 0, 0, []), (60, 20, 0, []), (0, 0, 0, []), (0, 0, 0, []), (12, 0, 0, []), (65, 42, 190, [12, 24]), (0, 0, 0, []), (0, 0, 0, []), (2, 15, 0, []), (0, 0, 0, []), (1, 3, 0, []), (8, 1, 0, []), (23, 0, 0, []), (21, 0, 0, []), (70, 0, 0, []), (91, 0, 0, [])]
def k236 : List jI := [(8, 1, 0, []), (1, -1, 0, []), (55, 9, 0, []), (0, 0, 0, []), (0, 0, 0, []), (1, 0, 0, []), (60, 20, 0, []), (0, 0, 0, []), (0, 0, 0, []), (12, 0, 0, []), (65, 42, 190, [12, 24]), (0, 0, 0, []), (0, 0, 0, []), (2, 16, 0, []), (0, 0, 0, []), (1, 3, 0, []), (8, 1, 0, []), (23, 0, 0, []), (21, 0, 0, []), (70, 0, 0, []), (91, 0, 0, [])]
def k237 : List jI := [(12, 0, 0, []), (1, 0, 0, []), (66, 115, 264, [12, 0]), (0, 0, 0, []), (0, 0, 0, []), (12, 0, 0, []), (65, 46, 194, [12, 24]), (0, 0, 0, []), (0, 0, 0, []), (1, 3, 0, []), (8, 1, 0, []), (21, 0, 0, []), (70, 0, 0, []), (14, 2, 0, []), (8, 2, 0, []), (12, 0, 0, []), (65, 47, 195, [12, 24]), (0, 0, 0, []), (0, 0, 0, []), (1, 3, 0, []), (8, 1, 0, []), (21, 0, 0, []), (70, 0, 0, []), (57, 137, 0, []), (0, 0, 0, []), (0, 0, 0, []), (12, 0, 0, []), (65, 48, 196, [12, 24]), (0, 0, 0, []), (0, 0, 0, []), (3, 1600, 0, []), (0, 0, 0, []), (0, 0, 0, []), (8, 2, 0, []), (21, 0, 0, []), (70, 0, 0, []), (14, 3, 0, []), (8, 3, 0, []), (3, 1000, 0, []), (0, 0, 0, []), (0, 0, 0, []), (56, 57, 0, []), (0, 0, 0, []), (0, 0, 0, []), (12, 0, 0, []), (8, 3, 0, []), (3, 1000, 0, []), (0, 0, 0, []), (0, 0, 0, []), (22, 0, 0, []), (43, 0, 0, []), (85, 316, 267, [2, 99, 22]), (0, 0, 0, []), (0, 0, 0, []), (60, 131, 0, []), (0, 0, 0, []), (0, 0, 0, []), (8, 3, 0, []), (2, 40, 0, []), (0, 0, 0, []), (56, 79, 0, []), (0, 0, 0, []), (0, 0, 0, []), (12, 0, 0, []), (12, 0, 0, []), (8, 3, 0, []), (2, 40, 0, []), (0, 0, 0, []), (22, 0, 0, []), (1, 0, 0, []), (85, 318, 268, [3, 1, 22]), (0, 0, 0, []), (0, 0, 0, []), (85, 316, 267, [2, 99, 22]), (0, 0, 0, []), (0, 0, 0, []), (60, 131, 0, []), (0, 0, 0, []), (0, 0, 0, []), (8, 3, 0, []), (2, 13, 0, []), (0, 0, 0, []), (55, 93, 0, []), (0, 0, 0, []), (0, 0, 0, []), (12, 0, 0, []), (6, 1, 0, []), (85, 316, 267, [2, 99, 22]), (0, 0, 0, []), (0, 0, 0, []), (60, 131, 0, []), (0, 0, 0, []), (0, 0, 0, []), (8, 3, 0, []), (2, 12, 0, []), (0, 0, 0, []), (55, 126, 0, []), (0, 0, 0, []), (0, 0, 0, []), (12, 0, 0, []), (65, 114, 237, [12, 25]), (0, 0, 0, []), (0, 0, 0, []), (12, 0, 0, []), (64, 115, 264, [12, 0]), (0, 0, 0, []), (0, 0, 0, []), (1, 1, 0, []), (22, 0, 0, []), (6, 1, 0, []), (12, 0, 0, []), (65, 114, 237, [12, 25]), (0, 0, 0, []), (0, 0, 0, []), (12, 0, 0, []), (64, 115, 264, [12, 0]), (0, 0, 0, []), (0, 0, 0, []), (1, 1, 0, []), (22, 0, 0, []), (71, 0, 0, []), (34, 0, 0, []), (76, 0, 0, []), (60, 131, 0, []), (0, 0, 0, []), (0, 0, 0, []), (12, 0, 0, []), (8, 3, 0, []), (85, 317, 269, [2, 99, 22]), (0, 0, 0, []), (0, 0, 0, []), (20, 2, 1, []), (0, 0, 0, []), (0, 0, 0, []), (60, 14, 0, []), (0, 0, 0, []), (0, 0, 0, []), (12, 0, 0, []), (65, 114, 237, [12, 25]), (0, 0, 0, []), (0, 0, 0, []), (1, 0, 0, []), (71, 0, 0, []), (92, 0, 0, [])]
def k238 : List jI := [(10, 0, 0, []), (6, 0, 0, []), (42, 0, 0, []), (51, 10, 0, []), (0, 0, 0, []), (0, 0, 0, []), (1, 0, 0, []), (60, 23, 0, []), (0, 0, 0, []), (0, 0, 0, []), (10, 0, 0, []), (8, 2, 0, []), (43, 0, 0, []), (42, 0, 0, []), (53, 21, 0, []), (0, 0, 0, []), (0, 0, 0, []), (8, 2, 0, []), (60, 23, 0, []), (0, 0, 0, []), (0, 0, 0, []), (10, 0, 0, []), (44, 0, 0, []), (91, 0, 0, [])]
def k239 : List jI := [(12, 0, 0, []), (8, 1, 0, []), (85, 225, 262, [2, 0, 22]), (0, 0, 0, []), (0, 0, 0, []), (1, -1, 0, []), (55, 11, 0, []), (0, 0, 0, []), (0, 0, 0, []), (1, 0, 0, []), (91, 0, 0, []), (12, 0, 0, []), (65, 46, 194, [12, 24]), (0, 0, 0, []), (0, 0, 0, []), (1, 4, 0, []), (70, 0, 0, []), (1, -1, 0, []), (55, 31, 0, []), (0, 0, 0, []), (0, 0, 0, []), (12, 0, 0, []), (12, 0, 0, []), (8, 1, 0, []), (85, 225, 262, [2, 0, 22]), (0, 0, 0, []), (0, 0, 0, []), (85, 235, 263, [2, 0, 22]), (0, 0, 0, []), (0, 0, 0, []), (91, 0, 0, []), (12, 0, 0, []), (8, 1, 0, []), (85, 234, 270, [2, 99, 22]), (0, 0, 0, []), (0, 0, 0, []), (12, 0, 0, []), (1, 1, 0, []), (85, 237, 271, [2, 1, 22]), (0, 0, 0, []), (0, 0, 0, []), (3, 999, 0, []), (0, 0, 0, []), (0, 0, 0, []), (89, 238, 272, [2, 0]), (0, 0, 0, []), (0, 0, 0, []), (91, 0, 0, [])]
def k240 : List jI := [(12, 0, 0, []), (65, 46, 194, [12, 24]), (0, 0, 0, []), (0, 0, 0, []), (1, 3, 0, []), (70, 0, 0, []), (1, -1, 0, []), (55, 12, 0, []), (0, 0, 0, []), (0, 0, 0, []), (1, 1, 0, []), (94, 0, 0, []), (12, 0, 0, []), (8, 1, 0, []), (85, 234, 270, [2, 99, 22]), (0, 0, 0, []), (0, 0, 0, []), (12, 0, 0, []), (1, 0, 0, []), (85, 237, 271, [2, 1, 22]), (0, 0, 0, []), (0, 0, 0, []), (6, 1, 0, []), (42, 0, 0, []), (49, 31, 0, []), (0, 0, 0, []), (0, 0, 0, []), (1, 1, 0, []), (60, 32, 0, []), (0, 0, 0, []), (0, 0, 0, []), (1, 0, 0, []), (94, 0, 0, [])]
def k241 : List jI := [(1, 0, 0, []), (14, 2, 0, []), (8, 2, 0, []), (1, 4, 0, []), (57, 39, 0, []), (0, 0, 0, []), (0, 0, 0, []), (12, 0, 0, []), (8, 1, 0, []), (8, 2, 0, []), (85, 229, 258, [3, 0, 22]), (0, 0, 0, []), (0, 0, 0, []), (1, -1, 0, []), (54, 33, 0, []), (0, 0, 0, []), (0, 0, 0, []), (12, 0, 0, []), (65, 63, 199, [12, 26]), (0, 0, 0, []), (0, 0, 0, []), (12, 0, 0, []), (8, 1, 0, []), (8, 2, 0, []), (85, 229, 258, [3, 0, 22]), (0, 0, 0, []), (0, 0, 0, []), (72, 0, 0, []), (48, 33, 0, []), (0, 0, 0, []), (0, 0, 0, []), (1, 1, 0, []), (94, 0, 0, []), (20, 2, 1, []), (0, 0, 0, []), (0, 0, 0, []), (60, 2, 0, []), (0, 0, 0, []), (0, 0, 0, []), (1, 0, 0, []), (94, 0, 0, [])]
def k242 : List jI := [(1, 0, 0, []), (14, 1, 0, []), (8, 1, 0, []), (2, 48, 0, []), (0, 0, 0, []), (57, 21, 0, []), (0, 0, 0, []), (0, 0, 0, []), (12, 0, 0, []), (65, 63, 199, [12, 26]), (0, 0, 0, []), (0, 0, 0, []), (8, 1, 0, []), (1, 0, 0, []), (77, 0, 0, []), (20, 1, 1, []), (0, 0, 0, []), (0, 0, 0, []), (60, 2, 0, []), (0, 0, 0, []), (0, 0, 0, []), (12, 0, 0, []), (65, 40, 188, [12, 24]), (0, 0, 0, []), (0, 0, 0, []), (2, 11, 0, []), (0, 0, 0, []), (70, 0, 0, []), (14, 1, 0, []), (12, 0, 0, []), (85, 220, 254, [1, 0, 22]), (0, 0, 0, []), (0, 0, 0, []), (48, 44, 0, []), (0, 0, 0, []), (0, 0, 0, []), (12, 0, 0, []), (8, 1, 0, []), (85, 227, 259, [2, 0, 22]), (0, 0, 0, []), (0, 0, 0, []), (49, 45, 0, []), (0, 0, 0, []), (0, 0, 0, []), (95, 0, 0, []), (12, 0, 0, []), (65, 63, 199, [12, 26]), (0, 0, 0, []), (0, 0, 0, []), (8, 1, 0, []), (1, 1, 0, []), (77, 0, 0, []), (1, 1, 0, []), (14, 2, 0, []), (8, 2, 0, []), (48, 113, 0, []), (0, 0, 0, []), (0, 0, 0, []), (1, 0, 0, []), (14, 2, 0, []), (1, 0, 0, []), (14, 3, 0, []), (8, 3, 0, []), (12, 0, 0, []), (85, 220, 254, [1, 0, 22]), (0, 0, 0, []), (0, 0, 0, []), (57, 110, 0, []), (0, 0, 0, []), (0, 0, 0, []), (12, 0, 0, []), (65, 63, 199, [12, 26]), (0, 0, 0, []), (0, 0, 0, []), (8, 3, 0, []), (72, 0, 0, []), (49, 104, 0, []), (0, 0, 0, []), (0, 0, 0, []), (12, 0, 0, []), (8, 3, 0, []), (85, 227, 259, [2, 0, 22]), (0, 0, 0, []), (0, 0, 0, []), (48, 104, 0, []), (0, 0, 0, []), (0, 0, 0, []), (12, 0, 0, []), (8, 3, 0, []), (85, 241, 273, [2, 0, 22]), (0, 0, 0, []), (0, 0, 0, []), (48, 104, 0, []), (0, 0, 0, []), (0, 0, 0, []), (12, 0, 0, []), (65, 63, 199, [12, 26]), (0, 0, 0, []), (0, 0, 0, []), (8, 3, 0, []), (1, 1, 0, []), (77, 0, 0, []), (1, 1, 0, []), (14, 2, 0, []), (20, 3, 1, []), (0, 0, 0, []), (0, 0, 0, []), (60, 62, 0, []), (0, 0, 0, []), (0, 0, 0, []), (60, 54, 0, []), (0, 0, 0, []), (0, 0, 0, []), (95, 0, 0, [])]
def k243 : List jI := [(12, 0, 0, []), (8, 1, 0, []), (85, 226, 257, [2, 0, 22]), (0, 0, 0, []), (0, 0, 0, []), (48, 10, 0, []), (0, 0, 0, []), (0, 0, 0, []), (1, 1, 0, []), (91, 0, 0, []), (8, 1, 0, []), (12, 0, 0, []), (65, 40, 188, [12, 24]), (0, 0, 0, []), (0, 0, 0, []), (2, 11, 0, []), (0, 0, 0, []), (70, 0, 0, []), (54, 31, 0, []), (0, 0, 0, []), (0, 0, 0, []), (12, 0, 0, []), (8, 1, 0, []), (85, 241, 273, [2, 0, 22]), (0, 0, 0, []), (0, 0, 0, []), (49, 31, 0, []), (0, 0, 0, []), (0, 0, 0, []), (1, 2, 0, []), (91, 0, 0, []), (12, 0, 0, []), (8, 1, 0, []), (85, 240, 274, [2, 0, 22]), (0, 0, 0, []), (0, 0, 0, []), (48, 43, 0, []), (0, 0, 0, []), (0, 0, 0, []), (1, 0, 0, []), (60, 44, 0, []), (0, 0, 0, []), (0, 0, 0, []), (1, 3, 0, []), (91, 0, 0, [])]
def k244 : List jI := [(12, 0, 0, []), (85, 242, 275, [1, 99, 22]), (0, 0, 0, []), (0, 0, 0, []), (6, 0, 0, []), (16, 1, 0, []), (1, 0, 0, []), (14, 3, 0, []), (8, 3, 0, []), (12, 0, 0, []), (85, 220, 254, [1, 0, 22]), (0, 0, 0, []), (0, 0, 0, []), (57, 36, 0, []), (0, 0, 0, []), (0, 0, 0, []), (12, 0, 0, []), (8, 3, 0, []), (85, 243, 276, [2, 0, 22]), (0, 0, 0, []), (0, 0, 0, []), (49, 30, 0, []), (0, 0, 0, []), (0, 0, 0, []), (10, 1, 0, []), (6, 1, 0, []), (8, 3, 0, []), (40, 0, 0, []), (39, 0, 0, []), (16, 1, 0, []), (20, 3, 1, []), (0, 0, 0, []), (0, 0, 0, []), (60, 8, 0, []), (0, 0, 0, []), (0, 0, 0, []), (10, 1, 0, []), (92, 0, 0, [])]
def k245 : List jI := [(1, 0, 0, []), (14, 2, 0, []), (10, 0, 0, []), (16, 3, 0, []), (10, 3, 0, []), (6, 0, 0, []), (42, 0, 0, []), (48, 22, 0, []), (0, 0, 0, []), (0, 0, 0, []), (20, 2, 1, []), (0, 0, 0, []), (0, 0, 0, []), (10, 3, 0, []), (10, 3, 0, []), (6, 1, 0, []), (34, 0, 0, []), (38, 0, 0, []), (16, 3, 0, []), (60, 4, 0, []), (0, 0, 0, []), (0, 0, 0, []), (8, 2, 0, []), (91, 0, 0, [])]
def k246 : List jI := [(8, 2, 0, []), (14, 3, 0, []), (1, 0, 0, []), (15, 4, 0, []), (0, 0, 0, []), (10, 0, 0, []), (9, 4, 0, []), (0, 0, 0, []), (41, 0, 0, []), (6, 1, 0, []), (38, 0, 0, []), (6, 0, 0, []), (42, 0, 0, []), (48, 20, 0, []), (0, 0, 0, []), (0, 0, 0, []), (8, 3, 0, []), (53, 40, 0, []), (0, 0, 0, []), (0, 0, 0, []), (10, 0, 0, []), (9, 4, 0, []), (0, 0, 0, []), (41, 0, 0, []), (6, 1, 0, []), (38, 0, 0, []), (6, 1, 0, []), (42, 0, 0, []), (49, 34, 0, []), (0, 0, 0, []), (0, 0, 0, []), (20, 3, -1, []), (0, 0, 0, []), (0, 0, 0, []), (20, 4, 1, []), (0, 0, 0, []), (0, 0, 0, []), (60, 5, 0, []), (0, 0, 0, []), (0, 0, 0, []), (9, 4, 0, []), (0, 0, 0, []), (91, 0, 0, [])]
def k247 : List jI := [(12, 0, 0, []), (8, 1, 0, []), (85, 239, 277, [2, 0, 22]), (0, 0, 0, []), (0, 0, 0, []), (14, 2, 0, []), (12, 0, 0, []), (8, 1, 0, []), (85, 225, 262, [2, 0, 22]), (0, 0, 0, []), (0, 0, 0, []), (14, 3, 0, []), (8, 3, 0, []), (1, -1, 0, []), (54, 29, 0, []), (0, 0, 0, []), (0, 0, 0, []), (12, 0, 0, []), (65, 53, 197, [12, 24]), (0, 0, 0, []), (0, 0, 0, []), (1, 3, 0, []), (8, 3, 0, []), (21, 0, 0, []), (46, 0, 0, []), (70, 0, 0, []), (1, 1, 0, []), (21, 0, 0, []), (75, 0, 0, []), (12, 0, 0, []), (65, 53, 197, [12, 24]), (0, 0, 0, []), (0, 0, 0, []), (1, 1, 0, []), (46, 0, 0, []), (70, 0, 0, []), (8, 2, 0, []), (21, 0, 0, []), (75, 0, 0, []), (8, 1, 0, []), (12, 0, 0, []), (8, 1, 0, []), (85, 231, 260, [2, 0, 22]), (0, 0, 0, []), (0, 0, 0, []), (22, 0, 0, []), (15, 4, 0, []), (0, 0, 0, []), (8, 1, 0, []), (12, 0, 0, []), (8, 1, 0, []), (85, 232, 261, [2, 0, 22]), (0, 0, 0, []), (0, 0, 0, []), (21, 0, 0, []), (15, 5, 0, []), (0, 0, 0, []), (12, 0, 0, []), (65, 53, 197, [12, 24]), (0, 0, 0, []), (0, 0, 0, []), (2, 8, 0, []), (0, 0, 0, []), (8, 1, 0, []), (21, 0, 0, []), (1, 1, 0, []), (75, 0, 0, []), (9, 5, 0, []), (0, 0, 0, []), (9, 4, 0, []), (0, 0, 0, []), (22, 0, 0, []), (1, 1, 0, []), (21, 0, 0, []), (12, 0, 0, []), (85, 223, 278, [1, 0, 22]), (0, 0, 0, []), (0, 0, 0, []), (58, 83, 0, []), (0, 0, 0, []), (0, 0, 0, []), (8, 2, 0, []), (91, 0, 0, []), (9, 4, 0, []), (0, 0, 0, []), (15, 6, 0, []), (0, 0, 0, []), (9, 6, 0, []), (0, 0, 0, []), (9, 5, 0, []), (0, 0, 0, []), (58, 111, 0, []), (0, 0, 0, []), (0, 0, 0, []), (12, 0, 0, []), (65, 53, 197, [12, 24]), (0, 0, 0, []), (0, 0, 0, []), (2, 8, 0, []), (0, 0, 0, []), (9, 6, 0, []), (0, 0, 0, []), (21, 0, 0, []), (1, 3, 0, []), (75, 0, 0, []), (20, 6, 1, []), (0, 0, 0, []), (0, 0, 0, []), (60, 87, 0, []), (0, 0, 0, []), (0, 0, 0, []), (12, 0, 0, []), (45, 0, 0, []), (64, 64, 265, [12, 0]), (0, 0, 0, []), (0, 0, 0, []), (9, 5, 0, []), (0, 0, 0, []), (9, 4, 0, []), (0, 0, 0, []), (22, 0, 0, []), (1, 1, 0, []), (21, 0, 0, []), (21, 0, 0, []), (66, 64, 265, [12, 0]), (0, 0, 0, []), (0, 0, 0, []), (8, 2, 0, []), (91, 0, 0, [])]
def k248 : List jI := [(1, 0, 0, []), (14, 2, 0, []), (1, 0, 0, []), (14, 3, 0, []), (8, 3, 0, []), (12, 0, 0, []), (85, 220, 254, [1, 0, 22]), (0, 0, 0, []), (0, 0, 0, []), (57, 47, 0, []), (0, 0, 0, []), (0, 0, 0, []), (8, 1, 0, []), (2, 10, 0, []), (0, 0, 0, []), (55, 29, 0, []), (0, 0, 0, []), (0, 0, 0, []), (12, 0, 0, []), (8, 3, 0, []), (85, 227, 259, [2, 0, 22]), (0, 0, 0, []), (0, 0, 0, []), (48, 41, 0, []), (0, 0, 0, []), (0, 0, 0, []), (60, 38, 0, []), (0, 0, 0, []), (0, 0, 0, []), (12, 0, 0, []), (8, 3, 0, []), (85, 226, 257, [2, 0, 22]), (0, 0, 0, []), (0, 0, 0, []), (1, 3, 0, []), (55, 41, 0, []), (0, 0, 0, []), (0, 0, 0, []), (20, 2, 1, []), (0, 0, 0, []), (0, 0, 0, []), (20, 3, 1, []), (0, 0, 0, []), (0, 0, 0, []), (60, 4, 0, []), (0, 0, 0, []), (0, 0, 0, []), (8, 2, 0, []), (91, 0, 0, [])]
def k249 : List jI := [(1, 0, 0, []), (14, 1, 0, []), (1, 0, 0, []), (14, 2, 0, []), (8, 2, 0, []), (12, 0, 0, []), (85, 219, 255, [1, 0, 22]), (0, 0, 0, []), (0, 0, 0, []), (57, 26, 0, []), (0, 0, 0, []), (0, 0, 0, []), (8, 1, 0, []), (12, 0, 0, []), (8, 2, 0, []), (85, 228, 279, [2, 0, 22]), (0, 0, 0, []), (0, 0, 0, []), (21, 0, 0, []), (14, 1, 0, []), (20, 2, 1, []), (0, 0, 0, []), (0, 0, 0, []), (60, 4, 0, []), (0, 0, 0, []), (0, 0, 0, []), (8, 1, 0, []), (91, 0, 0, [])]
def k250 : List jI := [(8, 1, 0, []), (62, 132, 0, [72, 72, 72, 72, 72, 82, 87, 94, 99, 106, 113, 113, 119, 127]), (0, 0, 0, []), (0, 0, 0, []), (0, 0, 0, []), (0, 0, 0, []), (0, 0, 0, []), (0, 0, 0, []), (0, 0, 0, []), (0, 0, 0, []), (0, 0, 0, []), (0, 0, 0, []), (0, 0, 0, []), (0, 0, 0, []), (0, 0, 0, []), (0, 0, 0, []), (0, 0, 0, []), (0, 0, 0, []), (0, 0, 0, []), (0, 0, 0, []), (0, 0, 0, []), (0, 0, 0, []), (0, 0, 0, []), (0, 0, 0, []), (0, 0, 0, []), (0, 0, 0, []), (0, 0, 0, []), (0, 0, 0, []), (0, 0, 0, []), (0, 0, 0, []), (0, 0, 0, []), (0, 0, 0, []), (0, 0, 0, []), (0, 0, 0, []), (0, 0, 0, []), (0, 0, 0, []), (0, 0, 0, []), (0, 0, 0, []), (0, 0, 0, []), (0, 0, 0, []), (0, 0, 0, []), (0, 0, 0, []), (0, 0, 0, []), (0, 0, 0, []), (0, 0, 0, []), (0, 0, 0, []), (0, 0, 0, []), (0, 0, 0, []), (0, 0, 0, []), (0, 0, 0, []), (0, 0, 0, []), (0, 0, 0, []), (0, 0, 0, []), (0, 0, 0, []), (0, 0, 0, []), (0, 0, 0, []), (0, 0, 0, []), (0, 0, 0, []), (0, 0, 0, []), (0, 0, 0, []), (0, 0, 0, []), (0, 0, 0, []), (0, 0, 0, []), (0, 0, 0, []), (0, 0, 0, []), (0, 0, 0, []), (0, 0, 0, []), (0, 0, 0, []), (0, 0, 0, []), (0, 0, 0, []), (0, 0, 0, []), (0, 0, 0, []), (12, 0, 0, []), (65, 40, 188, [12, 24]), (0, 0, 0, []), (0, 0, 0, []), (2, 6, 0, []), (0, 0, 0, []), (8, 1, 0, []), (21, 0, 0, []), (70, 0, 0, []), (91, 0, 0, []), (12, 0, 0, []), (85, 223, 278, [1, 0, 22]), (0, 0, 0, []), (0, 0, 0, []), (91, 0, 0, []), (12, 0, 0, []), (65, 53, 197, [12, 24]), (0, 0, 0, []), (0, 0, 0, []), (1, 0, 0, []), (70, 0, 0, []), (91, 0, 0, []), (12, 0, 0, []), (85, 249, 280, [1, 0, 22]), (0, 0, 0, []), (0, 0, 0, []), (91, 0, 0, []), (12, 0, 0, []), (65, 53, 197, [12, 24]), (0, 0, 0, []), (0, 0, 0, []), (1, 1, 0, []), (70, 0, 0, []), (91, 0, 0, []), (12, 0, 0, []), (65, 53, 197, [12, 24]), (0, 0, 0, []), (0, 0, 0, []), (1, 2, 0, []), (70, 0, 0, []), (91, 0, 0, []), (12, 0, 0, []), (8, 1, 0, []), (85, 248, 281, [2, 0, 22]), (0, 0, 0, []), (0, 0, 0, []), (91, 0, 0, []), (12, 0, 0, []), (85, 244, 282, [1, 1, 22]), (0, 0, 0, []), (0, 0, 0, []), (89, 245, 283, [1, 0]), (0, 0, 0, []), (0, 0, 0, []), (91, 0, 0, []), (12, 0, 0, []), (64, 78, 255, [12, 0]), (0, 0, 0, []), (0, 0, 0, []), (91, 0, 0, []), (1, -1, 0, []), (91, 0, 0, [])]
def k251 : List jI := [(8, 1, 0, []), (43, 0, 0, []), (6, 0, 0, []), (6, 1, 0, []), (89, 187, 232, [3, 0]), (0, 0, 0, []), (0, 0, 0, []), (48, 43, 0, []), (0, 0, 0, []), (0, 0, 0, []), (8, 2, 0, []), (43, 0, 0, []), (6, 0, 0, []), (12, 0, 0, []), (65, 40, 188, [12, 24]), (0, 0, 0, []), (0, 0, 0, []), (2, 8, 0, []), (0, 0, 0, []), (8, 1, 0, []), (21, 0, 0, []), (70, 0, 0, []), (1, 1, 0, []), (22, 0, 0, []), (43, 0, 0, []), (89, 187, 232, [3, 0]), (0, 0, 0, []), (0, 0, 0, []), (48, 43, 0, []), (0, 0, 0, []), (0, 0, 0, []), (8, 3, 0, []), (43, 0, 0, []), (6, 0, 0, []), (7, 5, 545, []), (0, 0, 0, []), (0, 0, 0, []), (89, 187, 232, [3, 0]), (0, 0, 0, []), (0, 0, 0, []), (49, 45, 0, []), (0, 0, 0, []), (0, 0, 0, []), (1, -1, 0, []), (91, 0, 0, []), (12, 0, 0, []), (65, 41, 189, [12, 25]), (0, 0, 0, []), (0, 0, 0, []), (2, 12, 0, []), (0, 0, 0, []), (2, 6, 0, []), (0, 0, 0, []), (8, 1, 0, []), (23, 0, 0, []), (21, 0, 0, []), (8, 2, 0, []), (21, 0, 0, []), (71, 0, 0, []), (17, 4, 0, []), (0, 0, 0, []), (1, 0, 0, []), (15, 6, 0, []), (0, 0, 0, []), (11, 4, 0, []), (0, 0, 0, []), (17, 7, 0, []), (0, 0, 0, []), (11, 7, 0, []), (0, 0, 0, []), (6, 0, 0, []), (42, 0, 0, []), (53, 89, 0, []), (0, 0, 0, []), (0, 0, 0, []), (20, 6, 1, []), (0, 0, 0, []), (0, 0, 0, []), (11, 7, 0, []), (0, 0, 0, []), (7, 27, 319, []), (0, 0, 0, []), (0, 0, 0, []), (36, 0, 0, []), (17, 7, 0, []), (0, 0, 0, []), (60, 68, 0, []), (0, 0, 0, []), (0, 0, 0, []), (8, 3, 0, []), (9, 6, 0, []), (0, 0, 0, []), (56, 97, 0, []), (0, 0, 0, []), (0, 0, 0, []), (1, 0, 0, []), (91, 0, 0, []), (9, 6, 0, []), (0, 0, 0, []), (1, 1, 0, []), (22, 0, 0, []), (15, 7, 0, []), (0, 0, 0, []), (9, 7, 0, []), (0, 0, 0, []), (8, 3, 0, []), (59, 123, 0, []), (0, 0, 0, []), (0, 0, 0, []), (11, 4, 0, []), (0, 0, 0, []), (7, 27, 319, []), (0, 0, 0, []), (0, 0, 0, []), (36, 0, 0, []), (17, 4, 0, []), (0, 0, 0, []), (20, 7, -1, []), (0, 0, 0, []), (0, 0, 0, []), (60, 103, 0, []), (0, 0, 0, []), (0, 0, 0, []), (11, 4, 0, []), (0, 0, 0, []), (7, 27, 319, []), (0, 0, 0, []), (0, 0, 0, []), (37, 0, 0, []), (44, 0, 0, []), (91, 0, 0, [])]
def k252 : List jI := [(1, 0, 0, []), (14, 3, 0, []), (1, 0, 0, []), (15, 4, 0, []), (0, 0, 0, []), (9, 4, 0, []), (0, 0, 0, []), (12, 0, 0, []), (85, 220, 254, [1, 0, 22]), (0, 0, 0, []), (0, 0, 0, []), (57, 46, 0, []), (0, 0, 0, []), (0, 0, 0, []), (12, 0, 0, []), (9, 4, 0, []), (0, 0, 0, []), (85, 225, 262, [2, 0, 22]), (0, 0, 0, []), (0, 0, 0, []), (8, 1, 0, []), (55, 40, 0, []), (0, 0, 0, []), (0, 0, 0, []), (8, 2, 0, []), (48, 37, 0, []), (0, 0, 0, []), (0, 0, 0, []), (12, 0, 0, []), (9, 4, 0, []), (0, 0, 0, []), (85, 226, 257, [2, 0, 22]), (0, 0, 0, []), (0, 0, 0, []), (49, 40, 0, []), (0, 0, 0, []), (0, 0, 0, []), (20, 3, 1, []), (0, 0, 0, []), (0, 0, 0, []), (20, 4, 1, []), (0, 0, 0, []), (0, 0, 0, []), (60, 5, 0, []), (0, 0, 0, []), (0, 0, 0, []), (8, 3, 0, []), (91, 0, 0, [])]
def k253 : List jI := [(12, 0, 0, []), (8, 1, 0, []), (85, 222, 284, [2, 0, 22]), (0, 0, 0, []), (0, 0, 0, []), (49, 10, 0, []), (0, 0, 0, []), (0, 0, 0, []), (1, -1, 0, []), (91, 0, 0, []), (8, 2, 0, []), (62, 92, 0, [48, 54, 60, 66, 78, 85]), (0, 0, 0, []), (0, 0, 0, []), (0, 0, 0, []), (0, 0, 0, []), (0, 0, 0, []), (0, 0, 0, []), (0, 0, 0, []), (0, 0, 0, []), (0, 0, 0, []), (0, 0, 0, []), (0, 0, 0, []), (0, 0, 0, []), (0, 0, 0, []), (0, 0, 0, []), (0, 0, 0, []), (0, 0, 0, []), (0, 0, 0, []), (0, 0, 0, []), (0, 0, 0, []), (0, 0, 0, []), (0, 0, 0, []), (0, 0, 0, []), (0, 0, 0, []), (0, 0, 0, []), (0, 0, 0, []), (0, 0, 0, []), (0, 0, 0, []), (0, 0, 0, []), (0, 0, 0, []), (0, 0, 0, []), (0, 0, 0, []), (0, 0, 0, []), (0, 0, 0, []), (0, 0, 0, []), (0, 0, 0, []), (0, 0, 0, []), (12, 0, 0, []), (8, 1, 0, []), (85, 235, 263, [2, 0, 22]), (0, 0, 0, []), (0, 0, 0, []), (91, 0, 0, []), (12, 0, 0, []), (8, 1, 0, []), (85, 236, 264, [2, 0, 22]), (0, 0, 0, []), (0, 0, 0, []), (91, 0, 0, []), (12, 0, 0, []), (8, 1, 0, []), (85, 228, 279, [2, 0, 22]), (0, 0, 0, []), (0, 0, 0, []), (91, 0, 0, []), (12, 0, 0, []), (65, 42, 190, [12, 24]), (0, 0, 0, []), (0, 0, 0, []), (2, 17, 0, []), (0, 0, 0, []), (1, 3, 0, []), (8, 1, 0, []), (23, 0, 0, []), (21, 0, 0, []), (70, 0, 0, []), (91, 0, 0, []), (12, 0, 0, []), (8, 1, 0, []), (1, 0, 0, []), (85, 252, 285, [3, 0, 22]), (0, 0, 0, []), (0, 0, 0, []), (91, 0, 0, []), (12, 0, 0, []), (8, 1, 0, []), (1, 1, 0, []), (85, 252, 285, [3, 0, 22]), (0, 0, 0, []), (0, 0, 0, []), (91, 0, 0, []), (1, -1, 0, []), (91, 0, 0, [])]
def k254 : List jI := [(12, 0, 0, []), (8, 1, 0, []), (85, 221, 286, [2, 0, 22]), (0, 0, 0, []), (0, 0, 0, []), (49, 10, 0, []), (0, 0, 0, []), (0, 0, 0, []), (1, -1, 0, []), (91, 0, 0, []), (12, 0, 0, []), (85, 242, 275, [1, 99, 22]), (0, 0, 0, []), (0, 0, 0, []), (8, 2, 0, []), (62, 107, 0, [56, 62, 68, 74, 80, 95, 101]), (0, 0, 0, []), (0, 0, 0, []), (0, 0, 0, []), (0, 0, 0, []), (0, 0, 0, []), (0, 0, 0, []), (0, 0, 0, []), (0, 0, 0, []), (0, 0, 0, []), (0, 0, 0, []), (0, 0, 0, []), (0, 0, 0, []), (0, 0, 0, []), (0, 0, 0, []), (0, 0, 0, []), (0, 0, 0, []), (0, 0, 0, []), (0, 0, 0, []), (0, 0, 0, []), (0, 0, 0, []), (0, 0, 0, []), (0, 0, 0, []), (0, 0, 0, []), (0, 0, 0, []), (0, 0, 0, []), (0, 0, 0, []), (0, 0, 0, []), (0, 0, 0, []), (0, 0, 0, []), (0, 0, 0, []), (0, 0, 0, []), (0, 0, 0, []), (0, 0, 0, []), (0, 0, 0, []), (0, 0, 0, []), (0, 0, 0, []), (0, 0, 0, []), (0, 0, 0, []), (0, 0, 0, []), (0, 0, 0, []), (12, 0, 0, []), (8, 1, 0, []), (85, 225, 262, [2, 0, 22]), (0, 0, 0, []), (0, 0, 0, []), (91, 0, 0, []), (12, 0, 0, []), (8, 1, 0, []), (85, 226, 257, [2, 0, 22]), (0, 0, 0, []), (0, 0, 0, []), (91, 0, 0, []), (12, 0, 0, []), (8, 1, 0, []), (85, 230, 265, [2, 0, 22]), (0, 0, 0, []), (0, 0, 0, []), (91, 0, 0, []), (12, 0, 0, []), (8, 1, 0, []), (85, 233, 266, [2, 0, 22]), (0, 0, 0, []), (0, 0, 0, []), (91, 0, 0, []), (12, 0, 0, []), (65, 63, 199, [12, 26]), (0, 0, 0, []), (0, 0, 0, []), (8, 1, 0, []), (72, 0, 0, []), (48, 93, 0, []), (0, 0, 0, []), (0, 0, 0, []), (1, 1, 0, []), (60, 94, 0, []), (0, 0, 0, []), (0, 0, 0, []), (1, 0, 0, []), (91, 0, 0, []), (12, 0, 0, []), (8, 1, 0, []), (85, 243, 276, [2, 0, 22]), (0, 0, 0, []), (0, 0, 0, []), (91, 0, 0, []), (12, 0, 0, []), (8, 1, 0, []), (85, 239, 277, [2, 0, 22]), (0, 0, 0, []), (0, 0, 0, []), (91, 0, 0, []), (1, -1, 0, []), (91, 0, 0, [])]
def k255 : List jI := [(12, 0, 0, []), (65, 44, 192, [12, 24]), (0, 0, 0, []), (0, 0, 0, []), (2, 6, 0, []), (0, 0, 0, []), (8, 1, 0, []), (21, 0, 0, []), (70, 0, 0, []), (14, 2, 0, []), (1, 0, 0, []), (14, 3, 0, []), (1, 0, 0, []), (15, 4, 0, []), (0, 0, 0, []), (1, 0, 0, []), (15, 5, 0, []), (0, 0, 0, []), (9, 5, 0, []), (0, 0, 0, []), (12, 0, 0, []), (85, 220, 254, [1, 0, 22]), (0, 0, 0, []), (0, 0, 0, []), (57, 83, 0, []), (0, 0, 0, []), (0, 0, 0, []), (9, 5, 0, []), (0, 0, 0, []), (12, 0, 0, []), (85, 217, 252, [1, 0, 22]), (0, 0, 0, []), (0, 0, 0, []), (25, 0, 0, []), (43, 0, 0, []), (8, 2, 0, []), (1, 1, 0, []), (22, 0, 0, []), (43, 0, 0, []), (8, 2, 0, []), (1, 1, 0, []), (21, 0, 0, []), (43, 0, 0, []), (89, 187, 232, [3, 0]), (0, 0, 0, []), (0, 0, 0, []), (49, 52, 0, []), (0, 0, 0, []), (0, 0, 0, []), (60, 77, 0, []), (0, 0, 0, []), (0, 0, 0, []), (12, 0, 0, []), (9, 5, 0, []), (0, 0, 0, []), (85, 227, 259, [2, 0, 22]), (0, 0, 0, []), (0, 0, 0, []), (48, 64, 0, []), (0, 0, 0, []), (0, 0, 0, []), (20, 3, 1, []), (0, 0, 0, []), (0, 0, 0, []), (12, 0, 0, []), (9, 5, 0, []), (0, 0, 0, []), (85, 226, 257, [2, 0, 22]), (0, 0, 0, []), (0, 0, 0, []), (1, 3, 0, []), (55, 77, 0, []), (0, 0, 0, []), (0, 0, 0, []), (20, 4, 1, []), (0, 0, 0, []), (0, 0, 0, []), (20, 5, 1, []), (0, 0, 0, []), (0, 0, 0, []), (60, 18, 0, []), (0, 0, 0, []), (0, 0, 0, []), (12, 0, 0, []), (65, 46, 194, [12, 24]), (0, 0, 0, []), (0, 0, 0, []), (1, 5, 0, []), (70, 0, 0, []), (1, -1, 0, []), (55, 100, 0, []), (0, 0, 0, []), (0, 0, 0, []), (8, 3, 0, []), (1, 2, 0, []), (9, 4, 0, []), (0, 0, 0, []), (23, 0, 0, []), (21, 0, 0, []), (91, 0, 0, []), (12, 0, 0, []), (8, 3, 0, []), (43, 0, 0, []), (66, 61, 266, [12, 1]), (0, 0, 0, []), (0, 0, 0, []), (12, 0, 0, []), (9, 4, 0, []), (0, 0, 0, []), (43, 0, 0, []), (66, 62, 267, [12, 1]), (0, 0, 0, []), (0, 0, 0, []), (12, 0, 0, []), (8, 2, 0, []), (43, 0, 0, []), (66, 56, 259, [12, 1]), (0, 0, 0, []), (0, 0, 0, []), (12, 0, 0, []), (1, 2, 0, []), (85, 237, 271, [2, 1, 22]), (0, 0, 0, []), (0, 0, 0, []), (3, 9999, 0, []), (0, 0, 0, []), (0, 0, 0, []), (89, 238, 272, [2, 0]), (0, 0, 0, []), (0, 0, 0, []), (91, 0, 0, [])]
def k256 : List jI := [(8, 1, 0, []), (43, 0, 0, []), (6, 0, 0, []), (12, 0, 0, []), (65, 40, 188, [12, 24]), (0, 0, 0, []), (0, 0, 0, []), (2, 9, 0, []), (0, 0, 0, []), (70, 0, 0, []), (1, 1, 0, []), (22, 0, 0, []), (43, 0, 0, []), (89, 187, 232, [3, 0]), (0, 0, 0, []), (0, 0, 0, []), (49, 21, 0, []), (0, 0, 0, []), (0, 0, 0, []), (1, -1, 0, []), (91, 0, 0, []), (8, 2, 0, []), (49, 37, 0, []), (0, 0, 0, []), (0, 0, 0, []), (12, 0, 0, []), (65, 44, 192, [12, 24]), (0, 0, 0, []), (0, 0, 0, []), (2, 6, 0, []), (0, 0, 0, []), (8, 1, 0, []), (21, 0, 0, []), (70, 0, 0, []), (60, 78, 0, []), (0, 0, 0, []), (0, 0, 0, []), (8, 2, 0, []), (1, 1, 0, []), (55, 50, 0, []), (0, 0, 0, []), (0, 0, 0, []), (12, 0, 0, []), (8, 1, 0, []), (85, 255, 287, [2, 0, 22]), (0, 0, 0, []), (0, 0, 0, []), (60, 78, 0, []), (0, 0, 0, []), (0, 0, 0, []), (8, 2, 0, []), (1, 2, 0, []), (55, 77, 0, []), (0, 0, 0, []), (0, 0, 0, []), (12, 0, 0, []), (8, 1, 0, []), (85, 255, 287, [2, 0, 22]), (0, 0, 0, []), (0, 0, 0, []), (12, 0, 0, []), (65, 45, 193, [12, 24]), (0, 0, 0, []), (0, 0, 0, []), (1, 5, 0, []), (70, 0, 0, []), (59, 73, 0, []), (0, 0, 0, []), (0, 0, 0, []), (1, 1, 0, []), (60, 78, 0, []), (0, 0, 0, []), (0, 0, 0, []), (1, 0, 0, []), (60, 78, 0, []), (0, 0, 0, []), (0, 0, 0, []), (1, -1, 0, []), (91, 0, 0, [])]
def k257 : List jI := [(1, 0, 0, []), (14, 2, 0, []), (8, 2, 0, []), (2, 56, 0, []), (0, 0, 0, []), (57, 31, 0, []), (0, 0, 0, []), (0, 0, 0, []), (12, 0, 0, []), (65, 54, 198, [12, 24]), (0, 0, 0, []), (0, 0, 0, []), (2, 56, 0, []), (0, 0, 0, []), (8, 1, 0, []), (23, 0, 0, []), (8, 2, 0, []), (21, 0, 0, []), (12, 0, 0, []), (65, 53, 197, [12, 24]), (0, 0, 0, []), (0, 0, 0, []), (8, 2, 0, []), (70, 0, 0, []), (75, 0, 0, []), (20, 2, 1, []), (0, 0, 0, []), (0, 0, 0, []), (60, 2, 0, []), (0, 0, 0, []), (0, 0, 0, []), (95, 0, 0, [])]
def k258 : List jI := [(1, 0, 0, []), (14, 2, 0, []), (8, 2, 0, []), (2, 56, 0, []), (0, 0, 0, []), (57, 31, 0, []), (0, 0, 0, []), (0, 0, 0, []), (12, 0, 0, []), (65, 53, 197, [12, 24]), (0, 0, 0, []), (0, 0, 0, []), (8, 2, 0, []), (12, 0, 0, []), (65, 54, 198, [12, 24]), (0, 0, 0, []), (0, 0, 0, []), (2, 56, 0, []), (0, 0, 0, []), (8, 1, 0, []), (23, 0, 0, []), (8, 2, 0, []), (21, 0, 0, []), (70, 0, 0, []), (75, 0, 0, []), (20, 2, 1, []), (0, 0, 0, []), (0, 0, 0, []), (60, 2, 0, []), (0, 0, 0, []), (0, 0, 0, []), (95, 0, 0, [])]
def k259 : List jI := [(12, 0, 0, []), (64, 1, 239, [12, 0]), (0, 0, 0, []), (0, 0, 0, []), (14, 1, 0, []), (12, 0, 0, []), (1, 0, 0, []), (66, 1, 239, [12, 0]), (0, 0, 0, []), (0, 0, 0, []), (8, 1, 0, []), (2, 48, 0, []), (0, 0, 0, []), (58, 20, 0, []), (0, 0, 0, []), (0, 0, 0, []), (1, 1, 0, []), (60, 21, 0, []), (0, 0, 0, []), (0, 0, 0, []), (1, 0, 0, []), (14, 2, 0, []), (1, 0, 0, []), (14, 3, 0, []), (8, 3, 0, []), (8, 1, 0, []), (57, 50, 0, []), (0, 0, 0, []), (0, 0, 0, []), (8, 2, 0, []), (48, 50, 0, []), (0, 0, 0, []), (0, 0, 0, []), (12, 0, 0, []), (12, 0, 0, []), (65, 0, 156, [12, 24]), (0, 0, 0, []), (0, 0, 0, []), (8, 3, 0, []), (70, 0, 0, []), (85, 221, 286, [2, 0, 22]), (0, 0, 0, []), (0, 0, 0, []), (14, 2, 0, []), (20, 3, 1, []), (0, 0, 0, []), (0, 0, 0, []), (60, 24, 0, []), (0, 0, 0, []), (0, 0, 0, []), (8, 2, 0, []), (49, 66, 0, []), (0, 0, 0, []), (0, 0, 0, []), (12, 0, 0, []), (65, 9, 158, [12, 24]), (0, 0, 0, []), (0, 0, 0, []), (1, 1, 0, []), (46, 0, 0, []), (70, 0, 0, []), (1, 1, 0, []), (21, 0, 0, []), (75, 0, 0, []), (1, -1, 0, []), (91, 0, 0, []), (12, 0, 0, []), (1, 0, 0, []), (85, 257, 288, [2, 99, 22]), (0, 0, 0, []), (0, 0, 0, []), (12, 0, 0, []), (1, 1, 0, []), (67, 65, 257, [12, 0]), (0, 0, 0, []), (0, 0, 0, []), (12, 0, 0, []), (1, 0, 0, []), (66, 66, 268, [12, 0]), (0, 0, 0, []), (0, 0, 0, []), (12, 0, 0, []), (1, 0, 0, []), (66, 67, 269, [12, 0]), (0, 0, 0, []), (0, 0, 0, []), (12, 0, 0, []), (1, 0, 0, []), (66, 64, 265, [12, 0]), (0, 0, 0, []), (0, 0, 0, []), (1, 0, 0, []), (14, 3, 0, []), (8, 3, 0, []), (8, 1, 0, []), (57, 158, 0, []), (0, 0, 0, []), (0, 0, 0, []), (12, 0, 0, []), (64, 66, 268, [12, 0]), (0, 0, 0, []), (0, 0, 0, []), (49, 158, 0, []), (0, 0, 0, []), (0, 0, 0, []), (12, 0, 0, []), (85, 242, 275, [1, 99, 22]), (0, 0, 0, []), (0, 0, 0, []), (12, 0, 0, []), (12, 0, 0, []), (12, 0, 0, []), (65, 0, 156, [12, 24]), (0, 0, 0, []), (0, 0, 0, []), (8, 3, 0, []), (70, 0, 0, []), (85, 243, 276, [2, 0, 22]), (0, 0, 0, []), (0, 0, 0, []), (66, 66, 268, [12, 0]), (0, 0, 0, []), (0, 0, 0, []), (12, 0, 0, []), (64, 66, 268, [12, 0]), (0, 0, 0, []), (0, 0, 0, []), (48, 133, 0, []), (0, 0, 0, []), (0, 0, 0, []), (60, 93, 0, []), (0, 0, 0, []), (0, 0, 0, []), (12, 0, 0, []), (45, 0, 0, []), (64, 67, 269, [12, 0]), (0, 0, 0, []), (0, 0, 0, []), (12, 0, 0, []), (12, 0, 0, []), (65, 0, 156, [12, 24]), (0, 0, 0, []), (0, 0, 0, []), (8, 3, 0, []), (70, 0, 0, []), (85, 247, 289, [2, 0, 22]), (0, 0, 0, []), (0, 0, 0, []), (21, 0, 0, []), (66, 67, 269, [12, 0]), (0, 0, 0, []), (0, 0, 0, []), (20, 3, 1, []), (0, 0, 0, []), (0, 0, 0, []), (60, 93, 0, []), (0, 0, 0, []), (0, 0, 0, []), (12, 0, 0, []), (12, 0, 0, []), (64, 64, 265, [12, 0]), (0, 0, 0, []), (0, 0, 0, []), (66, 68, 270, [12, 0]), (0, 0, 0, []), (0, 0, 0, []), (12, 0, 0, []), (1, 0, 0, []), (85, 258, 290, [2, 99, 22]), (0, 0, 0, []), (0, 0, 0, []), (8, 3, 0, []), (91, 0, 0, [])]
def k260 : List jI := [(12, 0, 0, []), (64, 65, 257, [12, 0]), (0, 0, 0, []), (0, 0, 0, []), (49, 9, 0, []), (0, 0, 0, []), (0, 0, 0, []), (1, -1, 0, []), (91, 0, 0, []), (8, 1, 0, []), (49, 20, 0, []), (0, 0, 0, []), (0, 0, 0, []), (12, 0, 0, []), (64, 66, 268, [12, 0]), (0, 0, 0, []), (0, 0, 0, []), (60, 45, 0, []), (0, 0, 0, []), (0, 0, 0, []), (8, 1, 0, []), (1, 1, 0, []), (55, 32, 0, []), (0, 0, 0, []), (0, 0, 0, []), (12, 0, 0, []), (64, 67, 269, [12, 0]), (0, 0, 0, []), (0, 0, 0, []), (60, 45, 0, []), (0, 0, 0, []), (0, 0, 0, []), (8, 1, 0, []), (1, 2, 0, []), (55, 44, 0, []), (0, 0, 0, []), (0, 0, 0, []), (12, 0, 0, []), (64, 68, 270, [12, 0]), (0, 0, 0, []), (0, 0, 0, []), (60, 45, 0, []), (0, 0, 0, []), (0, 0, 0, []), (1, -1, 0, []), (91, 0, 0, [])]
def k261 : List jI := [(12, 0, 0, []), (8, 1, 0, []), (85, 258, 290, [2, 99, 22]), (0, 0, 0, []), (0, 0, 0, []), (12, 0, 0, []), (65, 69, 200, [12, 25]), (0, 0, 0, []), (0, 0, 0, []), (8, 1, 0, []), (12, 0, 0, []), (85, 244, 282, [1, 1, 22]), (0, 0, 0, []), (0, 0, 0, []), (76, 0, 0, []), (12, 0, 0, []), (65, 70, 201, [12, 24]), (0, 0, 0, []), (0, 0, 0, []), (8, 1, 0, []), (1, -1, 0, []), (75, 0, 0, []), (95, 0, 0, [])]
def k262 : List jI := [(12, 0, 0, []), (65, 70, 201, [12, 24]), (0, 0, 0, []), (0, 0, 0, []), (8, 1, 0, []), (70, 0, 0, []), (1, 1, 0, []), (21, 0, 0, []), (14, 2, 0, []), (8, 2, 0, []), (2, 48, 0, []), (0, 0, 0, []), (57, 36, 0, []), (0, 0, 0, []), (0, 0, 0, []), (12, 0, 0, []), (65, 69, 200, [12, 25]), (0, 0, 0, []), (0, 0, 0, []), (8, 1, 0, []), (71, 0, 0, []), (8, 2, 0, []), (41, 0, 0, []), (6, 1, 0, []), (38, 0, 0, []), (6, 0, 0, []), (42, 0, 0, []), (49, 36, 0, []), (0, 0, 0, []), (0, 0, 0, []), (20, 2, 1, []), (0, 0, 0, []), (0, 0, 0, []), (60, 9, 0, []), (0, 0, 0, []), (0, 0, 0, []), (12, 0, 0, []), (65, 70, 201, [12, 24]), (0, 0, 0, []), (0, 0, 0, []), (8, 1, 0, []), (8, 2, 0, []), (75, 0, 0, []), (8, 2, 0, []), (2, 48, 0, []), (0, 0, 0, []), (57, 53, 0, []), (0, 0, 0, []), (0, 0, 0, []), (8, 2, 0, []), (60, 54, 0, []), (0, 0, 0, []), (0, 0, 0, []), (1, -1, 0, []), (91, 0, 0, [])]
def k263 : List jI := [(8, 2, 0, []), (12, 0, 0, []), (65, 72, 203, [12, 24]), (0, 0, 0, []), (0, 0, 0, []), (8, 1, 0, []), (70, 0, 0, []), (58, 11, 0, []), (0, 0, 0, []), (0, 0, 0, []), (95, 0, 0, []), (12, 0, 0, []), (65, 72, 203, [12, 24]), (0, 0, 0, []), (0, 0, 0, []), (8, 1, 0, []), (8, 2, 0, []), (75, 0, 0, []), (1, 0, 0, []), (14, 3, 0, []), (8, 3, 0, []), (8, 1, 0, []), (57, 47, 0, []), (0, 0, 0, []), (0, 0, 0, []), (12, 0, 0, []), (65, 73, 204, [12, 24]), (0, 0, 0, []), (0, 0, 0, []), (1, 5, 0, []), (8, 1, 0, []), (23, 0, 0, []), (8, 3, 0, []), (21, 0, 0, []), (12, 0, 0, []), (65, 70, 201, [12, 24]), (0, 0, 0, []), (0, 0, 0, []), (8, 3, 0, []), (70, 0, 0, []), (75, 0, 0, []), (20, 3, 1, []), (0, 0, 0, []), (0, 0, 0, []), (60, 20, 0, []), (0, 0, 0, []), (0, 0, 0, []), (95, 0, 0, [])]
def k264 : List jI := [(1, 0, 0, []), (14, 2, 0, []), (8, 2, 0, []), (1, 5, 0, []), (57, 20, 0, []), (0, 0, 0, []), (0, 0, 0, []), (12, 0, 0, []), (65, 72, 203, [12, 24]), (0, 0, 0, []), (0, 0, 0, []), (8, 2, 0, []), (1, -1, 0, []), (75, 0, 0, []), (20, 2, 1, []), (0, 0, 0, []), (0, 0, 0, []), (60, 2, 0, []), (0, 0, 0, []), (0, 0, 0, []), (12, 0, 0, []), (1, 0, 0, []), (85, 257, 288, [2, 99, 22]), (0, 0, 0, []), (0, 0, 0, []), (12, 0, 0, []), (1, 0, 0, []), (85, 261, 291, [2, 99, 22]), (0, 0, 0, []), (0, 0, 0, []), (12, 0, 0, []), (65, 71, 202, [12, 24]), (0, 0, 0, []), (0, 0, 0, []), (1, 0, 0, []), (1, 0, 0, []), (75, 0, 0, []), (1, 0, 0, []), (14, 2, 0, []), (8, 2, 0, []), (50, 137, 0, []), (0, 0, 0, []), (0, 0, 0, []), (12, 0, 0, []), (8, 2, 0, []), (85, 262, 292, [2, 0, 22]), (0, 0, 0, []), (0, 0, 0, []), (14, 3, 0, []), (8, 3, 0, []), (1, -1, 0, []), (55, 60, 0, []), (0, 0, 0, []), (0, 0, 0, []), (20, 2, -1, []), (0, 0, 0, []), (0, 0, 0, []), (60, 39, 0, []), (0, 0, 0, []), (0, 0, 0, []), (12, 0, 0, []), (8, 2, 0, []), (85, 258, 290, [2, 99, 22]), (0, 0, 0, []), (0, 0, 0, []), (12, 0, 0, []), (8, 3, 0, []), (85, 233, 266, [2, 0, 22]), (0, 0, 0, []), (0, 0, 0, []), (12, 0, 0, []), (85, 223, 278, [1, 0, 22]), (0, 0, 0, []), (0, 0, 0, []), (59, 80, 0, []), (0, 0, 0, []), (0, 0, 0, []), (60, 39, 0, []), (0, 0, 0, []), (0, 0, 0, []), (12, 0, 0, []), (65, 71, 202, [12, 24]), (0, 0, 0, []), (0, 0, 0, []), (8, 2, 0, []), (70, 0, 0, []), (12, 0, 0, []), (8, 3, 0, []), (85, 247, 289, [2, 0, 22]), (0, 0, 0, []), (0, 0, 0, []), (21, 0, 0, []), (15, 4, 0, []), (0, 0, 0, []), (12, 0, 0, []), (8, 2, 0, []), (1, 1, 0, []), (21, 0, 0, []), (9, 4, 0, []), (0, 0, 0, []), (85, 263, 293, [3, 99, 22]), (0, 0, 0, []), (0, 0, 0, []), (8, 2, 0, []), (1, 1, 0, []), (21, 0, 0, []), (8, 1, 0, []), (55, 113, 0, []), (0, 0, 0, []), (0, 0, 0, []), (60, 39, 0, []), (0, 0, 0, []), (0, 0, 0, []), (20, 2, 1, []), (0, 0, 0, []), (0, 0, 0, []), (12, 0, 0, []), (8, 2, 0, []), (85, 257, 288, [2, 99, 22]), (0, 0, 0, []), (0, 0, 0, []), (12, 0, 0, []), (65, 71, 202, [12, 24]), (0, 0, 0, []), (0, 0, 0, []), (8, 2, 0, []), (9, 4, 0, []), (0, 0, 0, []), (75, 0, 0, []), (12, 0, 0, []), (8, 2, 0, []), (85, 261, 291, [2, 99, 22]), (0, 0, 0, []), (0, 0, 0, []), (60, 39, 0, []), (0, 0, 0, []), (0, 0, 0, []), (12, 0, 0, []), (1, 0, 0, []), (85, 258, 290, [2, 99, 22]), (0, 0, 0, []), (0, 0, 0, []), (95, 0, 0, [])]
def k265 : List jI := [(8, 1, 0, []), (43, 0, 0, []), (6, 1, 0, []), (7, 3, 593, []), (0, 0, 0, []), (0, 0, 0, []), (89, 187, 232, [3, 0]), (0, 0, 0, []), (0, 0, 0, []), (49, 14, 0, []), (0, 0, 0, []), (0, 0, 0, []), (1, -1, 0, []), (91, 0, 0, []), (12, 0, 0, []), (8, 1, 0, []), (85, 264, 294, [2, 99, 22]), (0, 0, 0, []), (0, 0, 0, []), (8, 1, 0, []), (14, 3, 0, []), (8, 3, 0, []), (53, 41, 0, []), (0, 0, 0, []), (0, 0, 0, []), (12, 0, 0, []), (65, 72, 203, [12, 24]), (0, 0, 0, []), (0, 0, 0, []), (8, 3, 0, []), (70, 0, 0, []), (1, -1, 0, []), (55, 41, 0, []), (0, 0, 0, []), (0, 0, 0, []), (20, 3, -1, []), (0, 0, 0, []), (0, 0, 0, []), (60, 21, 0, []), (0, 0, 0, []), (0, 0, 0, []), (8, 3, 0, []), (49, 47, 0, []), (0, 0, 0, []), (0, 0, 0, []), (1, -1, 0, []), (91, 0, 0, []), (8, 2, 0, []), (1, -1, 0, []), (55, 61, 0, []), (0, 0, 0, []), (0, 0, 0, []), (12, 0, 0, []), (65, 72, 203, [12, 24]), (0, 0, 0, []), (0, 0, 0, []), (8, 3, 0, []), (70, 0, 0, []), (60, 98, 0, []), (0, 0, 0, []), (0, 0, 0, []), (8, 2, 0, []), (2, 20, 0, []), (0, 0, 0, []), (55, 71, 0, []), (0, 0, 0, []), (0, 0, 0, []), (8, 3, 0, []), (60, 98, 0, []), (0, 0, 0, []), (0, 0, 0, []), (8, 2, 0, []), (43, 0, 0, []), (6, 0, 0, []), (8, 3, 0, []), (1, 1, 0, []), (22, 0, 0, []), (43, 0, 0, []), (89, 187, 232, [3, 0]), (0, 0, 0, []), (0, 0, 0, []), (48, 97, 0, []), (0, 0, 0, []), (0, 0, 0, []), (12, 0, 0, []), (65, 73, 204, [12, 24]), (0, 0, 0, []), (0, 0, 0, []), (1, 5, 0, []), (8, 3, 0, []), (23, 0, 0, []), (8, 2, 0, []), (21, 0, 0, []), (70, 0, 0, []), (60, 98, 0, []), (0, 0, 0, []), (0, 0, 0, []), (1, -1, 0, []), (91, 0, 0, [])]
def k266 : List jI := [(12, 0, 0, []), (8, 1, 0, []), (85, 261, 291, [2, 99, 22]), (0, 0, 0, []), (0, 0, 0, []), (8, 1, 0, []), (8, 2, 0, []), (55, 17, 0, []), (0, 0, 0, []), (0, 0, 0, []), (12, 0, 0, []), (65, 69, 200, [12, 25]), (0, 0, 0, []), (0, 0, 0, []), (8, 1, 0, []), (6, 0, 0, []), (76, 0, 0, []), (12, 0, 0, []), (65, 75, 206, [12, 24]), (0, 0, 0, []), (0, 0, 0, []), (8, 1, 0, []), (1, -1, 0, []), (75, 0, 0, []), (12, 0, 0, []), (65, 74, 205, [12, 24]), (0, 0, 0, []), (0, 0, 0, []), (8, 1, 0, []), (1, 0, 0, []), (75, 0, 0, []), (95, 0, 0, [])]
def k267 : List jI := [(8, 1, 0, []), (8, 2, 0, []), (21, 0, 0, []), (1, 2, 0, []), (25, 0, 0, []), (49, 12, 0, []), (0, 0, 0, []), (0, 0, 0, []), (1, 1, 0, []), (60, 13, 0, []), (0, 0, 0, []), (0, 0, 0, []), (1, 0, 0, []), (15, 4, 0, []), (0, 0, 0, []), (12, 0, 0, []), (65, 75, 206, [12, 24]), (0, 0, 0, []), (0, 0, 0, []), (8, 1, 0, []), (70, 0, 0, []), (1, -1, 0, []), (54, 54, 0, []), (0, 0, 0, []), (0, 0, 0, []), (9, 4, 0, []), (0, 0, 0, []), (48, 43, 0, []), (0, 0, 0, []), (0, 0, 0, []), (8, 3, 0, []), (12, 0, 0, []), (65, 74, 205, [12, 24]), (0, 0, 0, []), (0, 0, 0, []), (8, 1, 0, []), (70, 0, 0, []), (58, 54, 0, []), (0, 0, 0, []), (0, 0, 0, []), (60, 53, 0, []), (0, 0, 0, []), (0, 0, 0, []), (8, 3, 0, []), (12, 0, 0, []), (65, 74, 205, [12, 24]), (0, 0, 0, []), (0, 0, 0, []), (8, 1, 0, []), (70, 0, 0, []), (56, 54, 0, []), (0, 0, 0, []), (0, 0, 0, []), (95, 0, 0, []), (12, 0, 0, []), (65, 75, 206, [12, 24]), (0, 0, 0, []), (0, 0, 0, []), (8, 1, 0, []), (12, 0, 0, []), (65, 70, 201, [12, 24]), (0, 0, 0, []), (0, 0, 0, []), (8, 1, 0, []), (70, 0, 0, []), (75, 0, 0, []), (12, 0, 0, []), (65, 74, 205, [12, 24]), (0, 0, 0, []), (0, 0, 0, []), (8, 1, 0, []), (8, 3, 0, []), (75, 0, 0, []), (95, 0, 0, [])]
def k268 : List jI := [(12, 0, 0, []), (1, 0, 0, []), (8, 1, 0, []), (85, 266, 295, [3, 99, 22]), (0, 0, 0, []), (0, 0, 0, []), (1, 0, 0, []), (14, 3, 0, []), (8, 3, 0, []), (50, 108, 0, []), (0, 0, 0, []), (0, 0, 0, []), (12, 0, 0, []), (8, 3, 0, []), (85, 262, 292, [2, 0, 22]), (0, 0, 0, []), (0, 0, 0, []), (15, 4, 0, []), (0, 0, 0, []), (9, 4, 0, []), (0, 0, 0, []), (1, -1, 0, []), (55, 56, 0, []), (0, 0, 0, []), (0, 0, 0, []), (20, 3, -1, []), (0, 0, 0, []), (0, 0, 0, []), (8, 3, 0, []), (50, 8, 0, []), (0, 0, 0, []), (0, 0, 0, []), (12, 0, 0, []), (8, 3, 0, []), (8, 2, 0, []), (12, 0, 0, []), (65, 71, 202, [12, 24]), (0, 0, 0, []), (0, 0, 0, []), (8, 3, 0, []), (70, 0, 0, []), (12, 0, 0, []), (65, 74, 205, [12, 24]), (0, 0, 0, []), (0, 0, 0, []), (8, 3, 0, []), (1, 1, 0, []), (21, 0, 0, []), (70, 0, 0, []), (21, 0, 0, []), (85, 267, 296, [4, 99, 22]), (0, 0, 0, []), (0, 0, 0, []), (60, 8, 0, []), (0, 0, 0, []), (0, 0, 0, []), (12, 0, 0, []), (8, 3, 0, []), (85, 258, 290, [2, 99, 22]), (0, 0, 0, []), (0, 0, 0, []), (12, 0, 0, []), (9, 4, 0, []), (0, 0, 0, []), (85, 247, 289, [2, 0, 22]), (0, 0, 0, []), (0, 0, 0, []), (15, 5, 0, []), (0, 0, 0, []), (12, 0, 0, []), (65, 71, 202, [12, 24]), (0, 0, 0, []), (0, 0, 0, []), (8, 3, 0, []), (8, 3, 0, []), (8, 2, 0, []), (21, 0, 0, []), (1, 2, 0, []), (25, 0, 0, []), (49, 87, 0, []), (0, 0, 0, []), (0, 0, 0, []), (9, 5, 0, []), (0, 0, 0, []), (60, 90, 0, []), (0, 0, 0, []), (0, 0, 0, []), (9, 5, 0, []), (0, 0, 0, []), (26, 0, 0, []), (75, 0, 0, []), (20, 3, 1, []), (0, 0, 0, []), (0, 0, 0, []), (12, 0, 0, []), (8, 3, 0, []), (85, 257, 288, [2, 99, 22]), (0, 0, 0, []), (0, 0, 0, []), (12, 0, 0, []), (8, 3, 0, []), (8, 1, 0, []), (85, 266, 295, [3, 99, 22]), (0, 0, 0, []), (0, 0, 0, []), (60, 8, 0, []), (0, 0, 0, []), (0, 0, 0, []), (95, 0, 0, [])]
def k269 : List jI := [(8, 1, 0, []), (43, 0, 0, []), (6, 0, 0, []), (7, 3, 593, []), (0, 0, 0, []), (0, 0, 0, []), (89, 187, 232, [3, 0]), (0, 0, 0, []), (0, 0, 0, []), (48, 30, 0, []), (0, 0, 0, []), (0, 0, 0, []), (8, 2, 0, []), (1, -1, 0, []), (54, 34, 0, []), (0, 0, 0, []), (0, 0, 0, []), (8, 2, 0, []), (43, 0, 0, []), (6, 0, 0, []), (8, 1, 0, []), (1, 1, 0, []), (22, 0, 0, []), (43, 0, 0, []), (89, 187, 232, [3, 0]), (0, 0, 0, []), (0, 0, 0, []), (49, 34, 0, []), (0, 0, 0, []), (0, 0, 0, []), (7, -1000000000000000, 605, []), (0, 0, 0, []), (0, 0, 0, []), (92, 0, 0, []), (12, 0, 0, []), (1, 5, 0, []), (85, 257, 288, [2, 99, 22]), (0, 0, 0, []), (0, 0, 0, []), (12, 0, 0, []), (1, 0, 0, []), (85, 257, 288, [2, 99, 22]), (0, 0, 0, []), (0, 0, 0, []), (12, 0, 0, []), (8, 1, 0, []), (1, 0, 0, []), (85, 268, 297, [3, 99, 22]), (0, 0, 0, []), (0, 0, 0, []), (12, 0, 0, []), (65, 74, 205, [12, 24]), (0, 0, 0, []), (0, 0, 0, []), (1, 0, 0, []), (70, 0, 0, []), (43, 0, 0, []), (16, 3, 0, []), (12, 0, 0, []), (65, 75, 206, [12, 24]), (0, 0, 0, []), (0, 0, 0, []), (1, 0, 0, []), (70, 0, 0, []), (15, 5, 0, []), (0, 0, 0, []), (1, 0, 0, []), (15, 6, 0, []), (0, 0, 0, []), (9, 6, 0, []), (0, 0, 0, []), (8, 2, 0, []), (57, 138, 0, []), (0, 0, 0, []), (0, 0, 0, []), (9, 5, 0, []), (0, 0, 0, []), (1, -1, 0, []), (54, 138, 0, []), (0, 0, 0, []), (0, 0, 0, []), (12, 0, 0, []), (1, 0, 0, []), (85, 258, 290, [2, 99, 22]), (0, 0, 0, []), (0, 0, 0, []), (12, 0, 0, []), (9, 5, 0, []), (0, 0, 0, []), (85, 247, 289, [2, 0, 22]), (0, 0, 0, []), (0, 0, 0, []), (15, 7, 0, []), (0, 0, 0, []), (12, 0, 0, []), (1, 0, 0, []), (85, 257, 288, [2, 99, 22]), (0, 0, 0, []), (0, 0, 0, []), (12, 0, 0, []), (9, 7, 0, []), (0, 0, 0, []), (51, 109, 0, []), (0, 0, 0, []), (0, 0, 0, []), (1, 0, 0, []), (60, 115, 0, []), (0, 0, 0, []), (0, 0, 0, []), (8, 1, 0, []), (9, 6, 0, []), (0, 0, 0, []), (22, 0, 0, []), (1, 1, 0, []), (22, 0, 0, []), (9, 6, 0, []), (0, 0, 0, []), (1, 1, 0, []), (21, 0, 0, []), (1, 2, 0, []), (25, 0, 0, []), (85, 268, 297, [3, 99, 22]), (0, 0, 0, []), (0, 0, 0, []), (12, 0, 0, []), (65, 75, 206, [12, 24]), (0, 0, 0, []), (0, 0, 0, []), (1, 0, 0, []), (70, 0, 0, []), (15, 5, 0, []), (0, 0, 0, []), (20, 6, 1, []), (0, 0, 0, []), (0, 0, 0, []), (60, 69, 0, []), (0, 0, 0, []), (0, 0, 0, []), (12, 0, 0, []), (1, 5, 0, []), (85, 258, 290, [2, 99, 22]), (0, 0, 0, []), (0, 0, 0, []), (8, 2, 0, []), (1, -1, 0, []), (55, 152, 0, []), (0, 0, 0, []), (0, 0, 0, []), (10, 3, 0, []), (60, 167, 0, []), (0, 0, 0, []), (0, 0, 0, []), (9, 5, 0, []), (0, 0, 0, []), (1, -1, 0, []), (55, 164, 0, []), (0, 0, 0, []), (0, 0, 0, []), (7, 100, 610, []), (0, 0, 0, []), (0, 0, 0, []), (60, 167, 0, []), (0, 0, 0, []), (0, 0, 0, []), (9, 5, 0, []), (0, 0, 0, []), (43, 0, 0, []), (92, 0, 0, [])]
def k270 : List jI := [(8, 1, 0, []), (14, 2, 0, []), (12, 0, 0, []), (85, 219, 255, [1, 0, 22]), (0, 0, 0, []), (0, 0, 0, []), (1, 1, 0, []), (22, 0, 0, []), (14, 3, 0, []), (8, 3, 0, []), (50, 32, 0, []), (0, 0, 0, []), (0, 0, 0, []), (12, 0, 0, []), (65, 76, 207, [12, 24]), (0, 0, 0, []), (0, 0, 0, []), (8, 3, 0, []), (8, 2, 0, []), (1, 5, 0, []), (25, 0, 0, []), (75, 0, 0, []), (8, 2, 0, []), (1, 5, 0, []), (24, 0, 0, []), (14, 2, 0, []), (20, 3, -1, []), (0, 0, 0, []), (0, 0, 0, []), (60, 9, 0, []), (0, 0, 0, []), (0, 0, 0, []), (1, 0, 0, []), (14, 3, 0, []), (1, 0, 0, []), (15, 4, 0, []), (0, 0, 0, []), (9, 4, 0, []), (0, 0, 0, []), (12, 0, 0, []), (85, 219, 255, [1, 0, 22]), (0, 0, 0, []), (0, 0, 0, []), (57, 135, 0, []), (0, 0, 0, []), (0, 0, 0, []), (12, 0, 0, []), (65, 76, 207, [12, 24]), (0, 0, 0, []), (0, 0, 0, []), (9, 4, 0, []), (0, 0, 0, []), (70, 0, 0, []), (8, 3, 0, []), (59, 59, 0, []), (0, 0, 0, []), (0, 0, 0, []), (1, 0, 0, []), (94, 0, 0, []), (12, 0, 0, []), (65, 76, 207, [12, 24]), (0, 0, 0, []), (0, 0, 0, []), (9, 4, 0, []), (0, 0, 0, []), (70, 0, 0, []), (8, 3, 0, []), (55, 73, 0, []), (0, 0, 0, []), (0, 0, 0, []), (20, 3, 1, []), (0, 0, 0, []), (0, 0, 0, []), (1, 0, 0, []), (15, 5, 0, []), (0, 0, 0, []), (9, 5, 0, []), (0, 0, 0, []), (9, 4, 0, []), (0, 0, 0, []), (57, 129, 0, []), (0, 0, 0, []), (0, 0, 0, []), (12, 0, 0, []), (65, 76, 207, [12, 24]), (0, 0, 0, []), (0, 0, 0, []), (9, 5, 0, []), (0, 0, 0, []), (70, 0, 0, []), (12, 0, 0, []), (65, 76, 207, [12, 24]), (0, 0, 0, []), (0, 0, 0, []), (9, 4, 0, []), (0, 0, 0, []), (70, 0, 0, []), (55, 123, 0, []), (0, 0, 0, []), (0, 0, 0, []), (12, 0, 0, []), (65, 42, 190, [12, 24]), (0, 0, 0, []), (0, 0, 0, []), (2, 17, 0, []), (0, 0, 0, []), (1, 3, 0, []), (9, 4, 0, []), (0, 0, 0, []), (23, 0, 0, []), (21, 0, 0, []), (70, 0, 0, []), (9, 5, 0, []), (0, 0, 0, []), (28, 0, 0, []), (1, 1, 0, []), (30, 0, 0, []), (1, 1, 0, []), (55, 123, 0, []), (0, 0, 0, []), (0, 0, 0, []), (1, 0, 0, []), (94, 0, 0, []), (20, 5, 1, []), (0, 0, 0, []), (0, 0, 0, []), (60, 76, 0, []), (0, 0, 0, []), (0, 0, 0, []), (20, 4, 1, []), (0, 0, 0, []), (0, 0, 0, []), (60, 37, 0, []), (0, 0, 0, []), (0, 0, 0, []), (1, 1, 0, []), (94, 0, 0, [])]
def k271 : List jI := [(1, 0, 0, []), (14, 1, 0, []), (1, 0, 0, []), (14, 2, 0, []), (8, 2, 0, []), (12, 0, 0, []), (85, 219, 255, [1, 0, 22]), (0, 0, 0, []), (0, 0, 0, []), (57, 37, 0, []), (0, 0, 0, []), (0, 0, 0, []), (12, 0, 0, []), (65, 76, 207, [12, 24]), (0, 0, 0, []), (0, 0, 0, []), (8, 2, 0, []), (70, 0, 0, []), (8, 1, 0, []), (56, 31, 0, []), (0, 0, 0, []), (0, 0, 0, []), (12, 0, 0, []), (65, 76, 207, [12, 24]), (0, 0, 0, []), (0, 0, 0, []), (8, 2, 0, []), (70, 0, 0, []), (1, 1, 0, []), (21, 0, 0, []), (14, 1, 0, []), (20, 2, 1, []), (0, 0, 0, []), (0, 0, 0, []), (60, 4, 0, []), (0, 0, 0, []), (0, 0, 0, []), (8, 1, 0, []), (91, 0, 0, [])]
def k272 : List jI := [(8, 1, 0, []), (1, -1, 0, []), (54, 15, 0, []), (0, 0, 0, []), (0, 0, 0, []), (12, 0, 0, []), (8, 1, 0, []), (85, 222, 284, [2, 0, 22]), (0, 0, 0, []), (0, 0, 0, []), (49, 15, 0, []), (0, 0, 0, []), (0, 0, 0, []), (1, -1, 0, []), (91, 0, 0, []), (1, 1, 0, []), (14, 2, 0, []), (1, 0, 0, []), (14, 3, 0, []), (8, 3, 0, []), (12, 0, 0, []), (85, 219, 255, [1, 0, 22]), (0, 0, 0, []), (0, 0, 0, []), (57, 37, 0, []), (0, 0, 0, []), (0, 0, 0, []), (8, 2, 0, []), (1, 5, 0, []), (23, 0, 0, []), (14, 2, 0, []), (20, 3, 1, []), (0, 0, 0, []), (0, 0, 0, []), (60, 19, 0, []), (0, 0, 0, []), (0, 0, 0, []), (1, -1, 0, []), (14, 3, 0, []), (1, -1, 0, []), (15, 4, 0, []), (0, 0, 0, []), (1, 0, 0, []), (15, 5, 0, []), (0, 0, 0, []), (9, 5, 0, []), (0, 0, 0, []), (8, 2, 0, []), (57, 104, 0, []), (0, 0, 0, []), (0, 0, 0, []), (12, 0, 0, []), (9, 5, 0, []), (0, 0, 0, []), (85, 270, 298, [2, 0, 22]), (0, 0, 0, []), (0, 0, 0, []), (48, 98, 0, []), (0, 0, 0, []), (0, 0, 0, []), (8, 3, 0, []), (1, -1, 0, []), (54, 76, 0, []), (0, 0, 0, []), (0, 0, 0, []), (12, 0, 0, []), (85, 271, 299, [1, 0, 22]), (0, 0, 0, []), (0, 0, 0, []), (8, 3, 0, []), (56, 76, 0, []), (0, 0, 0, []), (0, 0, 0, []), (60, 98, 0, []), (0, 0, 0, []), (0, 0, 0, []), (12, 0, 0, []), (85, 271, 299, [1, 0, 22]), (0, 0, 0, []), (0, 0, 0, []), (14, 3, 0, []), (8, 1, 0, []), (1, -1, 0, []), (55, 90, 0, []), (0, 0, 0, []), (0, 0, 0, []), (8, 3, 0, []), (60, 96, 0, []), (0, 0, 0, []), (0, 0, 0, []), (12, 0, 0, []), (65, 76, 207, [12, 24]), (0, 0, 0, []), (0, 0, 0, []), (8, 1, 0, []), (70, 0, 0, []), (15, 4, 0, []), (0, 0, 0, []), (20, 5, 1, []), (0, 0, 0, []), (0, 0, 0, []), (60, 45, 0, []), (0, 0, 0, []), (0, 0, 0, []), (9, 4, 0, []), (0, 0, 0, []), (91, 0, 0, [])]
def k273 : List jI := [(12, 0, 0, []), (12, 0, 0, []), (64, 79, 271, [12, 0]), (0, 0, 0, []), (0, 0, 0, []), (1, 1, 0, []), (21, 0, 0, []), (2, 20, 0, []), (0, 0, 0, []), (25, 0, 0, []), (66, 79, 271, [12, 0]), (0, 0, 0, []), (0, 0, 0, []), (1, 0, 0, []), (14, 1, 0, []), (8, 1, 0, []), (2, 56, 0, []), (0, 0, 0, []), (57, 47, 0, []), (0, 0, 0, []), (0, 0, 0, []), (12, 0, 0, []), (65, 77, 208, [12, 24]), (0, 0, 0, []), (0, 0, 0, []), (2, 56, 0, []), (0, 0, 0, []), (12, 0, 0, []), (64, 79, 271, [12, 0]), (0, 0, 0, []), (0, 0, 0, []), (23, 0, 0, []), (8, 1, 0, []), (21, 0, 0, []), (12, 0, 0, []), (65, 53, 197, [12, 24]), (0, 0, 0, []), (0, 0, 0, []), (8, 1, 0, []), (70, 0, 0, []), (75, 0, 0, []), (20, 1, 1, []), (0, 0, 0, []), (0, 0, 0, []), (60, 15, 0, []), (0, 0, 0, []), (0, 0, 0, []), (12, 0, 0, []), (64, 78, 255, [12, 0]), (0, 0, 0, []), (0, 0, 0, []), (2, 20, 0, []), (0, 0, 0, []), (57, 66, 0, []), (0, 0, 0, []), (0, 0, 0, []), (12, 0, 0, []), (45, 0, 0, []), (64, 78, 255, [12, 0]), (0, 0, 0, []), (0, 0, 0, []), (1, 1, 0, []), (21, 0, 0, []), (66, 78, 255, [12, 0]), (0, 0, 0, []), (0, 0, 0, []), (95, 0, 0, [])]
def k274 : List jI := [(12, 0, 0, []), (64, 78, 255, [12, 0]), (0, 0, 0, []), (0, 0, 0, []), (49, 19, 0, []), (0, 0, 0, []), (0, 0, 0, []), (12, 0, 0, []), (65, 9, 158, [12, 24]), (0, 0, 0, []), (0, 0, 0, []), (1, 4, 0, []), (46, 0, 0, []), (70, 0, 0, []), (1, 1, 0, []), (21, 0, 0, []), (75, 0, 0, []), (1, 0, 0, []), (94, 0, 0, []), (1, 0, 0, []), (14, 1, 0, []), (8, 1, 0, []), (2, 56, 0, []), (0, 0, 0, []), (57, 53, 0, []), (0, 0, 0, []), (0, 0, 0, []), (12, 0, 0, []), (65, 53, 197, [12, 24]), (0, 0, 0, []), (0, 0, 0, []), (8, 1, 0, []), (12, 0, 0, []), (65, 77, 208, [12, 24]), (0, 0, 0, []), (0, 0, 0, []), (2, 56, 0, []), (0, 0, 0, []), (12, 0, 0, []), (64, 79, 271, [12, 0]), (0, 0, 0, []), (0, 0, 0, []), (23, 0, 0, []), (8, 1, 0, []), (21, 0, 0, []), (70, 0, 0, []), (75, 0, 0, []), (20, 1, 1, []), (0, 0, 0, []), (0, 0, 0, []), (60, 21, 0, []), (0, 0, 0, []), (0, 0, 0, []), (12, 0, 0, []), (12, 0, 0, []), (64, 79, 271, [12, 0]), (0, 0, 0, []), (0, 0, 0, []), (2, 20, 0, []), (0, 0, 0, []), (21, 0, 0, []), (1, 1, 0, []), (22, 0, 0, []), (2, 20, 0, []), (0, 0, 0, []), (25, 0, 0, []), (66, 79, 271, [12, 0]), (0, 0, 0, []), (0, 0, 0, []), (12, 0, 0, []), (45, 0, 0, []), (64, 78, 255, [12, 0]), (0, 0, 0, []), (0, 0, 0, []), (1, 1, 0, []), (22, 0, 0, []), (66, 78, 255, [12, 0]), (0, 0, 0, []), (0, 0, 0, []), (1, 1, 0, []), (94, 0, 0, [])]
def k275 : List jI := [(12, 0, 0, []), (65, 9, 158, [12, 24]), (0, 0, 0, []), (0, 0, 0, []), (1, 2, 0, []), (46, 0, 0, []), (70, 0, 0, []), (1, 1, 0, []), (21, 0, 0, []), (75, 0, 0, []), (1, -1, 0, []), (91, 0, 0, [])]
def k276 : List jI := [(12, 0, 0, []), (8, 1, 0, []), (85, 221, 286, [2, 0, 22]), (0, 0, 0, []), (0, 0, 0, []), (49, 13, 0, []), (0, 0, 0, []), (0, 0, 0, []), (12, 0, 0, []), (85, 275, 300, [1, 0, 22]), (0, 0, 0, []), (0, 0, 0, []), (91, 0, 0, []), (12, 0, 0, []), (85, 242, 275, [1, 99, 22]), (0, 0, 0, []), (0, 0, 0, []), (12, 0, 0, []), (8, 1, 0, []), (85, 243, 276, [2, 0, 22]), (0, 0, 0, []), (0, 0, 0, []), (48, 30, 0, []), (0, 0, 0, []), (0, 0, 0, []), (12, 0, 0, []), (85, 275, 300, [1, 0, 22]), (0, 0, 0, []), (0, 0, 0, []), (91, 0, 0, []), (12, 0, 0, []), (85, 273, 301, [1, 99, 22]), (0, 0, 0, []), (0, 0, 0, []), (12, 0, 0, []), (8, 1, 0, []), (85, 247, 289, [2, 0, 22]), (0, 0, 0, []), (0, 0, 0, []), (91, 0, 0, [])]
def k277 : List jI := [(12, 0, 0, []), (8, 1, 0, []), (85, 221, 286, [2, 0, 22]), (0, 0, 0, []), (0, 0, 0, []), (48, 26, 0, []), (0, 0, 0, []), (0, 0, 0, []), (12, 0, 0, []), (8, 1, 0, []), (85, 226, 257, [2, 0, 22]), (0, 0, 0, []), (0, 0, 0, []), (1, 1, 0, []), (55, 26, 0, []), (0, 0, 0, []), (0, 0, 0, []), (12, 0, 0, []), (65, 53, 197, [12, 24]), (0, 0, 0, []), (0, 0, 0, []), (1, 0, 0, []), (70, 0, 0, []), (49, 38, 0, []), (0, 0, 0, []), (0, 0, 0, []), (12, 0, 0, []), (65, 9, 158, [12, 24]), (0, 0, 0, []), (0, 0, 0, []), (1, 2, 0, []), (46, 0, 0, []), (70, 0, 0, []), (1, 1, 0, []), (21, 0, 0, []), (75, 0, 0, []), (1, 0, 0, []), (94, 0, 0, []), (12, 0, 0, []), (85, 273, 301, [1, 99, 22]), (0, 0, 0, []), (0, 0, 0, []), (12, 0, 0, []), (65, 53, 197, [12, 24]), (0, 0, 0, []), (0, 0, 0, []), (2, 8, 0, []), (0, 0, 0, []), (8, 1, 0, []), (21, 0, 0, []), (1, 2, 0, []), (75, 0, 0, []), (12, 0, 0, []), (65, 53, 197, [12, 24]), (0, 0, 0, []), (0, 0, 0, []), (1, 0, 0, []), (46, 0, 0, []), (70, 0, 0, []), (1, 1, 0, []), (22, 0, 0, []), (75, 0, 0, []), (1, 1, 0, []), (94, 0, 0, [])]
def k278 : List jI := [(12, 0, 0, []), (8, 1, 0, []), (85, 222, 284, [2, 0, 22]), (0, 0, 0, []), (0, 0, 0, []), (48, 16, 0, []), (0, 0, 0, []), (0, 0, 0, []), (12, 0, 0, []), (8, 1, 0, []), (85, 228, 279, [2, 0, 22]), (0, 0, 0, []), (0, 0, 0, []), (49, 28, 0, []), (0, 0, 0, []), (0, 0, 0, []), (12, 0, 0, []), (65, 9, 158, [12, 24]), (0, 0, 0, []), (0, 0, 0, []), (1, 2, 0, []), (46, 0, 0, []), (70, 0, 0, []), (1, 1, 0, []), (21, 0, 0, []), (75, 0, 0, []), (1, 0, 0, []), (94, 0, 0, []), (12, 0, 0, []), (85, 273, 301, [1, 99, 22]), (0, 0, 0, []), (0, 0, 0, []), (12, 0, 0, []), (65, 53, 197, [12, 24]), (0, 0, 0, []), (0, 0, 0, []), (1, 3, 0, []), (8, 1, 0, []), (21, 0, 0, []), (46, 0, 0, []), (70, 0, 0, []), (1, 1, 0, []), (22, 0, 0, []), (75, 0, 0, []), (12, 0, 0, []), (65, 53, 197, [12, 24]), (0, 0, 0, []), (0, 0, 0, []), (1, 2, 0, []), (46, 0, 0, []), (70, 0, 0, []), (12, 0, 0, []), (8, 1, 0, []), (85, 235, 263, [2, 0, 22]), (0, 0, 0, []), (0, 0, 0, []), (21, 0, 0, []), (75, 0, 0, []), (1, 1, 0, []), (94, 0, 0, [])]
def k279 : List jI := [(8, 1, 0, []), (51, 16, 0, []), (0, 0, 0, []), (0, 0, 0, []), (12, 0, 0, []), (65, 9, 158, [12, 24]), (0, 0, 0, []), (0, 0, 0, []), (1, 5, 0, []), (46, 0, 0, []), (70, 0, 0, []), (1, 1, 0, []), (21, 0, 0, []), (75, 0, 0, []), (1, 0, 0, []), (94, 0, 0, []), (12, 0, 0, []), (8, 1, 0, []), (43, 0, 0, []), (66, 80, 209, [12, 1]), (0, 0, 0, []), (0, 0, 0, []), (1, 1, 0, []), (94, 0, 0, [])]
def k280 : List jI := [(12, 0, 0, []), (7, 1103515245, 627, []), (0, 0, 0, []), (0, 0, 0, []), (12, 0, 0, []), (64, 80, 209, [12, 1]), (0, 0, 0, []), (0, 0, 0, []), (35, 0, 0, []), (7, 12345, 629, []), (0, 0, 0, []), (0, 0, 0, []), (33, 0, 0, []), (7, 2147483648, 631, []), (0, 0, 0, []), (0, 0, 0, []), (37, 0, 0, []), (66, 80, 209, [12, 1]), (0, 0, 0, []), (0, 0, 0, []), (12, 0, 0, []), (64, 80, 209, [12, 1]), (0, 0, 0, []), (0, 0, 0, []), (7, 64, 633, []), (0, 0, 0, []), (0, 0, 0, []), (36, 0, 0, []), (8, 1, 0, []), (43, 0, 0, []), (37, 0, 0, []), (44, 0, 0, []), (91, 0, 0, [])]
def k281 : List jI := [(12, 0, 0, []), (8, 1, 0, []), (85, 225, 262, [2, 0, 22]), (0, 0, 0, []), (0, 0, 0, []), (14, 3, 0, []), (12, 0, 0, []), (65, 53, 197, [12, 24]), (0, 0, 0, []), (0, 0, 0, []), (1, 3, 0, []), (8, 3, 0, []), (21, 0, 0, []), (46, 0, 0, []), (70, 0, 0, []), (1, 1, 0, []), (22, 0, 0, []), (75, 0, 0, []), (12, 0, 0, []), (65, 53, 197, [12, 24]), (0, 0, 0, []), (0, 0, 0, []), (1, 1, 0, []), (46, 0, 0, []), (70, 0, 0, []), (8, 2, 0, []), (22, 0, 0, []), (75, 0, 0, []), (1, 0, 0, []), (15, 4, 0, []), (0, 0, 0, []), (9, 4, 0, []), (0, 0, 0, []), (1, 4, 0, []), (57, 78, 0, []), (0, 0, 0, []), (0, 0, 0, []), (12, 0, 0, []), (8, 1, 0, []), (9, 4, 0, []), (0, 0, 0, []), (85, 229, 258, [3, 0, 22]), (0, 0, 0, []), (0, 0, 0, []), (15, 5, 0, []), (0, 0, 0, []), (9, 5, 0, []), (0, 0, 0, []), (1, -1, 0, []), (54, 72, 0, []), (0, 0, 0, []), (0, 0, 0, []), (12, 0, 0, []), (9, 5, 0, []), (0, 0, 0, []), (85, 227, 259, [2, 0, 22]), (0, 0, 0, []), (0, 0, 0, []), (48, 72, 0, []), (0, 0, 0, []), (0, 0, 0, []), (12, 0, 0, []), (65, 53, 197, [12, 24]), (0, 0, 0, []), (0, 0, 0, []), (2, 8, 0, []), (0, 0, 0, []), (9, 5, 0, []), (0, 0, 0, []), (21, 0, 0, []), (1, 3, 0, []), (75, 0, 0, []), (20, 4, 1, []), (0, 0, 0, []), (0, 0, 0, []), (60, 31, 0, []), (0, 0, 0, []), (0, 0, 0, []), (12, 0, 0, []), (65, 53, 197, [12, 24]), (0, 0, 0, []), (0, 0, 0, []), (2, 8, 0, []), (0, 0, 0, []), (8, 1, 0, []), (21, 0, 0, []), (1, 3, 0, []), (75, 0, 0, []), (95, 0, 0, [])]
def k282 : List jI := [(12, 0, 0, []), (85, 244, 282, [1, 1, 22]), (0, 0, 0, []), (0, 0, 0, []), (16, 1, 0, []), (10, 1, 0, []), (6, 0, 0, []), (42, 0, 0, []), (49, 13, 0, []), (0, 0, 0, []), (0, 0, 0, []), (1, 0, 0, []), (94, 0, 0, []), (10, 1, 0, []), (12, 0, 0, []), (10, 1, 0, []), (89, 245, 283, [1, 0]), (0, 0, 0, []), (0, 0, 0, []), (85, 280, 302, [2, 0, 22]), (0, 0, 0, []), (0, 0, 0, []), (89, 246, 303, [2, 0]), (0, 0, 0, []), (0, 0, 0, []), (14, 3, 0, []), (12, 0, 0, []), (8, 3, 0, []), (85, 247, 289, [2, 0, 22]), (0, 0, 0, []), (0, 0, 0, []), (15, 4, 0, []), (0, 0, 0, []), (12, 0, 0, []), (2, 100, 0, []), (0, 0, 0, []), (85, 280, 302, [2, 0, 22]), (0, 0, 0, []), (0, 0, 0, []), (12, 0, 0, []), (12, 0, 0, []), (8, 3, 0, []), (85, 225, 262, [2, 0, 22]), (0, 0, 0, []), (0, 0, 0, []), (85, 236, 264, [2, 0, 22]), (0, 0, 0, []), (0, 0, 0, []), (57, 55, 0, []), (0, 0, 0, []), (0, 0, 0, []), (1, 1, 0, []), (60, 56, 0, []), (0, 0, 0, []), (0, 0, 0, []), (1, 0, 0, []), (15, 5, 0, []), (0, 0, 0, []), (9, 5, 0, []), (0, 0, 0, []), (48, 70, 0, []), (0, 0, 0, []), (0, 0, 0, []), (12, 0, 0, []), (8, 3, 0, []), (9, 4, 0, []), (0, 0, 0, []), (85, 281, 304, [3, 99, 22]), (0, 0, 0, []), (0, 0, 0, []), (9, 5, 0, []), (0, 0, 0, []), (94, 0, 0, [])]
def k283 : List jI := [(12, 0, 0, []), (64, 51, 254, [12, 0]), (0, 0, 0, []), (0, 0, 0, []), (48, 19, 0, []), (0, 0, 0, []), (0, 0, 0, []), (8, 1, 0, []), (43, 0, 0, []), (6, 1, 0, []), (7, 30, 644, []), (0, 0, 0, []), (0, 0, 0, []), (89, 187, 232, [3, 0]), (0, 0, 0, []), (0, 0, 0, []), (49, 31, 0, []), (0, 0, 0, []), (0, 0, 0, []), (12, 0, 0, []), (65, 9, 158, [12, 24]), (0, 0, 0, []), (0, 0, 0, []), (1, 3, 0, []), (46, 0, 0, []), (70, 0, 0, []), (1, 1, 0, []), (21, 0, 0, []), (75, 0, 0, []), (1, -1, 0, []), (91, 0, 0, []), (12, 0, 0, []), (85, 273, 301, [1, 99, 22]), (0, 0, 0, []), (0, 0, 0, []), (1, 0, 0, []), (14, 2, 0, []), (1, 0, 0, []), (14, 3, 0, []), (8, 3, 0, []), (8, 1, 0, []), (57, 60, 0, []), (0, 0, 0, []), (0, 0, 0, []), (12, 0, 0, []), (85, 282, 305, [1, 0, 22]), (0, 0, 0, []), (0, 0, 0, []), (48, 54, 0, []), (0, 0, 0, []), (0, 0, 0, []), (20, 2, 1, []), (0, 0, 0, []), (0, 0, 0, []), (20, 3, 1, []), (0, 0, 0, []), (0, 0, 0, []), (60, 39, 0, []), (0, 0, 0, []), (0, 0, 0, []), (8, 2, 0, []), (91, 0, 0, [])]
def k284 : List jI := [(12, 0, 0, []), (64, 1, 239, [12, 0]), (0, 0, 0, []), (0, 0, 0, []), (14, 1, 0, []), (12, 0, 0, []), (1, 0, 0, []), (66, 1, 239, [12, 0]), (0, 0, 0, []), (0, 0, 0, []), (8, 1, 0, []), (53, 32, 0, []), (0, 0, 0, []), (0, 0, 0, []), (8, 1, 0, []), (1, 3, 0, []), (25, 0, 0, []), (49, 32, 0, []), (0, 0, 0, []), (0, 0, 0, []), (8, 1, 0, []), (1, 3, 0, []), (24, 0, 0, []), (2, 20, 0, []), (0, 0, 0, []), (58, 32, 0, []), (0, 0, 0, []), (0, 0, 0, []), (1, 1, 0, []), (60, 33, 0, []), (0, 0, 0, []), (0, 0, 0, []), (1, 0, 0, []), (14, 2, 0, []), (1, 0, 0, []), (14, 3, 0, []), (8, 3, 0, []), (8, 1, 0, []), (57, 100, 0, []), (0, 0, 0, []), (0, 0, 0, []), (8, 2, 0, []), (48, 100, 0, []), (0, 0, 0, []), (0, 0, 0, []), (12, 0, 0, []), (65, 0, 156, [12, 24]), (0, 0, 0, []), (0, 0, 0, []), (8, 3, 0, []), (70, 0, 0, []), (12, 0, 0, []), (85, 217, 252, [1, 0, 22]), (0, 0, 0, []), (0, 0, 0, []), (57, 92, 0, []), (0, 0, 0, []), (0, 0, 0, []), (12, 0, 0, []), (65, 0, 156, [12, 24]), (0, 0, 0, []), (0, 0, 0, []), (8, 3, 0, []), (1, 1, 0, []), (21, 0, 0, []), (70, 0, 0, []), (12, 0, 0, []), (85, 218, 253, [1, 0, 22]), (0, 0, 0, []), (0, 0, 0, []), (57, 92, 0, []), (0, 0, 0, []), (0, 0, 0, []), (12, 0, 0, []), (65, 0, 156, [12, 24]), (0, 0, 0, []), (0, 0, 0, []), (8, 3, 0, []), (1, 2, 0, []), (21, 0, 0, []), (70, 0, 0, []), (12, 0, 0, []), (85, 219, 255, [1, 0, 22]), (0, 0, 0, []), (0, 0, 0, []), (58, 92, 0, []), (0, 0, 0, []), (0, 0, 0, []), (1, 1, 0, []), (60, 93, 0, []), (0, 0, 0, []), (0, 0, 0, []), (1, 0, 0, []), (14, 2, 0, []), (20, 3, 3, []), (0, 0, 0, []), (0, 0, 0, []), (60, 36, 0, []), (0, 0, 0, []), (0, 0, 0, []), (8, 2, 0, []), (49, 116, 0, []), (0, 0, 0, []), (0, 0, 0, []), (12, 0, 0, []), (65, 9, 158, [12, 24]), (0, 0, 0, []), (0, 0, 0, []), (1, 1, 0, []), (46, 0, 0, []), (70, 0, 0, []), (1, 1, 0, []), (21, 0, 0, []), (75, 0, 0, []), (1, -1, 0, []), (91, 0, 0, []), (1, 0, 0, []), (14, 3, 0, []), (8, 3, 0, []), (8, 1, 0, []), (57, 141, 0, []), (0, 0, 0, []), (0, 0, 0, []), (12, 0, 0, []), (65, 82, 210, [12, 24]), (0, 0, 0, []), (0, 0, 0, []), (8, 3, 0, []), (12, 0, 0, []), (65, 0, 156, [12, 24]), (0, 0, 0, []), (0, 0, 0, []), (8, 3, 0, []), (70, 0, 0, []), (75, 0, 0, []), (20, 3, 1, []), (0, 0, 0, []), (0, 0, 0, []), (60, 118, 0, []), (0, 0, 0, []), (0, 0, 0, []), (12, 0, 0, []), (8, 1, 0, []), (1, 3, 0, []), (24, 0, 0, []), (66, 81, 256, [12, 0]), (0, 0, 0, []), (0, 0, 0, []), (12, 0, 0, []), (64, 81, 256, [12, 0]), (0, 0, 0, []), (0, 0, 0, []), (91, 0, 0, [])]
def k285 : List jI := [(12, 0, 0, []), (8, 1, 0, []), (8, 3, 0, []), (1, 5, 0, []), (25, 0, 0, []), (1, 2, 0, []), (22, 0, 0, []), (22, 0, 0, []), (8, 2, 0, []), (8, 3, 0, []), (1, 5, 0, []), (24, 0, 0, []), (1, 1, 0, []), (22, 0, 0, []), (22, 0, 0, []), (85, 224, 256, [3, 0, 22]), (0, 0, 0, []), (0, 0, 0, []), (91, 0, 0, [])]
def k286 : List jI := [(1, 0, 0, []), (14, 2, 0, []), (8, 2, 0, []), (1, 3, 0, []), (12, 0, 0, []), (64, 81, 256, [12, 0]), (0, 0, 0, []), (0, 0, 0, []), (23, 0, 0, []), (57, 52, 0, []), (0, 0, 0, []), (0, 0, 0, []), (12, 0, 0, []), (12, 0, 0, []), (65, 82, 210, [12, 24]), (0, 0, 0, []), (0, 0, 0, []), (8, 2, 0, []), (70, 0, 0, []), (12, 0, 0, []), (65, 82, 210, [12, 24]), (0, 0, 0, []), (0, 0, 0, []), (8, 2, 0, []), (1, 1, 0, []), (21, 0, 0, []), (70, 0, 0, []), (8, 1, 0, []), (85, 285, 306, [4, 0, 22]), (0, 0, 0, []), (0, 0, 0, []), (12, 0, 0, []), (65, 82, 210, [12, 24]), (0, 0, 0, []), (0, 0, 0, []), (8, 2, 0, []), (1, 2, 0, []), (21, 0, 0, []), (70, 0, 0, []), (1, 1, 0, []), (22, 0, 0, []), (54, 46, 0, []), (0, 0, 0, []), (0, 0, 0, []), (1, 0, 0, []), (94, 0, 0, []), (20, 2, 3, []), (0, 0, 0, []), (0, 0, 0, []), (60, 2, 0, []), (0, 0, 0, []), (0, 0, 0, []), (1, 1, 0, []), (94, 0, 0, [])]
def k287 : List jI := [(1, 0, 0, []), (14, 1, 0, []), (1, 0, 0, []), (14, 2, 0, []), (8, 2, 0, []), (2, 15, 0, []), (0, 0, 0, []), (57, 30, 0, []), (0, 0, 0, []), (0, 0, 0, []), (12, 0, 0, []), (8, 2, 0, []), (85, 286, 307, [2, 0, 22]), (0, 0, 0, []), (0, 0, 0, []), (48, 24, 0, []), (0, 0, 0, []), (0, 0, 0, []), (8, 1, 0, []), (1, 1, 0, []), (8, 2, 0, []), (27, 0, 0, []), (31, 0, 0, []), (14, 1, 0, []), (20, 2, 1, []), (0, 0, 0, []), (0, 0, 0, []), (60, 4, 0, []), (0, 0, 0, []), (0, 0, 0, []), (8, 1, 0, []), (91, 0, 0, [])]
def k288 : List jI := [(8, 1, 0, []), (43, 0, 0, []), (6, 0, 0, []), (7, 2, 656, []), (0, 0, 0, []), (0, 0, 0, []), (89, 187, 232, [3, 0]), (0, 0, 0, []), (0, 0, 0, []), (49, 14, 0, []), (0, 0, 0, []), (0, 0, 0, []), (1, -1, 0, []), (91, 0, 0, []), (12, 0, 0, []), (85, 287, 308, [1, 0, 22]), (0, 0, 0, []), (0, 0, 0, []), (14, 2, 0, []), (8, 1, 0, []), (49, 31, 0, []), (0, 0, 0, []), (0, 0, 0, []), (8, 2, 0, []), (43, 0, 0, []), (89, 245, 283, [1, 0]), (0, 0, 0, []), (0, 0, 0, []), (60, 54, 0, []), (0, 0, 0, []), (0, 0, 0, []), (8, 1, 0, []), (1, 1, 0, []), (55, 40, 0, []), (0, 0, 0, []), (0, 0, 0, []), (8, 2, 0, []), (60, 54, 0, []), (0, 0, 0, []), (0, 0, 0, []), (8, 2, 0, []), (49, 48, 0, []), (0, 0, 0, []), (0, 0, 0, []), (1, -1, 0, []), (60, 54, 0, []), (0, 0, 0, []), (0, 0, 0, []), (8, 2, 0, []), (43, 0, 0, []), (1, 0, 0, []), (89, 246, 303, [2, 0]), (0, 0, 0, []), (0, 0, 0, []), (91, 0, 0, [])]
def k289 : List jI := [(1, 0, 0, []), (14, 3, 0, []), (1, -1, 0, []), (15, 4, 0, []), (0, 0, 0, []), (9, 4, 0, []), (0, 0, 0, []), (12, 0, 0, []), (85, 219, 255, [1, 0, 22]), (0, 0, 0, []), (0, 0, 0, []), (57, 84, 0, []), (0, 0, 0, []), (0, 0, 0, []), (1, 0, 0, []), (15, 5, 0, []), (0, 0, 0, []), (1, 0, 0, []), (15, 6, 0, []), (0, 0, 0, []), (9, 6, 0, []), (0, 0, 0, []), (2, 15, 0, []), (0, 0, 0, []), (57, 69, 0, []), (0, 0, 0, []), (0, 0, 0, []), (8, 2, 0, []), (9, 6, 0, []), (0, 0, 0, []), (28, 0, 0, []), (1, 1, 0, []), (30, 0, 0, []), (1, 1, 0, []), (55, 63, 0, []), (0, 0, 0, []), (0, 0, 0, []), (12, 0, 0, []), (8, 1, 0, []), (12, 0, 0, []), (85, 217, 252, [1, 0, 22]), (0, 0, 0, []), (0, 0, 0, []), (25, 0, 0, []), (8, 1, 0, []), (12, 0, 0, []), (85, 217, 252, [1, 0, 22]), (0, 0, 0, []), (0, 0, 0, []), (24, 0, 0, []), (9, 6, 0, []), (0, 0, 0, []), (85, 285, 306, [4, 0, 22]), (0, 0, 0, []), (0, 0, 0, []), (9, 4, 0, []), (0, 0, 0, []), (55, 63, 0, []), (0, 0, 0, []), (0, 0, 0, []), (20, 5, 1, []), (0, 0, 0, []), (0, 0, 0, []), (20, 6, 1, []), (0, 0, 0, []), (0, 0, 0, []), (60, 20, 0, []), (0, 0, 0, []), (0, 0, 0, []), (9, 5, 0, []), (0, 0, 0, []), (8, 3, 0, []), (59, 78, 0, []), (0, 0, 0, []), (0, 0, 0, []), (9, 5, 0, []), (0, 0, 0, []), (14, 3, 0, []), (20, 4, 1, []), (0, 0, 0, []), (0, 0, 0, []), (60, 5, 0, []), (0, 0, 0, []), (0, 0, 0, []), (8, 3, 0, []), (91, 0, 0, [])]
def k290 : List jI := [(8, 1, 0, []), (43, 0, 0, []), (6, 0, 0, []), (6, 1, 0, []), (89, 187, 232, [3, 0]), (0, 0, 0, []), (0, 0, 0, []), (49, 12, 0, []), (0, 0, 0, []), (0, 0, 0, []), (1, -1, 0, []), (91, 0, 0, []), (12, 0, 0, []), (85, 287, 308, [1, 0, 22]), (0, 0, 0, []), (0, 0, 0, []), (14, 2, 0, []), (1, -1, 0, []), (14, 3, 0, []), (1, -1, 0, []), (15, 4, 0, []), (0, 0, 0, []), (1, 0, 0, []), (15, 5, 0, []), (0, 0, 0, []), (9, 5, 0, []), (0, 0, 0, []), (12, 0, 0, []), (85, 220, 254, [1, 0, 22]), (0, 0, 0, []), (0, 0, 0, []), (57, 76, 0, []), (0, 0, 0, []), (0, 0, 0, []), (8, 2, 0, []), (48, 76, 0, []), (0, 0, 0, []), (0, 0, 0, []), (12, 0, 0, []), (9, 5, 0, []), (0, 0, 0, []), (8, 2, 0, []), (85, 289, 309, [3, 0, 22]), (0, 0, 0, []), (0, 0, 0, []), (15, 6, 0, []), (0, 0, 0, []), (9, 4, 0, []), (0, 0, 0, []), (1, -1, 0, []), (54, 63, 0, []), (0, 0, 0, []), (0, 0, 0, []), (9, 6, 0, []), (0, 0, 0, []), (9, 4, 0, []), (0, 0, 0, []), (56, 63, 0, []), (0, 0, 0, []), (0, 0, 0, []), (60, 70, 0, []), (0, 0, 0, []), (0, 0, 0, []), (9, 6, 0, []), (0, 0, 0, []), (15, 4, 0, []), (0, 0, 0, []), (9, 5, 0, []), (0, 0, 0, []), (14, 3, 0, []), (20, 5, 1, []), (0, 0, 0, []), (0, 0, 0, []), (60, 25, 0, []), (0, 0, 0, []), (0, 0, 0, []), (8, 1, 0, []), (49, 84, 0, []), (0, 0, 0, []), (0, 0, 0, []), (8, 3, 0, []), (60, 86, 0, []), (0, 0, 0, []), (0, 0, 0, []), (9, 4, 0, []), (0, 0, 0, []), (91, 0, 0, [])]
def k291 : List jI := [(1, 0, 0, []), (14, 3, 0, []), (8, 3, 0, []), (8, 1, 0, []), (58, 20, 0, []), (0, 0, 0, []), (0, 0, 0, []), (12, 0, 0, []), (65, 83, 211, [12, 25]), (0, 0, 0, []), (0, 0, 0, []), (8, 3, 0, []), (6, 0, 0, []), (76, 0, 0, []), (20, 3, 1, []), (0, 0, 0, []), (0, 0, 0, []), (60, 2, 0, []), (0, 0, 0, []), (0, 0, 0, []), (12, 0, 0, []), (65, 83, 211, [12, 25]), (0, 0, 0, []), (0, 0, 0, []), (1, 0, 0, []), (6, 1, 0, []), (76, 0, 0, []), (12, 0, 0, []), (8, 1, 0, []), (66, 84, 272, [12, 0]), (0, 0, 0, []), (0, 0, 0, []), (1, 0, 0, []), (14, 3, 0, []), (8, 3, 0, []), (12, 0, 0, []), (85, 219, 255, [1, 0, 22]), (0, 0, 0, []), (0, 0, 0, []), (57, 67, 0, []), (0, 0, 0, []), (0, 0, 0, []), (8, 3, 0, []), (8, 2, 0, []), (54, 61, 0, []), (0, 0, 0, []), (0, 0, 0, []), (12, 0, 0, []), (12, 0, 0, []), (8, 3, 0, []), (85, 235, 263, [2, 0, 22]), (0, 0, 0, []), (0, 0, 0, []), (12, 0, 0, []), (8, 3, 0, []), (85, 228, 279, [2, 0, 22]), (0, 0, 0, []), (0, 0, 0, []), (85, 292, 310, [3, 99, 22]), (0, 0, 0, []), (0, 0, 0, []), (20, 3, 1, []), (0, 0, 0, []), (0, 0, 0, []), (60, 34, 0, []), (0, 0, 0, []), (0, 0, 0, []), (95, 0, 0, [])]
def k292 : List jI := [(12, 0, 0, []), (64, 84, 272, [12, 0]), (0, 0, 0, []), (0, 0, 0, []), (14, 3, 0, []), (8, 3, 0, []), (50, 65, 0, []), (0, 0, 0, []), (0, 0, 0, []), (6, 0, 0, []), (17, 4, 0, []), (0, 0, 0, []), (1, 0, 0, []), (15, 6, 0, []), (0, 0, 0, []), (9, 6, 0, []), (0, 0, 0, []), (8, 2, 0, []), (58, 51, 0, []), (0, 0, 0, []), (0, 0, 0, []), (9, 6, 0, []), (0, 0, 0, []), (8, 1, 0, []), (23, 0, 0, []), (8, 3, 0, []), (58, 51, 0, []), (0, 0, 0, []), (0, 0, 0, []), (11, 4, 0, []), (0, 0, 0, []), (12, 0, 0, []), (65, 83, 211, [12, 25]), (0, 0, 0, []), (0, 0, 0, []), (8, 3, 0, []), (9, 6, 0, []), (0, 0, 0, []), (8, 1, 0, []), (23, 0, 0, []), (22, 0, 0, []), (71, 0, 0, []), (33, 0, 0, []), (17, 4, 0, []), (0, 0, 0, []), (20, 6, 1, []), (0, 0, 0, []), (0, 0, 0, []), (60, 15, 0, []), (0, 0, 0, []), (0, 0, 0, []), (12, 0, 0, []), (65, 83, 211, [12, 25]), (0, 0, 0, []), (0, 0, 0, []), (8, 3, 0, []), (11, 4, 0, []), (0, 0, 0, []), (76, 0, 0, []), (20, 3, -1, []), (0, 0, 0, []), (0, 0, 0, []), (60, 5, 0, []), (0, 0, 0, []), (0, 0, 0, []), (95, 0, 0, [])]
def k293 : List jI := [(12, 0, 0, []), (8, 2, 0, []), (8, 1, 0, []), (85, 291, 311, [3, 99, 22]), (0, 0, 0, []), (0, 0, 0, []), (1, 0, 0, []), (14, 3, 0, []), (8, 3, 0, []), (12, 0, 0, []), (8, 1, 0, []), (85, 228, 279, [2, 0, 22]), (0, 0, 0, []), (0, 0, 0, []), (58, 55, 0, []), (0, 0, 0, []), (0, 0, 0, []), (8, 3, 0, []), (12, 0, 0, []), (8, 1, 0, []), (85, 235, 263, [2, 0, 22]), (0, 0, 0, []), (0, 0, 0, []), (23, 0, 0, []), (8, 2, 0, []), (58, 55, 0, []), (0, 0, 0, []), (0, 0, 0, []), (12, 0, 0, []), (65, 83, 211, [12, 25]), (0, 0, 0, []), (0, 0, 0, []), (8, 2, 0, []), (8, 3, 0, []), (12, 0, 0, []), (8, 1, 0, []), (85, 235, 263, [2, 0, 22]), (0, 0, 0, []), (0, 0, 0, []), (23, 0, 0, []), (22, 0, 0, []), (71, 0, 0, []), (6, 0, 0, []), (42, 0, 0, []), (53, 49, 0, []), (0, 0, 0, []), (0, 0, 0, []), (8, 3, 0, []), (91, 0, 0, []), (20, 3, 1, []), (0, 0, 0, []), (0, 0, 0, []), (60, 8, 0, []), (0, 0, 0, []), (0, 0, 0, []), (1, -1, 0, []), (91, 0, 0, [])]
def k294 : List jI := [(8, 2, 0, []), (43, 0, 0, []), (7, 10, 673, []), (0, 0, 0, []), (0, 0, 0, []), (2, 9, 0, []), (0, 0, 0, []), (12, 0, 0, []), (85, 219, 255, [1, 0, 22]), (0, 0, 0, []), (0, 0, 0, []), (21, 0, 0, []), (43, 0, 0, []), (89, 187, 232, [3, 0]), (0, 0, 0, []), (0, 0, 0, []), (14, 3, 0, []), (8, 1, 0, []), (50, 29, 0, []), (0, 0, 0, []), (0, 0, 0, []), (8, 2, 0, []), (48, 31, 0, []), (0, 0, 0, []), (0, 0, 0, []), (8, 3, 0, []), (49, 31, 0, []), (0, 0, 0, []), (0, 0, 0, []), (1, -1, 0, []), (91, 0, 0, []), (8, 1, 0, []), (5, 100000, 675, []), (0, 0, 0, []), (0, 0, 0, []), (59, 48, 0, []), (0, 0, 0, []), (0, 0, 0, []), (8, 2, 0, []), (49, 46, 0, []), (0, 0, 0, []), (0, 0, 0, []), (1, 0, 0, []), (60, 47, 0, []), (0, 0, 0, []), (0, 0, 0, []), (1, -1, 0, []), (91, 0, 0, []), (8, 3, 0, []), (48, 62, 0, []), (0, 0, 0, []), (0, 0, 0, []), (12, 0, 0, []), (8, 2, 0, []), (2, 10, 0, []), (0, 0, 0, []), (22, 0, 0, []), (8, 1, 0, []), (85, 293, 312, [3, 0, 22]), (0, 0, 0, []), (0, 0, 0, []), (91, 0, 0, []), (12, 0, 0, []), (8, 1, 0, []), (1, -1, 0, []), (85, 291, 311, [3, 99, 22]), (0, 0, 0, []), (0, 0, 0, []), (12, 0, 0, []), (65, 83, 211, [12, 25]), (0, 0, 0, []), (0, 0, 0, []), (8, 1, 0, []), (71, 0, 0, []), (44, 0, 0, []), (91, 0, 0, [])]
def k295 : List jI := [(12, 0, 0, []), (65, 108, 235, [12, 24]), (0, 0, 0, []), (0, 0, 0, []), (12, 0, 0, []), (64, 109, 247, [12, 0]), (0, 0, 0, []), (0, 0, 0, []), (8, 1, 0, []), (75, 0, 0, []), (12, 0, 0, []), (45, 0, 0, []), (64, 109, 247, [12, 0]), (0, 0, 0, []), (0, 0, 0, []), (1, 1, 0, []), (21, 0, 0, []), (66, 109, 247, [12, 0]), (0, 0, 0, []), (0, 0, 0, []), (95, 0, 0, [])]
def k296 : List jI := [(12, 0, 0, []), (64, 5, 240, [12, 0]), (0, 0, 0, []), (0, 0, 0, []), (48, 8, 0, []), (0, 0, 0, []), (0, 0, 0, []), (95, 0, 0, []), (12, 0, 0, []), (64, 112, 249, [12, 0]), (0, 0, 0, []), (0, 0, 0, []), (2, 6, 0, []), (0, 0, 0, []), (55, 24, 0, []), (0, 0, 0, []), (0, 0, 0, []), (12, 0, 0, []), (1, 4, 0, []), (8, 2, 0, []), (85, 190, 229, [3, 99, 22]), (0, 0, 0, []), (0, 0, 0, []), (95, 0, 0, []), (12, 0, 0, []), (45, 0, 0, []), (64, 112, 249, [12, 0]), (0, 0, 0, []), (0, 0, 0, []), (1, 1, 0, []), (21, 0, 0, []), (66, 112, 249, [12, 0]), (0, 0, 0, []), (0, 0, 0, []), (12, 0, 0, []), (65, 110, 236, [12, 24]), (0, 0, 0, []), (0, 0, 0, []), (12, 0, 0, []), (64, 111, 248, [12, 0]), (0, 0, 0, []), (0, 0, 0, []), (8, 1, 0, []), (75, 0, 0, []), (12, 0, 0, []), (45, 0, 0, []), (64, 111, 248, [12, 0]), (0, 0, 0, []), (0, 0, 0, []), (1, 1, 0, []), (21, 0, 0, []), (66, 111, 248, [12, 0]), (0, 0, 0, []), (0, 0, 0, []), (95, 0, 0, [])]
def k297 : List jI := [(12, 0, 0, []), (64, 111, 248, [12, 0]), (0, 0, 0, []), (0, 0, 0, []), (53, 26, 0, []), (0, 0, 0, []), (0, 0, 0, []), (12, 0, 0, []), (65, 110, 236, [12, 24]), (0, 0, 0, []), (0, 0, 0, []), (12, 0, 0, []), (64, 111, 248, [12, 0]), (0, 0, 0, []), (0, 0, 0, []), (1, 1, 0, []), (22, 0, 0, []), (70, 0, 0, []), (8, 1, 0, []), (55, 26, 0, []), (0, 0, 0, []), (0, 0, 0, []), (1, 1, 0, []), (60, 27, 0, []), (0, 0, 0, []), (0, 0, 0, []), (1, 0, 0, []), (94, 0, 0, [])]
def k298 : List jI := [(12, 0, 0, []), (45, 0, 0, []), (64, 111, 248, [12, 0]), (0, 0, 0, []), (0, 0, 0, []), (1, 1, 0, []), (22, 0, 0, []), (66, 111, 248, [12, 0]), (0, 0, 0, []), (0, 0, 0, []), (12, 0, 0, []), (12, 0, 0, []), (65, 110, 236, [12, 24]), (0, 0, 0, []), (0, 0, 0, []), (12, 0, 0, []), (64, 111, 248, [12, 0]), (0, 0, 0, []), (0, 0, 0, []), (70, 0, 0, []), (85, 295, 313, [2, 99, 22]), (0, 0, 0, []), (0, 0, 0, []), (95, 0, 0, [])]
def k299 : List jI := [(8, 0, 0, []), (2, 20, 0, []), (0, 0, 0, []), (56, 16, 0, []), (0, 0, 0, []), (0, 0, 0, []), (8, 0, 0, []), (2, 24, 0, []), (0, 0, 0, []), (58, 16, 0, []), (0, 0, 0, []), (0, 0, 0, []), (1, 1, 0, []), (60, 17, 0, []), (0, 0, 0, []), (0, 0, 0, []), (1, 0, 0, []), (94, 0, 0, [])]
def k300 : List jI := [(12, 0, 0, []), (64, 111, 248, [12, 0]), (0, 0, 0, []), (0, 0, 0, []), (1, 1, 0, []), (22, 0, 0, []), (14, 1, 0, []), (8, 1, 0, []), (12, 0, 0, []), (64, 113, 250, [12, 0]), (0, 0, 0, []), (0, 0, 0, []), (56, 33, 0, []), (0, 0, 0, []), (0, 0, 0, []), (12, 0, 0, []), (65, 110, 236, [12, 24]), (0, 0, 0, []), (0, 0, 0, []), (8, 1, 0, []), (70, 0, 0, []), (89, 299, 314, [1, 0]), (0, 0, 0, []), (0, 0, 0, []), (49, 33, 0, []), (0, 0, 0, []), (0, 0, 0, []), (20, 1, -1, []), (0, 0, 0, []), (0, 0, 0, []), (60, 7, 0, []), (0, 0, 0, []), (0, 0, 0, []), (8, 1, 0, []), (12, 0, 0, []), (64, 113, 250, [12, 0]), (0, 0, 0, []), (0, 0, 0, []), (56, 50, 0, []), (0, 0, 0, []), (0, 0, 0, []), (12, 0, 0, []), (65, 110, 236, [12, 24]), (0, 0, 0, []), (0, 0, 0, []), (8, 1, 0, []), (70, 0, 0, []), (60, 51, 0, []), (0, 0, 0, []), (0, 0, 0, []), (1, -1, 0, []), (91, 0, 0, [])]
def k301 : List jI := [(12, 0, 0, []), (64, 111, 248, [12, 0]), (0, 0, 0, []), (0, 0, 0, []), (12, 0, 0, []), (64, 113, 250, [12, 0]), (0, 0, 0, []), (0, 0, 0, []), (59, 35, 0, []), (0, 0, 0, []), (0, 0, 0, []), (12, 0, 0, []), (65, 110, 236, [12, 24]), (0, 0, 0, []), (0, 0, 0, []), (12, 0, 0, []), (64, 111, 248, [12, 0]), (0, 0, 0, []), (0, 0, 0, []), (1, 1, 0, []), (22, 0, 0, []), (70, 0, 0, []), (89, 299, 314, [1, 0]), (0, 0, 0, []), (0, 0, 0, []), (49, 35, 0, []), (0, 0, 0, []), (0, 0, 0, []), (12, 0, 0, []), (85, 298, 315, [1, 99, 22]), (0, 0, 0, []), (0, 0, 0, []), (60, 0, 0, []), (0, 0, 0, []), (0, 0, 0, []), (95, 0, 0, [])]
def k302 : List jI := [(12, 0, 0, []), (12, 0, 0, []), (65, 97, 224, [12, 23]), (0, 0, 0, []), (0, 0, 0, []), (85, 194, 227, [2, 0, 22]), (0, 0, 0, []), (0, 0, 0, []), (48, 13, 0, []), (0, 0, 0, []), (0, 0, 0, []), (1, 0, 0, []), (91, 0, 0, []), (12, 0, 0, []), (12, 0, 0, []), (65, 98, 225, [12, 23]), (0, 0, 0, []), (0, 0, 0, []), (85, 194, 227, [2, 0, 22]), (0, 0, 0, []), (0, 0, 0, []), (48, 26, 0, []), (0, 0, 0, []), (0, 0, 0, []), (1, 1, 0, []), (91, 0, 0, []), (12, 0, 0, []), (12, 0, 0, []), (65, 99, 226, [12, 23]), (0, 0, 0, []), (0, 0, 0, []), (85, 194, 227, [2, 0, 22]), (0, 0, 0, []), (0, 0, 0, []), (48, 39, 0, []), (0, 0, 0, []), (0, 0, 0, []), (1, 2, 0, []), (91, 0, 0, []), (12, 0, 0, []), (12, 0, 0, []), (65, 100, 227, [12, 23]), (0, 0, 0, []), (0, 0, 0, []), (85, 194, 227, [2, 0, 22]), (0, 0, 0, []), (0, 0, 0, []), (48, 52, 0, []), (0, 0, 0, []), (0, 0, 0, []), (1, 3, 0, []), (91, 0, 0, []), (12, 0, 0, []), (12, 0, 0, []), (65, 101, 228, [12, 23]), (0, 0, 0, []), (0, 0, 0, []), (85, 194, 227, [2, 0, 22]), (0, 0, 0, []), (0, 0, 0, []), (48, 65, 0, []), (0, 0, 0, []), (0, 0, 0, []), (1, 4, 0, []), (91, 0, 0, []), (12, 0, 0, []), (12, 0, 0, []), (65, 102, 229, [12, 23]), (0, 0, 0, []), (0, 0, 0, []), (85, 194, 227, [2, 0, 22]), (0, 0, 0, []), (0, 0, 0, []), (48, 78, 0, []), (0, 0, 0, []), (0, 0, 0, []), (1, 5, 0, []), (91, 0, 0, []), (12, 0, 0, []), (12, 0, 0, []), (65, 103, 230, [12, 23]), (0, 0, 0, []), (0, 0, 0, []), (85, 194, 227, [2, 0, 22]), (0, 0, 0, []), (0, 0, 0, []), (48, 92, 0, []), (0, 0, 0, []), (0, 0, 0, []), (2, 6, 0, []), (0, 0, 0, []), (91, 0, 0, []), (12, 0, 0, []), (12, 0, 0, []), (65, 104, 231, [12, 23]), (0, 0, 0, []), (0, 0, 0, []), (85, 194, 227, [2, 0, 22]), (0, 0, 0, []), (0, 0, 0, []), (48, 106, 0, []), (0, 0, 0, []), (0, 0, 0, []), (2, 7, 0, []), (0, 0, 0, []), (91, 0, 0, []), (12, 0, 0, []), (12, 0, 0, []), (65, 105, 232, [12, 23]), (0, 0, 0, []), (0, 0, 0, []), (85, 194, 227, [2, 0, 22]), (0, 0, 0, []), (0, 0, 0, []), (48, 120, 0, []), (0, 0, 0, []), (0, 0, 0, []), (2, 8, 0, []), (0, 0, 0, []), (91, 0, 0, []), (12, 0, 0, []), (12, 0, 0, []), (65, 106, 233, [12, 23]), (0, 0, 0, []), (0, 0, 0, []), (85, 194, 227, [2, 0, 22]), (0, 0, 0, []), (0, 0, 0, []), (48, 134, 0, []), (0, 0, 0, []), (0, 0, 0, []), (2, 9, 0, []), (0, 0, 0, []), (91, 0, 0, []), (12, 0, 0, []), (12, 0, 0, []), (65, 107, 234, [12, 23]), (0, 0, 0, []), (0, 0, 0, []), (85, 194, 227, [2, 0, 22]), (0, 0, 0, []), (0, 0, 0, []), (48, 148, 0, []), (0, 0, 0, []), (0, 0, 0, []), (2, 10, 0, []), (0, 0, 0, []), (91, 0, 0, []), (1, -1, 0, []), (91, 0, 0, [])]
def k303 : List jI := [(12, 0, 0, []), (85, 302, 316, [1, 0, 22]), (0, 0, 0, []), (0, 0, 0, []), (14, 3, 0, []), (8, 3, 0, []), (8, 1, 0, []), (56, 27, 0, []), (0, 0, 0, []), (0, 0, 0, []), (8, 3, 0, []), (8, 2, 0, []), (57, 27, 0, []), (0, 0, 0, []), (0, 0, 0, []), (12, 0, 0, []), (8, 3, 0, []), (85, 202, 317, [2, 0, 22]), (0, 0, 0, []), (0, 0, 0, []), (48, 27, 0, []), (0, 0, 0, []), (0, 0, 0, []), (8, 3, 0, []), (60, 28, 0, []), (0, 0, 0, []), (0, 0, 0, []), (1, -1, 0, []), (91, 0, 0, [])]
def k304 : List jI := [(8, 1, 0, []), (62, 166, 0, [56, 67, 78, 89, 100, 111, 122, 133, 144, 155]), (0, 0, 0, []), (0, 0, 0, []), (0, 0, 0, []), (0, 0, 0, []), (0, 0, 0, []), (0, 0, 0, []), (0, 0, 0, []), (0, 0, 0, []), (0, 0, 0, []), (0, 0, 0, []), (0, 0, 0, []), (0, 0, 0, []), (0, 0, 0, []), (0, 0, 0, []), (0, 0, 0, []), (0, 0, 0, []), (0, 0, 0, []), (0, 0, 0, []), (0, 0, 0, []), (0, 0, 0, []), (0, 0, 0, []), (0, 0, 0, []), (0, 0, 0, []), (0, 0, 0, []), (0, 0, 0, []), (0, 0, 0, []), (0, 0, 0, []), (0, 0, 0, []), (0, 0, 0, []), (0, 0, 0, []), (0, 0, 0, []), (0, 0, 0, []), (0, 0, 0, []), (0, 0, 0, []), (0, 0, 0, []), (0, 0, 0, []), (0, 0, 0, []), (0, 0, 0, []), (0, 0, 0, []), (0, 0, 0, []), (0, 0, 0, []), (0, 0, 0, []), (0, 0, 0, []), (0, 0, 0, []), (0, 0, 0, []), (0, 0, 0, []), (0, 0, 0, []), (0, 0, 0, []), (0, 0, 0, []), (0, 0, 0, []), (0, 0, 0, []), (0, 0, 0, []), (0, 0, 0, []), (0, 0, 0, []), (12, 0, 0, []), (12, 0, 0, []), (65, 97, 224, [12, 23]), (0, 0, 0, []), (0, 0, 0, []), (85, 196, 236, [2, 99, 22]), (0, 0, 0, []), (0, 0, 0, []), (60, 174, 0, []), (0, 0, 0, []), (0, 0, 0, []), (12, 0, 0, []), (12, 0, 0, []), (65, 98, 225, [12, 23]), (0, 0, 0, []), (0, 0, 0, []), (85, 196, 236, [2, 99, 22]), (0, 0, 0, []), (0, 0, 0, []), (60, 174, 0, []), (0, 0, 0, []), (0, 0, 0, []), (12, 0, 0, []), (12, 0, 0, []), (65, 99, 226, [12, 23]), (0, 0, 0, []), (0, 0, 0, []), (85, 196, 236, [2, 99, 22]), (0, 0, 0, []), (0, 0, 0, []), (60, 174, 0, []), (0, 0, 0, []), (0, 0, 0, []), (12, 0, 0, []), (12, 0, 0, []), (65, 100, 227, [12, 23]), (0, 0, 0, []), (0, 0, 0, []), (85, 196, 236, [2, 99, 22]), (0, 0, 0, []), (0, 0, 0, []), (60, 174, 0, []), (0, 0, 0, []), (0, 0, 0, []), (12, 0, 0, []), (12, 0, 0, []), (65, 101, 228, [12, 23]), (0, 0, 0, []), (0, 0, 0, []), (85, 196, 236, [2, 99, 22]), (0, 0, 0, []), (0, 0, 0, []), (60, 174, 0, []), (0, 0, 0, []), (0, 0, 0, []), (12, 0, 0, []), (12, 0, 0, []), (65, 102, 229, [12, 23]), (0, 0, 0, []), (0, 0, 0, []), (85, 196, 236, [2, 99, 22]), (0, 0, 0, []), (0, 0, 0, []), (60, 174, 0, []), (0, 0, 0, []), (0, 0, 0, []), (12, 0, 0, []), (12, 0, 0, []), (65, 103, 230, [12, 23]), (0, 0, 0, []), (0, 0, 0, []), (85, 196, 236, [2, 99, 22]), (0, 0, 0, []), (0, 0, 0, []), (60, 174, 0, []), (0, 0, 0, []), (0, 0, 0, []), (12, 0, 0, []), (12, 0, 0, []), (65, 104, 231, [12, 23]), (0, 0, 0, []), (0, 0, 0, []), (85, 196, 236, [2, 99, 22]), (0, 0, 0, []), (0, 0, 0, []), (60, 174, 0, []), (0, 0, 0, []), (0, 0, 0, []), (12, 0, 0, []), (12, 0, 0, []), (65, 105, 232, [12, 23]), (0, 0, 0, []), (0, 0, 0, []), (85, 196, 236, [2, 99, 22]), (0, 0, 0, []), (0, 0, 0, []), (60, 174, 0, []), (0, 0, 0, []), (0, 0, 0, []), (12, 0, 0, []), (12, 0, 0, []), (65, 106, 233, [12, 23]), (0, 0, 0, []), (0, 0, 0, []), (85, 196, 236, [2, 99, 22]), (0, 0, 0, []), (0, 0, 0, []), (60, 174, 0, []), (0, 0, 0, []), (0, 0, 0, []), (12, 0, 0, []), (12, 0, 0, []), (65, 107, 234, [12, 23]), (0, 0, 0, []), (0, 0, 0, []), (85, 196, 236, [2, 99, 22]), (0, 0, 0, []), (0, 0, 0, []), (95, 0, 0, [])]
def k305 : List jI := [(12, 0, 0, []), (64, 5, 240, [12, 0]), (0, 0, 0, []), (0, 0, 0, []), (49, 51, 0, []), (0, 0, 0, []), (0, 0, 0, []), (12, 0, 0, []), (64, 111, 248, [12, 0]), (0, 0, 0, []), (0, 0, 0, []), (12, 0, 0, []), (64, 113, 250, [12, 0]), (0, 0, 0, []), (0, 0, 0, []), (59, 51, 0, []), (0, 0, 0, []), (0, 0, 0, []), (12, 0, 0, []), (65, 110, 236, [12, 24]), (0, 0, 0, []), (0, 0, 0, []), (12, 0, 0, []), (64, 111, 248, [12, 0]), (0, 0, 0, []), (0, 0, 0, []), (1, 1, 0, []), (22, 0, 0, []), (70, 0, 0, []), (2, 60, 0, []), (0, 0, 0, []), (56, 51, 0, []), (0, 0, 0, []), (0, 0, 0, []), (12, 0, 0, []), (45, 0, 0, []), (64, 112, 249, [12, 0]), (0, 0, 0, []), (0, 0, 0, []), (1, 1, 0, []), (22, 0, 0, []), (66, 112, 249, [12, 0]), (0, 0, 0, []), (0, 0, 0, []), (12, 0, 0, []), (85, 298, 315, [1, 99, 22]), (0, 0, 0, []), (0, 0, 0, []), (60, 0, 0, []), (0, 0, 0, []), (0, 0, 0, []), (95, 0, 0, [])]
def k306 : List jI := [(1, 1, 0, []), (14, 1, 0, []), (8, 1, 0, []), (48, 186, 0, []), (0, 0, 0, []), (0, 0, 0, []), (12, 0, 0, []), (64, 5, 240, [12, 0]), (0, 0, 0, []), (0, 0, 0, []), (49, 186, 0, []), (0, 0, 0, []), (0, 0, 0, []), (12, 0, 0, []), (85, 193, 225, [1, 0, 22]), (0, 0, 0, []), (0, 0, 0, []), (14, 2, 0, []), (12, 0, 0, []), (2, 10, 0, []), (0, 0, 0, []), (2, 11, 0, []), (0, 0, 0, []), (85, 303, 318, [3, 0, 22]), (0, 0, 0, []), (0, 0, 0, []), (14, 3, 0, []), (8, 2, 0, []), (2, 40, 0, []), (0, 0, 0, []), (55, 56, 0, []), (0, 0, 0, []), (0, 0, 0, []), (12, 0, 0, []), (2, 20, 0, []), (0, 0, 0, []), (12, 0, 0, []), (64, 2, 242, [12, 0]), (0, 0, 0, []), (0, 0, 0, []), (85, 296, 319, [3, 99, 22]), (0, 0, 0, []), (0, 0, 0, []), (12, 0, 0, []), (45, 0, 0, []), (64, 2, 242, [12, 0]), (0, 0, 0, []), (0, 0, 0, []), (1, 1, 0, []), (21, 0, 0, []), (66, 2, 242, [12, 0]), (0, 0, 0, []), (0, 0, 0, []), (60, 183, 0, []), (0, 0, 0, []), (0, 0, 0, []), (12, 0, 0, []), (12, 0, 0, []), (65, 95, 222, [12, 23]), (0, 0, 0, []), (0, 0, 0, []), (85, 194, 227, [2, 0, 22]), (0, 0, 0, []), (0, 0, 0, []), (49, 78, 0, []), (0, 0, 0, []), (0, 0, 0, []), (12, 0, 0, []), (12, 0, 0, []), (65, 96, 223, [12, 23]), (0, 0, 0, []), (0, 0, 0, []), (85, 194, 227, [2, 0, 22]), (0, 0, 0, []), (0, 0, 0, []), (48, 153, 0, []), (0, 0, 0, []), (0, 0, 0, []), (12, 0, 0, []), (12, 0, 0, []), (65, 95, 222, [12, 23]), (0, 0, 0, []), (0, 0, 0, []), (85, 195, 228, [2, 0, 22]), (0, 0, 0, []), (0, 0, 0, []), (15, 4, 0, []), (0, 0, 0, []), (9, 4, 0, []), (0, 0, 0, []), (49, 101, 0, []), (0, 0, 0, []), (0, 0, 0, []), (12, 0, 0, []), (12, 0, 0, []), (65, 96, 223, [12, 23]), (0, 0, 0, []), (0, 0, 0, []), (85, 196, 236, [2, 99, 22]), (0, 0, 0, []), (0, 0, 0, []), (12, 0, 0, []), (85, 193, 225, [1, 0, 22]), (0, 0, 0, []), (0, 0, 0, []), (2, 40, 0, []), (0, 0, 0, []), (55, 117, 0, []), (0, 0, 0, []), (0, 0, 0, []), (12, 0, 0, []), (64, 2, 242, [12, 0]), (0, 0, 0, []), (0, 0, 0, []), (60, 118, 0, []), (0, 0, 0, []), (0, 0, 0, []), (1, -1, 0, []), (15, 5, 0, []), (0, 0, 0, []), (9, 5, 0, []), (0, 0, 0, []), (1, -1, 0, []), (54, 144, 0, []), (0, 0, 0, []), (0, 0, 0, []), (12, 0, 0, []), (9, 4, 0, []), (0, 0, 0, []), (48, 137, 0, []), (0, 0, 0, []), (0, 0, 0, []), (2, 21, 0, []), (0, 0, 0, []), (60, 139, 0, []), (0, 0, 0, []), (0, 0, 0, []), (2, 22, 0, []), (0, 0, 0, []), (9, 5, 0, []), (0, 0, 0, []), (85, 296, 319, [3, 99, 22]), (0, 0, 0, []), (0, 0, 0, []), (12, 0, 0, []), (2, 40, 0, []), (0, 0, 0, []), (85, 198, 238, [2, 99, 22]), (0, 0, 0, []), (0, 0, 0, []), (60, 183, 0, []), (0, 0, 0, []), (0, 0, 0, []), (8, 3, 0, []), (1, -1, 0, []), (54, 181, 0, []), (0, 0, 0, []), (0, 0, 0, []), (12, 0, 0, []), (2, 60, 0, []), (0, 0, 0, []), (8, 3, 0, []), (21, 0, 0, []), (2, 10, 0, []), (0, 0, 0, []), (22, 0, 0, []), (12, 0, 0, []), (64, 2, 242, [12, 0]), (0, 0, 0, []), (0, 0, 0, []), (85, 296, 319, [3, 99, 22]), (0, 0, 0, []), (0, 0, 0, []), (12, 0, 0, []), (8, 3, 0, []), (85, 304, 320, [2, 99, 22]), (0, 0, 0, []), (0, 0, 0, []), (60, 183, 0, []), (0, 0, 0, []), (0, 0, 0, []), (1, 0, 0, []), (14, 1, 0, []), (60, 2, 0, []), (0, 0, 0, []), (0, 0, 0, []), (12, 0, 0, []), (64, 5, 240, [12, 0]), (0, 0, 0, []), (0, 0, 0, []), (48, 194, 0, []), (0, 0, 0, []), (0, 0, 0, []), (95, 0, 0, []), (12, 0, 0, []), (1, 0, 0, []), (2, 10, 0, []), (0, 0, 0, []), (85, 303, 318, [3, 0, 22]), (0, 0, 0, []), (0, 0, 0, []), (14, 2, 0, []), (8, 2, 0, []), (1, -1, 0, []), (54, 212, 0, []), (0, 0, 0, []), (0, 0, 0, []), (12, 0, 0, []), (8, 2, 0, []), (85, 304, 320, [2, 99, 22]), (0, 0, 0, []), (0, 0, 0, []), (12, 0, 0, []), (8, 2, 0, []), (1, -1, 0, []), (54, 225, 0, []), (0, 0, 0, []), (0, 0, 0, []), (2, 40, 0, []), (0, 0, 0, []), (8, 2, 0, []), (21, 0, 0, []), (60, 237, 0, []), (0, 0, 0, []), (0, 0, 0, []), (3, 1000, 0, []), (0, 0, 0, []), (0, 0, 0, []), (12, 0, 0, []), (1, 0, 0, []), (3, 9999, 0, []), (0, 0, 0, []), (0, 0, 0, []), (85, 199, 237, [3, 0, 22]), (0, 0, 0, []), (0, 0, 0, []), (21, 0, 0, []), (85, 295, 313, [2, 99, 22]), (0, 0, 0, []), (0, 0, 0, []), (12, 0, 0, []), (85, 305, 321, [1, 99, 22]), (0, 0, 0, []), (0, 0, 0, []), (95, 0, 0, [])]
def k307 : List jI := [(12, 0, 0, []), (64, 5, 240, [12, 0]), (0, 0, 0, []), (0, 0, 0, []), (49, 122, 0, []), (0, 0, 0, []), (0, 0, 0, []), (12, 0, 0, []), (85, 193, 225, [1, 0, 22]), (0, 0, 0, []), (0, 0, 0, []), (2, 41, 0, []), (0, 0, 0, []), (55, 122, 0, []), (0, 0, 0, []), (0, 0, 0, []), (12, 0, 0, []), (85, 300, 322, [1, 0, 22]), (0, 0, 0, []), (0, 0, 0, []), (2, 20, 0, []), (0, 0, 0, []), (54, 43, 0, []), (0, 0, 0, []), (0, 0, 0, []), (12, 0, 0, []), (85, 300, 322, [1, 0, 22]), (0, 0, 0, []), (0, 0, 0, []), (2, 23, 0, []), (0, 0, 0, []), (54, 43, 0, []), (0, 0, 0, []), (0, 0, 0, []), (12, 0, 0, []), (85, 300, 322, [1, 0, 22]), (0, 0, 0, []), (0, 0, 0, []), (2, 24, 0, []), (0, 0, 0, []), (55, 122, 0, []), (0, 0, 0, []), (0, 0, 0, []), (12, 0, 0, []), (45, 0, 0, []), (64, 2, 242, [12, 0]), (0, 0, 0, []), (0, 0, 0, []), (1, 1, 0, []), (21, 0, 0, []), (66, 2, 242, [12, 0]), (0, 0, 0, []), (0, 0, 0, []), (12, 0, 0, []), (85, 301, 323, [1, 99, 22]), (0, 0, 0, []), (0, 0, 0, []), (12, 0, 0, []), (45, 0, 0, []), (64, 111, 248, [12, 0]), (0, 0, 0, []), (0, 0, 0, []), (1, 1, 0, []), (22, 0, 0, []), (66, 111, 248, [12, 0]), (0, 0, 0, []), (0, 0, 0, []), (12, 0, 0, []), (45, 0, 0, []), (64, 112, 249, [12, 0]), (0, 0, 0, []), (0, 0, 0, []), (1, 1, 0, []), (22, 0, 0, []), (66, 112, 249, [12, 0]), (0, 0, 0, []), (0, 0, 0, []), (12, 0, 0, []), (65, 110, 236, [12, 24]), (0, 0, 0, []), (0, 0, 0, []), (12, 0, 0, []), (64, 111, 248, [12, 0]), (0, 0, 0, []), (0, 0, 0, []), (70, 0, 0, []), (2, 20, 0, []), (0, 0, 0, []), (54, 115, 0, []), (0, 0, 0, []), (0, 0, 0, []), (12, 0, 0, []), (12, 0, 0, []), (65, 110, 236, [12, 24]), (0, 0, 0, []), (0, 0, 0, []), (12, 0, 0, []), (64, 111, 248, [12, 0]), (0, 0, 0, []), (0, 0, 0, []), (70, 0, 0, []), (2, 23, 0, []), (0, 0, 0, []), (55, 110, 0, []), (0, 0, 0, []), (0, 0, 0, []), (1, 5, 0, []), (60, 112, 0, []), (0, 0, 0, []), (0, 0, 0, []), (2, 6, 0, []), (0, 0, 0, []), (85, 295, 313, [2, 99, 22]), (0, 0, 0, []), (0, 0, 0, []), (12, 0, 0, []), (85, 305, 321, [1, 99, 22]), (0, 0, 0, []), (0, 0, 0, []), (60, 0, 0, []), (0, 0, 0, []), (0, 0, 0, []), (12, 0, 0, []), (2, 42, 0, []), (0, 0, 0, []), (85, 197, 230, [2, 0, 22]), (0, 0, 0, []), (0, 0, 0, []), (49, 140, 0, []), (0, 0, 0, []), (0, 0, 0, []), (12, 0, 0, []), (2, 47, 0, []), (0, 0, 0, []), (85, 197, 230, [2, 0, 22]), (0, 0, 0, []), (0, 0, 0, []), (48, 207, 0, []), (0, 0, 0, []), (0, 0, 0, []), (12, 0, 0, []), (65, 0, 156, [12, 24]), (0, 0, 0, []), (0, 0, 0, []), (12, 0, 0, []), (64, 2, 242, [12, 0]), (0, 0, 0, []), (0, 0, 0, []), (1, 1, 0, []), (22, 0, 0, []), (70, 0, 0, []), (2, 42, 0, []), (0, 0, 0, []), (55, 160, 0, []), (0, 0, 0, []), (0, 0, 0, []), (1, 3, 0, []), (60, 161, 0, []), (0, 0, 0, []), (0, 0, 0, []), (1, 4, 0, []), (14, 1, 0, []), (12, 0, 0, []), (1, 3, 0, []), (85, 297, 324, [2, 0, 22]), (0, 0, 0, []), (0, 0, 0, []), (49, 178, 0, []), (0, 0, 0, []), (0, 0, 0, []), (12, 0, 0, []), (1, 4, 0, []), (85, 297, 324, [2, 0, 22]), (0, 0, 0, []), (0, 0, 0, []), (48, 185, 0, []), (0, 0, 0, []), (0, 0, 0, []), (12, 0, 0, []), (85, 298, 315, [1, 99, 22]), (0, 0, 0, []), (0, 0, 0, []), (60, 162, 0, []), (0, 0, 0, []), (0, 0, 0, []), (12, 0, 0, []), (65, 110, 236, [12, 24]), (0, 0, 0, []), (0, 0, 0, []), (12, 0, 0, []), (64, 111, 248, [12, 0]), (0, 0, 0, []), (0, 0, 0, []), (8, 1, 0, []), (75, 0, 0, []), (12, 0, 0, []), (45, 0, 0, []), (64, 111, 248, [12, 0]), (0, 0, 0, []), (0, 0, 0, []), (1, 1, 0, []), (21, 0, 0, []), (66, 111, 248, [12, 0]), (0, 0, 0, []), (0, 0, 0, []), (1, 1, 0, []), (94, 0, 0, []), (12, 0, 0, []), (2, 43, 0, []), (0, 0, 0, []), (85, 197, 230, [2, 0, 22]), (0, 0, 0, []), (0, 0, 0, []), (49, 225, 0, []), (0, 0, 0, []), (0, 0, 0, []), (12, 0, 0, []), (2, 45, 0, []), (0, 0, 0, []), (85, 197, 230, [2, 0, 22]), (0, 0, 0, []), (0, 0, 0, []), (48, 308, 0, []), (0, 0, 0, []), (0, 0, 0, []), (12, 0, 0, []), (65, 0, 156, [12, 24]), (0, 0, 0, []), (0, 0, 0, []), (12, 0, 0, []), (64, 2, 242, [12, 0]), (0, 0, 0, []), (0, 0, 0, []), (1, 1, 0, []), (22, 0, 0, []), (70, 0, 0, []), (2, 43, 0, []), (0, 0, 0, []), (55, 245, 0, []), (0, 0, 0, []), (0, 0, 0, []), (1, 1, 0, []), (60, 246, 0, []), (0, 0, 0, []), (0, 0, 0, []), (1, 2, 0, []), (14, 1, 0, []), (12, 0, 0, []), (1, 3, 0, []), (85, 297, 324, [2, 0, 22]), (0, 0, 0, []), (0, 0, 0, []), (49, 279, 0, []), (0, 0, 0, []), (0, 0, 0, []), (12, 0, 0, []), (1, 4, 0, []), (85, 297, 324, [2, 0, 22]), (0, 0, 0, []), (0, 0, 0, []), (49, 279, 0, []), (0, 0, 0, []), (0, 0, 0, []), (12, 0, 0, []), (1, 1, 0, []), (85, 297, 324, [2, 0, 22]), (0, 0, 0, []), (0, 0, 0, []), (49, 279, 0, []), (0, 0, 0, []), (0, 0, 0, []), (12, 0, 0, []), (1, 2, 0, []), (85, 297, 324, [2, 0, 22]), (0, 0, 0, []), (0, 0, 0, []), (48, 286, 0, []), (0, 0, 0, []), (0, 0, 0, []), (12, 0, 0, []), (85, 298, 315, [1, 99, 22]), (0, 0, 0, []), (0, 0, 0, []), (60, 247, 0, []), (0, 0, 0, []), (0, 0, 0, []), (12, 0, 0, []), (65, 110, 236, [12, 24]), (0, 0, 0, []), (0, 0, 0, []), (12, 0, 0, []), (64, 111, 248, [12, 0]), (0, 0, 0, []), (0, 0, 0, []), (8, 1, 0, []), (75, 0, 0, []), (12, 0, 0, []), (45, 0, 0, []), (64, 111, 248, [12, 0]), (0, 0, 0, []), (0, 0, 0, []), (1, 1, 0, []), (21, 0, 0, []), (66, 111, 248, [12, 0]), (0, 0, 0, []), (0, 0, 0, []), (1, 1, 0, []), (94, 0, 0, []), (12, 0, 0, []), (85, 300, 322, [1, 0, 22]), (0, 0, 0, []), (0, 0, 0, []), (2, 21, 0, []), (0, 0, 0, []), (54, 326, 0, []), (0, 0, 0, []), (0, 0, 0, []), (12, 0, 0, []), (85, 300, 322, [1, 0, 22]), (0, 0, 0, []), (0, 0, 0, []), (2, 22, 0, []), (0, 0, 0, []), (55, 362, 0, []), (0, 0, 0, []), (0, 0, 0, []), (12, 0, 0, []), (2, 44, 0, []), (0, 0, 0, []), (85, 198, 238, [2, 99, 22]), (0, 0, 0, []), (0, 0, 0, []), (12, 0, 0, []), (64, 5, 240, [12, 0]), (0, 0, 0, []), (0, 0, 0, []), (48, 341, 0, []), (0, 0, 0, []), (0, 0, 0, []), (1, 0, 0, []), (94, 0, 0, []), (12, 0, 0, []), (85, 301, 323, [1, 99, 22]), (0, 0, 0, []), (0, 0, 0, []), (12, 0, 0, []), (65, 110, 236, [12, 24]), (0, 0, 0, []), (0, 0, 0, []), (12, 0, 0, []), (64, 111, 248, [12, 0]), (0, 0, 0, []), (0, 0, 0, []), (1, 1, 0, []), (22, 0, 0, []), (46, 0, 0, []), (70, 0, 0, []), (1, 2, 0, []), (21, 0, 0, []), (75, 0, 0, []), (1, 1, 0, []), (94, 0, 0, []), (12, 0, 0, []), (85, 300, 322, [1, 0, 22]), (0, 0, 0, []), (0, 0, 0, []), (1, -1, 0, []), (54, 386, 0, []), (0, 0, 0, []), (0, 0, 0, []), (12, 0, 0, []), (64, 5, 240, [12, 0]), (0, 0, 0, []), (0, 0, 0, []), (49, 386, 0, []), (0, 0, 0, []), (0, 0, 0, []), (12, 0, 0, []), (1, 1, 0, []), (12, 0, 0, []), (64, 2, 242, [12, 0]), (0, 0, 0, []), (0, 0, 0, []), (85, 190, 229, [3, 99, 22]), (0, 0, 0, []), (0, 0, 0, []), (1, 0, 0, []), (94, 0, 0, [])]
def k308 : List jI := [(12, 0, 0, []), (64, 113, 250, [12, 0]), (0, 0, 0, []), (0, 0, 0, []), (14, 1, 0, []), (12, 0, 0, []), (12, 0, 0, []), (64, 111, 248, [12, 0]), (0, 0, 0, []), (0, 0, 0, []), (66, 113, 250, [12, 0]), (0, 0, 0, []), (0, 0, 0, []), (1, 1, 0, []), (14, 2, 0, []), (8, 2, 0, []), (48, 53, 0, []), (0, 0, 0, []), (0, 0, 0, []), (12, 0, 0, []), (64, 5, 240, [12, 0]), (0, 0, 0, []), (0, 0, 0, []), (49, 53, 0, []), (0, 0, 0, []), (0, 0, 0, []), (12, 0, 0, []), (85, 306, 325, [1, 99, 22]), (0, 0, 0, []), (0, 0, 0, []), (12, 0, 0, []), (64, 5, 240, [12, 0]), (0, 0, 0, []), (0, 0, 0, []), (49, 48, 0, []), (0, 0, 0, []), (0, 0, 0, []), (12, 0, 0, []), (85, 307, 326, [1, 0, 22]), (0, 0, 0, []), (0, 0, 0, []), (48, 48, 0, []), (0, 0, 0, []), (0, 0, 0, []), (1, 1, 0, []), (60, 49, 0, []), (0, 0, 0, []), (0, 0, 0, []), (1, 0, 0, []), (14, 2, 0, []), (60, 15, 0, []), (0, 0, 0, []), (0, 0, 0, []), (12, 0, 0, []), (64, 5, 240, [12, 0]), (0, 0, 0, []), (0, 0, 0, []), (49, 78, 0, []), (0, 0, 0, []), (0, 0, 0, []), (12, 0, 0, []), (64, 111, 248, [12, 0]), (0, 0, 0, []), (0, 0, 0, []), (12, 0, 0, []), (64, 113, 250, [12, 0]), (0, 0, 0, []), (0, 0, 0, []), (59, 78, 0, []), (0, 0, 0, []), (0, 0, 0, []), (12, 0, 0, []), (85, 298, 315, [1, 99, 22]), (0, 0, 0, []), (0, 0, 0, []), (60, 53, 0, []), (0, 0, 0, []), (0, 0, 0, []), (12, 0, 0, []), (8, 1, 0, []), (66, 113, 250, [12, 0]), (0, 0, 0, []), (0, 0, 0, []), (95, 0, 0, [])]
def k309 : List jI := [(12, 0, 0, []), (12, 0, 0, []), (65, 94, 221, [12, 23]), (0, 0, 0, []), (0, 0, 0, []), (85, 195, 228, [2, 0, 22]), (0, 0, 0, []), (0, 0, 0, []), (48, 18, 0, []), (0, 0, 0, []), (0, 0, 0, []), (12, 0, 0, []), (2, 13, 0, []), (0, 0, 0, []), (85, 295, 313, [2, 99, 22]), (0, 0, 0, []), (0, 0, 0, []), (95, 0, 0, []), (12, 0, 0, []), (85, 308, 243, [1, 99, 22]), (0, 0, 0, []), (0, 0, 0, []), (12, 0, 0, []), (64, 5, 240, [12, 0]), (0, 0, 0, []), (0, 0, 0, []), (48, 30, 0, []), (0, 0, 0, []), (0, 0, 0, []), (95, 0, 0, []), (12, 0, 0, []), (85, 193, 225, [1, 0, 22]), (0, 0, 0, []), (0, 0, 0, []), (14, 1, 0, []), (8, 1, 0, []), (2, 60, 0, []), (0, 0, 0, []), (54, 63, 0, []), (0, 0, 0, []), (0, 0, 0, []), (8, 1, 0, []), (2, 62, 0, []), (0, 0, 0, []), (54, 63, 0, []), (0, 0, 0, []), (0, 0, 0, []), (8, 1, 0, []), (2, 61, 0, []), (0, 0, 0, []), (54, 63, 0, []), (0, 0, 0, []), (0, 0, 0, []), (12, 0, 0, []), (1, 1, 0, []), (12, 0, 0, []), (64, 2, 242, [12, 0]), (0, 0, 0, []), (0, 0, 0, []), (85, 190, 229, [3, 99, 22]), (0, 0, 0, []), (0, 0, 0, []), (95, 0, 0, []), (12, 0, 0, []), (45, 0, 0, []), (64, 2, 242, [12, 0]), (0, 0, 0, []), (0, 0, 0, []), (1, 1, 0, []), (21, 0, 0, []), (66, 2, 242, [12, 0]), (0, 0, 0, []), (0, 0, 0, []), (12, 0, 0, []), (85, 308, 243, [1, 99, 22]), (0, 0, 0, []), (0, 0, 0, []), (12, 0, 0, []), (8, 1, 0, []), (2, 60, 0, []), (0, 0, 0, []), (55, 89, 0, []), (0, 0, 0, []), (0, 0, 0, []), (2, 7, 0, []), (0, 0, 0, []), (60, 102, 0, []), (0, 0, 0, []), (0, 0, 0, []), (8, 1, 0, []), (2, 62, 0, []), (0, 0, 0, []), (55, 100, 0, []), (0, 0, 0, []), (0, 0, 0, []), (2, 8, 0, []), (0, 0, 0, []), (60, 102, 0, []), (0, 0, 0, []), (0, 0, 0, []), (2, 9, 0, []), (0, 0, 0, []), (85, 295, 313, [2, 99, 22]), (0, 0, 0, []), (0, 0, 0, []), (95, 0, 0, [])]
def k310 : List jI := [(1, 0, 0, []), (14, 1, 0, []), (8, 1, 0, []), (12, 0, 0, []), (64, 111, 248, [12, 0]), (0, 0, 0, []), (0, 0, 0, []), (57, 29, 0, []), (0, 0, 0, []), (0, 0, 0, []), (12, 0, 0, []), (65, 110, 236, [12, 24]), (0, 0, 0, []), (0, 0, 0, []), (8, 1, 0, []), (70, 0, 0, []), (2, 25, 0, []), (0, 0, 0, []), (55, 23, 0, []), (0, 0, 0, []), (0, 0, 0, []), (1, 1, 0, []), (94, 0, 0, []), (20, 1, 1, []), (0, 0, 0, []), (0, 0, 0, []), (60, 2, 0, []), (0, 0, 0, []), (0, 0, 0, []), (1, 0, 0, []), (94, 0, 0, [])]
def k311 : List jI := [(12, 0, 0, []), (64, 5, 240, [12, 0]), (0, 0, 0, []), (0, 0, 0, []), (49, 33, 0, []), (0, 0, 0, []), (0, 0, 0, []), (12, 0, 0, []), (2, 12, 0, []), (0, 0, 0, []), (85, 297, 324, [2, 0, 22]), (0, 0, 0, []), (0, 0, 0, []), (48, 33, 0, []), (0, 0, 0, []), (0, 0, 0, []), (12, 0, 0, []), (45, 0, 0, []), (64, 112, 249, [12, 0]), (0, 0, 0, []), (0, 0, 0, []), (1, 1, 0, []), (22, 0, 0, []), (66, 112, 249, [12, 0]), (0, 0, 0, []), (0, 0, 0, []), (12, 0, 0, []), (85, 298, 315, [1, 99, 22]), (0, 0, 0, []), (0, 0, 0, []), (60, 0, 0, []), (0, 0, 0, []), (0, 0, 0, []), (95, 0, 0, [])]
def k312 : List jI := [(1, 1, 0, []), (14, 1, 0, []), (8, 1, 0, []), (48, 110, 0, []), (0, 0, 0, []), (0, 0, 0, []), (12, 0, 0, []), (64, 5, 240, [12, 0]), (0, 0, 0, []), (0, 0, 0, []), (49, 110, 0, []), (0, 0, 0, []), (0, 0, 0, []), (12, 0, 0, []), (85, 193, 225, [1, 0, 22]), (0, 0, 0, []), (0, 0, 0, []), (14, 2, 0, []), (8, 2, 0, []), (2, 91, 0, []), (0, 0, 0, []), (55, 47, 0, []), (0, 0, 0, []), (0, 0, 0, []), (12, 0, 0, []), (2, 25, 0, []), (0, 0, 0, []), (12, 0, 0, []), (64, 2, 242, [12, 0]), (0, 0, 0, []), (0, 0, 0, []), (85, 296, 319, [3, 99, 22]), (0, 0, 0, []), (0, 0, 0, []), (12, 0, 0, []), (45, 0, 0, []), (64, 2, 242, [12, 0]), (0, 0, 0, []), (0, 0, 0, []), (1, 1, 0, []), (21, 0, 0, []), (66, 2, 242, [12, 0]), (0, 0, 0, []), (0, 0, 0, []), (60, 2, 0, []), (0, 0, 0, []), (0, 0, 0, []), (12, 0, 0, []), (12, 0, 0, []), (65, 91, 218, [12, 23]), (0, 0, 0, []), (0, 0, 0, []), (85, 194, 227, [2, 0, 22]), (0, 0, 0, []), (0, 0, 0, []), (48, 79, 0, []), (0, 0, 0, []), (0, 0, 0, []), (12, 0, 0, []), (2, 12, 0, []), (0, 0, 0, []), (12, 0, 0, []), (64, 2, 242, [12, 0]), (0, 0, 0, []), (0, 0, 0, []), (85, 296, 319, [3, 99, 22]), (0, 0, 0, []), (0, 0, 0, []), (12, 0, 0, []), (12, 0, 0, []), (65, 91, 218, [12, 23]), (0, 0, 0, []), (0, 0, 0, []), (85, 196, 236, [2, 99, 22]), (0, 0, 0, []), (0, 0, 0, []), (60, 2, 0, []), (0, 0, 0, []), (0, 0, 0, []), (12, 0, 0, []), (85, 309, 327, [1, 99, 22]), (0, 0, 0, []), (0, 0, 0, []), (12, 0, 0, []), (85, 311, 328, [1, 99, 22]), (0, 0, 0, []), (0, 0, 0, []), (12, 0, 0, []), (64, 5, 240, [12, 0]), (0, 0, 0, []), (0, 0, 0, []), (49, 105, 0, []), (0, 0, 0, []), (0, 0, 0, []), (12, 0, 0, []), (85, 313, 329, [1, 0, 22]), (0, 0, 0, []), (0, 0, 0, []), (48, 105, 0, []), (0, 0, 0, []), (0, 0, 0, []), (1, 1, 0, []), (60, 106, 0, []), (0, 0, 0, []), (0, 0, 0, []), (1, 0, 0, []), (14, 1, 0, []), (60, 2, 0, []), (0, 0, 0, []), (0, 0, 0, []), (12, 0, 0, []), (64, 5, 240, [12, 0]), (0, 0, 0, []), (0, 0, 0, []), (49, 131, 0, []), (0, 0, 0, []), (0, 0, 0, []), (12, 0, 0, []), (64, 111, 248, [12, 0]), (0, 0, 0, []), (0, 0, 0, []), (53, 131, 0, []), (0, 0, 0, []), (0, 0, 0, []), (12, 0, 0, []), (85, 298, 315, [1, 99, 22]), (0, 0, 0, []), (0, 0, 0, []), (60, 110, 0, []), (0, 0, 0, []), (0, 0, 0, []), (95, 0, 0, [])]
def k313 : List jI := [(12, 0, 0, []), (64, 5, 240, [12, 0]), (0, 0, 0, []), (0, 0, 0, []), (49, 76, 0, []), (0, 0, 0, []), (0, 0, 0, []), (12, 0, 0, []), (85, 193, 225, [1, 0, 22]), (0, 0, 0, []), (0, 0, 0, []), (2, 93, 0, []), (0, 0, 0, []), (55, 76, 0, []), (0, 0, 0, []), (0, 0, 0, []), (12, 0, 0, []), (85, 310, 330, [1, 0, 22]), (0, 0, 0, []), (0, 0, 0, []), (48, 76, 0, []), (0, 0, 0, []), (0, 0, 0, []), (12, 0, 0, []), (45, 0, 0, []), (64, 2, 242, [12, 0]), (0, 0, 0, []), (0, 0, 0, []), (1, 1, 0, []), (21, 0, 0, []), (66, 2, 242, [12, 0]), (0, 0, 0, []), (0, 0, 0, []), (12, 0, 0, []), (2, 25, 0, []), (0, 0, 0, []), (85, 297, 324, [2, 0, 22]), (0, 0, 0, []), (0, 0, 0, []), (49, 49, 0, []), (0, 0, 0, []), (0, 0, 0, []), (12, 0, 0, []), (85, 298, 315, [1, 99, 22]), (0, 0, 0, []), (0, 0, 0, []), (60, 33, 0, []), (0, 0, 0, []), (0, 0, 0, []), (12, 0, 0, []), (45, 0, 0, []), (64, 111, 248, [12, 0]), (0, 0, 0, []), (0, 0, 0, []), (1, 1, 0, []), (22, 0, 0, []), (66, 111, 248, [12, 0]), (0, 0, 0, []), (0, 0, 0, []), (12, 0, 0, []), (45, 0, 0, []), (64, 112, 249, [12, 0]), (0, 0, 0, []), (0, 0, 0, []), (1, 1, 0, []), (22, 0, 0, []), (66, 112, 249, [12, 0]), (0, 0, 0, []), (0, 0, 0, []), (12, 0, 0, []), (85, 311, 328, [1, 99, 22]), (0, 0, 0, []), (0, 0, 0, []), (60, 0, 0, []), (0, 0, 0, []), (0, 0, 0, []), (12, 0, 0, []), (12, 0, 0, []), (65, 92, 219, [12, 23]), (0, 0, 0, []), (0, 0, 0, []), (85, 195, 228, [2, 0, 22]), (0, 0, 0, []), (0, 0, 0, []), (48, 126, 0, []), (0, 0, 0, []), (0, 0, 0, []), (12, 0, 0, []), (2, 10, 0, []), (0, 0, 0, []), (85, 297, 324, [2, 0, 22]), (0, 0, 0, []), (0, 0, 0, []), (48, 103, 0, []), (0, 0, 0, []), (0, 0, 0, []), (12, 0, 0, []), (85, 298, 315, [1, 99, 22]), (0, 0, 0, []), (0, 0, 0, []), (60, 87, 0, []), (0, 0, 0, []), (0, 0, 0, []), (12, 0, 0, []), (65, 110, 236, [12, 24]), (0, 0, 0, []), (0, 0, 0, []), (12, 0, 0, []), (64, 111, 248, [12, 0]), (0, 0, 0, []), (0, 0, 0, []), (2, 10, 0, []), (0, 0, 0, []), (75, 0, 0, []), (12, 0, 0, []), (45, 0, 0, []), (64, 111, 248, [12, 0]), (0, 0, 0, []), (0, 0, 0, []), (1, 1, 0, []), (21, 0, 0, []), (66, 111, 248, [12, 0]), (0, 0, 0, []), (0, 0, 0, []), (1, 1, 0, []), (94, 0, 0, []), (12, 0, 0, []), (12, 0, 0, []), (65, 93, 220, [12, 23]), (0, 0, 0, []), (0, 0, 0, []), (85, 195, 228, [2, 0, 22]), (0, 0, 0, []), (0, 0, 0, []), (48, 185, 0, []), (0, 0, 0, []), (0, 0, 0, []), (12, 0, 0, []), (2, 10, 0, []), (0, 0, 0, []), (85, 297, 324, [2, 0, 22]), (0, 0, 0, []), (0, 0, 0, []), (49, 155, 0, []), (0, 0, 0, []), (0, 0, 0, []), (12, 0, 0, []), (2, 11, 0, []), (0, 0, 0, []), (85, 297, 324, [2, 0, 22]), (0, 0, 0, []), (0, 0, 0, []), (48, 162, 0, []), (0, 0, 0, []), (0, 0, 0, []), (12, 0, 0, []), (85, 298, 315, [1, 99, 22]), (0, 0, 0, []), (0, 0, 0, []), (60, 137, 0, []), (0, 0, 0, []), (0, 0, 0, []), (12, 0, 0, []), (65, 110, 236, [12, 24]), (0, 0, 0, []), (0, 0, 0, []), (12, 0, 0, []), (64, 111, 248, [12, 0]), (0, 0, 0, []), (0, 0, 0, []), (2, 11, 0, []), (0, 0, 0, []), (75, 0, 0, []), (12, 0, 0, []), (45, 0, 0, []), (64, 111, 248, [12, 0]), (0, 0, 0, []), (0, 0, 0, []), (1, 1, 0, []), (21, 0, 0, []), (66, 111, 248, [12, 0]), (0, 0, 0, []), (0, 0, 0, []), (1, 1, 0, []), (94, 0, 0, []), (12, 0, 0, []), (64, 5, 240, [12, 0]), (0, 0, 0, []), (0, 0, 0, []), (49, 208, 0, []), (0, 0, 0, []), (0, 0, 0, []), (12, 0, 0, []), (85, 310, 330, [1, 0, 22]), (0, 0, 0, []), (0, 0, 0, []), (48, 208, 0, []), (0, 0, 0, []), (0, 0, 0, []), (12, 0, 0, []), (1, 1, 0, []), (12, 0, 0, []), (64, 2, 242, [12, 0]), (0, 0, 0, []), (0, 0, 0, []), (85, 190, 229, [3, 99, 22]), (0, 0, 0, []), (0, 0, 0, []), (1, 0, 0, []), (94, 0, 0, [])]
def k314 : List jI := [(10, 0, 0, []), (7, 1000000, 733, []), (0, 0, 0, []), (0, 0, 0, []), (42, 0, 0, []), (53, 14, 0, []), (0, 0, 0, []), (0, 0, 0, []), (7, 1000000, 733, []), (0, 0, 0, []), (0, 0, 0, []), (60, 29, 0, []), (0, 0, 0, []), (0, 0, 0, []), (10, 0, 0, []), (7, -1000000, 735, []), (0, 0, 0, []), (0, 0, 0, []), (42, 0, 0, []), (51, 28, 0, []), (0, 0, 0, []), (0, 0, 0, []), (7, -1000000, 735, []), (0, 0, 0, []), (0, 0, 0, []), (60, 29, 0, []), (0, 0, 0, []), (0, 0, 0, []), (10, 0, 0, []), (92, 0, 0, [])]
def k315 : List jI := [(10, 2, 0, []), (6, 0, 0, []), (42, 0, 0, []), (49, 8, 0, []), (0, 0, 0, []), (0, 0, 0, []), (6, 0, 0, []), (92, 0, 0, []), (10, 0, 0, []), (10, 2, 0, []), (36, 0, 0, []), (17, 4, 0, []), (0, 0, 0, []), (10, 0, 0, []), (10, 2, 0, []), (37, 0, 0, []), (6, 0, 0, []), (42, 0, 0, []), (48, 53, 0, []), (0, 0, 0, []), (0, 0, 0, []), (10, 0, 0, []), (6, 0, 0, []), (42, 0, 0, []), (51, 31, 0, []), (0, 0, 0, []), (0, 0, 0, []), (1, 1, 0, []), (60, 32, 0, []), (0, 0, 0, []), (0, 0, 0, []), (1, 0, 0, []), (10, 2, 0, []), (6, 0, 0, []), (42, 0, 0, []), (51, 42, 0, []), (0, 0, 0, []), (0, 0, 0, []), (1, 1, 0, []), (60, 43, 0, []), (0, 0, 0, []), (0, 0, 0, []), (1, 0, 0, []), (54, 53, 0, []), (0, 0, 0, []), (0, 0, 0, []), (11, 4, 0, []), (0, 0, 0, []), (6, 1, 0, []), (34, 0, 0, []), (60, 55, 0, []), (0, 0, 0, []), (0, 0, 0, []), (11, 4, 0, []), (0, 0, 0, []), (92, 0, 0, [])]
def k316 : List jI := [(12, 0, 0, []), (65, 114, 237, [12, 25]), (0, 0, 0, []), (0, 0, 0, []), (12, 0, 0, []), (64, 115, 264, [12, 0]), (0, 0, 0, []), (0, 0, 0, []), (10, 1, 0, []), (76, 0, 0, []), (12, 0, 0, []), (45, 0, 0, []), (64, 115, 264, [12, 0]), (0, 0, 0, []), (0, 0, 0, []), (1, 1, 0, []), (21, 0, 0, []), (66, 115, 264, [12, 0]), (0, 0, 0, []), (0, 0, 0, []), (95, 0, 0, [])]
def k317 : List jI := [(12, 0, 0, []), (65, 114, 237, [12, 25]), (0, 0, 0, []), (0, 0, 0, []), (12, 0, 0, []), (64, 115, 264, [12, 0]), (0, 0, 0, []), (0, 0, 0, []), (1, 1, 0, []), (22, 0, 0, []), (71, 0, 0, []), (16, 2, 0, []), (12, 0, 0, []), (65, 114, 237, [12, 25]), (0, 0, 0, []), (0, 0, 0, []), (12, 0, 0, []), (64, 115, 264, [12, 0]), (0, 0, 0, []), (0, 0, 0, []), (1, 2, 0, []), (22, 0, 0, []), (71, 0, 0, []), (17, 4, 0, []), (0, 0, 0, []), (12, 0, 0, []), (45, 0, 0, []), (64, 115, 264, [12, 0]), (0, 0, 0, []), (0, 0, 0, []), (1, 2, 0, []), (22, 0, 0, []), (66, 115, 264, [12, 0]), (0, 0, 0, []), (0, 0, 0, []), (8, 1, 0, []), (62, 255, 1, [92, 106, 120, 134, 147, 167, 187, 206, 225, 244]), (0, 0, 0, []), (0, 0, 0, []), (0, 0, 0, []), (0, 0, 0, []), (0, 0, 0, []), (0, 0, 0, []), (0, 0, 0, []), (0, 0, 0, []), (0, 0, 0, []), (0, 0, 0, []), (0, 0, 0, []), (0, 0, 0, []), (0, 0, 0, []), (0, 0, 0, []), (0, 0, 0, []), (0, 0, 0, []), (0, 0, 0, []), (0, 0, 0, []), (0, 0, 0, []), (0, 0, 0, []), (0, 0, 0, []), (0, 0, 0, []), (0, 0, 0, []), (0, 0, 0, []), (0, 0, 0, []), (0, 0, 0, []), (0, 0, 0, []), (0, 0, 0, []), (0, 0, 0, []), (0, 0, 0, []), (0, 0, 0, []), (0, 0, 0, []), (0, 0, 0, []), (0, 0, 0, []), (0, 0, 0, []), (0, 0, 0, []), (0, 0, 0, []), (0, 0, 0, []), (0, 0, 0, []), (0, 0, 0, []), (0, 0, 0, []), (0, 0, 0, []), (0, 0, 0, []), (0, 0, 0, []), (0, 0, 0, []), (0, 0, 0, []), (0, 0, 0, []), (0, 0, 0, []), (0, 0, 0, []), (0, 0, 0, []), (0, 0, 0, []), (0, 0, 0, []), (0, 0, 0, []), (0, 0, 0, []), (0, 0, 0, []), (12, 0, 0, []), (11, 4, 0, []), (0, 0, 0, []), (10, 2, 0, []), (33, 0, 0, []), (89, 314, 331, [1, 1]), (0, 0, 0, []), (0, 0, 0, []), (85, 316, 267, [2, 99, 22]), (0, 0, 0, []), (0, 0, 0, []), (60, 273, 0, []), (0, 0, 0, []), (0, 0, 0, []), (12, 0, 0, []), (11, 4, 0, []), (0, 0, 0, []), (10, 2, 0, []), (34, 0, 0, []), (89, 314, 331, [1, 1]), (0, 0, 0, []), (0, 0, 0, []), (85, 316, 267, [2, 99, 22]), (0, 0, 0, []), (0, 0, 0, []), (60, 273, 0, []), (0, 0, 0, []), (0, 0, 0, []), (12, 0, 0, []), (11, 4, 0, []), (0, 0, 0, []), (10, 2, 0, []), (35, 0, 0, []), (89, 314, 331, [1, 1]), (0, 0, 0, []), (0, 0, 0, []), (85, 316, 267, [2, 99, 22]), (0, 0, 0, []), (0, 0, 0, []), (60, 273, 0, []), (0, 0, 0, []), (0, 0, 0, []), (12, 0, 0, []), (11, 4, 0, []), (0, 0, 0, []), (10, 2, 0, []), (89, 315, 332, [2, 1]), (0, 0, 0, []), (0, 0, 0, []), (85, 316, 267, [2, 99, 22]), (0, 0, 0, []), (0, 0, 0, []), (60, 273, 0, []), (0, 0, 0, []), (0, 0, 0, []), (12, 0, 0, []), (11, 4, 0, []), (0, 0, 0, []), (10, 2, 0, []), (42, 0, 0, []), (51, 160, 0, []), (0, 0, 0, []), (0, 0, 0, []), (11, 4, 0, []), (0, 0, 0, []), (60, 161, 0, []), (0, 0, 0, []), (0, 0, 0, []), (10, 2, 0, []), (85, 316, 267, [2, 99, 22]), (0, 0, 0, []), (0, 0, 0, []), (60, 273, 0, []), (0, 0, 0, []), (0, 0, 0, []), (12, 0, 0, []), (11, 4, 0, []), (0, 0, 0, []), (10, 2, 0, []), (42, 0, 0, []), (53, 180, 0, []), (0, 0, 0, []), (0, 0, 0, []), (11, 4, 0, []), (0, 0, 0, []), (60, 181, 0, []), (0, 0, 0, []), (0, 0, 0, []), (10, 2, 0, []), (85, 316, 267, [2, 99, 22]), (0, 0, 0, []), (0, 0, 0, []), (60, 273, 0, []), (0, 0, 0, []), (0, 0, 0, []), (12, 0, 0, []), (11, 4, 0, []), (0, 0, 0, []), (10, 2, 0, []), (42, 0, 0, []), (51, 199, 0, []), (0, 0, 0, []), (0, 0, 0, []), (6, 1, 0, []), (60, 200, 0, []), (0, 0, 0, []), (0, 0, 0, []), (6, 0, 0, []), (85, 316, 267, [2, 99, 22]), (0, 0, 0, []), (0, 0, 0, []), (60, 273, 0, []), (0, 0, 0, []), (0, 0, 0, []), (12, 0, 0, []), (11, 4, 0, []), (0, 0, 0, []), (10, 2, 0, []), (42, 0, 0, []), (53, 218, 0, []), (0, 0, 0, []), (0, 0, 0, []), (6, 1, 0, []), (60, 219, 0, []), (0, 0, 0, []), (0, 0, 0, []), (6, 0, 0, []), (85, 316, 267, [2, 99, 22]), (0, 0, 0, []), (0, 0, 0, []), (60, 273, 0, []), (0, 0, 0, []), (0, 0, 0, []), (12, 0, 0, []), (11, 4, 0, []), (0, 0, 0, []), (10, 2, 0, []), (42, 0, 0, []), (49, 237, 0, []), (0, 0, 0, []), (0, 0, 0, []), (6, 1, 0, []), (60, 238, 0, []), (0, 0, 0, []), (0, 0, 0, []), (6, 0, 0, []), (85, 316, 267, [2, 99, 22]), (0, 0, 0, []), (0, 0, 0, []), (60, 273, 0, []), (0, 0, 0, []), (0, 0, 0, []), (12, 0, 0, []), (11, 4, 0, []), (0, 0, 0, []), (10, 2, 0, []), (35, 0, 0, []), (85, 316, 267, [2, 99, 22]), (0, 0, 0, []), (0, 0, 0, []), (60, 273, 0, []), (0, 0, 0, []), (0, 0, 0, []), (12, 0, 0, []), (11, 4, 0, []), (0, 0, 0, []), (10, 2, 0, []), (33, 0, 0, []), (6, 0, 0, []), (42, 0, 0, []), (53, 269, 0, []), (0, 0, 0, []), (0, 0, 0, []), (6, 1, 0, []), (60, 270, 0, []), (0, 0, 0, []), (0, 0, 0, []), (6, 0, 0, []), (85, 316, 267, [2, 99, 22]), (0, 0, 0, []), (0, 0, 0, []), (95, 0, 0, [])]
def k318 : List jI := [(8, 1, 0, []), (62, 95, 0, [52, 57, 62, 67, 72, 77, 82, 87, 92]), (0, 0, 0, []), (0, 0, 0, []), (0, 0, 0, []), (0, 0, 0, []), (0, 0, 0, []), (0, 0, 0, []), (0, 0, 0, []), (0, 0, 0, []), (0, 0, 0, []), (0, 0, 0, []), (0, 0, 0, []), (0, 0, 0, []), (0, 0, 0, []), (0, 0, 0, []), (0, 0, 0, []), (0, 0, 0, []), (0, 0, 0, []), (0, 0, 0, []), (0, 0, 0, []), (0, 0, 0, []), (0, 0, 0, []), (0, 0, 0, []), (0, 0, 0, []), (0, 0, 0, []), (0, 0, 0, []), (0, 0, 0, []), (0, 0, 0, []), (0, 0, 0, []), (0, 0, 0, []), (0, 0, 0, []), (0, 0, 0, []), (0, 0, 0, []), (0, 0, 0, []), (0, 0, 0, []), (0, 0, 0, []), (0, 0, 0, []), (0, 0, 0, []), (0, 0, 0, []), (0, 0, 0, []), (0, 0, 0, []), (0, 0, 0, []), (0, 0, 0, []), (0, 0, 0, []), (0, 0, 0, []), (0, 0, 0, []), (0, 0, 0, []), (0, 0, 0, []), (0, 0, 0, []), (0, 0, 0, []), (0, 0, 0, []), (12, 0, 0, []), (64, 55, 258, [12, 1]), (0, 0, 0, []), (0, 0, 0, []), (92, 0, 0, []), (12, 0, 0, []), (64, 56, 259, [12, 1]), (0, 0, 0, []), (0, 0, 0, []), (92, 0, 0, []), (12, 0, 0, []), (64, 57, 260, [12, 1]), (0, 0, 0, []), (0, 0, 0, []), (92, 0, 0, []), (12, 0, 0, []), (64, 58, 261, [12, 1]), (0, 0, 0, []), (0, 0, 0, []), (92, 0, 0, []), (12, 0, 0, []), (64, 59, 262, [12, 1]), (0, 0, 0, []), (0, 0, 0, []), (92, 0, 0, []), (12, 0, 0, []), (64, 60, 263, [12, 1]), (0, 0, 0, []), (0, 0, 0, []), (92, 0, 0, []), (12, 0, 0, []), (64, 61, 266, [12, 1]), (0, 0, 0, []), (0, 0, 0, []), (92, 0, 0, []), (12, 0, 0, []), (64, 62, 267, [12, 1]), (0, 0, 0, []), (0, 0, 0, []), (92, 0, 0, []), (8, 2, 0, []), (43, 0, 0, []), (92, 0, 0, []), (12, 0, 0, []), (8, 2, 0, []), (85, 226, 257, [2, 0, 22]), (0, 0, 0, []), (0, 0, 0, []), (49, 107, 0, []), (0, 0, 0, []), (0, 0, 0, []), (6, 1, 0, []), (60, 108, 0, []), (0, 0, 0, []), (0, 0, 0, []), (6, 0, 0, []), (92, 0, 0, [])]
def k319 : List jI := [(8, 1, 0, []), (63, 12, 0, []), (0, 0, 0, []), (0, 0, 0, []), (0, 0, 0, []), (0, 0, 0, []), (0, 0, 0, []), (0, 0, 0, []), (0, 0, 0, []), (0, 0, 0, []), (0, 0, 0, []), (0, 0, 0, []), (10, 2, 0, []), (6, 0, 0, []), (12, 0, 0, []), (85, 219, 255, [1, 0, 22]), (0, 0, 0, []), (0, 0, 0, []), (1, 1, 0, []), (22, 0, 0, []), (43, 0, 0, []), (89, 187, 232, [3, 0]), (0, 0, 0, []), (0, 0, 0, []), (48, 37, 0, []), (0, 0, 0, []), (0, 0, 0, []), (12, 0, 0, []), (10, 2, 0, []), (44, 0, 0, []), (85, 228, 279, [2, 0, 22]), (0, 0, 0, []), (0, 0, 0, []), (43, 0, 0, []), (60, 38, 0, []), (0, 0, 0, []), (0, 0, 0, []), (6, 0, 0, []), (92, 0, 0, [])]
def k320 : List jI := [(12, 0, 0, []), (1, 0, 0, []), (66, 115, 264, [12, 0]), (0, 0, 0, []), (0, 0, 0, []), (1, 0, 0, []), (14, 2, 0, []), (8, 2, 0, []), (12, 0, 0, []), (64, 109, 247, [12, 0]), (0, 0, 0, []), (0, 0, 0, []), (57, 168, 0, []), (0, 0, 0, []), (0, 0, 0, []), (12, 0, 0, []), (65, 108, 235, [12, 24]), (0, 0, 0, []), (0, 0, 0, []), (8, 2, 0, []), (70, 0, 0, []), (14, 3, 0, []), (8, 3, 0, []), (3, 1000, 0, []), (0, 0, 0, []), (0, 0, 0, []), (56, 42, 0, []), (0, 0, 0, []), (0, 0, 0, []), (12, 0, 0, []), (8, 3, 0, []), (3, 1000, 0, []), (0, 0, 0, []), (0, 0, 0, []), (22, 0, 0, []), (43, 0, 0, []), (85, 316, 267, [2, 99, 22]), (0, 0, 0, []), (0, 0, 0, []), (60, 162, 0, []), (0, 0, 0, []), (0, 0, 0, []), (8, 3, 0, []), (2, 60, 0, []), (0, 0, 0, []), (56, 85, 0, []), (0, 0, 0, []), (0, 0, 0, []), (12, 0, 0, []), (65, 114, 237, [12, 25]), (0, 0, 0, []), (0, 0, 0, []), (12, 0, 0, []), (64, 115, 264, [12, 0]), (0, 0, 0, []), (0, 0, 0, []), (1, 1, 0, []), (22, 0, 0, []), (12, 0, 0, []), (8, 3, 0, []), (2, 60, 0, []), (0, 0, 0, []), (22, 0, 0, []), (12, 0, 0, []), (65, 114, 237, [12, 25]), (0, 0, 0, []), (0, 0, 0, []), (12, 0, 0, []), (64, 115, 264, [12, 0]), (0, 0, 0, []), (0, 0, 0, []), (1, 1, 0, []), (22, 0, 0, []), (71, 0, 0, []), (8, 1, 0, []), (85, 319, 333, [4, 1, 22]), (0, 0, 0, []), (0, 0, 0, []), (89, 314, 331, [1, 1]), (0, 0, 0, []), (0, 0, 0, []), (76, 0, 0, []), (60, 162, 0, []), (0, 0, 0, []), (0, 0, 0, []), (8, 3, 0, []), (2, 40, 0, []), (0, 0, 0, []), (56, 110, 0, []), (0, 0, 0, []), (0, 0, 0, []), (12, 0, 0, []), (12, 0, 0, []), (8, 3, 0, []), (2, 40, 0, []), (0, 0, 0, []), (22, 0, 0, []), (8, 1, 0, []), (85, 318, 268, [3, 1, 22]), (0, 0, 0, []), (0, 0, 0, []), (89, 314, 331, [1, 1]), (0, 0, 0, []), (0, 0, 0, []), (85, 316, 267, [2, 99, 22]), (0, 0, 0, []), (0, 0, 0, []), (60, 162, 0, []), (0, 0, 0, []), (0, 0, 0, []), (8, 3, 0, []), (2, 13, 0, []), (0, 0, 0, []), (55, 124, 0, []), (0, 0, 0, []), (0, 0, 0, []), (12, 0, 0, []), (6, 1, 0, []), (85, 316, 267, [2, 99, 22]), (0, 0, 0, []), (0, 0, 0, []), (60, 162, 0, []), (0, 0, 0, []), (0, 0, 0, []), (8, 3, 0, []), (2, 12, 0, []), (0, 0, 0, []), (55, 157, 0, []), (0, 0, 0, []), (0, 0, 0, []), (12, 0, 0, []), (65, 114, 237, [12, 25]), (0, 0, 0, []), (0, 0, 0, []), (12, 0, 0, []), (64, 115, 264, [12, 0]), (0, 0, 0, []), (0, 0, 0, []), (1, 1, 0, []), (22, 0, 0, []), (6, 1, 0, []), (12, 0, 0, []), (65, 114, 237, [12, 25]), (0, 0, 0, []), (0, 0, 0, []), (12, 0, 0, []), (64, 115, 264, [12, 0]), (0, 0, 0, []), (0, 0, 0, []), (1, 1, 0, []), (22, 0, 0, []), (71, 0, 0, []), (34, 0, 0, []), (76, 0, 0, []), (60, 162, 0, []), (0, 0, 0, []), (0, 0, 0, []), (12, 0, 0, []), (8, 3, 0, []), (85, 317, 269, [2, 99, 22]), (0, 0, 0, []), (0, 0, 0, []), (20, 2, 1, []), (0, 0, 0, []), (0, 0, 0, []), (60, 7, 0, []), (0, 0, 0, []), (0, 0, 0, []), (12, 0, 0, []), (65, 114, 237, [12, 25]), (0, 0, 0, []), (0, 0, 0, []), (1, 0, 0, []), (71, 0, 0, []), (92, 0, 0, [])]
def k321 : List jI := [(12, 0, 0, []), (12, 0, 0, []), (65, 85, 212, [12, 23]), (0, 0, 0, []), (0, 0, 0, []), (85, 195, 228, [2, 0, 22]), (0, 0, 0, []), (0, 0, 0, []), (48, 15, 0, []), (0, 0, 0, []), (0, 0, 0, []), (1, 0, 0, []), (60, 76, 0, []), (0, 0, 0, []), (0, 0, 0, []), (12, 0, 0, []), (12, 0, 0, []), (65, 86, 213, [12, 23]), (0, 0, 0, []), (0, 0, 0, []), (85, 195, 228, [2, 0, 22]), (0, 0, 0, []), (0, 0, 0, []), (48, 30, 0, []), (0, 0, 0, []), (0, 0, 0, []), (1, 1, 0, []), (60, 76, 0, []), (0, 0, 0, []), (0, 0, 0, []), (12, 0, 0, []), (12, 0, 0, []), (65, 87, 214, [12, 23]), (0, 0, 0, []), (0, 0, 0, []), (85, 195, 228, [2, 0, 22]), (0, 0, 0, []), (0, 0, 0, []), (48, 45, 0, []), (0, 0, 0, []), (0, 0, 0, []), (1, 2, 0, []), (60, 76, 0, []), (0, 0, 0, []), (0, 0, 0, []), (12, 0, 0, []), (12, 0, 0, []), (65, 88, 215, [12, 23]), (0, 0, 0, []), (0, 0, 0, []), (85, 195, 228, [2, 0, 22]), (0, 0, 0, []), (0, 0, 0, []), (48, 60, 0, []), (0, 0, 0, []), (0, 0, 0, []), (1, 3, 0, []), (60, 76, 0, []), (0, 0, 0, []), (0, 0, 0, []), (12, 0, 0, []), (12, 0, 0, []), (65, 89, 216, [12, 23]), (0, 0, 0, []), (0, 0, 0, []), (85, 195, 228, [2, 0, 22]), (0, 0, 0, []), (0, 0, 0, []), (48, 75, 0, []), (0, 0, 0, []), (0, 0, 0, []), (1, 4, 0, []), (60, 76, 0, []), (0, 0, 0, []), (0, 0, 0, []), (1, 5, 0, []), (14, 1, 0, []), (8, 1, 0, []), (1, 5, 0, []), (55, 90, 0, []), (0, 0, 0, []), (0, 0, 0, []), (12, 0, 0, []), (12, 0, 0, []), (65, 90, 217, [12, 23]), (0, 0, 0, []), (0, 0, 0, []), (85, 196, 236, [2, 99, 22]), (0, 0, 0, []), (0, 0, 0, []), (8, 1, 0, []), (91, 0, 0, [])]
def k322 : List jI := [(8, 1, 0, []), (1, 3, 0, []), (57, 15, 0, []), (0, 0, 0, []), (0, 0, 0, []), (10, 2, 0, []), (6, 1, 0, []), (42, 0, 0, []), (49, 15, 0, []), (0, 0, 0, []), (0, 0, 0, []), (1, 1, 0, []), (60, 16, 0, []), (0, 0, 0, []), (0, 0, 0, []), (1, 0, 0, []), (15, 5, 0, []), (0, 0, 0, []), (8, 1, 0, []), (49, 38, 0, []), (0, 0, 0, []), (0, 0, 0, []), (9, 5, 0, []), (0, 0, 0, []), (48, 38, 0, []), (0, 0, 0, []), (0, 0, 0, []), (12, 0, 0, []), (64, 116, 273, [12, 1]), (0, 0, 0, []), (0, 0, 0, []), (7, -1, 752, []), (0, 0, 0, []), (0, 0, 0, []), (42, 0, 0, []), (48, 48, 0, []), (0, 0, 0, []), (0, 0, 0, []), (8, 1, 0, []), (1, 1, 0, []), (55, 55, 0, []), (0, 0, 0, []), (0, 0, 0, []), (9, 5, 0, []), (0, 0, 0, []), (48, 55, 0, []), (0, 0, 0, []), (0, 0, 0, []), (12, 0, 0, []), (9, 4, 0, []), (0, 0, 0, []), (43, 0, 0, []), (66, 116, 273, [12, 1]), (0, 0, 0, []), (0, 0, 0, []), (8, 1, 0, []), (1, 2, 0, []), (55, 75, 0, []), (0, 0, 0, []), (0, 0, 0, []), (9, 5, 0, []), (0, 0, 0, []), (48, 75, 0, []), (0, 0, 0, []), (0, 0, 0, []), (12, 0, 0, []), (45, 0, 0, []), (64, 116, 273, [12, 1]), (0, 0, 0, []), (0, 0, 0, []), (6, 1, 0, []), (33, 0, 0, []), (66, 116, 273, [12, 1]), (0, 0, 0, []), (0, 0, 0, []), (8, 1, 0, []), (1, 3, 0, []), (55, 90, 0, []), (0, 0, 0, []), (0, 0, 0, []), (12, 0, 0, []), (45, 0, 0, []), (64, 116, 273, [12, 1]), (0, 0, 0, []), (0, 0, 0, []), (10, 2, 0, []), (33, 0, 0, []), (66, 116, 273, [12, 1]), (0, 0, 0, []), (0, 0, 0, []), (8, 1, 0, []), (1, 3, 0, []), (59, 133, 0, []), (0, 0, 0, []), (0, 0, 0, []), (12, 0, 0, []), (64, 117, 274, [12, 0]), (0, 0, 0, []), (0, 0, 0, []), (49, 128, 0, []), (0, 0, 0, []), (0, 0, 0, []), (8, 1, 0, []), (1, 4, 0, []), (55, 119, 0, []), (0, 0, 0, []), (0, 0, 0, []), (10, 2, 0, []), (12, 0, 0, []), (64, 116, 273, [12, 1]), (0, 0, 0, []), (0, 0, 0, []), (42, 0, 0, []), (53, 133, 0, []), (0, 0, 0, []), (0, 0, 0, []), (60, 128, 0, []), (0, 0, 0, []), (0, 0, 0, []), (10, 2, 0, []), (12, 0, 0, []), (64, 116, 273, [12, 1]), (0, 0, 0, []), (0, 0, 0, []), (42, 0, 0, []), (51, 133, 0, []), (0, 0, 0, []), (0, 0, 0, []), (12, 0, 0, []), (10, 2, 0, []), (66, 116, 273, [12, 1]), (0, 0, 0, []), (0, 0, 0, []), (12, 0, 0, []), (1, 0, 0, []), (67, 117, 274, [12, 0]), (0, 0, 0, []), (0, 0, 0, []), (95, 0, 0, [])]
def k323 : List jI := [(12, 0, 0, []), (64, 51, 254, [12, 0]), (0, 0, 0, []), (0, 0, 0, []), (49, 16, 0, []), (0, 0, 0, []), (0, 0, 0, []), (12, 0, 0, []), (1, 0, 0, []), (66, 1, 239, [12, 0]), (0, 0, 0, []), (0, 0, 0, []), (7, -1000000000000000, 605, []), (0, 0, 0, []), (0, 0, 0, []), (92, 0, 0, []), (12, 0, 0, []), (12, 0, 0, []), (64, 1, 239, [12, 0]), (0, 0, 0, []), (0, 0, 0, []), (66, 3, 243, [12, 0]), (0, 0, 0, []), (0, 0, 0, []), (12, 0, 0, []), (1, 0, 0, []), (66, 1, 239, [12, 0]), (0, 0, 0, []), (0, 0, 0, []), (12, 0, 0, []), (1, 0, 0, []), (66, 2, 242, [12, 0]), (0, 0, 0, []), (0, 0, 0, []), (12, 0, 0, []), (1, -1, 0, []), (66, 4, 244, [12, 0]), (0, 0, 0, []), (0, 0, 0, []), (12, 0, 0, []), (1, 0, 0, []), (66, 5, 240, [12, 0]), (0, 0, 0, []), (0, 0, 0, []), (12, 0, 0, []), (1, -1, 0, []), (66, 6, 241, [12, 0]), (0, 0, 0, []), (0, 0, 0, []), (12, 0, 0, []), (1, 2, 0, []), (66, 52, 246, [12, 0]), (0, 0, 0, []), (0, 0, 0, []), (12, 0, 0, []), (1, 0, 0, []), (66, 109, 247, [12, 0]), (0, 0, 0, []), (0, 0, 0, []), (12, 0, 0, []), (1, 0, 0, []), (66, 111, 248, [12, 0]), (0, 0, 0, []), (0, 0, 0, []), (12, 0, 0, []), (1, 0, 0, []), (66, 112, 249, [12, 0]), (0, 0, 0, []), (0, 0, 0, []), (12, 0, 0, []), (1, 0, 0, []), (66, 113, 250, [12, 0]), (0, 0, 0, []), (0, 0, 0, []), (12, 0, 0, []), (85, 321, 334, [1, 0, 22]), (0, 0, 0, []), (0, 0, 0, []), (14, 1, 0, []), (12, 0, 0, []), (64, 5, 240, [12, 0]), (0, 0, 0, []), (0, 0, 0, []), (49, 98, 0, []), (0, 0, 0, []), (0, 0, 0, []), (8, 1, 0, []), (1, 3, 0, []), (57, 98, 0, []), (0, 0, 0, []), (0, 0, 0, []), (12, 0, 0, []), (85, 312, 242, [1, 99, 22]), (0, 0, 0, []), (0, 0, 0, []), (60, 109, 0, []), (0, 0, 0, []), (0, 0, 0, []), (12, 0, 0, []), (64, 5, 240, [12, 0]), (0, 0, 0, []), (0, 0, 0, []), (49, 109, 0, []), (0, 0, 0, []), (0, 0, 0, []), (12, 0, 0, []), (85, 308, 243, [1, 99, 22]), (0, 0, 0, []), (0, 0, 0, []), (12, 0, 0, []), (64, 5, 240, [12, 0]), (0, 0, 0, []), (0, 0, 0, []), (49, 133, 0, []), (0, 0, 0, []), (0, 0, 0, []), (12, 0, 0, []), (85, 193, 225, [1, 0, 22]), (0, 0, 0, []), (0, 0, 0, []), (1, -1, 0, []), (54, 133, 0, []), (0, 0, 0, []), (0, 0, 0, []), (12, 0, 0, []), (1, 1, 0, []), (12, 0, 0, []), (64, 2, 242, [12, 0]), (0, 0, 0, []), (0, 0, 0, []), (85, 190, 229, [3, 99, 22]), (0, 0, 0, []), (0, 0, 0, []), (12, 0, 0, []), (12, 0, 0, []), (64, 5, 240, [12, 0]), (0, 0, 0, []), (0, 0, 0, []), (66, 7, 253, [12, 0]), (0, 0, 0, []), (0, 0, 0, []), (12, 0, 0, []), (12, 0, 0, []), (64, 6, 241, [12, 0]), (0, 0, 0, []), (0, 0, 0, []), (66, 8, 157, [12, 0]), (0, 0, 0, []), (0, 0, 0, []), (12, 0, 0, []), (64, 5, 240, [12, 0]), (0, 0, 0, []), (0, 0, 0, []), (48, 160, 0, []), (0, 0, 0, []), (0, 0, 0, []), (7, -1000000000000000, 605, []), (0, 0, 0, []), (0, 0, 0, []), (92, 0, 0, []), (12, 0, 0, []), (8, 1, 0, []), (1, 2, 0, []), (57, 172, 0, []), (0, 0, 0, []), (0, 0, 0, []), (7, -1, 752, []), (0, 0, 0, []), (0, 0, 0, []), (60, 173, 0, []), (0, 0, 0, []), (0, 0, 0, []), (6, 0, 0, []), (66, 116, 273, [12, 1]), (0, 0, 0, []), (0, 0, 0, []), (12, 0, 0, []), (1, 1, 0, []), (67, 117, 274, [12, 0]), (0, 0, 0, []), (0, 0, 0, []), (1, 0, 0, []), (14, 2, 0, []), (8, 2, 0, []), (12, 0, 0, []), (85, 220, 254, [1, 0, 22]), (0, 0, 0, []), (0, 0, 0, []), (57, 248, 0, []), (0, 0, 0, []), (0, 0, 0, []), (12, 0, 0, []), (8, 2, 0, []), (85, 234, 270, [2, 99, 22]), (0, 0, 0, []), (0, 0, 0, []), (12, 0, 0, []), (12, 0, 0, []), (8, 2, 0, []), (85, 227, 259, [2, 0, 22]), (0, 0, 0, []), (0, 0, 0, []), (48, 209, 0, []), (0, 0, 0, []), (0, 0, 0, []), (6, 1, 0, []), (60, 210, 0, []), (0, 0, 0, []), (0, 0, 0, []), (6, 0, 0, []), (66, 61, 266, [12, 1]), (0, 0, 0, []), (0, 0, 0, []), (12, 0, 0, []), (12, 0, 0, []), (8, 2, 0, []), (85, 226, 257, [2, 0, 22]), (0, 0, 0, []), (0, 0, 0, []), (1, 3, 0, []), (55, 227, 0, []), (0, 0, 0, []), (0, 0, 0, []), (6, 1, 0, []), (60, 228, 0, []), (0, 0, 0, []), (0, 0, 0, []), (6, 0, 0, []), (66, 62, 267, [12, 1]), (0, 0, 0, []), (0, 0, 0, []), (12, 0, 0, []), (8, 1, 0, []), (12, 0, 0, []), (8, 2, 0, []), (85, 320, 335, [2, 1, 22]), (0, 0, 0, []), (0, 0, 0, []), (8, 2, 0, []), (85, 322, 336, [4, 99, 22]), (0, 0, 0, []), (0, 0, 0, []), (20, 2, 1, []), (0, 0, 0, []), (0, 0, 0, []), (60, 183, 0, []), (0, 0, 0, []), (0, 0, 0, []), (12, 0, 0, []), (64, 116, 273, [12, 1]), (0, 0, 0, []), (0, 0, 0, []), (92, 0, 0, [])]
def k324 : List jI := [(3, 223, 0, []), (0, 0, 0, []), (0, 0, 0, []), (14, 2, 0, []), (1, 0, 0, []), (14, 3, 0, []), (8, 3, 0, []), (8, 1, 0, []), (57, 29, 0, []), (0, 0, 0, []), (0, 0, 0, []), (1, 3, 0, []), (8, 2, 0, []), (23, 0, 0, []), (12, 0, 0, []), (8, 3, 0, []), (70, 0, 0, []), (21, 0, 0, []), (3, 251, 0, []), (0, 0, 0, []), (0, 0, 0, []), (25, 0, 0, []), (14, 2, 0, []), (20, 3, 1, []), (0, 0, 0, []), (0, 0, 0, []), (60, 6, 0, []), (0, 0, 0, []), (0, 0, 0, []), (8, 2, 0, []), (91, 0, 0, [])]
def k325 : List jI := [(12, 0, 0, []), (65, 118, 238, [12, 24]), (0, 0, 0, []), (0, 0, 0, []), (12, 0, 0, []), (64, 119, 275, [12, 0]), (0, 0, 0, []), (0, 0, 0, []), (8, 1, 0, []), (75, 0, 0, []), (12, 0, 0, []), (45, 0, 0, []), (64, 119, 275, [12, 0]), (0, 0, 0, []), (0, 0, 0, []), (1, 1, 0, []), (21, 0, 0, []), (66, 119, 275, [12, 0]), (0, 0, 0, []), (0, 0, 0, []), (95, 0, 0, [])]
def k326 : List jI := [(12, 0, 0, []), (8, 1, 0, []), (5, 65536, 770, []), (0, 0, 0, []), (0, 0, 0, []), (24, 0, 0, []), (85, 325, 337, [2, 99, 22]), (0, 0, 0, []), (0, 0, 0, []), (12, 0, 0, []), (8, 1, 0, []), (3, 256, 0, []), (0, 0, 0, []), (0, 0, 0, []), (24, 0, 0, []), (3, 256, 0, []), (0, 0, 0, []), (0, 0, 0, []), (25, 0, 0, []), (85, 325, 337, [2, 99, 22]), (0, 0, 0, []), (0, 0, 0, []), (12, 0, 0, []), (8, 1, 0, []), (3, 256, 0, []), (0, 0, 0, []), (0, 0, 0, []), (25, 0, 0, []), (85, 325, 337, [2, 99, 22]), (0, 0, 0, []), (0, 0, 0, []), (95, 0, 0, [])]
def k327 : List jI := [(12, 0, 0, []), (1, 0, 0, []), (66, 119, 275, [12, 0]), (0, 0, 0, []), (0, 0, 0, []), (12, 0, 0, []), (12, 0, 0, []), (65, 53, 197, [12, 24]), (0, 0, 0, []), (0, 0, 0, []), (1, 0, 0, []), (70, 0, 0, []), (85, 325, 337, [2, 99, 22]), (0, 0, 0, []), (0, 0, 0, []), (12, 0, 0, []), (12, 0, 0, []), (65, 53, 197, [12, 24]), (0, 0, 0, []), (0, 0, 0, []), (1, 1, 0, []), (70, 0, 0, []), (85, 326, 338, [2, 99, 22]), (0, 0, 0, []), (0, 0, 0, []), (12, 0, 0, []), (12, 0, 0, []), (65, 53, 197, [12, 24]), (0, 0, 0, []), (0, 0, 0, []), (1, 2, 0, []), (70, 0, 0, []), (85, 326, 338, [2, 99, 22]), (0, 0, 0, []), (0, 0, 0, []), (1, 0, 0, []), (14, 1, 0, []), (8, 1, 0, []), (12, 0, 0, []), (85, 219, 255, [1, 0, 22]), (0, 0, 0, []), (0, 0, 0, []), (57, 60, 0, []), (0, 0, 0, []), (0, 0, 0, []), (12, 0, 0, []), (12, 0, 0, []), (8, 1, 0, []), (85, 228, 279, [2, 0, 22]), (0, 0, 0, []), (0, 0, 0, []), (85, 325, 337, [2, 99, 22]), (0, 0, 0, []), (0, 0, 0, []), (20, 1, 1, []), (0, 0, 0, []), (0, 0, 0, []), (60, 37, 0, []), (0, 0, 0, []), (0, 0, 0, []), (1, 0, 0, []), (14, 1, 0, []), (8, 1, 0, []), (12, 0, 0, []), (85, 220, 254, [1, 0, 22]), (0, 0, 0, []), (0, 0, 0, []), (57, 85, 0, []), (0, 0, 0, []), (0, 0, 0, []), (12, 0, 0, []), (12, 0, 0, []), (8, 1, 0, []), (85, 226, 257, [2, 0, 22]), (0, 0, 0, []), (0, 0, 0, []), (85, 325, 337, [2, 99, 22]), (0, 0, 0, []), (0, 0, 0, []), (20, 1, 1, []), (0, 0, 0, []), (0, 0, 0, []), (60, 62, 0, []), (0, 0, 0, []), (0, 0, 0, []), (12, 0, 0, []), (12, 0, 0, []), (65, 118, 238, [12, 24]), (0, 0, 0, []), (0, 0, 0, []), (12, 0, 0, []), (64, 119, 275, [12, 0]), (0, 0, 0, []), (0, 0, 0, []), (89, 324, 339, [2, 0]), (0, 0, 0, []), (0, 0, 0, []), (85, 325, 337, [2, 99, 22]), (0, 0, 0, []), (0, 0, 0, []), (12, 0, 0, []), (64, 119, 275, [12, 0]), (0, 0, 0, []), (0, 0, 0, []), (91, 0, 0, [])]
def k328 : List jI := [(8, 1, 0, []), (50, 21, 0, []), (0, 0, 0, []), (0, 0, 0, []), (8, 1, 0, []), (12, 0, 0, []), (64, 119, 275, [12, 0]), (0, 0, 0, []), (0, 0, 0, []), (57, 21, 0, []), (0, 0, 0, []), (0, 0, 0, []), (12, 0, 0, []), (65, 118, 238, [12, 24]), (0, 0, 0, []), (0, 0, 0, []), (8, 1, 0, []), (70, 0, 0, []), (60, 22, 0, []), (0, 0, 0, []), (0, 0, 0, []), (1, -1, 0, []), (91, 0, 0, [])]
def k329 : List jI := [(5, 65536, 770, []), (0, 0, 0, []), (0, 0, 0, []), (12, 0, 0, []), (65, 0, 156, [12, 24]), (0, 0, 0, []), (0, 0, 0, []), (8, 1, 0, []), (70, 0, 0, []), (23, 0, 0, []), (3, 256, 0, []), (0, 0, 0, []), (0, 0, 0, []), (12, 0, 0, []), (65, 0, 156, [12, 24]), (0, 0, 0, []), (0, 0, 0, []), (8, 1, 0, []), (1, 1, 0, []), (21, 0, 0, []), (70, 0, 0, []), (23, 0, 0, []), (21, 0, 0, []), (12, 0, 0, []), (65, 0, 156, [12, 24]), (0, 0, 0, []), (0, 0, 0, []), (8, 1, 0, []), (1, 2, 0, []), (21, 0, 0, []), (70, 0, 0, []), (21, 0, 0, []), (91, 0, 0, [])]
def k330 : List jI := [(12, 0, 0, []), (64, 51, 254, [12, 0]), (0, 0, 0, []), (0, 0, 0, []), (48, 81, 0, []), (0, 0, 0, []), (0, 0, 0, []), (8, 1, 0, []), (2, 8, 0, []), (0, 0, 0, []), (12, 0, 0, []), (85, 219, 255, [1, 0, 22]), (0, 0, 0, []), (0, 0, 0, []), (21, 0, 0, []), (12, 0, 0, []), (85, 220, 254, [1, 0, 22]), (0, 0, 0, []), (0, 0, 0, []), (21, 0, 0, []), (55, 81, 0, []), (0, 0, 0, []), (0, 0, 0, []), (12, 0, 0, []), (65, 0, 156, [12, 24]), (0, 0, 0, []), (0, 0, 0, []), (8, 1, 0, []), (1, 1, 0, []), (22, 0, 0, []), (70, 0, 0, []), (12, 0, 0, []), (65, 0, 156, [12, 24]), (0, 0, 0, []), (0, 0, 0, []), (8, 1, 0, []), (1, 1, 0, []), (22, 0, 0, []), (89, 324, 339, [2, 0]), (0, 0, 0, []), (0, 0, 0, []), (55, 81, 0, []), (0, 0, 0, []), (0, 0, 0, []), (12, 0, 0, []), (65, 0, 156, [12, 24]), (0, 0, 0, []), (0, 0, 0, []), (1, 0, 0, []), (70, 0, 0, []), (12, 0, 0, []), (65, 45, 193, [12, 24]), (0, 0, 0, []), (0, 0, 0, []), (1, 4, 0, []), (70, 0, 0, []), (58, 81, 0, []), (0, 0, 0, []), (0, 0, 0, []), (12, 0, 0, []), (1, 1, 0, []), (85, 329, 340, [2, 0, 22]), (0, 0, 0, []), (0, 0, 0, []), (5, 999999, 784, []), (0, 0, 0, []), (0, 0, 0, []), (58, 81, 0, []), (0, 0, 0, []), (0, 0, 0, []), (12, 0, 0, []), (1, 4, 0, []), (85, 329, 340, [2, 0, 22]), (0, 0, 0, []), (0, 0, 0, []), (5, 999999, 784, []), (0, 0, 0, []), (0, 0, 0, []), (59, 83, 0, []), (0, 0, 0, []), (0, 0, 0, []), (1, 0, 0, []), (94, 0, 0, []), (1, 0, 0, []), (14, 2, 0, []), (8, 2, 0, []), (12, 0, 0, []), (85, 219, 255, [1, 0, 22]), (0, 0, 0, []), (0, 0, 0, []), (57, 115, 0, []), (0, 0, 0, []), (0, 0, 0, []), (12, 0, 0, []), (65, 0, 156, [12, 24]), (0, 0, 0, []), (0, 0, 0, []), (2, 7, 0, []), (0, 0, 0, []), (8, 2, 0, []), (21, 0, 0, []), (70, 0, 0, []), (2, 20, 0, []), (0, 0, 0, []), (59, 109, 0, []), (0, 0, 0, []), (0, 0, 0, []), (1, 0, 0, []), (94, 0, 0, []), (20, 2, 1, []), (0, 0, 0, []), (0, 0, 0, []), (60, 85, 0, []), (0, 0, 0, []), (0, 0, 0, []), (1, 0, 0, []), (14, 2, 0, []), (8, 2, 0, []), (12, 0, 0, []), (85, 220, 254, [1, 0, 22]), (0, 0, 0, []), (0, 0, 0, []), (57, 151, 0, []), (0, 0, 0, []), (0, 0, 0, []), (12, 0, 0, []), (65, 0, 156, [12, 24]), (0, 0, 0, []), (0, 0, 0, []), (2, 7, 0, []), (0, 0, 0, []), (12, 0, 0, []), (85, 219, 255, [1, 0, 22]), (0, 0, 0, []), (0, 0, 0, []), (21, 0, 0, []), (8, 2, 0, []), (21, 0, 0, []), (70, 0, 0, []), (1, 3, 0, []), (59, 145, 0, []), (0, 0, 0, []), (0, 0, 0, []), (1, 0, 0, []), (94, 0, 0, []), (20, 2, 1, []), (0, 0, 0, []), (0, 0, 0, []), (60, 117, 0, []), (0, 0, 0, []), (0, 0, 0, []), (1, 1, 0, []), (94, 0, 0, [])]
def k331 : List jI := [(12, 0, 0, []), (64, 1, 239, [12, 0]), (0, 0, 0, []), (0, 0, 0, []), (14, 1, 0, []), (12, 0, 0, []), (1, 0, 0, []), (66, 1, 239, [12, 0]), (0, 0, 0, []), (0, 0, 0, []), (12, 0, 0, []), (8, 1, 0, []), (85, 330, 341, [2, 0, 22]), (0, 0, 0, []), (0, 0, 0, []), (49, 30, 0, []), (0, 0, 0, []), (0, 0, 0, []), (12, 0, 0, []), (65, 9, 158, [12, 24]), (0, 0, 0, []), (0, 0, 0, []), (1, 5, 0, []), (46, 0, 0, []), (70, 0, 0, []), (1, 1, 0, []), (21, 0, 0, []), (75, 0, 0, []), (1, 0, 0, []), (94, 0, 0, []), (12, 0, 0, []), (65, 53, 197, [12, 24]), (0, 0, 0, []), (0, 0, 0, []), (1, 0, 0, []), (12, 0, 0, []), (65, 0, 156, [12, 24]), (0, 0, 0, []), (0, 0, 0, []), (1, 0, 0, []), (70, 0, 0, []), (75, 0, 0, []), (12, 0, 0, []), (65, 53, 197, [12, 24]), (0, 0, 0, []), (0, 0, 0, []), (1, 1, 0, []), (12, 0, 0, []), (1, 1, 0, []), (85, 329, 340, [2, 0, 22]), (0, 0, 0, []), (0, 0, 0, []), (75, 0, 0, []), (12, 0, 0, []), (65, 53, 197, [12, 24]), (0, 0, 0, []), (0, 0, 0, []), (1, 2, 0, []), (12, 0, 0, []), (1, 4, 0, []), (85, 329, 340, [2, 0, 22]), (0, 0, 0, []), (0, 0, 0, []), (75, 0, 0, []), (1, 0, 0, []), (14, 2, 0, []), (8, 2, 0, []), (12, 0, 0, []), (85, 219, 255, [1, 0, 22]), (0, 0, 0, []), (0, 0, 0, []), (57, 97, 0, []), (0, 0, 0, []), (0, 0, 0, []), (12, 0, 0, []), (65, 53, 197, [12, 24]), (0, 0, 0, []), (0, 0, 0, []), (1, 3, 0, []), (8, 2, 0, []), (21, 0, 0, []), (12, 0, 0, []), (65, 0, 156, [12, 24]), (0, 0, 0, []), (0, 0, 0, []), (2, 7, 0, []), (0, 0, 0, []), (8, 2, 0, []), (21, 0, 0, []), (70, 0, 0, []), (75, 0, 0, []), (20, 2, 1, []), (0, 0, 0, []), (0, 0, 0, []), (60, 66, 0, []), (0, 0, 0, []), (0, 0, 0, []), (1, 0, 0, []), (14, 2, 0, []), (8, 2, 0, []), (12, 0, 0, []), (85, 220, 254, [1, 0, 22]), (0, 0, 0, []), (0, 0, 0, []), (57, 136, 0, []), (0, 0, 0, []), (0, 0, 0, []), (12, 0, 0, []), (65, 53, 197, [12, 24]), (0, 0, 0, []), (0, 0, 0, []), (2, 8, 0, []), (0, 0, 0, []), (8, 2, 0, []), (21, 0, 0, []), (12, 0, 0, []), (65, 0, 156, [12, 24]), (0, 0, 0, []), (0, 0, 0, []), (2, 7, 0, []), (0, 0, 0, []), (12, 0, 0, []), (85, 219, 255, [1, 0, 22]), (0, 0, 0, []), (0, 0, 0, []), (21, 0, 0, []), (8, 2, 0, []), (21, 0, 0, []), (70, 0, 0, []), (75, 0, 0, []), (20, 2, 1, []), (0, 0, 0, []), (0, 0, 0, []), (60, 99, 0, []), (0, 0, 0, []), (0, 0, 0, []), (12, 0, 0, []), (1, 0, 0, []), (66, 78, 255, [12, 0]), (0, 0, 0, []), (0, 0, 0, []), (1, 1, 0, []), (94, 0, 0, [])]
def k332 : List jI := [(8, 1, 0, []), (43, 0, 0, []), (6, 0, 0, []), (7, 5, 545, []), (0, 0, 0, []), (0, 0, 0, []), (89, 187, 232, [3, 0]), (0, 0, 0, []), (0, 0, 0, []), (48, 21, 0, []), (0, 0, 0, []), (0, 0, 0, []), (12, 0, 0, []), (65, 9, 158, [12, 24]), (0, 0, 0, []), (0, 0, 0, []), (8, 1, 0, []), (70, 0, 0, []), (60, 22, 0, []), (0, 0, 0, []), (0, 0, 0, []), (1, -1, 0, []), (91, 0, 0, [])]
def k333 : List jI := [(8, 0, 0, []), (1, -1, 0, []), (32, 0, 0, []), (8, 0, 0, []), (1, 1, 0, []), (22, 0, 0, []), (30, 0, 0, []), (14, 0, 0, []), (8, 0, 0, []), (52, 17, 0, []), (0, 0, 0, []), (0, 0, 0, []), (8, 0, 0, []), (2, 32, 0, []), (0, 0, 0, []), (30, 0, 0, []), (91, 0, 0, []), (1, 1, 0, []), (14, 1, 0, []), (8, 0, 0, []), (5, 65536, 264, []), (0, 0, 0, []), (0, 0, 0, []), (59, 34, 0, []), (0, 0, 0, []), (0, 0, 0, []), (20, 1, 16, []), (0, 0, 0, []), (0, 0, 0, []), (8, 0, 0, []), (2, 16, 0, []), (0, 0, 0, []), (29, 0, 0, []), (14, 0, 0, []), (8, 0, 0, []), (3, 256, 0, []), (0, 0, 0, []), (0, 0, 0, []), (59, 49, 0, []), (0, 0, 0, []), (0, 0, 0, []), (20, 1, 8, []), (0, 0, 0, []), (0, 0, 0, []), (8, 0, 0, []), (2, 8, 0, []), (0, 0, 0, []), (29, 0, 0, []), (14, 0, 0, []), (8, 0, 0, []), (2, 16, 0, []), (0, 0, 0, []), (59, 62, 0, []), (0, 0, 0, []), (0, 0, 0, []), (20, 1, 4, []), (0, 0, 0, []), (0, 0, 0, []), (8, 0, 0, []), (1, 4, 0, []), (29, 0, 0, []), (14, 0, 0, []), (8, 0, 0, []), (1, 4, 0, []), (59, 74, 0, []), (0, 0, 0, []), (0, 0, 0, []), (20, 1, 2, []), (0, 0, 0, []), (0, 0, 0, []), (8, 0, 0, []), (1, 2, 0, []), (29, 0, 0, []), (14, 0, 0, []), (8, 1, 0, []), (8, 0, 0, []), (1, 1, 0, []), (29, 0, 0, []), (21, 0, 0, []), (91, 0, 0, [])]
def k334 : List jI := [(8, 0, 0, []), (8, 0, 0, []), (1, 1, 0, []), (29, 0, 0, []), (5, 1431655765, 265, []), (0, 0, 0, []), (0, 0, 0, []), (30, 0, 0, []), (22, 0, 0, []), (14, 0, 0, []), (8, 0, 0, []), (5, 858993459, 266, []), (0, 0, 0, []), (0, 0, 0, []), (30, 0, 0, []), (8, 0, 0, []), (1, 2, 0, []), (29, 0, 0, []), (5, 858993459, 266, []), (0, 0, 0, []), (0, 0, 0, []), (30, 0, 0, []), (21, 0, 0, []), (14, 0, 0, []), (8, 0, 0, []), (8, 0, 0, []), (1, 4, 0, []), (29, 0, 0, []), (21, 0, 0, []), (5, 252645135, 267, []), (0, 0, 0, []), (0, 0, 0, []), (30, 0, 0, []), (14, 0, 0, []), (8, 0, 0, []), (8, 0, 0, []), (2, 8, 0, []), (0, 0, 0, []), (29, 0, 0, []), (21, 0, 0, []), (14, 0, 0, []), (8, 0, 0, []), (8, 0, 0, []), (2, 16, 0, []), (0, 0, 0, []), (29, 0, 0, []), (21, 0, 0, []), (14, 0, 0, []), (8, 0, 0, []), (2, 63, 0, []), (0, 0, 0, []), (30, 0, 0, []), (91, 0, 0, [])]
def k335 : List jI := [(8, 0, 0, []), (8, 1, 0, []), (24, 0, 0, []), (14, 2, 0, []), (8, 0, 0, []), (8, 1, 0, []), (32, 0, 0, []), (51, 21, 0, []), (0, 0, 0, []), (0, 0, 0, []), (8, 2, 0, []), (8, 1, 0, []), (23, 0, 0, []), (8, 0, 0, []), (54, 21, 0, []), (0, 0, 0, []), (0, 0, 0, []), (8, 2, 0, []), (1, 1, 0, []), (22, 0, 0, []), (91, 0, 0, []), (8, 2, 0, []), (91, 0, 0, [])]
def k336 : List jI := [(8, 0, 0, []), (51, 9, 0, []), (0, 0, 0, []), (0, 0, 0, []), (8, 0, 0, []), (26, 0, 0, []), (60, 10, 0, []), (0, 0, 0, []), (0, 0, 0, []), (8, 0, 0, []), (91, 0, 0, [])]
def k337 : List jI := [(8, 0, 0, []), (8, 1, 0, []), (56, 9, 0, []), (0, 0, 0, []), (0, 0, 0, []), (8, 0, 0, []), (60, 10, 0, []), (0, 0, 0, []), (0, 0, 0, []), (8, 1, 0, []), (91, 0, 0, [])]
def k338 : List jI := [(10, 0, 0, []), (10, 2, 0, []), (42, 0, 0, []), (50, 10, 0, []), (0, 0, 0, []), (0, 0, 0, []), (10, 0, 0, []), (60, 11, 0, []), (0, 0, 0, []), (0, 0, 0, []), (10, 2, 0, []), (92, 0, 0, [])]
def k339 : List jI := [(8, 0, 0, []), (8, 1, 0, []), (58, 9, 0, []), (0, 0, 0, []), (0, 0, 0, []), (8, 0, 0, []), (60, 10, 0, []), (0, 0, 0, []), (0, 0, 0, []), (8, 1, 0, []), (91, 0, 0, [])]
def k340 : List jI := [(10, 0, 0, []), (10, 2, 0, []), (42, 0, 0, []), (52, 10, 0, []), (0, 0, 0, []), (0, 0, 0, []), (10, 0, 0, []), (60, 11, 0, []), (0, 0, 0, []), (0, 0, 0, []), (10, 2, 0, []), (92, 0, 0, [])]
def k341 : List jI := [(1, 0, 0, []), (14, 2, 0, []), (12, 0, 0, []), (80, 0, 0, []), (14, 3, 0, []), (8, 2, 0, []), (8, 3, 0, []), (57, 20, 0, []), (0, 0, 0, []), (0, 0, 0, []), (12, 0, 0, []), (8, 2, 0, []), (8, 1, 0, []), (75, 0, 0, []), (20, 2, 1, []), (0, 0, 0, []), (0, 0, 0, []), (60, 5, 0, []), (0, 0, 0, []), (0, 0, 0, []), (95, 0, 0, [])]
def k342 : List jI := [(81, 11, 7, [19]), (0, 0, 0, []), (0, 0, 0, []), (45, 0, 0, []), (87, 151, 342, [1, 99, 21]), (0, 0, 0, []), (0, 0, 0, []), (18, 1, 0, []), (81, 12, 10, [120]), (0, 0, 0, []), (0, 0, 0, []), (45, 0, 0, []), (87, 186, 343, [1, 99, 22]), (0, 0, 0, []), (0, 0, 0, []), (18, 2, 0, []), (1, 0, 0, []), (14, 3, 0, []), (8, 3, 0, []), (12, 0, 0, []), (102, 0, 0, []), (2, 6, 0, []), (0, 0, 0, []), (22, 0, 0, []), (58, 889, 0, []), (0, 0, 0, []), (0, 0, 0, []), (12, 0, 0, []), (8, 3, 0, []), (101, 0, 0, []), (2, 31, 0, []), (0, 0, 0, []), (30, 0, 0, []), (62, 883, 0, [164, 227, 250, 263, 286, 309, 352, 385, 418, 451, 464, 487, 520, 554, 577, 600, 623, 646, 669, 682, 705, 718, 741, 764, 797, 811, 824, 847, 860]), (0, 0, 0, []), (0, 0, 0, []), (0, 0, 0, []), (0, 0, 0, []), (0, 0, 0, []), (0, 0, 0, []), (0, 0, 0, []), (0, 0, 0, []), (0, 0, 0, []), (0, 0, 0, []), (0, 0, 0, []), (0, 0, 0, []), (0, 0, 0, []), (0, 0, 0, []), (0, 0, 0, []), (0, 0, 0, []), (0, 0, 0, []), (0, 0, 0, []), (0, 0, 0, []), (0, 0, 0, []), (0, 0, 0, []), (0, 0, 0, []), (0, 0, 0, []), (0, 0, 0, []), (0, 0, 0, []), (0, 0, 0, []), (0, 0, 0, []), (0, 0, 0, []), (0, 0, 0, []), (0, 0, 0, []), (0, 0, 0, []), (0, 0, 0, []), (0, 0, 0, []), (0, 0, 0, []), (0, 0, 0, []), (0, 0, 0, []), (0, 0, 0, []), (0, 0, 0, []), (0, 0, 0, []), (0, 0, 0, []), (0, 0, 0, []), (0, 0, 0, []), (0, 0, 0, []), (0, 0, 0, []), (0, 0, 0, []), (0, 0, 0, []), (0, 0, 0, []), (0, 0, 0, []), (0, 0, 0, []), (0, 0, 0, []), (0, 0, 0, []), (0, 0, 0, []), (0, 0, 0, []), (0, 0, 0, []), (0, 0, 0, []), (0, 0, 0, []), (0, 0, 0, []), (0, 0, 0, []), (0, 0, 0, []), (0, 0, 0, []), (0, 0, 0, []), (0, 0, 0, []), (0, 0, 0, []), (0, 0, 0, []), (0, 0, 0, []), (0, 0, 0, []), (0, 0, 0, []), (0, 0, 0, []), (0, 0, 0, []), (0, 0, 0, []), (0, 0, 0, []), (0, 0, 0, []), (0, 0, 0, []), (0, 0, 0, []), (0, 0, 0, []), (0, 0, 0, []), (0, 0, 0, []), (0, 0, 0, []), (0, 0, 0, []), (0, 0, 0, []), (0, 0, 0, []), (0, 0, 0, []), (0, 0, 0, []), (0, 0, 0, []), (0, 0, 0, []), (0, 0, 0, []), (0, 0, 0, []), (0, 0, 0, []), (0, 0, 0, []), (0, 0, 0, []), (0, 0, 0, []), (0, 0, 0, []), (0, 0, 0, []), (0, 0, 0, []), (0, 0, 0, []), (0, 0, 0, []), (0, 0, 0, []), (0, 0, 0, []), (0, 0, 0, []), (0, 0, 0, []), (0, 0, 0, []), (0, 0, 0, []), (0, 0, 0, []), (0, 0, 0, []), (0, 0, 0, []), (0, 0, 0, []), (0, 0, 0, []), (0, 0, 0, []), (0, 0, 0, []), (0, 0, 0, []), (0, 0, 0, []), (0, 0, 0, []), (0, 0, 0, []), (0, 0, 0, []), (0, 0, 0, []), (0, 0, 0, []), (0, 0, 0, []), (0, 0, 0, []), (0, 0, 0, []), (0, 0, 0, []), (0, 0, 0, []), (0, 0, 0, []), (0, 0, 0, []), (0, 0, 0, []), (0, 0, 0, []), (0, 0, 0, []), (0, 0, 0, []), (0, 0, 0, []), (0, 0, 0, []), (0, 0, 0, []), (12, 1, 0, []), (12, 0, 0, []), (8, 3, 0, []), (1, 1, 0, []), (21, 0, 0, []), (101, 0, 0, []), (12, 0, 0, []), (8, 3, 0, []), (1, 2, 0, []), (21, 0, 0, []), (101, 0, 0, []), (12, 0, 0, []), (8, 3, 0, []), (1, 3, 0, []), (21, 0, 0, []), (101, 0, 0, []), (12, 0, 0, []), (8, 3, 0, []), (1, 4, 0, []), (21, 0, 0, []), (101, 0, 0, []), (12, 0, 0, []), (8, 3, 0, []), (1, 5, 0, []), (21, 0, 0, []), (101, 0, 0, []), (85, 152, 344, [6, 0, 21]), (0, 0, 0, []), (0, 0, 0, []), (12, 2, 0, []), (12, 0, 0, []), (8, 3, 0, []), (1, 1, 0, []), (21, 0, 0, []), (101, 0, 0, []), (12, 0, 0, []), (8, 3, 0, []), (1, 2, 0, []), (21, 0, 0, []), (101, 0, 0, []), (12, 0, 0, []), (8, 3, 0, []), (1, 3, 0, []), (21, 0, 0, []), (101, 0, 0, []), (12, 0, 0, []), (8, 3, 0, []), (1, 4, 0, []), (21, 0, 0, []), (101, 0, 0, []), (12, 0, 0, []), (8, 3, 0, []), (1, 5, 0, []), (21, 0, 0, []), (101, 0, 0, []), (85, 188, 345, [6, 0, 22]), (0, 0, 0, []), (0, 0, 0, []), (54, 883, 0, []), (0, 0, 0, []), (0, 0, 0, []), (1, 0, 0, []), (94, 0, 0, []), (12, 1, 0, []), (12, 0, 0, []), (8, 3, 0, []), (1, 1, 0, []), (21, 0, 0, []), (101, 0, 0, []), (85, 153, 346, [2, 0, 21]), (0, 0, 0, []), (0, 0, 0, []), (12, 2, 0, []), (12, 0, 0, []), (8, 3, 0, []), (1, 1, 0, []), (21, 0, 0, []), (101, 0, 0, []), (85, 189, 347, [2, 0, 22]), (0, 0, 0, []), (0, 0, 0, []), (54, 883, 0, []), (0, 0, 0, []), (0, 0, 0, []), (1, 0, 0, []), (94, 0, 0, []), (12, 1, 0, []), (85, 154, 348, [1, 0, 21]), (0, 0, 0, []), (0, 0, 0, []), (12, 2, 0, []), (85, 214, 349, [1, 0, 22]), (0, 0, 0, []), (0, 0, 0, []), (54, 883, 0, []), (0, 0, 0, []), (0, 0, 0, []), (1, 0, 0, []), (94, 0, 0, []), (12, 1, 0, []), (12, 0, 0, []), (8, 3, 0, []), (1, 1, 0, []), (21, 0, 0, []), (101, 0, 0, []), (85, 155, 350, [2, 0, 21]), (0, 0, 0, []), (0, 0, 0, []), (12, 2, 0, []), (12, 0, 0, []), (8, 3, 0, []), (1, 1, 0, []), (21, 0, 0, []), (101, 0, 0, []), (85, 216, 351, [2, 0, 22]), (0, 0, 0, []), (0, 0, 0, []), (54, 883, 0, []), (0, 0, 0, []), (0, 0, 0, []), (1, 0, 0, []), (94, 0, 0, []), (12, 1, 0, []), (12, 0, 0, []), (8, 3, 0, []), (1, 1, 0, []), (21, 0, 0, []), (101, 0, 0, []), (85, 156, 352, [2, 0, 21]), (0, 0, 0, []), (0, 0, 0, []), (12, 2, 0, []), (12, 0, 0, []), (8, 3, 0, []), (1, 1, 0, []), (21, 0, 0, []), (101, 0, 0, []), (85, 250, 353, [2, 0, 22]), (0, 0, 0, []), (0, 0, 0, []), (54, 883, 0, []), (0, 0, 0, []), (0, 0, 0, []), (1, 0, 0, []), (94, 0, 0, []), (12, 1, 0, []), (12, 0, 0, []), (8, 3, 0, []), (1, 1, 0, []), (21, 0, 0, []), (101, 0, 0, []), (12, 0, 0, []), (8, 3, 0, []), (1, 2, 0, []), (21, 0, 0, []), (101, 0, 0, []), (12, 0, 0, []), (8, 3, 0, []), (1, 3, 0, []), (21, 0, 0, []), (101, 0, 0, []), (85, 157, 354, [4, 0, 21]), (0, 0, 0, []), (0, 0, 0, []), (12, 2, 0, []), (12, 0, 0, []), (8, 3, 0, []), (1, 1, 0, []), (21, 0, 0, []), (101, 0, 0, []), (12, 0, 0, []), (8, 3, 0, []), (1, 2, 0, []), (21, 0, 0, []), (101, 0, 0, []), (12, 0, 0, []), (8, 3, 0, []), (1, 3, 0, []), (21, 0, 0, []), (101, 0, 0, []), (85, 251, 355, [4, 0, 22]), (0, 0, 0, []), (0, 0, 0, []), (54, 883, 0, []), (0, 0, 0, []), (0, 0, 0, []), (1, 0, 0, []), (94, 0, 0, []), (12, 1, 0, []), (12, 0, 0, []), (8, 3, 0, []), (1, 1, 0, []), (21, 0, 0, []), (101, 0, 0, []), (12, 0, 0, []), (8, 3, 0, []), (1, 2, 0, []), (21, 0, 0, []), (101, 0, 0, []), (85, 158, 356, [3, 0, 21]), (0, 0, 0, []), (0, 0, 0, []), (12, 2, 0, []), (12, 0, 0, []), (8, 3, 0, []), (1, 1, 0, []), (21, 0, 0, []), (101, 0, 0, []), (12, 0, 0, []), (8, 3, 0, []), (1, 2, 0, []), (21, 0, 0, []), (101, 0, 0, []), (85, 253, 357, [3, 0, 22]), (0, 0, 0, []), (0, 0, 0, []), (54, 883, 0, []), (0, 0, 0, []), (0, 0, 0, []), (1, 0, 0, []), (94, 0, 0, []), (12, 1, 0, []), (12, 0, 0, []), (8, 3, 0, []), (1, 1, 0, []), (21, 0, 0, []), (101, 0, 0, []), (12, 0, 0, []), (8, 3, 0, []), (1, 2, 0, []), (21, 0, 0, []), (101, 0, 0, []), (85, 159, 358, [3, 0, 21]), (0, 0, 0, []), (0, 0, 0, []), (12, 2, 0, []), (12, 0, 0, []), (8, 3, 0, []), (1, 1, 0, []), (21, 0, 0, []), (101, 0, 0, []), (12, 0, 0, []), (8, 3, 0, []), (1, 2, 0, []), (21, 0, 0, []), (101, 0, 0, []), (85, 254, 359, [3, 0, 22]), (0, 0, 0, []), (0, 0, 0, []), (54, 883, 0, []), (0, 0, 0, []), (0, 0, 0, []), (1, 0, 0, []), (94, 0, 0, []), (12, 1, 0, []), (12, 0, 0, []), (8, 3, 0, []), (1, 1, 0, []), (21, 0, 0, []), (101, 0, 0, []), (12, 0, 0, []), (8, 3, 0, []), (1, 2, 0, []), (21, 0, 0, []), (101, 0, 0, []), (85, 160, 360, [3, 0, 21]), (0, 0, 0, []), (0, 0, 0, []), (12, 2, 0, []), (12, 0, 0, []), (8, 3, 0, []), (1, 1, 0, []), (21, 0, 0, []), (101, 0, 0, []), (12, 0, 0, []), (8, 3, 0, []), (1, 2, 0, []), (21, 0, 0, []), (101, 0, 0, []), (85, 256, 361, [3, 0, 22]), (0, 0, 0, []), (0, 0, 0, []), (54, 883, 0, []), (0, 0, 0, []), (0, 0, 0, []), (1, 0, 0, []), (94, 0, 0, []), (12, 1, 0, []), (85, 161, 362, [1, 0, 21]), (0, 0, 0, []), (0, 0, 0, []), (12, 2, 0, []), (85, 259, 363, [1, 0, 22]), (0, 0, 0, []), (0, 0, 0, []), (54, 883, 0, []), (0, 0, 0, []), (0, 0, 0, []), (1, 0, 0, []), (94, 0, 0, []), (12, 1, 0, []), (12, 0, 0, []), (8, 3, 0, []), (1, 1, 0, []), (21, 0, 0, []), (101, 0, 0, []), (85, 162, 364, [2, 0, 21]), (0, 0, 0, []), (0, 0, 0, []), (12, 2, 0, []), (12, 0, 0, []), (8, 3, 0, []), (1, 1, 0, []), (21, 0, 0, []), (101, 0, 0, []), (85, 260, 365, [2, 0, 22]), (0, 0, 0, []), (0, 0, 0, []), (54, 883, 0, []), (0, 0, 0, []), (0, 0, 0, []), (1, 0, 0, []), (94, 0, 0, []), (12, 1, 0, []), (12, 0, 0, []), (8, 3, 0, []), (1, 1, 0, []), (21, 0, 0, []), (101, 0, 0, []), (12, 0, 0, []), (8, 3, 0, []), (1, 2, 0, []), (21, 0, 0, []), (101, 0, 0, []), (85, 163, 366, [3, 0, 21]), (0, 0, 0, []), (0, 0, 0, []), (12, 2, 0, []), (12, 0, 0, []), (8, 3, 0, []), (1, 1, 0, []), (21, 0, 0, []), (101, 0, 0, []), (12, 0, 0, []), (8, 3, 0, []), (1, 2, 0, []), (21, 0, 0, []), (101, 0, 0, []), (85, 265, 367, [3, 0, 22]), (0, 0, 0, []), (0, 0, 0, []), (54, 883, 0, []), (0, 0, 0, []), (0, 0, 0, []), (1, 0, 0, []), (94, 0, 0, []), (12, 1, 0, []), (12, 0, 0, []), (8, 3, 0, []), (1, 1, 0, []), (21, 0, 0, []), (101, 0, 0, []), (12, 0, 0, []), (8, 3, 0, []), (1, 2, 0, []), (21, 0, 0, []), (101, 0, 0, []), (85, 164, 368, [3, 1, 21]), (0, 0, 0, []), (0, 0, 0, []), (12, 2, 0, []), (12, 0, 0, []), (8, 3, 0, []), (1, 1, 0, []), (21, 0, 0, []), (101, 0, 0, []), (12, 0, 0, []), (8, 3, 0, []), (1, 2, 0, []), (21, 0, 0, []), (101, 0, 0, []), (85, 269, 369, [3, 1, 22]), (0, 0, 0, []), (0, 0, 0, []), (42, 0, 0, []), (48, 883, 0, []), (0, 0, 0, []), (0, 0, 0, []), (1, 0, 0, []), (94, 0, 0, []), (12, 1, 0, []), (12, 0, 0, []), (8, 3, 0, []), (1, 1, 0, []), (21, 0, 0, []), (101, 0, 0, []), (85, 165, 370, [2, 0, 21]), (0, 0, 0, []), (0, 0, 0, []), (12, 2, 0, []), (12, 0, 0, []), (8, 3, 0, []), (1, 1, 0, []), (21, 0, 0, []), (101, 0, 0, []), (85, 272, 371, [2, 0, 22]), (0, 0, 0, []), (0, 0, 0, []), (54, 883, 0, []), (0, 0, 0, []), (0, 0, 0, []), (1, 0, 0, []), (94, 0, 0, []), (12, 1, 0, []), (12, 0, 0, []), (8, 3, 0, []), (1, 1, 0, []), (21, 0, 0, []), (101, 0, 0, []), (85, 166, 372, [2, 0, 21]), (0, 0, 0, []), (0, 0, 0, []), (12, 2, 0, []), (12, 0, 0, []), (8, 3, 0, []), (1, 1, 0, []), (21, 0, 0, []), (101, 0, 0, []), (85, 276, 373, [2, 0, 22]), (0, 0, 0, []), (0, 0, 0, []), (54, 883, 0, []), (0, 0, 0, []), (0, 0, 0, []), (1, 0, 0, []), (94, 0, 0, []), (12, 1, 0, []), (12, 0, 0, []), (8, 3, 0, []), (1, 1, 0, []), (21, 0, 0, []), (101, 0, 0, []), (85, 167, 374, [2, 0, 21]), (0, 0, 0, []), (0, 0, 0, []), (12, 2, 0, []), (12, 0, 0, []), (8, 3, 0, []), (1, 1, 0, []), (21, 0, 0, []), (101, 0, 0, []), (85, 277, 375, [2, 0, 22]), (0, 0, 0, []), (0, 0, 0, []), (54, 883, 0, []), (0, 0, 0, []), (0, 0, 0, []), (1, 0, 0, []), (94, 0, 0, []), (12, 1, 0, []), (12, 0, 0, []), (8, 3, 0, []), (1, 1, 0, []), (21, 0, 0, []), (101, 0, 0, []), (85, 168, 376, [2, 0, 21]), (0, 0, 0, []), (0, 0, 0, []), (12, 2, 0, []), (12, 0, 0, []), (8, 3, 0, []), (1, 1, 0, []), (21, 0, 0, []), (101, 0, 0, []), (85, 278, 377, [2, 0, 22]), (0, 0, 0, []), (0, 0, 0, []), (54, 883, 0, []), (0, 0, 0, []), (0, 0, 0, []), (1, 0, 0, []), (94, 0, 0, []), (12, 1, 0, []), (12, 0, 0, []), (8, 3, 0, []), (1, 1, 0, []), (21, 0, 0, []), (101, 0, 0, []), (85, 169, 378, [2, 0, 21]), (0, 0, 0, []), (0, 0, 0, []), (12, 2, 0, []), (12, 0, 0, []), (8, 3, 0, []), (1, 1, 0, []), (21, 0, 0, []), (101, 0, 0, []), (85, 283, 379, [2, 0, 22]), (0, 0, 0, []), (0, 0, 0, []), (54, 883, 0, []), (0, 0, 0, []), (0, 0, 0, []), (1, 0, 0, []), (94, 0, 0, []), (12, 1, 0, []), (85, 170, 380, [1, 0, 21]), (0, 0, 0, []), (0, 0, 0, []), (12, 2, 0, []), (85, 274, 381, [1, 0, 22]), (0, 0, 0, []), (0, 0, 0, []), (54, 883, 0, []), (0, 0, 0, []), (0, 0, 0, []), (1, 0, 0, []), (94, 0, 0, []), (12, 1, 0, []), (12, 0, 0, []), (8, 3, 0, []), (1, 1, 0, []), (21, 0, 0, []), (101, 0, 0, []), (85, 171, 382, [2, 0, 21]), (0, 0, 0, []), (0, 0, 0, []), (12, 2, 0, []), (12, 0, 0, []), (8, 3, 0, []), (1, 1, 0, []), (21, 0, 0, []), (101, 0, 0, []), (85, 279, 383, [2, 0, 22]), (0, 0, 0, []), (0, 0, 0, []), (54, 883, 0, []), (0, 0, 0, []), (0, 0, 0, []), (1, 0, 0, []), (94, 0, 0, []), (12, 1, 0, []), (85, 172, 384, [1, 0, 21]), (0, 0, 0, []), (0, 0, 0, []), (12, 2, 0, []), (85, 284, 385, [1, 0, 22]), (0, 0, 0, []), (0, 0, 0, []), (54, 883, 0, []), (0, 0, 0, []), (0, 0, 0, []), (1, 0, 0, []), (94, 0, 0, []), (12, 1, 0, []), (12, 0, 0, []), (8, 3, 0, []), (1, 1, 0, []), (21, 0, 0, []), (101, 0, 0, []), (85, 173, 386, [2, 0, 21]), (0, 0, 0, []), (0, 0, 0, []), (12, 2, 0, []), (12, 0, 0, []), (8, 3, 0, []), (1, 1, 0, []), (21, 0, 0, []), (101, 0, 0, []), (85, 288, 387, [2, 0, 22]), (0, 0, 0, []), (0, 0, 0, []), (54, 883, 0, []), (0, 0, 0, []), (0, 0, 0, []), (1, 0, 0, []), (94, 0, 0, []), (12, 1, 0, []), (12, 0, 0, []), (8, 3, 0, []), (1, 1, 0, []), (21, 0, 0, []), (101, 0, 0, []), (85, 174, 388, [2, 0, 21]), (0, 0, 0, []), (0, 0, 0, []), (12, 2, 0, []), (12, 0, 0, []), (8, 3, 0, []), (1, 1, 0, []), (21, 0, 0, []), (101, 0, 0, []), (85, 290, 389, [2, 0, 22]), (0, 0, 0, []), (0, 0, 0, []), (54, 883, 0, []), (0, 0, 0, []), (0, 0, 0, []), (1, 0, 0, []), (94, 0, 0, []), (12, 1, 0, []), (12, 0, 0, []), (8, 3, 0, []), (1, 1, 0, []), (21, 0, 0, []), (101, 0, 0, []), (12, 0, 0, []), (8, 3, 0, []), (1, 2, 0, []), (21, 0, 0, []), (101, 0, 0, []), (85, 175, 390, [3, 0, 21]), (0, 0, 0, []), (0, 0, 0, []), (12, 2, 0, []), (12, 0, 0, []), (8, 3, 0, []), (1, 1, 0, []), (21, 0, 0, []), (101, 0, 0, []), (12, 0, 0, []), (8, 3, 0, []), (1, 2, 0, []), (21, 0, 0, []), (101, 0, 0, []), (85, 294, 391, [3, 0, 22]), (0, 0, 0, []), (0, 0, 0, []), (54, 883, 0, []), (0, 0, 0, []), (0, 0, 0, []), (1, 0, 0, []), (94, 0, 0, []), (12, 1, 0, []), (85, 176, 392, [1, 1, 21]), (0, 0, 0, []), (0, 0, 0, []), (12, 2, 0, []), (85, 323, 393, [1, 1, 22]), (0, 0, 0, []), (0, 0, 0, []), (42, 0, 0, []), (48, 883, 0, []), (0, 0, 0, []), (0, 0, 0, []), (1, 0, 0, []), (94, 0, 0, []), (12, 1, 0, []), (85, 177, 394, [1, 0, 21]), (0, 0, 0, []), (0, 0, 0, []), (12, 2, 0, []), (85, 327, 395, [1, 0, 22]), (0, 0, 0, []), (0, 0, 0, []), (54, 883, 0, []), (0, 0, 0, []), (0, 0, 0, []), (1, 0, 0, []), (94, 0, 0, []), (12, 1, 0, []), (12, 0, 0, []), (8, 3, 0, []), (1, 1, 0, []), (21, 0, 0, []), (101, 0, 0, []), (85, 178, 396, [2, 0, 21]), (0, 0, 0, []), (0, 0, 0, []), (12, 2, 0, []), (12, 0, 0, []), (8, 3, 0, []), (1, 1, 0, []), (21, 0, 0, []), (101, 0, 0, []), (85, 328, 397, [2, 0, 22]), (0, 0, 0, []), (0, 0, 0, []), (54, 883, 0, []), (0, 0, 0, []), (0, 0, 0, []), (1, 0, 0, []), (94, 0, 0, []), (12, 1, 0, []), (85, 179, 398, [1, 0, 21]), (0, 0, 0, []), (0, 0, 0, []), (12, 2, 0, []), (85, 331, 399, [1, 0, 22]), (0, 0, 0, []), (0, 0, 0, []), (54, 883, 0, []), (0, 0, 0, []), (0, 0, 0, []), (1, 0, 0, []), (94, 0, 0, []), (12, 1, 0, []), (12, 0, 0, []), (8, 3, 0, []), (1, 1, 0, []), (21, 0, 0, []), (101, 0, 0, []), (85, 180, 400, [2, 0, 21]), (0, 0, 0, []), (0, 0, 0, []), (12, 2, 0, []), (12, 0, 0, []), (8, 3, 0, []), (1, 1, 0, []), (21, 0, 0, []), (101, 0, 0, []), (85, 332, 401, [2, 0, 22]), (0, 0, 0, []), (0, 0, 0, []), (54, 883, 0, []), (0, 0, 0, []), (0, 0, 0, []), (1, 0, 0, []), (94, 0, 0, []), (20, 3, 6, []), (0, 0, 0, []), (0, 0, 0, []), (60, 18, 0, []), (0, 0, 0, []), (0, 0, 0, []), (1, 1, 0, []), (94, 0, 0, [])]
/-- the methods: name, code, locals, what it answers, its class -/
def jyy : List (MethodName × ByteArray × Nat × Option FieldType × Nat) := [(yX0_init, cX0_init, 2, none, 0), (yX0_forget, cX0_forget, 1, none, 0), (yX0_readRows, cX0_readRows, 4, (some .int), 0), (yX0_shifted, cX0_shifted, 6, (some .int), 0), (yX0_isFit, cX0_isFit, 3, (some .boolean), 0), (yX0_fitBits, cX0_fitBits, 3, (some .int), 0), (yX0_firstFit, cX0_firstFit, 2, (some .int), 0), (yX0_nextCell, cX0_nextCell, 6, (some .int), 0), (yX0_mostAlike, cX0_mostAlike, 2, (some .int), 0), (yX0_countAlike, cX0_countAlike, 6, (some .int), 0), (yX1_init, cX1_init, 1, none, 1), (yX1_start, cX1_start, 2, none, 1), (yX1_copyFrom, cX1_copyFrom, 2, none, 1), (yX1_is, cX1_is, 3, (some .boolean), 1), (yX1_isOpen, cX1_isOpen, 2, (some .boolean), 1), (yX1_tally, cX1_tally, 4, (some .int), 1), (yX1_tubs, cX1_tubs, 2, (some .int), 1), (yX1_tubsInAll, cX1_tubsInAll, 3, (some .int), 1), (yX1_write, cX1_write, 4, none, 1), (yX1_isImage, cX1_isImage, 5, (some .boolean), 1), (yX1_read, cX1_read, 4, none, 1), (yX2_init, cX2_init, 2, none, 2), (yX2_size, cX2_size, 1, (some .int), 2), (yX2_forget, cX2_forget, 1, none, 2), (yX2_keep, cX2_keep, 2, none, 2), (yX2_giveBack, cX2_giveBack, 2, (some .boolean), 2), (yX3_init, cX3_init, 3, none, 3), (yX3_look, cX3_look, 3, none, 3), (yX3_reach, cX3_reach, 2, none, 3), (yX3_isReached, cX3_isReached, 2, (some .boolean), 3), (yX3_why, cX3_why, 3, (some .int), 3), (yX3_isBesideReached, cX3_isBesideReached, 3, (some .boolean), 3), (yX3_countCuttable, cX3_countCuttable, 3, (some .int), 3), (yX3_cuttable, cX3_cuttable, 4, (some .int), 3), (yX3_countOfKind, cX3_countOfKind, 5, (some .int), 3), (yX3_near, cX3_near, 4, (some .int), 3), (yX3_spanStart, cX3_spanStart, 4, (some .int), 3), (yX3_spanEnd, cX3_spanEnd, 4, (some .int), 3), (yX3_span, cX3_span, 2, (some .int), 3), (yX3_wouldFall, cX3_wouldFall, 2, (some .boolean), 3), (yX3_price, cX3_price, 3, (some .int), 3), (yX3_dig, cX3_dig, 7, none, 3), (yX3_blast, cX3_blast, 6, none, 3), (yX3_fell, cX3_fell, 2, none, 3), (yX3_tiltOf, cX3_tiltOf, 4, (some .int), 3), (yX3_loadCell, cX3_loadCell, 2, none, 3), (yX3_loadHouse, cX3_loadHouse, 4, none, 3), (yX3_value, cX3_value, 7, (some .int), 3), (yX3_factAt, cX3_factAt, 2, (some .int), 3), (yX3_join, cX3_join, 5, (some .int), 3), (yX4_init, cX4_init, 1, none, 4), (yX4_clear, cX4_clear, 1, none, 4), (yX4_copyFrom, cX4_copyFrom, 2, none, 4), (yX4_copyRow, cX4_copyRow, 2, none, 4), (yX4_isTold, cX4_isTold, 1, (some .boolean), 4), (yX4_layOut, cX4_layOut, 3, none, 4), (yX4_isCell, cX4_isCell, 2, (some .boolean), 4), (yX4_columnOf, cX4_columnOf, 2, (some .int), 4), (yX4_rowOf, cX4_rowOf, 2, (some .int), 4), (yX4_toldAt, cX4_toldAt, 4, (some .int), 4), (yX4_kindOf, cX4_kindOf, 2, (some .int), 4), (yX4_restOf, cX4_restOf, 3, (some .int), 4), (yX4_gasOf, cX4_gasOf, 3, (some .int), 4), (yX4_beside, cX4_beside, 3, (some .int), 4), (yX4_findName, cX4_findName, 5, (some .int), 4), (yX4_isName, cX4_isName, 5, (some .boolean), 4), (yX5_init, cX5_init, 3, none, 5), (yX5_readPlan, cX5_readPlan, 3, (some .boolean), 5), (yX5_readStatement, cX5_readStatement, 2, (some .boolean), 5), (yX5_readPit, cX5_readPit, 3, (some .boolean), 5), (yX5_readKind, cX5_readKind, 3, (some .boolean), 5), (yX5_giveName, cX5_giveName, 5, (some .boolean), 5), (yX5_readRow, cX5_readRow, 4, (some .boolean), 5), (yX5_toldBy, cX5_toldBy, 3, (some .int), 5), (yX5_readHouse, cX5_readHouse, 2, (some .boolean), 5), (yX5_readMix, cX5_readMix, 3, (some .boolean), 5), (yX5_kindHere, cX5_kindHere, 3, (some .int), 5), (yX5_beginRule, cX5_beginRule, 2, (some .boolean), 5), (yX5_readSetting, cX5_readSetting, 5, (some .boolean), 5), (yX6_init, cX6_init, 2, none, 6), (yX6_readQuestion, cX6_readQuestion, 4, (some .boolean), 6), (yX6_isOfTest, cX6_isOfTest, 1, (some .boolean), 6), (yX6_answer, cX6_answer, 7, (some .long), 6), (yX6_goOn, cX6_goOn, 5, (some .long), 6), (yX7_init, cX7_init, 1, none, 7), (yX7_begin, cX7_begin, 3, none, 7), (yX7_fail, cX7_fail, 3, (some .boolean), 7), (yX7_failHere, cX7_failHere, 2, (some .boolean), 7), (yX7_sortOf, cX7_sortOf, 1, (some .int), 7), (yX7_isBlank, cX7_isBlank, 1, (some .boolean), 7), (yX7_step, cX7_step, 5, none, 7), (yX7_isEnd, cX7_isEnd, 1, (some .boolean), 7), (yX7_isMark, cX7_isMark, 2, (some .boolean), 7), (yX7_wordHere, cX7_wordHere, 5, (some .int), 7), (yX7_takeMark, cX7_takeMark, 2, (some .boolean), 7), (yX7_takeWord, cX7_takeWord, 2, (some .boolean), 7), (yX7_takeNumber, cX7_takeNumber, 4, (some .int), 7), (yX7_numberHere, cX7_numberHere, 3, (some .int), 7), (yX7_nameHere, cX7_nameHere, 3, (some (Jvm.ClassFile.FieldType.array Jvm.ClassFile.FieldType.int)), 7), (yX7_lettersHere, cX7_lettersHere, 1, (some .int), 7), (yX7_letterHere, cX7_letterHere, 2, (some .int), 7), (yX7_codeSize, cX7_codeSize, 1, (some .int), 7), (yX7_emit, cX7_emit, 2, none, 7), (yX7_beginFormula, cX7_beginFormula, 2, none, 7), (yX7_endFormula, cX7_endFormula, 1, (some .boolean), 7), (yX7_openOne, cX7_openOne, 1, (some .boolean), 7), (yX7_closeOne, cX7_closeOne, 1, (some .boolean), 7), (yX7_readTest, cX7_readTest, 3, (some .boolean), 7), (yX7_readBoth, cX7_readBoth, 3, (some .boolean), 7), (yX7_readFact, cX7_readFact, 4, (some .boolean), 7), (yX7_signHere, cX7_signHere, 1, (some .int), 7), (yX7_readNot, cX7_readNot, 1, (some .boolean), 7), (yX7_readSum, cX7_readSum, 4, (some .boolean), 7), (yX7_readProduct, cX7_readProduct, 4, (some .boolean), 7), (yX7_readPart, cX7_readPart, 3, (some .boolean), 7), (yX7_readChoice, cX7_readChoice, 2, (some .boolean), 7), (yX7_readTubs, cX7_readTubs, 1, (some .boolean), 7), (yX7_factFor, cX7_factFor, 3, (some .int), 7), (yX7_houseFact, cX7_houseFact, 1, (some .int), 7), (yX7_cellFact, cX7_cellFact, 1, (some .int), 7), (yX7_questionFact, cX7_questionFact, 1, (some .int), 7), (yX8_init, cX8_init, 4, none, 8), (yX8_forget, cX8_forget, 1, none, 8), (yX8_judgeOrder, cX8_judgeOrder, 9, (some .int), 8), (yX8_isOrder, cX8_isOrder, 3, (some .boolean), 8), (yX8_tellBest, cX8_tellBest, 3, (some .int), 8), (yX8_tryAll, cX8_tryAll, 7, none, 8), (yX8_keepIfBetter, cX8_keepIfBetter, 3, none, 8), (yX8_digBelow, cX8_digBelow, 4, none, 8), (yX8_tellRivals, cX8_tellRivals, 3, (some .int), 8), (yX8_duel, cX8_duel, 9, (some .int), 8), (yX8_keepLine, cX8_keepLine, 3, none, 8), (yX9_init, cX9_init, 3, none, 9), (yX9_kinds, cX9_kinds, 1, (some .int), 9), (yX9_share, cX9_share, 2, (some .int), 9), (yX9_storeOf, cX9_storeOf, 2, (some .int), 9), (yX9_place, cX9_place, 5, (some .boolean), 9), (yX9_isFree, cX9_isFree, 4, (some .boolean), 9), (yX9_countSets, cX9_countSets, 3, (some .int), 9), (yX9_fewestOf, cX9_fewestOf, 2, (some .int), 9), (yX9_take, cX9_take, 7, none, 9), (yX9_keepSet, cX9_keepSet, 2, none, 9), (yX10_init, cX10_init, 2, none, 10), (yX10_length, cX10_length, 1, (some .int), 10), (yX10_at, cX10_at, 2, (some .int), 10), (yX10_shorten, cX10_shorten, 2, none, 10), (yX10_add, cX10_add, 2, none, 10), (yX10_addThree, cX10_addThree, 2, none, 10), (yX10_addFour, cX10_addFour, 2, none, 10), (yX10_threeAt, cX10_threeAt, 2, (some .int), 10), (yX10_guard, cX10_guard, 4, (some .int), 10), (yX11_init, cX11_init, 5, none, 11), (yX11_feed, cX11_feed, 6, (some .int), 11), (yX11_end, cX11_end, 2, (some .boolean), 11), (yX11_pit, cX11_pit, 2, (some .int), 11), (yX11_fault, cX11_fault, 2, (some .int), 11), (yX11_has, cX11_has, 2, (some .int), 11), (yX11_letter, cX11_letter, 4, (some .int), 11), (yX11_kind, cX11_kind, 3, (some .int), 11), (yX11_cell, cX11_cell, 3, (some .int), 11), (yX11_house, cX11_house, 3, (some .int), 11), (yX11_judge, cX11_judge, 2, (some .int), 11), (yX11_judged, cX11_judged, 2, (some .int), 11), (yX11_best, cX11_best, 3, (some .int), 11), (yX11_rivals, cX11_rivals, 3, (some .long), 11), (yX11_stores, cX11_stores, 3, (some .int), 11), (yX11_cut, cX11_cut, 3, (some .int), 11), (yX11_prop, cX11_prop, 2, (some .boolean), 11), (yX11_burn, cX11_burn, 2, (some .boolean), 11), (yX11_days, cX11_days, 4, (some .int), 11), (yX11_undo, cX11_undo, 1, (some .boolean), 11), (yX11_seed, cX11_seed, 2, (some .boolean), 11), (yX11_bores, cX11_bores, 2, (some .int), 11), (yX11_fits, cX11_fits, 2, (some .int), 11), (yX11_next, cX11_next, 2, (some .int), 11), (yX11_theft, cX11_theft, 3, (some .int), 11), (yX11_ask, cX11_ask, 2, (some .long), 11), (yX11_image, cX11_image, 1, (some .int), 11), (yX11_octet, cX11_octet, 2, (some .int), 11), (yX11_on, cX11_on, 2, (some .boolean), 11), (yX11_status, cX11_status, 2, (some .int), 11), (yX11_refuse, cX11_refuse, 2, (some .int), 11), (yX11_keepFault, cX11_keepFault, 1, none, 11), (yX11_beginAct, cX11_beginAct, 1, none, 11), (yX11_draw, cX11_draw, 4, (some .int), 11), (yX11_workOneDay, cX11_workOneDay, 4, (some .boolean), 11), (yX12_init, cX12_init, 1, none, 12), (yX12_isIn, cX12_isIn, 6, (some .boolean), 12), (yX12_feed, cX12_feed, 8, (some .int), 12), (yX12_end, cX12_end, 2, (some .boolean), 12), (yX12_fail, cX12_fail, 3, none, 12), (yX12_isLetter, cX12_isLetter, 1, (some .boolean), 12), (yX12_isDigit, cX12_isDigit, 1, (some .boolean), 12), (yX12_look, cX12_look, 1, (some .int), 12), (yX12_isHere, cX12_isHere, 4, (some .boolean), 12), (yX12_takes, cX12_takes, 2, (some .boolean), 12), (yX12_asks, cX12_asks, 2, none, 12), (yX12_takesSign, cX12_takesSign, 2, (some .boolean), 12), (yX12_asksSign, cX12_asksSign, 2, none, 12), (yX12_number, cX12_number, 5, (some .int), 12), (yX12_isOwnHere, cX12_isOwnHere, 2, (some .boolean), 12), (yX12_name, cX12_name, 3, (some .long), 12), (yX12_isAllowed, cX12_isAllowed, 2, (some .boolean), 12), (yX12_isFull, cX12_isFull, 4, (some .boolean), 12), (yX12_kindOf, cX12_kindOf, 4, (some .int), 12), (yX12_newName, cX12_newName, 4, (some .long), 12), (yX12_pitTold, cX12_pitTold, 1, none, 12), (yX12_kindTold, cX12_kindTold, 6, none, 12), (yX12_rowTold, cX12_rowTold, 6, none, 12), (yX12_houseTold, cX12_houseTold, 5, none, 12), (yX12_kindHere, cX12_kindHere, 4, (some .int), 12), (yX12_mixTold, cX12_mixTold, 4, none, 12), (yX12_codesTold, cX12_codesTold, 4, none, 12), (yX12_statementTold, cX12_statementTold, 2, none, 12), (yX12_pit, cX12_pit, 2, (some .int), 12), (yX12_stands, cX12_stands, 2, none, 12), (yX12_fault, cX12_fault, 2, (some .int), 12), (yX12_columns, cX12_columns, 1, (some .int), 12), (yX12_rowsMany, cX12_rowsMany, 1, (some .int), 12), (yX12_kindMany, cX12_kindMany, 1, (some .int), 12), (yX12_cellMany, cX12_cellMany, 1, (some .int), 12), (yX12_isCell, cX12_isCell, 2, (some .boolean), 12), (yX12_isKind, cX12_isKind, 2, (some .boolean), 12), (yX12_holdsUp, cX12_holdsUp, 1, (some .int), 12), (yX12_seamAt, cX12_seamAt, 3, (some .int), 12), (yX12_kindAt, cX12_kindAt, 2, (some .int), 12), (yX12_whatIs, cX12_whatIs, 2, (some .int), 12), (yX12_isOpen, cX12_isOpen, 2, (some .boolean), 12), (yX12_tubsOf, cX12_tubsOf, 2, (some .int), 12), (yX12_beside, cX12_beside, 5, (some .int), 12), (yX12_nearOf, cX12_nearOf, 4, (some .int), 12), (yX12_spanLeft, cX12_spanLeft, 3, (some .int), 12), (yX12_spanRight, cX12_spanRight, 3, (some .int), 12), (yX12_spanOf, cX12_spanOf, 2, (some .int), 12), (yX12_asksCell, cX12_asksCell, 2, none, 12), (yX12_restOf, cX12_restOf, 2, (some .int), 12), (yX12_gasOf, cX12_gasOf, 2, (some .int), 12), (yX12_codesTell, cX12_codesTell, 4, (some .long), 12), (yX12_cut0, cX12_cut0, 3, (some .int), 12), (yX12_worthOf, cX12_worthOf, 2, (some .int), 12), (yX12_mayBe, cX12_mayBe, 2, (some .boolean), 12), (yX12_isBesideReached, cX12_isBesideReached, 3, (some .boolean), 12), (yX12_laysReached, cX12_laysReached, 4, none, 12), (yX12_whyNot, cX12_whyNot, 2, (some .int), 12), (yX12_cuttable, cX12_cuttable, 4, (some .long), 12), (yX12_bitsOf, cX12_bitsOf, 5, (some .int), 12), (yX12_oneOf, cX12_oneOf, 5, (some .int), 12), (yX12_isCut, cX12_isCut, 7, (some .int), 12), (yX12_cellsThat, cX12_cellsThat, 4, (some .int), 12), (yX12_tubsAll, cX12_tubsAll, 3, (some .int), 12), (yX12_has, cX12_has, 2, (some .int), 12), (yX12_letter, cX12_letter, 9, (some .int), 12), (yX12_cellsOf, cX12_cellsOf, 5, (some .int), 12), (yX12_kind, cX12_kind, 3, (some .int), 12), (yX12_cell, cX12_cell, 3, (some .int), 12), (yX12_tiltOf, cX12_tiltOf, 6, (some .int), 12), (yX12_house, cX12_house, 3, (some .int), 12), (yX12_putsAside, cX12_putsAside, 3, none, 12), (yX12_takesBack, cX12_takesBack, 3, none, 12), (yX12_judge, cX12_judge, 4, (some .int), 12), (yX12_judged, cX12_judged, 2, (some .int), 12), (yX12_opens, cX12_opens, 2, none, 12), (yX12_nextTried, cX12_nextTried, 3, (some .int), 12), (yX12_isBest, cX12_isBest, 4, none, 12), (yX12_seeksBest, cX12_seeksBest, 5, none, 12), (yX12_best, cX12_best, 4, (some .int), 12), (yX12_opensRival, cX12_opensRival, 3, none, 12), (yX12_answers, cX12_answers, 5, none, 12), (yX12_seeksRivals, cX12_seeksRivals, 6, none, 12), (yX12_rivals, cX12_rivals, 8, (some .long), 12), (yX12_isStored, cX12_isStored, 6, (some .boolean), 12), (yX12_storesUsed, cX12_storesUsed, 3, (some .int), 12), (yX12_stores, cX12_stores, 6, (some .int), 12), (yX12_keeps, cX12_keeps, 2, none, 12), (yX12_undo, cX12_undo, 2, (some .boolean), 12), (yX12_refuses, cX12_refuses, 1, (some .int), 12), (yX12_cut, cX12_cut, 2, (some .int), 12), (yX12_prop, cX12_prop, 2, (some .boolean), 12), (yX12_burn, cX12_burn, 2, (some .boolean), 12), (yX12_seed, cX12_seed, 2, (some .boolean), 12), (yX12_drawOf, cX12_drawOf, 2, (some .int), 12), (yX12_blasts, cX12_blasts, 6, none, 12), (yX12_dayGoes, cX12_dayGoes, 6, (some .boolean), 12), (yX12_days, cX12_days, 4, (some .int), 12), (yX12_bores, cX12_bores, 4, (some .int), 12), (yX12_shifted, cX12_shifted, 4, (some .int), 12), (yX12_isFit, cX12_isFit, 3, (some .boolean), 12), (yX12_fitting, cX12_fitting, 3, (some .int), 12), (yX12_fits, cX12_fits, 3, (some .int), 12), (yX12_alikeAt, cX12_alikeAt, 7, (some .int), 12), (yX12_next, cX12_next, 7, (some .int), 12), (yX12_laysWays, cX12_laysWays, 4, none, 12), (yX12_addsKind, cX12_addsKind, 7, none, 12), (yX12_fewestOf, cX12_fewestOf, 4, (some .int), 12), (yX12_theft, cX12_theft, 4, (some .int), 12), (yX12_qCode, cX12_qCode, 2, none, 12), (yX12_qOpens, cX12_qOpens, 3, none, 12), (yX12_qIsOn, cX12_qIsOn, 2, (some .boolean), 12), (yX12_qDrops, cX12_qDrops, 1, none, 12), (yX12_qIsBracket, cX12_qIsBracket, 1, (some .boolean), 12), (yX12_qBracket, cX12_qBracket, 2, (some .int), 12), (yX12_qDropsToBracket, cX12_qDropsToBracket, 1, none, 12), (yX12_qWordHere, cX12_qWordHere, 1, (some .int), 12), (yX12_qWordOf, cX12_qWordOf, 4, (some .int), 12), (yX12_qAsksWord, cX12_qAsksWord, 2, none, 12), (yX12_qEndsPart, cX12_qEndsPart, 1, none, 12), (yX12_qPartTold, cX12_qPartTold, 6, none, 12), (yX12_qGoesOn, cX12_qGoesOn, 2, (some .boolean), 12), (yX12_qSums, cX12_qSums, 3, none, 12), (yX12_qFact, cX12_qFact, 2, none, 12), (yX12_qHasSquare, cX12_qHasSquare, 2, (some .boolean), 12), (yX12_qDropsNots, cX12_qDropsNots, 1, none, 12), (yX12_qTest, cX12_qTest, 3, none, 12), (yX12_qGoesOnTest, cX12_qGoesOnTest, 1, (some .boolean), 12), (yX12_qClip, cX12_qClip, 2, (some .long), 12), (yX12_qFloor, cX12_qFloor, 6, (some .long), 12), (yX12_qPuts, cX12_qPuts, 3, none, 12), (yX12_qJoins, cX12_qJoins, 6, none, 12), (yX12_qPartOf, cX12_qPartOf, 3, (some .long), 12), (yX12_qOf, cX12_qOf, 5, (some .long), 12), (yX12_qTold, cX12_qTold, 4, (some .long), 12), (yX12_qKind, cX12_qKind, 2, (some .int), 12), (yX12_qTakes, cX12_qTakes, 6, none, 12), (yX12_ask, cX12_ask, 3, (some .long), 12), (yX12_checked, cX12_checked, 4, (some .int), 12), (yX12_writes, cX12_writes, 2, none, 12), (yX12_writesThree, cX12_writesThree, 2, none, 12), (yX12_image, cX12_image, 2, (some .int), 12), (yX12_octet, cX12_octet, 2, (some .int), 12), (yX12_threeAt, cX12_threeAt, 2, (some .int), 12), (yX12_isTold, cX12_isTold, 3, (some .boolean), 12), (yX12_on, cX12_on, 3, (some .boolean), 12), (yX12_status, cX12_status, 2, (some .int), 12), (yJ6_numberOfTrailingZeros_0f7a4, cJ6_numberOfTrailingZeros_0f7a4, 2, (some .int), 14), (yJ6_bitCount_0f7a4, cJ6_bitCount_0f7a4, 1, (some .int), 14), (yJ9_floorDiv_7cf53, cJ9_floorDiv_7cf53, 3, (some .int), 15), (yJ9_abs_0f7a4, cJ9_abs_0f7a4, 1, (some .int), 15), (yJ9_max_7cf53, cJ9_max_7cf53, 2, (some .int), 15), (yJ9_max_f86c9, cJ9_max_f86c9, 4, (some .long), 15), (yJ9_min_7cf53, cJ9_min_7cf53, 2, (some .int), 15), (yJ9_min_f86c9, cJ9_min_f86c9, 4, (some .long), 15), (yJ7_fill_53178, cJ7_fill_53178, 4, none, 16), (yL_law, cL_law, 4, (some .boolean), 13)]
def jprog : List (Nat × List jI) := [(2, k0), (1, k1), (4, k2), (6, k3), (3, k4), (3, k5), (2, k6), (6, k7), (2, k8), (6, k9), (1, k10), (2, k11), (2, k12), (3, k13), (2, k14), (4, k15), (2, k16), (3, k17), (4, k18), (5, k19), (4, k20), (2, k21), (1, k22), (1, k23), (2, k24), (2, k25), (3, k26), (3, k27), (2, k28), (2, k29), (3, k30), (3, k31), (3, k32), (4, k33), (5, k34), (4, k35), (4, k36), (4, k37), (2, k38), (2, k39), (3, k40), (7, k41), (6, k42), (2, k43), (4, k44), (2, k45), (4, k46), (7, k47), (2, k48), (5, k49), (1, k50), (1, k51), (2, k52), (2, k53), (1, k54), (3, k55), (2, k56), (2, k57), (2, k58), (4, k59), (2, k60), (3, k61), (3, k62), (3, k63), (5, k64), (5, k65), (3, k66), (3, k67), (2, k68), (3, k69), (3, k70), (5, k71), (4, k72), (3, k73), (2, k74), (3, k75), (3, k76), (2, k77), (5, k78), (2, k79), (4, k80), (1, k81), (7, k82), (5, k83), (1, k84), (3, k85), (3, k86), (2, k87), (1, k88), (1, k89), (5, k90), (1, k91), (2, k92), (5, k93), (2, k94), (2, k95), (4, k96), (3, k97), (3, k98), (1, k99), (2, k100), (1, k101), (2, k102), (2, k103), (1, k104), (1, k105), (1, k106), (3, k107), (3, k108), (4, k109), (1, k110), (1, k111), (4, k112), (4, k113), (3, k114), (2, k115), (1, k116), (3, k117), (1, k118), (1, k119), (1, k120), (4, k121), (1, k122), (9, k123), (3, k124), (3, k125), (7, k126), (3, k127), (4, k128), (3, k129), (9, k130), (3, k131), (3, k132), (1, k133), (2, k134), (2, k135), (5, k136), (4, k137), (3, k138), (2, k139), (7, k140), (2, k141), (2, k142), (1, k143), (2, k144), (2, k145), (2, k146), (2, k147), (2, k148), (2, k149), (4, k150), (5, k151), (6, k152), (2, k153), (2, k154), (2, k155), (2, k156), (4, k157), (3, k158), (3, k159), (3, k160), (2, k161), (2, k162), (3, k163), (3, k164), (3, k165), (3, k166), (2, k167), (2, k168), (4, k169), (1, k170), (2, k171), (2, k172), (2, k173), (2, k174), (3, k175), (2, k176), (1, k177), (2, k178), (2, k179), (2, k180), (2, k181), (1, k182), (1, k183), (4, k184), (4, k185), (1, k186), (6, k187), (8, k188), (2, k189), (3, k190), (1, k191), (1, k192), (1, k193), (4, k194), (2, k195), (2, k196), (2, k197), (2, k198), (5, k199), (2, k200), (3, k201), (2, k202), (4, k203), (4, k204), (4, k205), (1, k206), (6, k207), (6, k208), (5, k209), (4, k210), (4, k211), (4, k212), (2, k213), (2, k214), (2, k215), (2, k216), (1, k217), (1, k218), (1, k219), (1, k220), (2, k221), (2, k222), (1, k223), (3, k224), (2, k225), (2, k226), (2, k227), (2, k228), (5, k229), (4, k230), (3, k231), (3, k232), (2, k233), (2, k234), (2, k235), (2, k236), (4, k237), (3, k238), (2, k239), (2, k240), (3, k241), (4, k242), (2, k243), (4, k244), (5, k245), (5, k246), (7, k247), (4, k248), (3, k249), (2, k250), (9, k251), (5, k252), (3, k253), (3, k254), (6, k255), (3, k256), (3, k257), (3, k258), (4, k259), (2, k260), (2, k261), (3, k262), (4, k263), (5, k264), (4, k265), (3, k266), (5, k267), (6, k268), (8, k269), (6, k270), (3, k271), (6, k272), (2, k273), (2, k274), (1, k275), (2, k276), (2, k277), (2, k278), (2, k279), (2, k280), (6, k281), (6, k282), (4, k283), (4, k284), (4, k285), (3, k286), (3, k287), (3, k288), (7, k289), (7, k290), (4, k291), (7, k292), (4, k293), (4, k294), (2, k295), (3, k296), (2, k297), (1, k298), (1, k299), (2, k300), (1, k301), (1, k302), (4, k303), (2, k304), (1, k305), (6, k306), (2, k307), (3, k308), (2, k309), (2, k310), (1, k311), (3, k312), (1, k313), (2, k314), (6, k315), (3, k316), (6, k317), (3, k318), (5, k319), (4, k320), (2, k321), (6, k322), (3, k323), (4, k324), (2, k325), (2, k326), (2, k327), (2, k328), (2, k329), (3, k330), (3, k331), (2, k332), (2, k333), (1, k334), (3, k335), (1, k336), (2, k337), (4, k338), (2, k339), (4, k340), (4, k341), (4, k342)]
def jfl : List (Nat × Nat × Nat × Nat) := [(0, 11, 0, 1), (0, 15, 0, 2), (0, 18, 0, 0), (0, 22, 0, 3), (0, 36, 4, 2), (0, 41, 4, 4), (0, 43, 4, 5), (0, 66, 4, 1), (1, 9, 1, 0), (1, 15, 1, 1), (1, 24, 4, 8), (1, 29, 1, 2), (1, 33, 1, 3), (1, 36, 1, 4), (1, 61, 4, 5), (1, 64, 4, 1), (2, 11, 2, 0), (2, 18, 2, 1), (2, 22, 2, 2), (3, 9, 3, 2), (3, 15, 3, 3), (3, 18, 3, 4), (3, 21, 3, 5), (3, 24, 3, 0), (3, 28, 3, 1), (3, 38, 3, 6), (3, 42, 4, 1), (3, 47, 4, 3), (3, 74, 4, 9), (3, 80, 4, 18), (3, 108, 1, 0), (3, 111, 4, 2), (3, 126, 4, 8), (3, 132, 1, 1), (3, 135, 1, 3), (3, 153, 4, 6), (3, 156, 4, 15), (4, 9, 4, 8), (4, 15, 4, 9), (4, 18, 4, 10), (4, 21, 4, 11), (4, 24, 4, 12), (4, 27, 4, 13), (4, 30, 4, 14), (4, 33, 4, 15), (4, 36, 4, 16), (4, 39, 4, 17), (4, 42, 4, 18), (4, 45, 4, 0), (4, 49, 4, 1), (4, 52, 4, 2), (4, 55, 4, 3), (4, 58, 4, 4), (4, 61, 4, 5), (4, 64, 4, 6), (4, 67, 4, 7), (5, 9, 5, 0), (5, 15, 5, 1), (5, 24, 4, 18), (5, 45, 4, 0), (5, 94, 4, 2), (5, 97, 4, 3), (5, 100, 4, 5), (5, 103, 4, 4), (5, 109, 4, 13), (5, 116, 4, 10), (5, 119, 4, 11), (5, 130, 4, 14), (5, 133, 4, 6), (5, 152, 4, 16), (5, 155, 4, 15), (5, 158, 4, 7), (5, 164, 4, 12), (5, 167, 4, 9), (5, 177, 4, 8), (6, 9, 6, 0), (6, 15, 6, 1), (6, 58, 3, 0), (6, 64, 4, 1), (7, 14, 7, 0), (7, 20, 7, 1), (7, 24, 7, 2), (7, 27, 7, 10), (7, 31, 7, 3), (7, 34, 7, 5), (7, 37, 7, 9), (7, 40, 7, 6), (7, 43, 7, 7), (7, 46, 7, 8), (7, 92, 7, 4), (8, 11, 8, 2), (8, 17, 8, 3), (8, 21, 8, 4), (8, 26, 8, 5), (8, 29, 8, 0), (8, 33, 8, 1), (8, 43, 8, 9), (8, 47, 8, 10), (8, 54, 3, 1), (8, 93, 8, 6), (8, 96, 8, 7), (8, 106, 4, 1), (8, 125, 8, 8), (9, 9, 9, 2), (9, 15, 9, 3), (9, 18, 9, 4), (9, 21, 9, 5), (9, 24, 9, 0), (9, 28, 9, 1), (9, 32, 4, 5), (9, 58, 4, 12), (9, 61, 9, 6), (9, 64, 4, 10), (9, 67, 1, 1), (10, 15, 10, 0), (10, 21, 10, 1), (11, 30, 11, 0), (11, 34, 11, 1), (11, 37, 11, 2), (11, 41, 11, 3), (11, 44, 11, 4), (11, 53, 11, 5), (11, 60, 11, 6), (11, 67, 11, 7), (11, 75, 11, 8), (11, 82, 11, 9), (11, 86, 11, 10), (11, 95, 11, 11), (11, 104, 11, 12), (11, 108, 11, 13), (11, 112, 11, 14), (11, 115, 11, 15), (11, 119, 11, 16), (11, 123, 11, 17), (11, 126, 11, 18), (11, 158, 4, 0), (11, 161, 4, 2), (11, 164, 4, 4), (11, 167, 4, 5), (11, 170, 4, 6), (11, 173, 4, 7), (11, 176, 4, 8), (11, 179, 1, 2), (11, 185, 1, 3), (11, 188, 1, 4), (11, 200, 4, 13), (11, 203, 4, 14), (11, 206, 4, 10), (11, 208, 4, 11), (11, 211, 1, 1), (11, 214, 4, 12), (11, 228, 1, 0), (11, 249, 4, 15), (11, 319, 4, 18), (11, 344, 7, 9), (11, 347, 7, 10), (12, 7, 12, 0), (12, 13, 12, 8), (12, 17, 12, 9), (12, 20, 12, 10), (12, 24, 12, 11), (12, 27, 12, 12), (12, 30, 12, 13), (12, 33, 12, 14), (12, 36, 12, 15), (12, 39, 12, 16), (12, 42, 12, 17), (12, 45, 12, 18), (12, 48, 12, 19), (12, 51, 12, 20), (12, 54, 12, 21), (12, 57, 12, 22), (12, 60, 12, 23), (12, 63, 12, 24), (12, 66, 12, 25), (12, 69, 12, 26), (12, 72, 12, 27), (12, 75, 12, 28), (12, 78, 12, 29), (12, 81, 12, 30), (12, 84, 12, 31), (12, 87, 12, 32), (12, 90, 12, 33), (12, 93, 12, 34), (12, 96, 12, 35), (12, 99, 12, 36), (12, 102, 12, 37), (12, 105, 12, 38), (12, 108, 12, 40), (12, 111, 12, 41), (12, 115, 12, 42), (12, 118, 12, 43), (12, 121, 12, 44), (12, 124, 12, 45), (12, 127, 12, 46), (12, 130, 12, 47), (12, 133, 12, 48), (12, 136, 12, 53), (12, 139, 12, 54), (12, 142, 12, 63), (12, 146, 12, 69), (12, 149, 12, 70), (12, 152, 12, 71), (12, 155, 12, 72), (12, 158, 12, 73), (12, 161, 12, 74), (12, 164, 12, 75), (12, 167, 12, 76), (12, 170, 12, 77), (12, 173, 12, 80), (12, 177, 12, 82), (12, 181, 12, 83), (12, 184, 12, 85), (12, 187, 12, 86), (12, 190, 12, 87), (12, 193, 12, 88), (12, 196, 12, 89), (12, 199, 12, 90), (12, 202, 12, 91), (12, 205, 12, 92), (12, 208, 12, 93), (12, 211, 12, 94), (12, 214, 12, 95), (12, 217, 12, 96), (12, 220, 12, 97), (12, 223, 12, 98), (12, 226, 12, 99), (12, 229, 12, 100), (12, 232, 12, 101), (12, 235, 12, 102), (12, 238, 12, 103), (12, 241, 12, 104), (12, 244, 12, 105), (12, 247, 12, 106), (12, 250, 12, 107), (12, 253, 12, 108), (12, 256, 12, 110), (12, 259, 12, 114), (12, 262, 12, 118), (12, 265, 12, 1), (12, 268, 12, 5), (12, 271, 12, 6), (12, 274, 12, 2), (12, 277, 12, 3), (12, 288, 12, 4), (12, 316, 12, 39), (12, 323, 12, 52), (12, 356, 12, 109), (12, 359, 12, 111), (12, 362, 12, 112), (12, 365, 12, 113), (12, 374, 12, 49), (12, 377, 12, 50), (12, 401, 12, 7), (12, 407, 12, 51), (12, 411, 12, 78), (12, 414, 12, 81), (12, 417, 12, 65), (12, 451, 12, 55), (12, 454, 12, 56), (12, 463, 12, 57), (12, 469, 12, 58), (12, 475, 12, 59), (12, 481, 12, 60), (12, 484, 12, 115), (12, 527, 12, 64), (12, 557, 12, 61), (12, 560, 12, 62), (12, 569, 12, 66), (12, 572, 12, 67), (12, 578, 12, 68), (12, 618, 12, 79), (12, 664, 12, 84), (12, 749, 12, 116), (12, 754, 12, 117), (12, 767, 12, 119)]
def jml : List (Nat × Nat × Nat) := [(0, 26, 143), (0, 32, 144), (0, 46, 59), (0, 50, 3), (0, 54, 4), (0, 58, 5), (0, 61, 333), (0, 69, 9), (0, 72, 341), (0, 78, 57), (0, 81, 58), (0, 84, 337), (1, 18, 341), (1, 45, 13), (1, 49, 145), (1, 55, 146), (1, 58, 147), (1, 67, 143), (1, 71, 150), (1, 75, 144), (1, 78, 149), (2, 25, 12), (3, 32, 341), (3, 50, 28), (3, 54, 63), (3, 58, 14), (3, 64, 56), (3, 67, 13), (3, 71, 31), (3, 77, 45), (3, 83, 47), (3, 87, 29), (3, 90, 27), (3, 93, 30), (3, 97, 60), (3, 100, 57), (3, 103, 337), (3, 114, 339), (3, 117, 37), (3, 120, 36), (3, 123, 38), (3, 129, 61), (3, 138, 43), (3, 141, 46), (3, 144, 58), (3, 147, 62), (3, 150, 35), (3, 159, 336), (3, 162, 48), (3, 165, 16), (3, 168, 49), (3, 172, 335), (3, 179, 340), (3, 182, 338), (4, 70, 341), (4, 76, 53), (4, 80, 55), (4, 83, 339), (4, 95, 57), (4, 99, 56), (4, 103, 60), (4, 106, 65), (5, 19, 51), (5, 28, 85), (5, 34, 91), (5, 38, 68), (5, 41, 94), (5, 49, 87), (5, 52, 93), (5, 56, 69), (5, 59, 70), (5, 62, 72), (5, 65, 74), (5, 68, 75), (5, 71, 77), (5, 77, 104), (5, 83, 78), (5, 87, 95), (5, 90, 96), (5, 106, 90), (5, 112, 71), (5, 122, 98), (5, 126, 64), (5, 142, 99), (5, 145, 100), (5, 149, 73), (5, 161, 76), (5, 170, 101), (5, 173, 103), (6, 19, 85), (6, 25, 93), (6, 29, 87), (6, 33, 103), (6, 37, 90), (6, 40, 81), (6, 50, 104), (6, 53, 91), (6, 69, 45), (6, 72, 47), (6, 76, 83), (6, 80, 338), (6, 86, 340), (7, 11, 142), (7, 49, 90), (7, 52, 143), (7, 56, 144), (7, 60, 89), (7, 64, 88), (7, 76, 92), (7, 79, 87), (7, 82, 93), (7, 85, 97), (7, 88, 86), (7, 95, 102), (7, 98, 108), (7, 102, 109), (7, 105, 111), (7, 108, 105), (7, 111, 94), (7, 114, 107), (7, 117, 106), (7, 120, 112), (7, 123, 110), (7, 126, 95), (7, 129, 113), (7, 132, 114), (7, 135, 115), (7, 138, 116), (7, 141, 117), (7, 144, 118), (7, 147, 119), (7, 150, 120), (8, 40, 26), (8, 50, 124), (8, 57, 12), (8, 61, 143), (8, 67, 27), (8, 70, 144), (8, 74, 30), (8, 77, 40), (8, 80, 41), (8, 84, 15), (8, 87, 56), (8, 99, 126), (8, 103, 127), (8, 109, 39), (8, 112, 128), (8, 121, 130), (8, 128, 341), (8, 134, 131), (9, 38, 339), (9, 44, 136), (9, 48, 133), (9, 51, 137), (9, 55, 337), (9, 72, 140), (9, 76, 141), (10, 9, 337), (10, 25, 146), (10, 29, 147), (10, 32, 144), (11, 15, 84), (11, 16, 51), (11, 19, 11), (11, 27, 142), (11, 50, 26), (11, 59, 21), (11, 66, 121), (11, 73, 0), (11, 81, 132), (11, 92, 66), (11, 101, 79), (11, 129, 143), (11, 133, 181), (11, 137, 148), (11, 140, 145), (11, 143, 67), (11, 147, 182), (11, 150, 52), (11, 153, 1), (11, 156, 23), (11, 157, 122), (11, 182, 17), (11, 191, 15), (11, 194, 32), (11, 197, 22), (11, 217, 34), (11, 221, 56), (11, 225, 60), (11, 231, 35), (11, 234, 38), (11, 237, 27), (11, 240, 29), (11, 243, 30), (11, 246, 40), (11, 252, 44), (11, 255, 123), (11, 259, 125), (11, 265, 129), (11, 268, 134), (11, 271, 135), (11, 274, 183), (11, 277, 41), (11, 281, 54), (11, 285, 185), (11, 288, 25), (11, 292, 2), (11, 296, 5), (11, 299, 334), (11, 304, 6), (11, 307, 7), (11, 310, 8), (11, 313, 138), (11, 316, 139), (11, 322, 80), (11, 326, 82), (11, 330, 18), (11, 334, 144), (11, 337, 19), (11, 341, 20), (11, 350, 24), (11, 360, 184), (11, 363, 33), (11, 366, 62), (11, 369, 42), (12, 280, 193), (12, 284, 191), (12, 291, 194), (12, 295, 195), (12, 298, 190), (12, 302, 197), (12, 305, 192), (12, 308, 187), (12, 312, 200), (12, 326, 201), (12, 330, 204), (12, 334, 196), (12, 338, 199), (12, 342, 198), (12, 346, 203), (12, 350, 205), (12, 353, 210), (12, 368, 312), (12, 371, 308), (12, 380, 207), (12, 383, 208), (12, 386, 209), (12, 389, 211), (12, 392, 212), (12, 395, 206), (12, 398, 213), (12, 404, 215), (12, 420, 217), (12, 423, 218), (12, 426, 220), (12, 429, 219), (12, 432, 224), (12, 435, 226), (12, 439, 229), (12, 442, 227), (12, 445, 231), (12, 448, 232), (12, 457, 225), (12, 460, 235), (12, 466, 236), (12, 472, 230), (12, 478, 233), (12, 487, 316), (12, 491, 318), (12, 495, 317), (12, 498, 234), (12, 501, 237), (12, 505, 238), (12, 509, 241), (12, 512, 240), (12, 515, 242), (12, 518, 243), (12, 521, 239), (12, 524, 223), (12, 530, 228), (12, 533, 249), (12, 536, 248), (12, 539, 244), (12, 542, 245), (12, 547, 222), (12, 550, 252), (12, 554, 221), (12, 563, 255), (12, 566, 257), (12, 575, 247), (12, 581, 258), (12, 584, 261), (12, 587, 262), (12, 590, 263), (12, 595, 264), (12, 598, 266), (12, 601, 267), (12, 607, 268), (12, 612, 270), (12, 615, 271), (12, 621, 275), (12, 624, 273), (12, 635, 280), (12, 638, 246), (12, 641, 281), (12, 646, 282), (12, 649, 285), (12, 653, 286), (12, 658, 287), (12, 661, 289), (12, 667, 292), (12, 670, 291), (12, 676, 293), (12, 679, 295), (12, 682, 299), (12, 685, 298), (12, 688, 302), (12, 691, 202), (12, 694, 303), (12, 697, 296), (12, 700, 304), (12, 703, 305), (12, 706, 300), (12, 709, 301), (12, 712, 297), (12, 715, 306), (12, 718, 307), (12, 721, 309), (12, 724, 311), (12, 727, 313), (12, 730, 310), (12, 737, 314), (12, 741, 315), (12, 745, 319), (12, 757, 321), (12, 760, 320), (12, 763, 322), (12, 771, 325), (12, 774, 326), (12, 777, 324), (12, 781, 329), (12, 785, 330), (13, 9, 151), (13, 12, 186), (13, 13, 152), (13, 17, 188), (13, 18, 153), (13, 22, 189), (13, 23, 154), (13, 27, 214), (13, 28, 155), (13, 32, 216), (13, 33, 156), (13, 36, 250), (13, 37, 157), (13, 41, 251), (13, 42, 158), (13, 46, 253), (13, 47, 159), (13, 50, 254), (13, 51, 160), (13, 54, 256), (13, 55, 161), (13, 58, 259), (13, 59, 162), (13, 62, 260), (13, 63, 163), (13, 66, 265), (13, 67, 164), (13, 71, 269), (13, 72, 165), (13, 75, 272), (13, 76, 166), (13, 79, 276), (13, 80, 167), (13, 83, 277), (13, 84, 168), (13, 87, 278), (13, 88, 169), (13, 91, 283), (13, 92, 170), (13, 96, 274), (13, 97, 171), (13, 100, 279), (13, 101, 172), (13, 104, 284), (13, 105, 173), (13, 108, 288), (13, 109, 174), (13, 112, 290), (13, 113, 175), (13, 116, 294), (13, 117, 176), (13, 121, 323), (13, 122, 177), (13, 125, 327), (13, 126, 178), (13, 129, 328), (13, 130, 179), (13, 133, 331), (13, 134, 180), (13, 137, 332)]
def jnl : List (Nat × Nat × Nat) := [(2, 17, 10), (5, 74, 107), (5, 80, 112), (6, 44, 107), (6, 47, 112), (8, 39, 10), (11, 9, 50), (11, 12, 10)]
def jci : List (Nat × Nat × Int) := [(1, 81, 999999), (12, 180, 100001), (12, 675, 100000), (12, 770, 65536), (12, 784, 999999), (14, 264, 65536), (14, 265, 1431655765), (14, 266, 858993459), (14, 267, 252645135)]
def jcj : List (Nat × Nat × Int) := [(3, 175, -1000000), (3, 177, 1000000), (6, 56, -1), (11, 263, -1000000000000000), (11, 354, 1103515245), (11, 356, 12345), (11, 358, 2147483647), (12, 319, 27), (12, 321, 97), (12, 545, 5), (12, 593, 3), (12, 605, -1000000000000000), (12, 610, 100), (12, 627, 1103515245), (12, 629, 12345), (12, 631, 2147483648), (12, 633, 64), (12, 644, 30), (12, 656, 2), (12, 673, 10), (12, 733, 1000000), (12, 735, -1000000), (12, 752, -1)]
def jol : List (Nat × Nat) := [(0, 3), (1, 3), (2, 3), (3, 3), (4, 3), (5, 3), (6, 3), (7, 3), (8, 3), (9, 3), (10, 3), (11, 1), (12, 1)]
def jal : List (Nat × Nat) := [(1, 39), (4, 89), (5, 136), (8, 115)]
def jcw : List (Nat × Nat × Nat) := [(2, 9, 1), (7, 9, 10), (8, 9, 3), (8, 37, 1), (11, 7, 4), (11, 10, 1), (11, 13, 7), (11, 23, 10), (11, 48, 3), (11, 57, 2), (11, 64, 8), (11, 71, 0), (11, 79, 9), (11, 90, 5), (11, 99, 6), (13, 7, 11), (13, 10, 12)]
def jcn : List String := [RX0, RX1, RX2, RX3, RX4, RX5, RX6, RX7, RX8, RX9, RX10, RX11, RX12, RL, RJ6, RJ9, RJ7]
def jnf : List Nat := [4, 5, 3, 7, 19, 2, 2, 11, 11, 7, 2, 19, 120]
def jtc : List (List Nat) := [[14, 24, 24, 0], [24, 24, 0, 0, 0], [27, 0, 0], [14, 11, 24, 24, 24, 24, 0], [0, 0, 0, 0, 0, 0, 0, 0, 24, 24, 24, 24, 24, 24, 24, 24, 24, 24, 24], [17, 14], [17, 0], [20, 24, 24, 0, 0, 0, 0, 0, 0, 0, 0], [14, 11, 28, 24, 24, 29, 0, 0, 0, 0, 0], [14, 11, 24, 24, 24, 24, 0], [24, 0], [20, 20, 14, 14, 11, 13, 12, 18, 10, 19, 17, 15, 16, 24, 24, 2, 0, 0, 0], [24, 0, 0, 0, 0, 0, 0, 0, 0, 24, 23, 23, 23, 23, 23, 23, 23, 23, 23, 23, 23, 23, 23, 23, 23, 23, 23, 23, 23, 23, 23, 23, 23, 23, 23, 23, 23, 23, 23, 0, 24, 25, 24, 24, 24, 24, 24, 24, 24, 0, 0, 2, 0, 24, 24, 1, 1, 1, 1, 1, 1, 1, 1, 26, 0, 2, 0, 0, 0, 25, 24, 24, 24, 24, 24, 24, 24, 24, 0, 0, 1, 0, 24, 25, 0, 23, 23, 23, 23, 23, 23, 23, 23, 23, 23, 23, 23, 23, 23, 23, 23, 23, 23, 23, 23, 23, 23, 23, 24, 0, 24, 0, 0, 0, 25, 0, 1, 2, 24, 0]]
def jTT : List u_T := [TX0, TX1, TX2, TX3, TX4, TX5, TX6, TX7, TX8, TX9, TX10, TX11, TX12]
end
section
/-- the instructions by their numbers -/
def jops : List jF := [oBad, oPush 0 1, oPush 0 2, oPush 0 3, oPush 0 2, oPush 0 3, oPush 1 1, oPush 1 3,
  oLoad 0 1, oLoad 0 2, oLoad 1 1, oLoad 1 2, oALoad 1, oALoad 2, oStore 1, oStore 2, oLStore 1, oLStore 2, oAStore 1, oAStore 2, oIinc,
  oBin jadd, oBin jsub, oBin jmul, oDiv jdiv, oDiv jrem, oIneg, oBin iShl, oBin iShr, oBin iUshr, oBin iAnd, oBin iOr, oBin iXor,
  oBinL ladd, oBinL lsub, oBinL lmul, oDivL ldiv, oDivL lrem, oBinL lAnd, oBinL lOr, oShL lShl, oShL lShr, oLcmp, oI2l, oL2i, oDup, oDup2, oPop,
  oIfEq, oIfNe, oIfLt, oIfGe, oIfGt, oIfLe, oIcEq, oIcNe, oIcLt, oIcGe, oIcGt, oIcLe, oGoto, oIfNN, oTab, oLook,
  oGet, oGetR, oPut, oPutZ, oPutR, oPutR, oAld 24 0, oAld 25 1, oAld 26 0, oAld 23 0, oAald, oAst 24 0, oAst 25 1, oZst, oCst, oAast, oLen,
  oNew, oNewA 2, oNewA 3, oMulti, oCallV, oCallV, oCallV, oCallV, oCall, oObj, oRet 0, oRet 1, oRetR, oRetZ, oRetV, oPush 24 1, oCopy, oLdcS, oSLen, oSChr, oSld, oSlen]
def jstep (i : jI) : jC → Nat → List jV → List jV → jS → jT → jR := (jops.getD i.1 oBad) i.2.1 i.2.2.1 i.2.2.2
def jrun (ce : jC) (cd : List jI) : Nat → jT
  | 0 => fun _ _ _ _ => none
  | n + 1 => fun pc loc st S => jstep (cd.getD pc (0, 0, 0, [])) ce pc loc st S (jrun ce cd n)
def jent (args : List jV) (n : Nat) : List jV := (args.flatMap fun v => if v.1 = 1 then [v, (2, -1)] else [v]) ++ List.replicate (n - (args.flatMap fun v => if v.1 = 1 then [v, (2, -1)] else [v]).length) (2, -1)
def jcd (m : Nat) : List jI := (jprog.getD m (0, [])).2
def jml0 (m : Nat) : Nat := (jprog.getD m (0, [])).1
def jev (F : Nat) : Nat → jC
  | 0 => fun _ _ _ => none
  | d + 1 => fun m args S => jrun (jev F d) (jcd m) F 0 (jent args (jml0 m)) [] S
/-- what hands on more, answers more -/
def jle (a b : jR) : Prop := ∀ r, a = some r → b = some r
def jleT (k k' : jT) : Prop := ∀ pc loc st S, jle (k pc loc st S) (k' pc loc st S)
def jleC (c c' : jC) : Prop := ∀ m a S, jle (c m a S) (c' m a S)
def jMono (o : jF) : Prop := ∀ a b l ce ce' pc loc st S k k', jleC ce ce' → jleT k k' → jle (o a b l ce pc loc st S k) (o a b l ce' pc loc st S k')
end
section
/-! the pure machine's numbers and the machine's -/
def j32 (z : Int) : Prop := -2147483648 ≤ z ∧ z ≤ 2147483647
def j64 (z : Int) : Prop := -9223372036854775808 ≤ z ∧ z ≤ 9223372036854775807
theorem w32_bmod (z : Int) : w32 z = z.bmod 4294967296 := by
  unfold w32 Int.bmod
  dsimp only
  split <;> omega
theorem w64_bmod (z : Int) : w64 z = z.bmod 18446744073709551616 := by
  unfold w64 Int.bmod
  dsimp only
  split <;> omega
theorem w32_ok (z : Int) : j32 (w32 z) := by unfold j32 w32; omega
theorem w64_ok (z : Int) : j64 (w64 z) := by unfold j64 w64; omega
theorem w32_id {z : Int} (h : j32 z) : w32 z = z := by unfold j32 at h; unfold w32; omega
theorem w64_id {z : Int} (h : j64 z) : w64 z = z := by unfold j64 at h; unfold w64; omega
theorem t32 {z : Int} (h : j32 z) : (Int32.ofInt z).toInt = z := Int32.toInt_ofInt_of_le (by unfold j32 at h; omega) (by unfold j32 at h; omega)
theorem t64 {z : Int} (h : j64 z) : (Int64.ofInt z).toInt = z := Int64.toInt_ofInt_of_le (by unfold j64 at h; omega) (by unfold j64 at h; omega)
theorem o32 (z : Int) : Int32.ofInt (w32 z) = Int32.ofInt z := by
  apply Int32.toInt_inj.1
  rw [t32 (w32_ok z), Int32.toInt_ofInt, w32_bmod]
theorem o64 (z : Int) : Int64.ofInt (w64 z) = Int64.ofInt z := by
  apply Int64.toInt_inj.1
  rw [t64 (w64_ok z), Int64.toInt_ofInt, w64_bmod]
theorem r32 (x : Int32) : j32 x.toInt := by
  have h1 := Int32.le_toInt x
  have h2 := Int32.toInt_lt x
  unfold j32; omega
theorem r64 (x : Int64) : j64 x.toInt := by
  have h1 := Int64.le_toInt x
  have h2 := Int64.toInt_lt x
  unfold j64; omega
theorem lt32 {a b : Int} (ha : j32 a) (hb : j32 b) : Int32.ofInt a < Int32.ofInt b ↔ a < b := by rw [Int32.lt_iff_toInt_lt, t32 ha, t32 hb]
theorem le32 {a b : Int} (ha : j32 a) (hb : j32 b) : Int32.ofInt a ≤ Int32.ofInt b ↔ a ≤ b := by rw [Int32.le_iff_toInt_le, t32 ha, t32 hb]
theorem eq32 {a b : Int} (ha : j32 a) (hb : j32 b) : Int32.ofInt a = Int32.ofInt b ↔ a = b := by
  rw [← Int32.toInt_inj, t32 ha, t32 hb]
theorem lt64 {a b : Int} (ha : j64 a) (hb : j64 b) : Int64.ofInt a < Int64.ofInt b ↔ a < b := by rw [Int64.lt_iff_toInt_lt, t64 ha, t64 hb]
theorem eq64 {a b : Int} (ha : j64 a) (hb : j64 b) : Int64.ofInt a = Int64.ofInt b ↔ a = b := by
  rw [← Int64.toInt_inj, t64 ha, t64 hb]
theorem z32 : j32 0 := by unfold j32; omega
theorem z64 : j64 0 := by unfold j64; omega
theorem in32 {z : Int} {n : Nat} (h : j32 z) (h0 : 0 ≤ z) (h1 : z < n) : vp_in (Int32.ofInt z) n := vp_in_iff.mpr (by rw [t32 h]; exact ⟨h0, h1⟩)
theorem cl32 {z : Int} (h : j32 z) : (Int32.ofInt z).toNatClampNeg = z.toNat := by
  show (Int32.ofInt z).toInt.toNat = z.toNat
  rw [t32 h]
theorem ge32 {z : Int} (h : j32 z) (h0 : 0 ≤ z) : ¬ Int32.ofInt z < 0 := by
  intro q
  have := (lt32 (b := 0) h z32).mp q
  omega
theorem add32 (a b : Int) : Int32.ofInt (jadd a b) = Int32.ofInt a + Int32.ofInt b := by unfold jadd; rw [o32, Int32.ofInt_add]
theorem sub32 (a b : Int) : Int32.ofInt (jsub a b) = Int32.ofInt a - Int32.ofInt b := by unfold jsub; rw [o32, Int32.ofInt_sub]
theorem mul32 (a b : Int) : Int32.ofInt (jmul a b) = Int32.ofInt a * Int32.ofInt b := by unfold jmul; rw [o32, Int32.ofInt_mul]
theorem neg32 (a : Int) : Int32.ofInt (w32 (-a)) = -Int32.ofInt a := by rw [o32, Int32.ofInt_neg]
theorem add64 (a b : Int) : Int64.ofInt (ladd a b) = Int64.ofInt a + Int64.ofInt b := by unfold ladd; rw [o64, Int64.ofInt_add]
theorem sub64 (a b : Int) : Int64.ofInt (lsub a b) = Int64.ofInt a - Int64.ofInt b := by unfold lsub; rw [o64, Int64.ofInt_sub]
theorem mul64 (a b : Int) : Int64.ofInt (lmul a b) = Int64.ofInt a * Int64.ofInt b := by unfold lmul; rw [o64, Int64.ofInt_mul]
theorem mn32 : Int32.minValue.toInt = -2147483648 := by decide
theorem mx32 : Int32.maxValue.toInt = 2147483647 := by decide
theorem mn64 : Int64.minValue.toInt = -9223372036854775808 := by decide
theorem mx64 : Int64.maxValue.toInt = 9223372036854775807 := by decide
theorem div32 {a b : Int} (ha : j32 a) (hb : j32 b) : Int32.ofInt (jdiv a b) = Int32.ofInt a / Int32.ofInt b := by
  unfold jdiv
  rw [o32]
  exact Int32.ofInt_tdiv (by rw [mn32]; exact ha.1) (by rw [mx32]; exact ha.2) (by rw [mn32]; exact hb.1) (by rw [mx32]; exact hb.2)
theorem div64 {a b : Int} (ha : j64 a) (hb : j64 b) : Int64.ofInt (ldiv a b) = Int64.ofInt a / Int64.ofInt b := by
  unfold ldiv
  rw [o64]
  exact Int64.ofInt_tdiv (by rw [mn64]; exact ha.1) (by rw [mx64]; exact ha.2) (by rw [mn64]; exact hb.1) (by rw [mx64]; exact hb.2)
theorem rem32 {a b : Int} (ha : j32 a) (hb : j32 b) : Int32.ofInt (jrem a b) = Int32.ofInt a - Int32.ofInt a / Int32.ofInt b * Int32.ofInt b := by
  unfold jrem
  rw [← div32 ha hb]
  unfold jdiv
  rw [o32, ← Int32.ofInt_mul, ← Int32.ofInt_sub]
  congr 1
  have := Int.tmod_add_tdiv_mul a b
  omega
theorem rem64 {a b : Int} (ha : j64 a) (hb : j64 b) : Int64.ofInt (lrem a b) = Int64.ofInt a - Int64.ofInt a / Int64.ofInt b * Int64.ofInt b := by
  unfold lrem
  rw [← div64 ha hb]
  unfold ldiv
  rw [o64, ← Int64.ofInt_mul, ← Int64.ofInt_sub]
  congr 1
  have := Int.tmod_add_tdiv_mul a b
  omega
theorem jrem_ok {a b : Int} (ha : j32 a) (hb : j32 b) : j32 (jrem a b) := by
  unfold jrem j32 at *
  have h1 : (a.tmod b).natAbs ≤ a.natAbs := by
    rw [Int.natAbs_tmod]
    exact Nat.mod_le _ _
  rcases Int.le_total 0 a with h | h
  · have := Int.tmod_nonneg b h
    omega
  · have : a.tmod b ≤ 0 := by
      have h2 := Int.tmod_nonneg b (a := -a) (by omega)
      rw [Int.neg_tmod] at h2
      omega
    omega
theorem lrem_ok {a b : Int} (ha : j64 a) (hb : j64 b) : j64 (lrem a b) := by
  unfold lrem j64 at *
  have h1 : (a.tmod b).natAbs ≤ a.natAbs := by
    rw [Int.natAbs_tmod]
    exact Nat.mod_le _ _
  rcases Int.le_total 0 a with h | h
  · have := Int.tmod_nonneg b h
    omega
  · have : a.tmod b ≤ 0 := by
      have h2 := Int.tmod_nonneg b (a := -a) (by omega)
      rw [Int.neg_tmod] at h2
      omega
    omega
theorem and32 (a b : Int) : Int32.ofInt (iAnd a b) = Int32.ofInt a &&& Int32.ofInt b := Int32.ofInt_toInt _
theorem or32 (a b : Int) : Int32.ofInt (iOr a b) = Int32.ofInt a ||| Int32.ofInt b := Int32.ofInt_toInt _
theorem xor32 (a b : Int) : Int32.ofInt (iXor a b) = Int32.ofInt a ^^^ Int32.ofInt b := Int32.ofInt_toInt _
theorem shl32 (a b : Int) : Int32.ofInt (iShl a b) = Int32.ofInt a <<< (Int32.ofInt b &&& 31) := Int32.ofInt_toInt _
theorem shr32 (a b : Int) : Int32.ofInt (iShr a b) = Int32.ofInt a >>> (Int32.ofInt b &&& 31) := Int32.ofInt_toInt _
theorem ushr32 (a b : Int) : Int32.ofInt (iUshr a b) = ((Int32.ofInt a).toUInt32 >>> ((Int32.ofInt b).toUInt32 &&& Int32.toUInt32 31)).toInt32 := Int32.ofInt_toInt _
theorem and64 (a b : Int) : Int64.ofInt (lAnd a b) = Int64.ofInt a &&& Int64.ofInt b := Int64.ofInt_toInt _
theorem or64 (a b : Int) : Int64.ofInt (lOr a b) = Int64.ofInt a ||| Int64.ofInt b := Int64.ofInt_toInt _
theorem shl64 (a b : Int) : Int64.ofInt (lShl a b) = Int64.ofInt a <<< ((Int32.ofInt b).toInt64 &&& 63) := Int64.ofInt_toInt _
theorem shr64 (a b : Int) : Int64.ofInt (lShr a b) = Int64.ofInt a >>> ((Int32.ofInt b).toInt64 &&& 63) := Int64.ofInt_toInt _
theorem i2l32 {a : Int} (h : j32 a) : (Int32.ofInt a).toInt64 = Int64.ofInt a := by
  apply Int64.toInt_inj.1
  rw [Int32.toInt_toInt64, t32 h, t64]
  unfold j32 at h; unfold j64; omega
theorem j32_64 {a : Int} (h : j32 a) : j64 a := by unfold j32 at h; unfold j64; omega
theorem l2i64 {a : Int} (h : j64 a) : (Int64.ofInt a).toInt32 = Int32.ofInt (w32 a) := by
  apply Int32.toInt_inj.1
  rw [Int64.toInt_toInt32, t64 h, t32 (w32_ok a), w32_bmod]
theorem lCmp_ok (a b : Int) : j32 (lCmp a b) := by
  unfold lCmp j32
  split
  · omega
  · split <;> omega
theorem cmp64 {a b : Int} (ha : j64 a) (hb : j64 b) : Int32.ofInt (lCmp a b) = lg_cmp (Int64.ofInt a) (Int64.ofInt b) := by
  unfold lCmp lg_cmp
  simp only [lt64 ha hb, lt64 hb ha, eq64 ha hb, eq64 hb ha]
  split <;> (try split) <;> (try split) <;> first | rfl | omega
end
section
/-! 'va_AOA', which the printed names use and the kit does not have -/
def va_AOA (ty : FieldType) (U : State) : Prop := (Cond.arrayOver (.array ty)).before #[] U = true
theorem va_AOA.use {ty : FieldType} {A : Array Value} {U : State} (h : va_AOA ty U) : (Cond.arrayOver (.array ty)).before A U = true := h
/-! ===== BEGIN new T[n][m]: the outer array a place, the inner ones among the pooled ===== -/
/-- f, but v at every address of l -/
def vr_up {α : Type} (f : Nat → α) (l : List Nat) (v : α) : Nat → α := fun a => if a ∈ l then v else f a
theorem vr_up_in {α : Type} {f : Nat → α} {l : List Nat} {v : α} {a : Nat} (h : a ∈ l) : vr_up f l v a = v := if_pos h
theorem vr_up_ne {α : Type} {f : Nat → α} {l : List Nat} {v : α} {a : Nat} (h : a ∉ l) : vr_up f l v a = f a := if_neg h
theorem vr_rows {L l : List Nat} {f : Nat → va_E} {e : va_E} (h : ∀ a, a ∈ l → a ∉ L) : va_pl L f ++ l.map (fun a => (a, e)) = va_pl (L ++ l) (vr_up f l e) := by
  unfold va_pl
  rw [List.map_append]
  congr 1
  · apply List.map_congr_left
    intro a ha
    rw [vr_up_ne (fun q => h a q ha)]
  · apply List.map_congr_left
    intro a ha
    rw [vr_up_in ha]
theorem vr_lay {X rows : va_W} {x : Nat × va_E} {pl : va_W} {D : va_G} {cl : List vw_C} {H : Heap} (hP : va_P D cl (((X ++ pl) ++ [x]) ++ rows) H) : va_P D cl ((X ++ [x]) ++ (pl ++ rows)) H := by
  rw [List.append_assoc (X ++ pl)] at hP
  have h := va_P.swap hP
  rw [← List.append_assoc X] at h
  have h2 := va_P.swap h
  rw [List.append_assoc (X ++ [x])] at h2
  exact h2
theorem vr_layD {X rows : va_W} {x : Nat × va_E} {pl : va_W} {A : Nat → Prop} (hD : va_D A (((X ++ pl) ++ [x]) ++ rows)) : va_D A ((X ++ [x]) ++ (pl ++ rows)) := by
  rw [List.append_assoc (X ++ pl)] at hD
  have h := va_D.swap hD
  rw [← List.append_assoc X] at h
  have h2 := va_D.swap h
  rw [List.append_assoc (X ++ [x])] at h2
  exact h2
theorem vr_outer (c : ClassId) (N h0 : Nat) : ∀ i : Nat, Jvm.Free.Multi.outerC c N h0 i = arrV c N (fun j => va_rf (if j < i then some (h0 + 1 + j) else none))
  | 0 => by
    show ({ cls := c, slots := Array.replicate N .null, vm := .none } : Cell) = _
    rw [arrV_new]
    refine congrArg (arrV c N) (funext fun j => ?_)
    simp [va_rf]
  | i + 1 => by
    show (Jvm.Free.Multi.outerC c N h0 i).setSlot i (.ref (h0 + 1 + i)) = _
    rw [vr_outer c N h0 i, arrV_store]
    refine congrArg (arrV c N) (funext fun j => ?_)
    by_cases e : j = i
    · subst e
      simp [updV, va_rf]
    · by_cases h : j < i
      · simp [updV, e, h, Nat.lt_succ_of_lt h]
      · simp [updV, e, h, show ¬ j < i + 1 by omega]
section VGM
variable {p : Program} {l : Launch} {e : Env} {R : Room} {s : State} {m : MethodId} {args : Array Value} {below : List Frame} {meth : Method} {c : Code} {H : Heap} {locs : List Loc} {cells slots : Nat} {Q : State → Prop}
variable {cc : ByteArray} {pc : Nat} {ls : Array Slot} {rest : List Value} {D : va_G} {cl : List vw_C} {A : Nat → Prop} {a : Nat} {tys : List (ClassId × FieldType)} {ws : va_W} {H0 : Heap}
theorem va_mna {X : va_W} {L : List Nat} {f : Nat → va_E} {cc : ByteArray} (hexec : p.tables.exec = Jvm.exec) (hb : c.code = cc) {own : String} {index : Nat} {ty : FieldType} {cy : ClassId} (hown : s.vm.findClass own = some m.cls) (hclink : (Cond.classLink own index ("[" ++ (FieldType.array ty).toString)).before args s = true) (hover : va_AOA ty s) (harr : (Cond.arrayClass ty).before args s = true) (hcy : s.vm.findClass (FieldType.array ty).toString = some cy)
    (hK : va_K D cl tys s) (hP : va_P D cl (X ++ va_pl L f) H) (hD : va_D A (X ++ va_pl L f)) (hS : va_S A H0 H locs) (hA : ∀ q, H0.size ≤ q → A q) {n k : Int32} {N' K' : Nat} {z : vp_A} (hn : ¬ n < 0) (hk : ¬ k < 0) (hN : n.toNatClampNeg = N') (hM : k.toNatClampNeg = K')
    (hb1 : N' * 4 ≤ 536870912) (hb2 : K' * componentBytes ty ≤ 536870912) (hb3 : K' ≤ 536870912) (hdf : fits ty (defaultValue ty) = true) (hdd : (defaultValue ty).isDefault = true) (hcells : cells + (1 + N') ≤ R.cells) (hslots : slots + (N' + N' * K') ≤ R.slots) (hz : ∀ c : ClassId, Jvm.Free.Multi.innerC c K' (defaultValue ty) = vp_cell c z) (hdg : decode cc pc = .ok (.multianewarray index 2, 4))
    (kk : ∀ (q : Nat) (r : Nat → Nat) (cA : ClassId) (H1 : Heap), (∀ i j : Nat, i < N' → j < N' → r i = r j → i = j) → (∀ i : Nat, i < N' → r i ∉ L) → va_K D cl (tys ++ [(cA, .array ty)]) s →
      va_P D cl ((X ++ [(q, .inl (cA, N', .inr (.inr (.inr (.inr (fun i => if i < N' then some (r i) else none))))))]) ++ va_pl (L ++ (List.range N').map r) (vr_up f ((List.range N').map r) (.inl (cy, z)))) H1 → va_D A ((X ++ [(q, .inl (cA, N', .inr (.inr (.inr (.inr (fun i => if i < N' then some (r i) else none))))))]) ++ va_pl (L ++ (List.range N').map r) (vr_up f ((List.range N').map r) (.inl (cy, z)))) → va_S A H0 H1 locs →
      W p l e R s m args below meth c H1 locs (cells + 1 + N') (slots + N' + N' * K') Q (F0 m (pc + 4) ls (.ref q :: rest))) : W p l e R s m args below meth c H locs cells slots Q (F0 m pc ls (.int k :: .int n :: rest)) := by
  subst hN
  subst hM
  intro T hT Xs
  obtain ⟨vm₁, cA, comp, -, fA, fC, hO, -, X', step⟩ := Xs.multianewarray2F hexec hown hclink (va_AOA.use hover) harr (g := F0 m pc ls (.int k :: .int n :: rest)) rfl (by rw [hb]; exact hdg) rfl hn hk hb1 hb2 hb3 hdf hdd hcells hslots
  have ec : some cy = some comp := hcy.symm.trans fC
  cases ec
  generalize hF : Jvm.Free.Multi.fill (T.setVm vm₁) cA cy n.toNatClampNeg k.toNatClampNeg (defaultValue ty) n.toNatClampNeg = F at X' step
  have hTh : (T.setVm vm₁).heap = H := hT
  obtain ⟨f1, f2, -, -⟩ := Jvm.Free.Multi.fill_facts (T.setVm vm₁) cA cy n.toNatClampNeg k.toNatClampNeg (defaultValue ty) n.toNatClampNeg
  rw [hF, hTh] at f1 f2
  have hold : ∀ x : Nat, x < H.size → F.heap[x]? = H[x]? := fun x hx => by
    have := Jvm.Free.Multi.fill_old (T.setVm vm₁) cA cy n.toNatClampNeg k.toNatClampNeg (defaultValue ty) (a := x) (by rw [hTh]; exact hx) n.toNatClampNeg
    rw [hF, hTh] at this
    exact this
  have hrow : ∀ j : Nat, j < n.toNatClampNeg → F.heap[H.size + 1 + j]? = some (vp_cell cy z) := fun j hj => by
    have := Jvm.Free.Multi.fill_inner (T.setVm vm₁) cA cy n.toNatClampNeg k.toNatClampNeg (defaultValue ty) n.toNatClampNeg j hj
    rw [hF, hTh, hz] at this
    exact this
  have hout : Jvm.Free.Multi.outerC cA n.toNatClampNeg H.size n.toNatClampNeg = vp_cell cA (n.toNatClampNeg, .inr (.inr (.inr (.inr (fun i => if i < n.toNatClampNeg then some (H.size + 1 + i) else none))))) := by
    rw [vp_cell_q]
    exact vr_outer cA n.toNatClampNeg H.size n.toNatClampNeg
  rw [hout] at f2
  have hlt : ∀ a, a ∈ L → a < H.size := fun a ha => by
    obtain ⟨k9, hk9⟩ := va_pl_get (X := X) (f := f) ha
    exact (hP k9 _ hk9).lt
  have hnl : ∀ i : Nat, i < n.toNatClampNeg → H.size + 1 + i ∉ L := fun i _ h => by
    have := hlt _ h
    omega
  have hnm : ∀ a, a ∈ (List.range n.toNatClampNeg).map (fun i => H.size + 1 + i) → a ∉ L := fun a ha h => by
    obtain ⟨i, -, rfl⟩ := List.mem_map.mp ha
    have := hlt _ h
    omega
  have hP0 : va_P D cl (X ++ va_pl L f) F.heap := hP.kept (fun k9 x hx => hold x.1 ((hP k9 x hx).lt))
  have hP1 : va_P D cl ((X ++ va_pl L f) ++ [(H.size, .inl (cA, n.toNatClampNeg, .inr (.inr (.inr (.inr (fun i => if i < n.toNatClampNeg then some (H.size + 1 + i) else none))))))]) F.heap := hP0.app (fun k9 x hx => by
    have h0 : k9 < 1 := (List.getElem?_eq_some_iff.mp hx).1
    rw [show k9 = 0 by omega] at hx
    cases hx
    exact f2)
  have hP2 : va_P D cl (((X ++ va_pl L f) ++ [(H.size, .inl (cA, n.toNatClampNeg, .inr (.inr (.inr (.inr (fun i => if i < n.toNatClampNeg then some (H.size + 1 + i) else none))))))]) ++ ((List.range n.toNatClampNeg).map (fun i => H.size + 1 + i)).map (fun a => (a, .inl (cy, z)))) F.heap := hP1.app (fun k9 x hx => by
    obtain ⟨a, ha, rfl⟩ := List.mem_map.mp (List.mem_of_getElem? hx)
    obtain ⟨i, hi, rfl⟩ := List.mem_map.mp ha
    exact hrow i (List.mem_range.mp hi))
  have hD2 : va_D A (((X ++ va_pl L f) ++ [(H.size, .inl (cA, n.toNatClampNeg, .inr (.inr (.inr (.inr (fun i => if i < n.toNatClampNeg then some (H.size + 1 + i) else none))))))]) ++ ((List.range n.toNatClampNeg).map (fun i => H.size + 1 + i)).map (fun a => (a, .inl (cy, z)))) := by
    have hD1 := hD.push (e := .inl (cA, n.toNatClampNeg, .inr (.inr (.inr (.inr (fun i => if i < n.toNatClampNeg then some (H.size + 1 + i) else none)))))) hP rfl (hA _ hS.1)
    generalize hW1 : (X ++ va_pl L f) ++ [(H.size, .inl (cA, n.toNatClampNeg, .inr (.inr (.inr (.inr (fun i => if i < n.toNatClampNeg then some (H.size + 1 + i) else none))))))] = W1 at hD1 hP1 ⊢
    have hle : ∀ (k9 : Nat) (x : Nat × va_E), W1[k9]? = some x → x.1 ≤ H.size := fun k9 x hx => by
      rw [← hW1] at hx
      by_cases hl : k9 < (X ++ va_pl L f).length
      · rw [List.getElem?_append_left hl] at hx
        exact Nat.le_of_lt ((hP k9 x hx).lt)
      · rw [List.getElem?_append_right (by omega)] at hx
        have h0 : k9 - (X ++ va_pl L f).length < 1 := (List.getElem?_eq_some_iff.mp hx).1
        rw [show k9 - (X ++ va_pl L f).length = 0 by omega] at hx
        cases hx
        exact Nat.le_refl _
    have hr : ∀ (k9 : Nat) (x : Nat × va_E), (((List.range n.toNatClampNeg).map (fun i => H.size + 1 + i)).map (fun a => ((a, .inl (cy, z)) : Nat × va_E)))[k9]? = some x → x.1 = H.size + 1 + k9 := fun k9 x hx => by
      rw [List.getElem?_map, List.getElem?_map] at hx
      by_cases h9 : k9 < n.toNatClampNeg
      · rw [List.getElem?_range h9] at hx
        cases hx
        rfl
      · have hn0 : (List.range n.toNatClampNeg)[k9]? = none := List.getElem?_eq_none (by rw [List.length_range]; omega)
        rw [hn0] at hx
        cases hx
    refine ⟨fun i j x y hi hj hxy => ?_, fun k9 x hx => ?_⟩
    · by_cases h1 : i < W1.length <;> by_cases h2 : j < W1.length
      · rw [List.getElem?_append_left h1] at hi
        rw [List.getElem?_append_left h2] at hj
        exact hD1.1 i j x y hi hj hxy
      · rw [List.getElem?_append_left h1] at hi
        rw [List.getElem?_append_right (by omega)] at hj
        have := hle _ _ hi
        have := hr _ _ hj
        omega
      · rw [List.getElem?_append_right (by omega)] at hi
        rw [List.getElem?_append_left h2] at hj
        have := hle _ _ hj
        have := hr _ _ hi
        omega
      · rw [List.getElem?_append_right (by omega)] at hi hj
        have := hr _ _ hi
        have := hr _ _ hj
        omega
    · by_cases h1 : k9 < W1.length
      · rw [List.getElem?_append_left h1] at hx
        exact hD1.2 k9 x hx
      · rw [List.getElem?_append_right (by omega)] at hx
        have := hr _ _ hx
        exact hA _ (by have := hS.1; omega)
  have hAr : ArrOfT s cA (.array ty) := fun N9 z9 => by
    obtain ⟨-, k9, hk9, cm9, hkk9⟩ := (hO 0 0 0).1
    exact ⟨(fun q hq => by cases hq), k9, hk9, cm9, hkk9⟩
  have hK2 : va_K D cl (tys ++ [(cA, .array ty)]) s := ⟨hK.1, fun k9 x hx => by
    by_cases hl : k9 < tys.length
    · rw [List.getElem?_append_left hl] at hx
      exact hK.2 k9 x hx
    · rw [List.getElem?_append_right (by omega)] at hx
      have h0 : k9 - tys.length < 1 := (List.getElem?_eq_some_iff.mp hx).1
      rw [show k9 - tys.length = 0 by omega] at hx
      cases hx
      exact ⟨hAr, fA⟩⟩
  obtain ⟨t, a1, b1⟩ := kk H.size (fun i => H.size + 1 + i) cA F.heap (fun i j _ _ h => by have h9 : H.size + 1 + i = H.size + 1 + j := h; omega) hnl hK2 (by rw [← vr_rows hnm]; exact vr_lay hP2) (by rw [← vr_rows hnm]; exact vr_layD hD2) ⟨by rw [f1]; have := hS.1; omega, fun x h1 h2 => (hold x (Nat.lt_of_lt_of_le h1 hS.1)).trans (hS.2.1 x h1 h2), hS.2.2⟩ F rfl X'
  refine ⟨t, step t ?_, b1⟩
  have e : T.heap.size = H.size := by rw [hT]
  rw [e]
  exact a1
end VGM
/-! ===== END ===== -/
end
section
/-! the pure machine's store and the heap -/
abbrev jtys (cy : Nat → ClassId) : List (ClassId × FieldType) := [(cy 13, .char), (cy 14, .int), (cy 15, .long), (cy 16, .boolean), (cy 17, .object RX1), (cy 18, .object RX3), (cy 19, .array .int)]
def jref (ad : Int → Nat) (z : Int) : Option Nat := if z = -1 then none else some (ad z)
def jtr (ad : Int → Nat) (v : jV) : Value := if v.1 = 0 then .int (Int32.ofInt v.2) else if v.1 = 1 then .long (Int64.ofInt v.2) else va_rf (jref ad v.2)
/-- the type's code of slot j of an object of class c: 0 int, 1 long, 2 boolean, 10 + k a reference to a cell of kind k -/
def jty (c j : Nat) : Nat := (jtc.getD c []).getD j 0
def jfv (ad : Int → Nat) (S : jS) (k : Nat) (c j : Nat) : Value := if jty c j = 1 then .long (Int64.ofInt (S.2 k j)) else if jty c j ≤ 2 then .int (Int32.ofInt (S.2 k j)) else va_rf (jref ad (gR S.1 k j))
def jfs (ad : Int → Nat) (S : jS) (k c : Nat) : List Value := (List.range (jnf.getD c 0)).map (jfv ad S k c)
def jcell (cy : Nat → ClassId) (ad : Int → Nat) (S : jS) (k : Nat) : va_E :=
  if gK S.1 k ≤ 12 then .inr (gK S.1 k, jfs ad S k (gK S.1 k))
  else if gK S.1 k = 15 then .inl (cy 15, (gL S.1 k).toNat, .inr (.inl (fun j => Int64.ofInt (S.2 k j))))
  else if gK S.1 k ≤ 16 then .inl (cy (gK S.1 k), (gL S.1 k).toNat, .inl (fun j => Int32.ofInt (S.2 k j)))
  else .inl (cy (gK S.1 k), (gL S.1 k).toNat, .inr (.inr (.inr (.inr (fun j => jref ad (gR S.1 k j))))))
def jwld (cy : Nat → ClassId) (ad : Int → Nat) (S : jS) : va_W := (List.range (gN S.1)).map (fun k : Nat => (ad (k : Int), jcell cy ad S k))
def jokr (S : jS) (q : Nat) (z : Int) : Prop := z = -1 ∨ (0 ≤ z ∧ z < gN S.1 ∧ gK S.1 z = q)
def jok (S : jS) (v : jV) : Prop := (v.1 = 0 → j32 v.2) ∧ (v.1 = 1 → j64 v.2) ∧ (10 ≤ v.1 → v.1 ≤ 29 → jokr S (v.1 - 10) v.2) ∧ (30 ≤ v.1 → v.2 ≠ -1 ∧ v.2 < 0) ∧ (2 ≤ v.1 → v.2 < gN S.1)
def jnum (tc : Nat) (z : Int) : Prop := (tc = 0 → j32 z) ∧ (tc = 1 → j64 z) ∧ (tc = 2 → z = 0 ∨ z = 1) ∧ (tc = 3 → 0 ≤ z ∧ z ≤ 65535)
/-- what an array of a kind holds -/
def jel (kd : Nat) : Nat := if kd = 13 then 3 else if kd = 14 then 0 else if kd = 15 then 1 else if kd = 16 then 2 else if kd = 17 then 11 else if kd = 18 then 13 else 24
def jWFo (S : jS) (k : Nat) : Prop := ∀ j : Nat, j < jnf.getD (gK S.1 k) 0 → jnum (jty (gK S.1 k) j) (S.2 k j) ∧ (10 ≤ jty (gK S.1 k) j → jokr S (jty (gK S.1 k) j - 10) (gR S.1 k j))
def jWFa (S : jS) (k : Nat) : Prop := (0 ≤ gL S.1 k ∧ gL S.1 k ≤ 100000) ∧ ∀ j : Nat, (j : Int) < gL S.1 k → jnum (jel (gK S.1 k)) (S.2 k j) ∧ (10 ≤ jel (gK S.1 k) → jokr S (jel (gK S.1 k) - 10) (gR S.1 k j))
def jWF (S : jS) : Prop := ∀ k : Nat, k < gN S.1 → gK S.1 k ≤ 19 ∧ (gK S.1 k ≤ 12 → jWFo S k) ∧ (13 ≤ gK S.1 k → jWFa S k)
theorem rng_get {α : Type} (f : Nat → α) {n k : Nat} (h : k < n) : ((List.range n).map f)[k]? = some (f k) := by
  rw [List.getElem?_map, List.getElem?_range h]
  rfl
theorem rng_set {α : Type} (f g : Nat → α) {n i : Nat} (h : i < n) (hne : ∀ k, k < n → k ≠ i → g k = f k) : ((List.range n).map f).set i (g i) = (List.range n).map g := by
  apply List.ext_getElem?
  intro k
  by_cases hk : k < n
  · rw [rng_get g hk]
    by_cases e : k = i
    · subst e
      rw [List.getElem?_set_self (by simp; exact h)]
    · rw [List.getElem?_set_ne (fun q => e q.symm), rng_get f hk, hne k hk e]
  · rw [List.getElem?_eq_none (by simp; omega), List.getElem?_eq_none (by simp; omega)]
theorem jwld_get (cy : Nat → ClassId) (ad : Int → Nat) (S : jS) {k : Nat} (h : k < gN S.1) : (jwld cy ad S)[k]? = some (ad k, jcell cy ad S k) := rng_get _ h
/-- a cell of the world, by its number -/
theorem jw_at (cy : Nat → ClassId) (ad : Int → Nat) {S : jS} {z : Int} (h0 : 0 ≤ z) (h : z < gN S.1) : (jwld cy ad S)[z.toNat]? = some (ad z, jcell cy ad S z.toNat) := by
  rw [jwld_get cy ad S (by omega)]
  rw [Int.toNat_of_nonneg h0]
theorem jw_obj {cy : Nat → ClassId} {ad : Int → Nat} {S : jS} {z : Int} {c : Nat} (h0 : 0 ≤ z) (h : z < gN S.1) (hk : gK S.1 z = c) (hc : c ≤ 12) : (jwld cy ad S)[z.toNat]? = some (ad z, .inr (c, jfs ad S z.toNat c)) := by
  rw [jw_at cy ad h0 h, jcell, Int.toNat_of_nonneg h0, hk, if_pos hc]
theorem jw_int {cy : Nat → ClassId} {ad : Int → Nat} {S : jS} {z : Int} {q : Nat} (h0 : 0 ≤ z) (h : z < gN S.1) (hk : gK S.1 z = q) (hq : 13 ≤ q) (hq2 : q ≤ 16) (hq3 : q ≠ 15) : (jwld cy ad S)[z.toNat]? = some (ad z, .inl (cy q, (gL S.1 z).toNat, .inl (fun j => Int32.ofInt (S.2 z j)))) := by
  rw [jw_at cy ad h0 h, jcell, Int.toNat_of_nonneg h0, hk, if_neg (by omega), if_neg hq3, if_pos hq2]
theorem jw_long {cy : Nat → ClassId} {ad : Int → Nat} {S : jS} {z : Int} (h0 : 0 ≤ z) (h : z < gN S.1) (hk : gK S.1 z = 15) : (jwld cy ad S)[z.toNat]? = some (ad z, .inl (cy 15, (gL S.1 z).toNat, .inr (.inl (fun j => Int64.ofInt (S.2 z j))))) := by
  rw [jw_at cy ad h0 h, jcell, Int.toNat_of_nonneg h0, hk, if_neg (by omega), if_pos rfl]
theorem jw_refs {cy : Nat → ClassId} {ad : Int → Nat} {S : jS} {z : Int} {q : Nat} (h0 : 0 ≤ z) (h : z < gN S.1) (hk : gK S.1 z = q) (hq : 17 ≤ q) : (jwld cy ad S)[z.toNat]? = some (ad z, .inl (cy q, (gL S.1 z).toNat, .inr (.inr (.inr (.inr (fun j => jref ad (gR S.1 z j))))))) := by
  rw [jw_at cy ad h0 h, jcell, Int.toNat_of_nonneg h0, hk, if_neg (by omega), if_neg (by omega), if_neg (by omega)]
theorem jfs_get {ad : Int → Nat} {S : jS} {k c j : Nat} (h : j < jnf.getD c 0) : (jfs ad S k c)[j]? = some (jfv ad S k c j) := rng_get _ h
theorem jup_eq (f : Int → Int → Int) (k j z : Int) : jup f k j z k j = z := by simp [jup]
theorem jup_ne {f : Int → Int → Int} {k j z a b : Int} (h : a ≠ k ∨ b ≠ j) : jup f k j z a b = f a b := by
  unfold jup
  by_cases e : a = k
  · rw [if_pos e, if_neg (by rcases h with h | h; exact absurd e h; exact h)]
  · rw [if_neg e]
theorem jup_k {f : Int → Int → Int} {k j z a b : Int} (h : a ≠ k) : jup f k j z a b = f a b := jup_ne (Or.inl h)
theorem jup_j {f : Int → Int → Int} {k j z a b : Int} (h : b ≠ j) : jup f k j z a b = f a b := jup_ne (Or.inr h)
/-- a cell that is as it was -/
theorem jcell_cong {cy : Nat → ClassId} {ad ad' : Int → Nat} {S S' : jS} {k : Nat} (hK : gK S'.1 k = gK S.1 k) (hL : gL S'.1 k = gL S.1 k) (hX : ∀ j : Nat, S'.2 k j = S.2 k j) (hR : ∀ j : Nat, jref ad' (gR S'.1 k j) = jref ad (gR S.1 k j)) : jcell cy ad' S' k = jcell cy ad S k := by
  have e1 : jfs ad' S' k (gK S.1 k) = jfs ad S k (gK S.1 k) := by
    unfold jfs
    congr 1
    funext j
    unfold jfv
    rw [hX, hR]
  unfold jcell
  rw [hK, hL, e1]
  simp only [hX, hR]
/-- one cell has changed -/
theorem jw_set {cy : Nat → ClassId} {ad : Int → Nat} {S S' : jS} {z : Int} {e : va_E} (h0 : 0 ≤ z) (h : z < gN S.1) (hN : gN S'.1 = gN S.1) (he : jcell cy ad S' z.toNat = e) (ho : ∀ k : Nat, k < gN S.1 → (k : Int) ≠ z → jcell cy ad S' k = jcell cy ad S k) : (jwld cy ad S).set z.toNat (ad z, e) = jwld cy ad S' := by
  unfold jwld
  rw [hN]
  have := rng_set (fun k : Nat => (ad (k : Int), jcell cy ad S k)) (fun k : Nat => (ad (k : Int), jcell cy ad S' k)) (n := gN S.1) (i := z.toNat) (by omega) (fun k hk hne => by
    try dsimp only
    rw [ho k hk (by omega)])
  rw [he, Int.toNat_of_nonneg h0] at this
  exact this
/-- a number of an object -/
theorem jw_setX {cy : Nat → ClassId} {ad : Int → Nat} {S : jS} {z : Int} {c j : Nat} {x : Int} {v : Value} (h0 : 0 ≤ z) (h : z < gN S.1) (hk : gK S.1 z = c) (hc : c ≤ 12) (hj : j < jnf.getD c 0) (hv : v = (if jty c j = 1 then Value.long (Int64.ofInt x) else .int (Int32.ofInt x))) (ht : jty c j ≤ 2) :
    (jwld cy ad S).set z.toNat (ad z, .inr (c, (jfs ad S z.toNat c).set j v)) = jwld cy ad (S.1, jup S.2 z j x) := by
  refine jw_set (S' := (S.1, jup S.2 z j x)) h0 h rfl ?_ ?_
  · unfold jcell
    rw [Int.toNat_of_nonneg h0]
    dsimp only
    rw [hk, if_pos hc]
    congr 2
    symm
    have := rng_set (jfv ad S z.toNat c) (jfv ad (S.1, jup S.2 z j x) z.toNat c) hj (fun k _ hne => by
      unfold jfv
      dsimp only
      rw [jup_j (by omega)])
    unfold jfs
    rw [← this]
    congr 1
    unfold jfv
    dsimp only
    rw [Int.toNat_of_nonneg h0, jup_eq, hv, if_pos ht]
  · intro k hk hne
    exact jcell_cong rfl rfl (fun j => jup_k hne) (fun j => rfl)
/-- a reference of an object -/
theorem jw_setR {cy : Nat → ClassId} {ad : Int → Nat} {S : jS} {z : Int} {c j : Nat} {x : Int} (h0 : 0 ≤ z) (h : z < gN S.1) (hk : gK S.1 z = c) (hc : c ≤ 12) (hj : j < jnf.getD c 0) (ht : ¬ jty c j ≤ 2) :
    (jwld cy ad S).set z.toNat (ad z, .inr (c, (jfs ad S z.toNat c).set j (va_rf (jref ad x)))) = jwld cy ad (jsetR S z j x) := by
  refine jw_set (S' := jsetR S z j x) h0 h rfl ?_ ?_
  · unfold jcell
    rw [Int.toNat_of_nonneg h0]
    have e1 : gK (jsetR S z j x).1 z = c := hk
    rw [e1, if_pos hc]
    congr 2
    symm
    have := rng_set (jfv ad S z.toNat c) (jfv ad (jsetR S z j x) z.toNat c) hj (fun k _ hne => by
      unfold jfv jsetR gR
      dsimp only
      rw [jup_j (by omega)])
    unfold jfs
    rw [← this]
    congr 1
    unfold jfv jsetR gR
    dsimp only
    rw [Int.toNat_of_nonneg h0, jup_eq, if_neg (by omega), if_neg ht]
  · intro k hk hne
    refine jcell_cong rfl rfl (fun j => rfl) (fun j => ?_)
    unfold jsetR gR
    dsimp only
    rw [jup_k hne]
/-- an element of an array of ints, chars, booleans -/
theorem jw_setI {cy : Nat → ClassId} {ad : Int → Nat} {S : jS} {z : Int} {q : Nat} {i x : Int} {n : Nat} (h0 : 0 ≤ z) (h : z < gN S.1) (hk : gK S.1 z = q) (hq : 13 ≤ q) (hq2 : q ≤ 16) (hq3 : q ≠ 15) (hi : 0 ≤ i) (hn : n = i.toNat) :
    (jwld cy ad S).set z.toNat (ad z, .inl (cy q, (gL S.1 z).toNat, .inl (upd (fun j => Int32.ofInt (S.2 z j)) n (Int32.ofInt x)))) = jwld cy ad (S.1, jup S.2 z i x) := by
  refine jw_set (S' := (S.1, jup S.2 z i x)) h0 h rfl ?_ ?_
  · unfold jcell
    rw [Int.toNat_of_nonneg h0]
    dsimp only
    rw [hk, if_neg (by omega), if_neg hq3, if_pos hq2]
    congr 4
    funext j
    unfold upd
    by_cases e : j = n
    · rw [if_pos e, show (j : Int) = i by omega, jup_eq]
    · rw [if_neg e, jup_j (by omega)]
  · intro k hk hne
    exact jcell_cong rfl rfl (fun j => jup_k hne) (fun j => rfl)
theorem jw_setL {cy : Nat → ClassId} {ad : Int → Nat} {S : jS} {z : Int} {i x : Int} {n : Nat} (h0 : 0 ≤ z) (h : z < gN S.1) (hk : gK S.1 z = 15) (hi : 0 ≤ i) (hn : n = i.toNat) :
    (jwld cy ad S).set z.toNat (ad z, .inl (cy 15, (gL S.1 z).toNat, .inr (.inl (vp_updL (fun j => Int64.ofInt (S.2 z j)) n (Int64.ofInt x))))) = jwld cy ad (S.1, jup S.2 z i x) := by
  refine jw_set (S' := (S.1, jup S.2 z i x)) h0 h rfl ?_ ?_
  · unfold jcell
    rw [Int.toNat_of_nonneg h0]
    dsimp only
    rw [hk, if_neg (by omega), if_pos rfl]
    congr 5
    funext j
    unfold vp_updL
    by_cases e : j = n
    · rw [if_pos e, show (j : Int) = i by omega, jup_eq]
    · rw [if_neg e, jup_j (by omega)]
  · intro k hk hne
    exact jcell_cong rfl rfl (fun j => jup_k hne) (fun j => rfl)
theorem jw_setQ {cy : Nat → ClassId} {ad : Int → Nat} {S : jS} {z : Int} {q : Nat} {i x : Int} {n : Nat} (h0 : 0 ≤ z) (h : z < gN S.1) (hk : gK S.1 z = q) (hq : 17 ≤ q) (hi : 0 ≤ i) (hn : n = i.toNat) :
    (jwld cy ad S).set z.toNat (ad z, .inl (cy q, (gL S.1 z).toNat, .inr (.inr (.inr (.inr (va_up (fun j => jref ad (gR S.1 z j)) n (jref ad x))))))) = jwld cy ad (jsetR S z i x) := by
  refine jw_set (S' := jsetR S z i x) h0 h rfl ?_ ?_
  · unfold jcell
    rw [Int.toNat_of_nonneg h0]
    have e1 : gK (jsetR S z i x).1 z = q := hk
    have e2 : gL (jsetR S z i x).1 z = gL S.1 z := rfl
    rw [e1, e2, if_neg (by omega), if_neg (by omega), if_neg (by omega)]
    congr 7
    funext j
    unfold va_up jsetR gR
    dsimp only
    by_cases e : j = n
    · rw [if_pos e, show (j : Int) = i by omega, jup_eq]
    · rw [if_neg e, jup_j (by omega)]
  · intro k hk hne
    refine jcell_cong rfl rfl (fun j => rfl) (fun j => ?_)
    unfold jsetR gR
    dsimp only
    rw [jup_k hne]
end
section
/-! what the tables say of the program -/
/-- the words that every method has -/
def jtbl : List Cond := lw_tbl.filter goodWord
theorem mem_jtbl {w : Cond} (h : w ∈ lw_tbl) (hg : goodWord w = true) : w ∈ jtbl := List.mem_filter.mpr ⟨h, hg⟩
def jTyp (tc : Nat) : FieldType := match tc with
  | 0 => .int
  | 1 => .long
  | 2 => .boolean
  | 23 => .array .char
  | 24 => .array .int
  | 25 => .array .long
  | 26 => .array .boolean
  | 27 => .array (.object RX1)
  | 28 => .array (.object RX3)
  | 29 => .array (.array .int)
  | n => .object (jcn.getD (n - 10) "")
def jFT (c : Nat) : u_T := jTT.getD c TX0
theorem cls_ok : ∀ c : Nat, c ≤ 12 → vwCl[c]? = some (jcn.getD c "", jFT c, jnf.getD c 0)
  | 0, _ => rfl | 1, _ => rfl | 2, _ => rfl | 3, _ => rfl | 4, _ => rfl | 5, _ => rfl | 6, _ => rfl | 7, _ => rfl | 8, _ => rfl | 9, _ => rfl | 10, _ => rfl | 11, _ => rfl | 12, _ => rfl
  | n + 13, h => absurd h (by omega)
theorem ty_ok' : ∀ c, c < 13 → ∀ k, k < jnf.getD c 0 → parseFieldDescriptor ((jFT c) k).2.2.1 = some (jTyp (jty c k)) := by decide +kernel
theorem ty_ok {c : Nat} (h : c ≤ 12) : ∀ k, k < jnf.getD c 0 → parseFieldDescriptor ((jFT c) k).2.2.1 = some (jTyp (jty c k)) := ty_ok' c (by omega)
theorem nm_ok : ∀ c : Nat, c ≤ 12 → ∀ a, a < jnf.getD c 0 → ∀ b, b < jnf.getD c 0 → a ≠ b → ((jFT c) a).2.1 ≠ ((jFT c) b).2.1
  | 0, _ => nmX0 | 1, _ => nmX1 | 2, _ => nmX2 | 3, _ => nmX3 | 4, _ => nmX4 | 5, _ => nmX5 | 6, _ => nmX6 | 7, _ => nmX7 | 8, _ => nmX8 | 9, _ => nmX9 | 10, _ => nmX10 | 11, _ => nmX11 | 12, _ => nmX12
  | n + 13, h => absurd h (by omega)
theorem dl_ok' : ∀ c, c < 13 → ∀ k, k < jnf.getD c 0 → ((jFT c) k).1 = jcn.getD c "" := by decide +kernel
theorem tc_ok' : ∀ c, c < 13 → ∀ k, k < jnf.getD c 0 → jty c k ≤ 2 ∨ (10 ≤ jty c k ∧ jty c k ≤ 29) := by decide +kernel
theorem pick_mem {big ws : List Cond} {ps : List Nat} (h : ws = ps.filterMap (fun i => big[i]?)) : ∀ w ∈ ws, w ∈ big := by
  intro w hw
  rw [h] at hw
  obtain ⟨i, -, hi⟩ := List.mem_filterMap.mp hw
  exact List.mem_of_getElem? hi
theorem chunk_mem {l : List Cond} {big : List Cond} {n : Nat} (hl : l.length ≤ 40 * n) (h : ∀ c, c < n → ∀ w ∈ (l.drop (40 * c)).take 40, w ∈ big) : ∀ w ∈ l, w ∈ big := by
  intro w hw
  obtain ⟨i, hi⟩ := List.getElem?_of_mem hw
  have hlt := (List.getElem?_eq_some_iff.mp hi).1
  refine h (i / 40) (by omega) w (List.mem_of_getElem? (i := i % 40) ?_)
  rw [List.getElem?_take_of_lt (by omega), List.getElem?_drop, show 40 * (i / 40) + i % 40 = i by omega]
  exact hi
theorem goodP {big ws : List Cond} (h : ∀ w ∈ ws, w ∈ big) (hb : ∀ w ∈ big, w ∈ lw_tbl) (hg : ∀ w ∈ ws, goodWord w = true) : ∀ w ∈ ws, w ∈ jtbl := fun w hw => mem_jtbl (hb w (h w hw)) (hg w hw)
theorem tab_in : ∀ w ∈ tables_1, w ∈ lw_tbl := fun _ h => List.mem_append_right _ h
def jlays : List Cond := (List.range 13).flatMap (fun c => u_ws (jcn.getD c "") (jFT c) (jnf.getD c 0))
set_option maxRecDepth 100000 in
theorem e_lay_0 : ((jlays).drop 0).take 40 = [355, 357, 359, 361, 166, 168, 170, 172, 174, 291, 293, 295, 264, 266, 268, 270, 272, 274, 276, 106, 108, 110, 112, 114, 116, 118, 120, 122, 124, 126, 128, 130, 132, 134, 136, 138, 140, 142, 400, 402].filterMap (fun i => (tables_1)[i]?) := by rfl
set_option maxRecDepth 100000 in
theorem e_lay_1 : ((jlays).drop 40).take 40 = [413, 415, 212, 214, 216, 218, 220, 222, 224, 226, 228, 230, 232, 322, 324, 326, 328, 330, 332, 334, 336, 338, 340, 342, 377, 379, 381, 383, 385, 387, 389, 194, 196, 437, 439, 441, 443, 445, 447, 449].filterMap (fun i => (tables_1)[i]?) := by rfl
set_option maxRecDepth 100000 in
theorem e_lay_2 : ((jlays).drop 80).take 40 = [451, 453, 455, 457, 459, 461, 463, 465, 467, 469, 471, 473, 1434, 1436, 1438, 1440, 1442, 1444, 1446, 1448, 1450, 1452, 1454, 1456, 1458, 1460, 1462, 1464, 1466, 1468, 1470, 1472, 1474, 1476, 1478, 1480, 1482, 1484, 1486, 1488].filterMap (fun i => (tables_1)[i]?) := by rfl
set_option maxRecDepth 100000 in
theorem e_lay_3 : ((jlays).drop 120).take 40 = [1490, 1492, 1494, 1496, 1498, 1500, 1502, 1504, 1506, 1508, 1510, 1512, 1514, 1516, 1518, 1520, 1522, 1524, 1526, 1528, 1530, 1532, 1534, 1536, 1538, 1540, 1542, 1544, 1546, 1548, 1550, 1552, 1554, 1556, 1558, 1560, 1562, 1564, 1566, 1568].filterMap (fun i => (tables_1)[i]?) := by rfl
set_option maxRecDepth 100000 in
theorem e_lay_4 : ((jlays).drop 160).take 40 = [1570, 1572, 1574, 1576, 1578, 1580, 1582, 1584, 1586, 1588, 1590, 1592, 1594, 1596, 1598, 1600, 1602, 1604, 1606, 1608, 1610, 1612, 1614, 1616, 1618, 1620, 1622, 1624, 1626, 1628, 1630, 1632, 1634, 1636, 1638, 1640, 1642, 1644, 1646, 1648].filterMap (fun i => (tables_1)[i]?) := by rfl
set_option maxRecDepth 100000 in
theorem e_lay_5 : ((jlays).drop 200).take 40 = [1650, 1652, 1654, 1656, 1658, 1660, 1662, 1664, 1666, 1668, 1670, 1672].filterMap (fun i => (tables_1)[i]?) := by rfl
theorem q_lay : ∀ w ∈ jlays, w ∈ tables_1 := chunk_mem (n := 6) (by decide +kernel) (fun c hc => match c, hc with
  | 0, _ => pick_mem e_lay_0
  | 1, _ => pick_mem e_lay_1
  | 2, _ => pick_mem e_lay_2
  | 3, _ => pick_mem e_lay_3
  | 4, _ => pick_mem e_lay_4
  | 5, _ => pick_mem e_lay_5
  | c + 6, h => absurd h (by omega))
theorem lay_good : ∀ w ∈ jlays, goodWord w = true := by decide +kernel
theorem lay_ok {c : Nat} (h : c ≤ 12) : ∀ w ∈ u_ws (jcn.getD c "") (jFT c) (jnf.getD c 0), w ∈ jtbl := fun w hw =>
  goodP q_lay tab_in lay_good w (List.mem_flatMap.mpr ⟨c, List.mem_range.mpr (by omega), hw⟩)
def jfw (q : Nat × Nat × Nat × Nat) : Cond := Cond.fieldLink (jcn.getD q.1 "") q.2.1 (jcn.getD q.2.2.1 "") ((jFT q.2.2.1) q.2.2.2).2.1 ((jFT q.2.2.1) q.2.2.2).2.2.1
set_option maxRecDepth 100000 in
theorem e_fl_0 : ((jfl.map jfw).drop 0).take 40 = [352, 353, 351, 354, 46, 54, 59, 43, 152, 155, 71, 159, 161, 164, 62, 44, 288, 289, 290, 259, 260, 261, 262, 255, 257, 263, 40, 51, 76, 104, 154, 49, 74, 158, 163, 66, 98, 70, 75, 78].filterMap (fun i => (tables_1)[i]?) := by rfl
set_option maxRecDepth 100000 in
theorem e_fl_1 : ((jfl.map jfw).drop 40).take 40 = [82, 85, 89, 92, 95, 99, 101, 102, 36, 39, 45, 50, 53, 58, 63, 67, 398, 399, 103, 37, 47, 52, 60, 55, 90, 79, 83, 93, 64, 100, 96, 69, 88, 77, 73, 411, 412, 256, 41, 199].filterMap (fun i => (tables_1)[i]?) := by rfl
set_option maxRecDepth 100000 in
theorem e_fl_2 : ((jfl.map jfw).drop 80).take 40 = [200, 201, 210, 202, 204, 208, 205, 206, 207, 203, 313, 314, 315, 316, 311, 312, 320, 321, 258, 317, 318, 42, 319, 372, 373, 374, 375, 370, 371, 57, 86, 376, 80, 156, 192, 193, 418, 419, 420, 421].filterMap (fun i => (tables_1)[i]?) := by rfl
set_option maxRecDepth 100000 in
theorem e_fl_3 : ((jfl.map jfw).drop 120).take 40 = [422, 423, 424, 425, 426, 427, 428, 429, 430, 431, 432, 433, 434, 435, 436, 38, 48, 56, 61, 65, 68, 72, 160, 162, 165, 91, 94, 81, 84, 157, 87, 153, 97, 105, 209, 211, 1314, 1322, 1323, 1324].filterMap (fun i => (tables_1)[i]?) := by rfl
set_option maxRecDepth 100000 in
theorem e_fl_4 : ((jfl.map jfw).drop 160).take 40 = [1325, 1326, 1327, 1328, 1329, 1330, 1331, 1332, 1333, 1334, 1335, 1336, 1337, 1338, 1339, 1340, 1341, 1342, 1343, 1344, 1345, 1346, 1347, 1348, 1349, 1350, 1351, 1352, 1354, 1355, 1356, 1357, 1358, 1359, 1360, 1361, 1362, 1367, 1368, 1377].filterMap (fun i => (tables_1)[i]?) := by rfl
set_option maxRecDepth 100000 in
theorem e_fl_5 : ((jfl.map jfw).drop 200).take 40 = [1383, 1384, 1385, 1386, 1387, 1388, 1389, 1390, 1391, 1394, 1396, 1397, 1399, 1400, 1401, 1402, 1403, 1404, 1405, 1406, 1407, 1408, 1409, 1410, 1411, 1412, 1413, 1414, 1415, 1416, 1417, 1418, 1419, 1420, 1421, 1422, 1424, 1428, 1432, 1315].filterMap (fun i => (tables_1)[i]?) := by rfl
set_option maxRecDepth 100000 in
theorem e_fl_6 : ((jfl.map jfw).drop 240).take 40 = [1319, 1320, 1316, 1317, 1318, 1353, 1366, 1423, 1425, 1426, 1427, 1363, 1364, 1321, 1365, 1392, 1395, 1379, 1369, 1370, 1371, 1372, 1373, 1374, 1429, 1378, 1375, 1376, 1380, 1381, 1382, 1393, 1398, 1430, 1431, 1433].filterMap (fun i => (tables_1)[i]?) := by rfl
theorem q_fl : ∀ w ∈ jfl.map jfw, w ∈ tables_1 := chunk_mem (n := 7) (by decide +kernel) (fun c hc => match c, hc with
  | 0, _ => pick_mem e_fl_0
  | 1, _ => pick_mem e_fl_1
  | 2, _ => pick_mem e_fl_2
  | 3, _ => pick_mem e_fl_3
  | 4, _ => pick_mem e_fl_4
  | 5, _ => pick_mem e_fl_5
  | 6, _ => pick_mem e_fl_6
  | c + 7, h => absurd h (by omega))
theorem map_good {α : Type} {l : List α} {f : α → Cond} (h : ∀ q, goodWord (f q) = true) : ∀ w ∈ l.map f, goodWord w = true := by
  intro w hw
  obtain ⟨q, -, rfl⟩ := List.mem_map.mp hw
  exact h q
theorem fl_rng : ∀ q ∈ jfl, q.2.2.1 ≤ 12 ∧ q.2.2.2 < jnf.getD q.2.2.1 0 := by decide +kernel
theorem fl_ok {e : Nat} {q : Nat × Nat × Nat × Nat} (h : jfl[e]? = some q) : jfw q ∈ jtbl ∧ q.2.2.1 ≤ 12 ∧ q.2.2.2 < jnf.getD q.2.2.1 0 :=
  have hm : q ∈ jfl := List.mem_of_getElem? h
  ⟨goodP q_fl tab_in (map_good (fun _ => rfl)) _ (List.mem_map.mpr ⟨q, hm, rfl⟩), fl_rng q hm⟩
def jme (m : Nat) : MethodName × ByteArray × Nat × Option FieldType × Nat := jyy.getD m (yL_law, code, 4, some .boolean, 13)
def jy (m : Nat) : MethodName := (jme m).1
def jmw (q : Nat × Nat × Nat) : Cond := Cond.methodLink (jcn.getD q.1 "") q.2.1 (jy q.2.2)
def jnw (q : Nat × Nat × Nat) : Cond := Cond.methodLinkNest (jcn.getD q.1 "") q.2.1 (jy q.2.2) "SundayPit"
set_option maxRecDepth 100000 in
theorem e_ml_0 : ((jml.map jmw).drop 0).take 40 = [1153, 1154, 1171, 1167, 1163, 1185, 1186, 1198, 1202, 1203, 1204, 1205, 246, 840, 1272, 1273, 1274, 1275, 1276, 1292, 1293, 1095, 831, 832, 844, 836, 856, 857, 858, 866, 905, 862, 827, 852, 947, 874, 904, 899, 895, 900].filterMap (fun i => (tables_1)[i]?) := by rfl
set_option maxRecDepth 100000 in
theorem e_ml_1 : ((jml.map jmw).drop 40).take 40 = [891, 875, 1005, 971, 870, 883, 887, 975, 909, 913, 917, 920, 925, 928, 239, 779, 786, 782, 790, 848, 879, 640, 516, 517, 536, 540, 770, 626, 544, 597, 622, 646, 662, 666, 674, 761, 766, 601, 610, 627].filterMap (fun i => (tables_1)[i]?) := by rfl
set_option maxRecDepth 100000 in
theorem e_ml_2 : ((jml.map jmw).drop 80).take 40 = [628, 632, 636, 650, 654, 658, 670, 678, 682, 1238, 1239, 1240, 1241, 1242, 1243, 1249, 1250, 1256, 1257, 1258, 1262, 1263, 185, 521, 525, 526, 530, 533, 715, 606, 605, 614, 618, 707, 690, 694, 698, 702, 719, 723].filterMap (fun i => (tables_1)[i]?) := by rfl
set_option maxRecDepth 100000 in
theorem e_ml_3 : ((jml.map jmw).drop 120).take 40 = [711, 724, 757, 706, 728, 732, 736, 740, 744, 748, 751, 754, 310, 986, 993, 990, 998, 991, 999, 1000, 1001, 1009, 992, 1022, 1026, 1031, 1035, 1048, 1052, 1053, 1073, 1065, 1069, 1074, 1078, 1218, 1222, 189, 492, 496].filterMap (fun i => (tables_1)[i]?) := by rfl
set_option maxRecDepth 100000 in
theorem e_ml_4 : ((jml.map jmw).drop 160).take 40 = [1297, 179, 235, 242, 248, 251, 281, 300, 347, 366, 394, 407, 480, 484, 488, 504, 512, 771, 775, 794, 798, 802, 815, 819, 823, 931, 943, 952, 953, 954, 955, 956, 957, 958, 959, 967, 982, 1018, 1044, 1061].filterMap (fun i => (tables_1)[i]?) := by rfl
set_option maxRecDepth 100000 in
theorem e_ml_5 : ((jml.map jmw).drop 200).take 40 = [1079, 1087, 1096, 1109, 1113, 1137, 1149, 1159, 1175, 1181, 1194, 1206, 1214, 1226, 1234, 1251, 1268, 1284, 1289, 1299, 1091, 1117, 1124, 1128, 1129, 1706, 1710, 1702, 1698, 1713, 1731, 1721, 1724, 1755, 1751, 1761, 1694, 1717, 1727, 1743].filterMap (fun i => (tables_1)[i]?) := by rfl
set_option maxRecDepth 100000 in
theorem e_ml_6 : ((jml.map jmw).drop 240).take 40 = [1747, 1777, 1785, 1801, 1739, 1765, 1769, 1773, 1781, 1690, 1735, 1864, 1900, 1904, 1896, 1884, 1948, 1912, 1928, 1908, 1968, 1972, 1944, 1952, 1956, 1960, 1964, 1980, 1984, 1988, 1940, 1976, 2032, 1924, 1936, 1920, 1932, 2028, 1876, 1888].filterMap (fun i => (tables_1)[i]?) := by rfl
set_option maxRecDepth 100000 in
theorem e_ml_7 : ((jml.map jmw).drop 280).take 40 = [1880, 1892, 1916, 2000, 2012, 2016, 2024, 2039, 2047, 2051, 2055, 2072, 2076, 2080, 2068, 2093, 2097, 2089, 2106, 2110, 2122, 2126, 2151, 2159, 2162, 2147, 2183, 2179, 2175, 2191, 2209, 2205, 2201, 1797, 1841, 1829, 1813, 1817, 1809, 1789].filterMap (fun i => (tables_1)[i]?) := by rfl
set_option maxRecDepth 100000 in
theorem e_ml_8 : ((jml.map jmw).drop 320).take 40 = [1821, 1825, 1837, 1844, 1848, 1805, 1833, 1793, 1852, 1856, 1860, 1992, 1997, 2226, 2217, 2222, 2230, 2238, 2242, 2247, 2262, 2258, 24, 1309, 476, 1678, 500, 1682, 508, 1686, 807, 1868, 811, 1872, 935, 2003, 939, 2008, 948, 2020].filterMap (fun i => (tables_1)[i]?) := by rfl
set_option maxRecDepth 100000 in
theorem e_ml_9 : ((jml.map jmw).drop 360).take 40 = [963, 2035, 978, 2043, 1010, 2059, 1014, 2063, 1039, 2084, 1057, 2102, 1083, 2118, 1097, 2130, 1101, 2134, 1105, 2142, 1133, 2114, 1141, 2138, 1145, 2166, 1155, 2170, 1190, 2187, 1210, 2195, 1230, 2213, 1264, 2234, 1280, 2250, 1285, 2254].filterMap (fun i => (tables_1)[i]?) := by rfl
set_option maxRecDepth 100000 in
theorem e_ml_10 : ((jml.map jmw).drop 400).take 40 = [1303, 2267].filterMap (fun i => (tables_1)[i]?) := by rfl
theorem q_ml : ∀ w ∈ jml.map jmw, w ∈ tables_1 := chunk_mem (n := 11) (by decide +kernel) (fun c hc => match c, hc with
  | 0, _ => pick_mem e_ml_0
  | 1, _ => pick_mem e_ml_1
  | 2, _ => pick_mem e_ml_2
  | 3, _ => pick_mem e_ml_3
  | 4, _ => pick_mem e_ml_4
  | 5, _ => pick_mem e_ml_5
  | 6, _ => pick_mem e_ml_6
  | 7, _ => pick_mem e_ml_7
  | 8, _ => pick_mem e_ml_8
  | 9, _ => pick_mem e_ml_9
  | 10, _ => pick_mem e_ml_10
  | c + 11, h => absurd h (by omega))
set_option maxRecDepth 100000 in
theorem e_nl_0 : ((jnl.map jnw).drop 0).take 40 = [287, 686, 765, 1247, 1248, 309, 32, 148].filterMap (fun i => (tables_1)[i]?) := by rfl
theorem q_nl : ∀ w ∈ jnl.map jnw, w ∈ tables_1 := chunk_mem (n := 1) (by decide +kernel) (fun c hc => match c, hc with
  | 0, _ => pick_mem e_nl_0
  | c + 1, h => absurd h (by omega))
theorem ml_ok {q : Nat × Nat × Nat} (h : q ∈ jml) : jmw q ∈ jtbl := goodP q_ml tab_in (map_good (fun _ => rfl)) _ (List.mem_map.mpr ⟨q, h, rfl⟩)
theorem nl_ok {q : Nat × Nat × Nat} (h : q ∈ jnl) : jnw q ∈ lw_tbl := tab_in _ (q_nl _ (List.mem_map.mpr ⟨q, h, rfl⟩))
def jcodew (q : MethodName × ByteArray × Nat × Option FieldType × Nat) : Cond := Cond.code q.1 q.2.1 q.2.2.1 q.2.2.2.1
def jlawn : Nat := 342
set_option maxRecDepth 100000 in
theorem e_cw_0 : (((jyy.eraseIdx 342).map jcodew).drop 0).take 40 = [349, 797, 1152, 1170, 1166, 1162, 1184, 1197, 1209, 1201, 150, 245, 996, 843, 839, 822, 916, 818, 1271, 1291, 1302, 283, 934, 801, 1094, 1140, 253, 830, 835, 865, 855, 861, 826, 1127, 946, 890, 903, 898, 894, 1034].filterMap (fun i => (tables_1)[i]?) := by rfl
set_option maxRecDepth 100000 in
theorem e_cw_1 : (((jyy.eraseIdx 342).map jcodew).drop 40).take 40 = [962, 1004, 1132, 1008, 970, 869, 974, 908, 912, 919, 34, 238, 778, 781, 1112, 789, 851, 793, 873, 1174, 882, 878, 886, 847, 639, 642, 396, 515, 543, 600, 625, 631, 649, 661, 665, 669, 673, 677, 769, 409].filterMap (fun i => (tables_1)[i]?) := by rfl
set_option maxRecDepth 100000 in
theorem e_cw_2 : (((jyy.eraseIdx 342).map jcodew).drop 80).take 40 = [1237, 1246, 1254, 1261, 181, 520, 621, 609, 535, 532, 524, 539, 718, 547, 722, 604, 613, 617, 635, 653, 657, 681, 710, 685, 764, 705, 714, 689, 693, 697, 760, 701, 727, 731, 735, 739, 743, 747, 750, 753].filterMap (fun i => (tables_1)[i]?) := by rfl
set_option maxRecDepth 100000 in
theorem e_cw_3 : (((jyy.eraseIdx 342).map jcodew).drop 120).take 40 = [756, 302, 805, 985, 989, 1021, 1025, 1029, 1038, 1047, 1051, 1056, 368, 1072, 1064, 1082, 1068, 1077, 1217, 1229, 1221, 1225, 187, 483, 529, 507, 495, 499, 491, 1296, 1279, 26, 479, 503, 511, 810, 814, 938, 942, 951].filterMap (fun i => (tables_1)[i]?) := by rfl
set_option maxRecDepth 100000 in
theorem e_cw_4 : (((jyy.eraseIdx 342).map jcodew).drop 160).take 40 = [966, 981, 1013, 1017, 1042, 1060, 1086, 1100, 1104, 1108, 1136, 1144, 1148, 1158, 1193, 1213, 1233, 1267, 1283, 1288, 1306, 487, 774, 1090, 1120, 1116, 1311, 1726, 1681, 1685, 1716, 1712, 1723, 1709, 1705, 1701, 1697, 1734, 1730, 1720].filterMap (fun i => (tables_1)[i]?) := by rfl
set_option maxRecDepth 100000 in
theorem e_cw_5 : (((jyy.eraseIdx 342).map jcodew).drop 200).take 40 = [1758, 1754, 1820, 1746, 1764, 1750, 1693, 1742, 1768, 1772, 1780, 1776, 1784, 1738, 1689, 1867, 1871, 1903, 1907, 1887, 1899, 2027, 2015, 1879, 1951, 1947, 1915, 1911, 1891, 1931, 1963, 1971, 1975, 1967, 1943, 1955, 1959, 1979, 2034, 2031].filterMap (fun i => (tables_1)[i]?) := by rfl
set_option maxRecDepth 100000 in
theorem e_cw_6 : (((jyy.eraseIdx 342).map jcodew).drop 240).take 40 = [1939, 1927, 1923, 1935, 1919, 2002, 2161, 2054, 1895, 1883, 1875, 2006, 2019, 2011, 2023, 2042, 2038, 2050, 2058, 2046, 2062, 2075, 2079, 2083, 2071, 2066, 2096, 2100, 2092, 2087, 2109, 2113, 2105, 2129, 2117, 2125, 2121, 2133, 2137, 2141].filterMap (fun i => (tables_1)[i]?) := by rfl
set_option maxRecDepth 100000 in
theorem e_cw_7 : (((jyy.eraseIdx 342).map jcodew).drop 280).take 40 = [2154, 2165, 2150, 2145, 2169, 2186, 2182, 2178, 2173, 2194, 2190, 2208, 2212, 2204, 2198, 1800, 1792, 1851, 1832, 1843, 1840, 1847, 1816, 1812, 1824, 1828, 1808, 1836, 1804, 1796, 1863, 1855, 1788, 1859, 1994, 1999, 1983, 1991, 1987, 2229].filterMap (fun i => (tables_1)[i]?) := by rfl
set_option maxRecDepth 100000 in
theorem e_cw_8 : (((jyy.eraseIdx 342).map jcodew).drop 320).take 40 = [2225, 2220, 2233, 2216, 2249, 2241, 2245, 2237, 2253, 2265, 2261, 2257, 2270, 1188, 1177, 922, 977, 191, 930, 784, 927, 241].filterMap (fun i => (tables_1)[i]?) := by rfl
theorem q_cw : ∀ w ∈ (jyy.eraseIdx 342).map jcodew, w ∈ tables_1 := chunk_mem (n := 9) (by decide +kernel) (fun c hc => match c, hc with
  | 0, _ => pick_mem e_cw_0
  | 1, _ => pick_mem e_cw_1
  | 2, _ => pick_mem e_cw_2
  | 3, _ => pick_mem e_cw_3
  | 4, _ => pick_mem e_cw_4
  | 5, _ => pick_mem e_cw_5
  | 6, _ => pick_mem e_cw_6
  | 7, _ => pick_mem e_cw_7
  | 8, _ => pick_mem e_cw_8
  | c + 9, h => absurd h (by omega))
theorem cw_ok {m : Nat} (h : m < 343) (hl : m ≠ 342) : jcodew (jme m) ∈ jtbl := by
  refine goodP q_cw tab_in (map_good (fun _ => rfl)) _ (List.mem_map.mpr ⟨jme m, ?_, rfl⟩)
  have h1 : jyy[m]? = some (jme m) := by
    unfold jme
    have hjl : jyy.length = 343 := by decide +kernel
    have hm : m < jyy.length := by omega
    rw [List.getD_eq_getElem?_getD, List.getElem?_eq_getElem hm]
    rfl
  rw [List.mem_eraseIdx_iff_getElem?]
  exact ⟨m, hl, h1⟩
def jinst : List Nat := [0, 1, 2, 3, 4, 5, 6, 7, 8, 9, 10, 11, 12, 13, 14, 15, 16, 17, 18, 20, 21, 22, 23, 24, 25, 26, 27, 28, 29, 30, 31, 32, 33, 34, 35, 36, 37, 38, 39, 40, 41, 42, 43, 44, 45, 46, 47, 48, 50, 51, 52, 54, 55, 56, 57, 58, 59, 60, 61, 62, 63, 64, 66, 67, 68, 69, 70, 71, 72, 73, 74, 75, 76, 77, 78, 79, 80, 81, 82, 83, 84, 85, 86, 87, 90, 91, 92, 93, 94, 95, 96, 97, 98, 99, 100, 101, 102, 103, 104, 105, 106, 107, 108, 109, 110, 111, 112, 113, 114, 115, 116, 117, 121, 122, 123, 124, 125, 126, 127, 128, 129, 130, 131, 132, 133, 134, 135, 136, 137, 138, 139, 140, 141, 142, 143, 144, 145, 146, 147, 148, 149, 150, 151, 152, 153, 154, 155, 156, 157, 158, 159, 160, 161, 162, 163, 164, 165, 166, 167, 168, 169, 170, 171, 172, 173, 174, 175, 176, 177, 178, 179, 180, 181, 182, 183, 184, 185, 186, 188, 189, 190, 193, 194, 195, 196, 197, 198, 199, 200, 201, 202, 203, 204, 205, 206, 207, 208, 209, 210, 211, 212, 213, 214, 215, 216, 217, 218, 219, 220, 221, 222, 223, 224, 225, 226, 227, 228, 229, 230, 231, 232, 233, 234, 235, 236, 237, 239, 240, 241, 242, 243, 244, 247, 248, 249, 250, 251, 252, 253, 254, 255, 256, 257, 258, 259, 260, 261, 262, 263, 264, 265, 266, 267, 268, 269, 270, 271, 272, 273, 274, 275, 276, 277, 278, 279, 280, 281, 282, 283, 284, 285, 286, 287, 288, 289, 290, 291, 292, 293, 294, 295, 296, 297, 298, 300, 301, 302, 303, 304, 305, 306, 307, 308, 309, 310, 311, 312, 313, 316, 317, 318, 319, 320, 321, 322, 323, 325, 326, 327, 328, 329, 330, 331, 332]
def jstat : List Nat := [19, 49, 53, 65, 88, 89, 118, 119, 120, 187, 191, 192, 238, 245, 246, 299, 314, 315, 324, 333, 334, 335, 336, 337, 338, 339, 340, 341]
def jvirt : List Nat := [1, 2, 3, 4, 5, 6, 7, 8, 9, 11, 12, 13, 14, 15, 16, 17, 18, 20, 22, 23, 24, 25, 27, 28, 29, 30, 31, 32, 33, 34, 35, 36, 37, 38, 39, 40, 41, 42, 43, 44, 45, 46, 47, 48, 51, 52, 54, 55, 56, 57, 58, 59, 60, 61, 62, 63, 64, 67, 68, 69, 70, 71, 72, 73, 74, 75, 76, 77, 78, 80, 81, 82, 83, 85, 86, 87, 90, 91, 92, 93, 94, 95, 96, 97, 98, 99, 100, 101, 102, 103, 104, 105, 106, 107, 108, 109, 110, 111, 112, 113, 114, 115, 116, 117, 122, 123, 124, 125, 126, 127, 128, 129, 130, 131, 133, 134, 135, 136, 137, 138, 139, 140, 141, 143, 144, 145, 146, 147, 148, 149, 150, 152, 153, 154, 155, 156, 157, 158, 159, 160, 161, 162, 163, 164, 165, 166, 167, 168, 169, 170, 171, 172, 173, 174, 175, 176, 177, 178, 179, 180, 181, 182, 183, 184, 185, 188, 189, 190, 193, 194, 195, 196, 197, 198, 199, 200, 201, 202, 203, 204, 205, 206, 207, 208, 209, 210, 211, 212, 213, 214, 215, 216, 217, 218, 219, 220, 221, 222, 223, 224, 225, 226, 227, 228, 229, 230, 231, 232, 233, 234, 235, 236, 237, 239, 240, 241, 242, 243, 244, 247, 248, 249, 250, 251, 252, 253, 254, 255, 256, 257, 258, 259, 260, 261, 262, 263, 264, 265, 266, 267, 268, 269, 270, 271, 272, 273, 274, 275, 276, 277, 278, 279, 280, 281, 282, 283, 284, 285, 286, 287, 288, 289, 290, 291, 292, 293, 294, 295, 296, 297, 298, 300, 301, 302, 303, 304, 305, 306, 307, 308, 309, 310, 311, 312, 313, 316, 317, 318, 319, 320, 321, 322, 323, 325, 326, 327, 328, 329, 330, 331, 332]
set_option maxRecDepth 100000 in
theorem e_in_0 : ((jinst.map (fun m => Cond.instanceMethod (jy m))).drop 0).take 40 = [348, 795, 1150, 1169, 1165, 1160, 1182, 1195, 1207, 1200, 149, 243, 994, 841, 837, 820, 914, 816, 1269, 1300, 282, 932, 799, 1092, 1138, 252, 828, 834, 863, 853, 860, 824, 1125, 944, 888, 902, 897, 892, 1032, 960].filterMap (fun i => (tables_1)[i]?) := by rfl
set_option maxRecDepth 100000 in
theorem e_in_1 : ((jinst.map (fun m => Cond.instanceMethod (jy m))).drop 40).take 40 = [1002, 1130, 1007, 968, 867, 973, 906, 911, 33, 236, 776, 1110, 788, 849, 791, 871, 1172, 880, 876, 884, 845, 637, 395, 513, 542, 599, 624, 630, 648, 660, 664, 668, 672, 676, 768, 408, 1235, 1245, 1252, 1260].filterMap (fun i => (tables_1)[i]?) := by rfl
set_option maxRecDepth 100000 in
theorem e_in_2 : ((jinst.map (fun m => Cond.instanceMethod (jy m))).drop 80).take 40 = [180, 518, 619, 607, 522, 537, 717, 545, 720, 602, 611, 616, 633, 651, 655, 679, 709, 683, 762, 704, 713, 688, 692, 696, 759, 700, 726, 730, 734, 738, 742, 746, 301, 803, 983, 988, 1019, 1024, 1028, 1037].filterMap (fun i => (tables_1)[i]?) := by rfl
set_option maxRecDepth 100000 in
theorem e_in_3 : ((jinst.map (fun m => Cond.instanceMethod (jy m))).drop 120).take 40 = [1045, 1050, 1055, 367, 1071, 1062, 1080, 1067, 1076, 1215, 1227, 1220, 1224, 186, 481, 527, 505, 493, 497, 489, 1294, 1277, 25, 477, 501, 509, 808, 812, 936, 940, 949, 964, 979, 1011, 1015, 1040, 1058, 1084, 1098, 1102].filterMap (fun i => (tables_1)[i]?) := by rfl
set_option maxRecDepth 100000 in
theorem e_in_4 : ((jinst.map (fun m => Cond.instanceMethod (jy m))).drop 160).take 40 = [1106, 1134, 1142, 1146, 1156, 1191, 1211, 1231, 1265, 1281, 1286, 1304, 486, 773, 1089, 1119, 1115, 1310, 1679, 1683, 1715, 1708, 1704, 1700, 1696, 1733, 1729, 1719, 1757, 1753, 1819, 1745, 1763, 1749, 1692, 1741, 1767, 1771, 1779, 1775].filterMap (fun i => (tables_1)[i]?) := by rfl
set_option maxRecDepth 100000 in
theorem e_in_5 : ((jinst.map (fun m => Cond.instanceMethod (jy m))).drop 200).take 40 = [1783, 1737, 1687, 1866, 1869, 1902, 1906, 1886, 1898, 2026, 2014, 1878, 1950, 1946, 1914, 1910, 1890, 1930, 1962, 1970, 1974, 1966, 1942, 1954, 1958, 1978, 2030, 1938, 1926, 1922, 1934, 1918, 2053, 1894, 1882, 1873, 2004, 2018, 2009, 2021].filterMap (fun i => (tables_1)[i]?) := by rfl
set_option maxRecDepth 100000 in
theorem e_in_6 : ((jinst.map (fun m => Cond.instanceMethod (jy m))).drop 240).take 40 = [2041, 2036, 2049, 2057, 2044, 2060, 2074, 2078, 2082, 2070, 2064, 2095, 2099, 2091, 2085, 2108, 2112, 2103, 2128, 2115, 2124, 2119, 2131, 2135, 2139, 2153, 2164, 2149, 2143, 2167, 2185, 2181, 2177, 2171, 2193, 2188, 2207, 2211, 2203, 2196].filterMap (fun i => (tables_1)[i]?) := by rfl
set_option maxRecDepth 100000 in
theorem e_in_7 : ((jinst.map (fun m => Cond.instanceMethod (jy m))).drop 280).take 40 = [1799, 1791, 1850, 1831, 1839, 1846, 1815, 1811, 1823, 1827, 1807, 1835, 1803, 1795, 1862, 1854, 1787, 1858, 1982, 1990, 1986, 2228, 2224, 2219, 2232, 2214, 2240, 2244, 2235, 2251, 2264, 2260, 2255, 2268].filterMap (fun i => (tables_1)[i]?) := by rfl
theorem q_in : ∀ w ∈ jinst.map (fun m => Cond.instanceMethod (jy m)), w ∈ tables_1 := chunk_mem (n := 8) (by decide +kernel) (fun c hc => match c, hc with
  | 0, _ => pick_mem e_in_0
  | 1, _ => pick_mem e_in_1
  | 2, _ => pick_mem e_in_2
  | 3, _ => pick_mem e_in_3
  | 4, _ => pick_mem e_in_4
  | 5, _ => pick_mem e_in_5
  | 6, _ => pick_mem e_in_6
  | 7, _ => pick_mem e_in_7
  | c + 8, h => absurd h (by omega))
set_option maxRecDepth 100000 in
theorem e_st_0 : ((jstat.map (fun m => Cond.static (jy m))).drop 0).take 40 = [1290, 918, 780, 641, 534, 531, 749, 752, 755, 1725, 1711, 1722, 2033, 2001, 2160, 1842, 1993, 1998, 2248, 1187, 1176, 921, 976, 190, 929, 783, 926, 240].filterMap (fun i => (tables_1)[i]?) := by rfl
theorem q_st : ∀ w ∈ jstat.map (fun m => Cond.static (jy m)), w ∈ tables_1 := chunk_mem (n := 1) (by decide +kernel) (fun c hc => match c, hc with
  | 0, _ => pick_mem e_st_0
  | c + 1, h => absurd h (by omega))
def jvt : List Nat := [1, 2, 5, 6, 7, 8, 11, 12, 13, 14, 15, 16, 17, 18, 20, 22, 23, 24, 25, 27, 29, 30, 32, 33, 34, 35, 38, 39, 40, 41, 42, 44, 45, 47, 51, 52, 54, 56, 57, 58, 59, 60, 61, 62, 63, 64, 67, 80, 82, 85, 86, 87, 90, 91, 93, 94, 95, 96, 98, 99, 100, 101, 103, 104, 122, 123, 125, 129, 134, 135, 138, 139, 143, 144, 145, 146, 147, 148, 149, 150, 152, 153, 154, 155, 156, 157, 158, 159, 160, 161, 162, 163, 164, 165, 166, 167, 168, 169, 170, 171, 172, 173, 174, 175, 176, 177, 178, 179, 180, 188, 189, 214, 216, 250, 251, 253, 254, 256, 259, 260, 265, 269, 272, 274, 276, 277, 278, 279, 283, 284, 288, 290, 294, 323, 327, 328, 331, 332]
def jvp : List Nat := [3, 4, 9, 28, 31, 36, 37, 43, 46, 48, 55, 68, 69, 70, 71, 72, 73, 74, 75, 76, 77, 78, 81, 83, 92, 97, 102, 105, 106, 107, 108, 109, 110, 111, 112, 113, 114, 115, 116, 117, 124, 126, 127, 128, 130, 131, 133, 136, 137, 140, 141, 181, 182, 183, 184, 185, 190, 193, 194, 195, 196, 197, 198, 199, 200, 201, 202, 203, 204, 205, 206, 207, 208, 209, 210, 211, 212, 213, 215, 217, 218, 219, 220, 221, 222, 223, 224, 225, 226, 227, 228, 229, 230, 231, 232, 233, 234, 235, 236, 237, 239, 240, 241, 242, 243, 244, 247, 248, 249, 252, 255, 257, 258, 261, 262, 263, 264, 266, 267, 268, 270, 271, 273, 275, 280, 281, 282, 285, 286, 287, 289, 291, 292, 293, 295, 296, 297, 298, 300, 301, 302, 303, 304, 305, 306, 307, 308, 309, 310, 311, 312, 313, 316, 317, 318, 319, 320, 321, 322, 325, 326, 329, 330]
set_option maxRecDepth 100000 in
theorem e_vt_0 : ((jvt.map (fun m => Cond.selects (jy m).cls (jy m) (jy m))).drop 0).take 40 = [796, 1151, 1161, 1183, 1196, 1208, 244, 995, 842, 838, 821, 915, 817, 1270, 1301, 933, 800, 1093, 1139, 829, 864, 854, 825, 1126, 945, 889, 893, 1033, 961, 1003, 1131, 969, 868, 907, 237, 777, 1111, 850, 792, 872].filterMap (fun i => (tables_1)[i]?) := by rfl
set_option maxRecDepth 100000 in
theorem e_vt_1 : ((jvt.map (fun m => Cond.selects (jy m).cls (jy m) (jy m))).drop 40).take 40 = [1173, 881, 877, 885, 846, 638, 514, 1236, 1253, 519, 620, 608, 523, 538, 546, 721, 603, 612, 634, 652, 656, 680, 684, 763, 804, 984, 1020, 1046, 1063, 1081, 1216, 1228, 482, 528, 506, 494, 498, 490, 1295, 1278].filterMap (fun i => (tables_1)[i]?) := by rfl
set_option maxRecDepth 100000 in
theorem e_vt_2 : ((jvt.map (fun m => Cond.selects (jy m).cls (jy m) (jy m))).drop 80).take 40 = [478, 502, 510, 809, 813, 937, 941, 950, 965, 980, 1012, 1016, 1041, 1059, 1085, 1099, 1103, 1107, 1135, 1143, 1147, 1157, 1192, 1212, 1232, 1266, 1282, 1287, 1305, 1680, 1684, 1688, 1870, 1874, 2005, 2010, 2022, 2037, 2045, 2061].filterMap (fun i => (tables_1)[i]?) := by rfl
set_option maxRecDepth 100000 in
theorem e_vt_3 : ((jvt.map (fun m => Cond.selects (jy m).cls (jy m) (jy m))).drop 120).take 40 = [2065, 2086, 2104, 2116, 2120, 2132, 2136, 2140, 2144, 2168, 2172, 2189, 2197, 2215, 2236, 2252, 2256, 2269].filterMap (fun i => (tables_1)[i]?) := by rfl
theorem q_vt : ∀ w ∈ jvt.map (fun m => Cond.selects (jy m).cls (jy m) (jy m)), w ∈ tables_1 := chunk_mem (n := 4) (by decide +kernel) (fun c hc => match c, hc with
  | 0, _ => pick_mem e_vt_0
  | 1, _ => pick_mem e_vt_1
  | 2, _ => pick_mem e_vt_2
  | 3, _ => pick_mem e_vt_3
  | c + 4, h => absurd h (by omega))
set_option maxRecDepth 100000 in
theorem e_vp_0 : ((jvp.map (fun m => Cond.selects (jy m).cls (jy m) (jy m))).drop 0).take 40 = [50, 49, 51, 30, 31, 33, 32, 37, 35, 34, 29, 1, 2, 4, 5, 6, 7, 8, 9, 10, 11, 27, 54, 55, 19, 3, 17, 16, 18, 12, 13, 14, 26, 15, 20, 21, 22, 23, 24, 25].filterMap (fun i => (k2_sels lw_privs)[i]?) := by rfl
set_option maxRecDepth 100000 in
theorem e_vp_1 : ((jvp.map (fun m => Cond.selects (jy m).cls (jy m) (jy m))).drop 40).take 40 = [36, 38, 39, 40, 41, 42, 44, 43, 45, 52, 53, 0, 28, 46, 48, 47, 61, 60, 59, 58, 57, 64, 63, 62, 70, 69, 85, 67, 71, 68, 56, 66, 72, 73, 75, 74, 76, 65, 96, 103].filterMap (fun i => (k2_sels lw_privs)[i]?) := by rfl
set_option maxRecDepth 100000 in
theorem e_vp_2 : ((jvp.map (fun m => Cond.selects (jy m).cls (jy m) (jy m))).drop 80).take 40 = [104, 99, 102, 128, 126, 97, 115, 114, 106, 105, 100, 110, 118, 120, 121, 119, 113, 116, 117, 122, 129, 112, 109, 108, 111, 107, 132, 101, 98, 127, 130, 131, 133, 135, 136, 137, 134, 139, 140, 138].filterMap (fun i => (k2_sels lw_privs)[i]?) := by rfl
set_option maxRecDepth 100000 in
theorem e_vp_3 : ((jvp.map (fun m => Cond.selects (jy m).cls (jy m) (jy m))).drop 120).take 40 = [141, 142, 144, 143, 146, 147, 145, 150, 149, 148, 151, 153, 154, 152, 80, 78, 92, 88, 90, 91, 84, 83, 86, 87, 82, 89, 81, 79, 95, 93, 77, 94, 123, 125, 124, 157, 156, 155, 158, 159].filterMap (fun i => (k2_sels lw_privs)[i]?) := by rfl
set_option maxRecDepth 100000 in
theorem e_vp_4 : ((jvp.map (fun m => Cond.selects (jy m).cls (jy m) (jy m))).drop 160).take 40 = [160, 162, 161].filterMap (fun i => (k2_sels lw_privs)[i]?) := by rfl
theorem q_vp : ∀ w ∈ jvp.map (fun m => Cond.selects (jy m).cls (jy m) (jy m)), w ∈ k2_sels lw_privs := chunk_mem (n := 5) (by decide +kernel) (fun c hc => match c, hc with
  | 0, _ => pick_mem e_vp_0
  | 1, _ => pick_mem e_vp_1
  | 2, _ => pick_mem e_vp_2
  | 3, _ => pick_mem e_vp_3
  | 4, _ => pick_mem e_vp_4
  | c + 5, h => absurd h (by omega))
theorem in_ok {m : Nat} (h : m ∈ jinst) : Cond.instanceMethod (jy m) ∈ jtbl := goodP q_in tab_in (map_good (fun _ => rfl)) _ (List.mem_map.mpr ⟨m, h, rfl⟩)
theorem st_ok {m : Nat} (h : m ∈ jstat) : Cond.static (jy m) ∈ jtbl := goodP q_st tab_in (map_good (fun _ => rfl)) _ (List.mem_map.mpr ⟨m, h, rfl⟩)
theorem vt_ok {m : Nat} (h : m ∈ jvt ∨ m ∈ jvp) : Cond.selects (jy m).cls (jy m) (jy m) ∈ jtbl := by
  rcases h with h | h
  · exact goodP q_vt tab_in (map_good (fun _ => rfl)) _ (List.mem_map.mpr ⟨m, h, rfl⟩)
  · exact goodP q_vp (fun _ h => List.mem_append_left _ h) (map_good (fun _ => rfl)) _ (List.mem_map.mpr ⟨m, h, rfl⟩)
def jinw (c : Nat) : Cond := Cond.initialized (jcn.getD c "")
set_option maxRecDepth 100000 in
theorem e_ini_0 : (((List.range 17).map jinw).drop 0).take 40 = [11, 3, 9, 8, 2, 13, 14, 4, 10, 12, 5, 1, 15, 0, 21, 6, 7].filterMap (fun i => (tables_1)[i]?) := by rfl
theorem q_ini : ∀ w ∈ (List.range 17).map jinw, w ∈ tables_1 := chunk_mem (n := 1) (by decide +kernel) (fun c hc => match c, hc with
  | 0, _ => pick_mem e_ini_0
  | c + 1, h => absurd h (by omega))
theorem ini_ok {c : Nat} (h : c < 17) : Cond.initialized (jcn.getD c "") ∈ jtbl := goodP q_ini tab_in (map_good (fun _ => rfl)) _ (List.mem_map.mpr ⟨c, List.mem_range.mpr h, rfl⟩)
def jiw (c : Nat) : Cond := Cond.instantiable (jcn.getD c "") (jnf.getD c 0)
set_option maxRecDepth 100000 in
theorem e_inst_0 : (((List.range 13).map jiw).drop 0).take 40 = [346, 147, 280, 250, 31, 393, 406, 178, 299, 365, 184, 23, 1308].filterMap (fun i => (tables_1)[i]?) := by rfl
theorem q_inst : ∀ w ∈ (List.range 13).map jiw, w ∈ tables_1 := chunk_mem (n := 1) (by decide +kernel) (fun c hc => match c, hc with
  | 0, _ => pick_mem e_inst_0
  | c + 1, h => absurd h (by omega))
theorem inst_ok {c : Nat} (h : c ≤ 12) : Cond.instantiable (jcn.getD c "") (jnf.getD c 0) ∈ jtbl := goodP q_inst tab_in (map_good (fun _ => rfl)) _ (List.mem_map.mpr ⟨c, List.mem_range.mpr (by omega), rfl⟩)
def jclw (q : Nat × Nat × Nat) : Cond := Cond.classLink (jcn.getD q.1 "") q.2.1 (jcn.getD q.2.2 "")
def jciw (q : Nat × Nat × Int) : Cond := Cond.constant (jcn.getD q.1 "") q.2.1 (Int32.ofInt q.2.2)
def jcjw (q : Nat × Nat × Int) : Cond := Cond.constantLong (jcn.getD q.1 "") q.2.1 (Int64.ofInt q.2.2)
set_option maxRecDepth 100000 in
theorem e_cl_0 : ((jcw.map jclw).drop 0).take 40 = [285, 183, 304, 308, 30, 146, 177, 247, 249, 279, 298, 345, 364, 392, 405, 22, 1307].filterMap (fun i => (tables_1)[i]?) := by rfl
theorem q_cl : ∀ w ∈ jcw.map jclw, w ∈ tables_1 := chunk_mem (n := 1) (by decide +kernel) (fun c hc => match c, hc with
  | 0, _ => pick_mem e_cl_0
  | c + 1, h => absurd h (by omega))
set_option maxRecDepth 100000 in
theorem e_ci_0 : ((jci.map jciw).drop 0).take 40 = [1298, 1313, 2200, 2246, 2266, 1189, 1178, 1179, 1180].filterMap (fun i => (tables_1)[i]?) := by rfl
theorem q_ci : ∀ w ∈ jci.map jciw, w ∈ tables_1 := chunk_mem (n := 1) (by decide +kernel) (fun c hc => match c, hc with
  | 0, _ => pick_mem e_ci_0
  | c + 1, h => absurd h (by omega))
set_option maxRecDepth 100000 in
theorem e_cj_0 : ((jcj.map jcjw).drop 0).take 40 = [923, 924, 1255, 1043, 1121, 1122, 1123, 1759, 1760, 2007, 2067, 2088, 2101, 2155, 2156, 2157, 2158, 2146, 2174, 2199, 1995, 1996, 2221].filterMap (fun i => (tables_1)[i]?) := by rfl
theorem q_cj : ∀ w ∈ jcj.map jcjw, w ∈ tables_1 := chunk_mem (n := 1) (by decide +kernel) (fun c hc => match c, hc with
  | 0, _ => pick_mem e_cj_0
  | c + 1, h => absurd h (by omega))
theorem cl_ok {q : Nat × Nat × Nat} (h : q ∈ jcw) : jclw q ∈ jtbl := goodP q_cl tab_in (map_good (fun _ => rfl)) _ (List.mem_map.mpr ⟨q, h, rfl⟩)
theorem ci_ok {q : Nat × Nat × Int} (h : q ∈ jci) : jciw q ∈ jtbl := goodP q_ci tab_in (map_good (fun _ => rfl)) _ (List.mem_map.mpr ⟨q, h, rfl⟩)
theorem cj_ok {q : Nat × Nat × Int} (h : q ∈ jcj) : jcjw q ∈ jtbl := goodP q_cj tab_in (map_good (fun _ => rfl)) _ (List.mem_map.mpr ⟨q, h, rfl⟩)
def jolw (q : Nat × Nat) : Cond := Cond.methodLink (jcn.getD q.1 "") q.2 objectInit
def jalw (q : Nat × Nat) : Cond := Cond.methodLink (jcn.getD q.1 "") q.2 arraycopyName
set_option maxRecDepth 100000 in
theorem e_ol_0 : ((jol.map jolw).drop 0).take 40 = [350, 151, 284, 254, 35, 397, 410, 182, 303, 369, 188, 27, 1312].filterMap (fun i => (tables_1)[i]?) := by rfl
theorem q_ol : ∀ w ∈ jol.map jolw, w ∈ tables_1 := chunk_mem (n := 1) (by decide +kernel) (fun c hc => match c, hc with
  | 0, _ => pick_mem e_ol_0
  | c + 1, h => absurd h (by omega))
set_option maxRecDepth 100000 in
theorem e_al_0 : ((jal.map jalw).drop 0).take 40 = [997, 785, 643, 1030].filterMap (fun i => (tables_1)[i]?) := by rfl
theorem q_al : ∀ w ∈ jal.map jalw, w ∈ tables_1 := chunk_mem (n := 1) (by decide +kernel) (fun c hc => match c, hc with
  | 0, _ => pick_mem e_al_0
  | c + 1, h => absurd h (by omega))
theorem ol_ok {q : Nat × Nat} (h : q ∈ jol) : jolw q ∈ jtbl := goodP q_ol tab_in (map_good (fun _ => rfl)) _ (List.mem_map.mpr ⟨q, h, rfl⟩)
theorem al_ok {q : Nat × Nat} (h : q ∈ jal) : jalw q ∈ jtbl := goodP q_al tab_in (map_good (fun _ => rfl)) _ (List.mem_map.mpr ⟨q, h, rfl⟩)
def jmisc : List Cond := [.instanceMethod objectInit, .code objectInit ⟨#[0xb1]⟩ 1 none, .native arraycopyName, .static arraycopyName, .initialized "java/lang/System", .arrayClass .char, .arrayClass .int, .arrayClass .long, .arrayClass .boolean, .classLink RX8 24 "[[I"]
def jover : List Cond := [.arrayOver (.object RX1), .arrayOver (.object RX3), .arrayOver (.array .int)]
set_option maxRecDepth 100000 in
theorem e_ov_0 : ((jover).drop 0).take 40 = [286, 305, 307].filterMap (fun i => (tables_1)[i]?) := by rfl
theorem q_ov : ∀ w ∈ jover, w ∈ tables_1 := chunk_mem (n := 1) (by decide +kernel) (fun c hc => match c, hc with
  | 0, _ => pick_mem e_ov_0
  | c + 1, h => absurd h (by omega))
theorem ov_ok : ∀ w ∈ jover, w ∈ lw_tbl := fun w h => tab_in _ (q_ov w h)
set_option maxRecDepth 100000 in
theorem e_mi_0 : ((jmisc).drop 0).take 40 = [28, 29, 645, 644, 20, 1675, 145, 1676, 1677, 306].filterMap (fun i => (tables_1)[i]?) := by rfl
theorem q_mi : ∀ w ∈ jmisc, w ∈ tables_1 := chunk_mem (n := 1) (by decide +kernel) (fun c hc => match c, hc with
  | 0, _ => pick_mem e_mi_0
  | c + 1, h => absurd h (by omega))
theorem mi_ok {w : Cond} (k : Nat) (h : jmisc[k]? = some w) (hg : goodWord w = true) : w ∈ jtbl := mem_jtbl (tab_in _ (q_mi _ (List.mem_of_getElem? h))) hg
end
section
/-! THE SIMULATION: what the pure machine does, the machine does. The context of a method's body is one tuple. -/
abbrev jCtx : Type := (Program × Launch × Env × Room × State × MethodId × Array Value × List Frame) × (Method × Code × (State → Prop) × Nat × va_G × (Nat → ClassId) × (Nat → Prop)) × ((Int → Nat) × Nat × Nat × Nat × (Int → Nat))
abbrev xp (Γ : jCtx) : Program := Γ.1.1
abbrev xl (Γ : jCtx) : Launch := Γ.1.2.1
abbrev xe (Γ : jCtx) : Env := Γ.1.2.2.1
abbrev xR (Γ : jCtx) : Room := Γ.1.2.2.2.1
abbrev xs (Γ : jCtx) : State := Γ.1.2.2.2.2.1
abbrev xm (Γ : jCtx) : MethodId := Γ.1.2.2.2.2.2.1
abbrev xa (Γ : jCtx) : Array Value := Γ.1.2.2.2.2.2.2.1
abbrev xb (Γ : jCtx) : List Frame := Γ.1.2.2.2.2.2.2.2
abbrev xM (Γ : jCtx) : Method := Γ.2.1.1
abbrev xc (Γ : jCtx) : Code := Γ.2.1.2.1
abbrev xQ (Γ : jCtx) : State → Prop := Γ.2.1.2.2.1
abbrev xn (Γ : jCtx) : Nat := Γ.2.1.2.2.2.1
abbrev xD (Γ : jCtx) : va_G := Γ.2.1.2.2.2.2.1
abbrev xy (Γ : jCtx) : Nat → ClassId := Γ.2.1.2.2.2.2.2.1
abbrev xA (Γ : jCtx) : Nat → Prop := Γ.2.1.2.2.2.2.2.2
abbrev xd (Γ : jCtx) : Int → Nat := Γ.2.2.1
abbrev xk (Γ : jCtx) : Nat := Γ.2.2.2.1
abbrev xj (Γ : jCtx) : Nat := Γ.2.2.2.2.1
abbrev xv (Γ : jCtx) : Nat := Γ.2.2.2.2.2.1
abbrev xκ (Γ : jCtx) : Int → Nat := Γ.2.2.2.2.2.2
/-- the string constant, its bytes, and what its reading asks of the JDK's statics -/
def jE (a v : Nat) (A : Nat → Prop) (U : State) (H : Heap) : Prop := vk_R "SundayPit$Reader" 67 "pit at kind rest gas row house mix may worth tilt holds props leans depth across near span open fallen whole number tubs or and not all min max first last often total most least " a U ∧ vk_S 1 [178] [jWords.map Int32.ofInt] (fun _ => a) (fun _ => v) A U H ∧ va_Z "java/lang/String" "COMPACT_STRINGS" "Z" (.int 1) A U H ∧ ∃ w : Value, (w = .null ∨ ∃ x : Nat, w = .ref x) ∧ va_Z "jdk/internal/util/Preconditions" "SIOOBE_FORMATTER" "Ljava/util/function/BiFunction;" w A U H
/-- the words that aren't kept by the tables alone -/
def jX0 (U : State) : Prop := (∀ q ∈ jnl, va_Nw (jnw q) U) ∧ va_AO RX1 U ∧ va_AO RX3 U ∧ va_AOA .int U
def jCx (Γ : jCtx) (own : Nat) (cc : ByteArray) : Prop :=
  (xp Γ).tables.exec = Jvm.exec ∧ (xc Γ).code = cc ∧ (xc Γ).maxLocals = xn Γ ∧ (xs Γ).vm.findClass (jcn.getD own "") = some (xm Γ).cls ∧ (∀ w ∈ jtbl, w.before (xa Γ) (xs Γ) = true) ∧ va_K (xD Γ) vwCl (jtys (xy Γ)) (xs Γ) ∧ (∀ q, (xs Γ).heap.size ≤ q → xA Γ q) ∧ (xM Γ).locks = false ∧ jE (xd Γ (-3)) (xv Γ) (xA Γ) (xs Γ) (xs Γ).heap ∧ jX0 (xs Γ) ∧ (7 ≤ (xR Γ).frames ∧ 420 ≤ (xR Γ).locals)
def jL (ls : Array Slot) (nL : Nat) (ad : Int → Nat) (loc : List jV) : Prop := ls.size = nL ∧ loc.length = nL ∧ lv_wf ls ∧ ∀ (i : Nat) (v : jV), loc[i]? = some v → v.1 ≠ 2 → ls[i]? = some (.val (jtr ad v))
/-- what stands at a state of the pure machine -/
def jAt (Γ : jCtx) (loc st : List jV) (S : jS) (ls : Array Slot) (H : Heap) (locs : List Loc) (ad : Int → Nat) : Prop :=
  jL ls (xn Γ) ad loc ∧ jWF S ∧ (∀ v ∈ loc, jok S v) ∧ (∀ v ∈ st, jok S v) ∧ ((∀ z : Int, z < xk Γ → ad z = xd Γ z) ∧ xk Γ ≤ gN S.1 ∧ xj Γ ≤ gM S.1 ∧ (∀ i j : Int, gR S.1 i j < gN S.1) ∧ ∀ z : Int, z < xk Γ → gK S.1 z = xκ Γ z) ∧ va_P (xD Γ) vwCl (jwld (xy Γ) ad S) H ∧ va_D (xA Γ) (jwld (xy Γ) ad S) ∧ va_S (xA Γ) (xs Γ).heap H locs
abbrev jW (Γ : jCtx) (S : jS) (H : Heap) (locs : List Loc) (g : JFrame) : Prop := W (xp Γ) (xl Γ) (xe Γ) (xR Γ) (xs Γ) (xm Γ) (xa Γ) (xb Γ) (xM Γ) (xc Γ) H locs (gN S.1 - xk Γ) (gM S.1 - xj Γ) (xQ Γ) g
def jK (Γ : jCtx) (pc : Nat) (loc st : List jV) (S : jS) : Prop := ∀ (ls : Array Slot) (H : Heap) (locs : List Loc) (ad : Int → Nat), jAt Γ loc st S ls H locs ad → jW Γ S H locs (F0 (xm Γ) pc ls (st.map (jtr ad)))
abbrev jH : Type := Nat → ByteArray → Nat → Int → Int → List Int → Bool
def dc (cc : ByteArray) (pc : Nat) (i : Instr) (n : Nat) : Bool := decide (decode cc pc = .ok (i, n))
theorem dc_ok {cc : ByteArray} {pc n : Nat} {i : Instr} (h : dc cc pc i n = true) : decode cc pc = .ok (i, n) := of_decide_eq_true h
def jSim (Γ : jCtx) (own : Nat) (cc : ByteArray) (ce : jC) (rF : Int × jS) (h : jH) (o : jF) : Prop := ∀ (a b : Int) (t : List Int) (pc : Nat) (loc st : List jV) (S : jS) (k : jT), h own cc pc a b t = true → o a b t ce pc loc st S k = some rF → (∀ pc loc st S, k pc loc st S = some rF → jK Γ pc loc st S) → jK Γ pc loc st S
theorem d32 {a : Int} (h : decide (-2147483648 ≤ a ∧ a ≤ 2147483647) = true) : j32 a := of_decide_eq_true (p := -2147483648 ≤ a ∧ a ≤ 2147483647) h
theorem d64 {a : Int} (h : decide (-9223372036854775808 ≤ a ∧ a ≤ 9223372036854775807) = true) : j64 a := of_decide_eq_true (p := -9223372036854775808 ≤ a ∧ a ≤ 9223372036854775807) h
theorem jok_i {S : jS} {z : Int} (h : j32 z) : jok S (0, z) := ⟨fun _ => h, fun q => absurd q (show ¬ 0 = 1 by decide), fun q => absurd q (show ¬ 10 ≤ 0 by decide), fun q => absurd q (show ¬ 30 ≤ 0 by decide), fun q => absurd q (show ¬ 2 ≤ 0 by decide)⟩
theorem jok_l {S : jS} {z : Int} (h : j64 z) : jok S (1, z) := ⟨fun q => absurd q (show ¬ 1 = 0 by decide), fun _ => h, fun q => absurd q (show ¬ 10 ≤ 1 by decide), fun q => absurd q (show ¬ 30 ≤ 1 by decide), fun q => absurd q (show ¬ 2 ≤ 1 by decide)⟩
theorem jok_u {S : jS} : jok S (2, -1) := ⟨fun q => absurd q (show ¬ 2 = 0 by decide), fun q => absurd q (show ¬ 2 = 1 by decide), fun q => absurd q (show ¬ 10 ≤ 2 by decide), fun q => absurd q (show ¬ 30 ≤ 2 by decide), fun _ => by dsimp only; omega⟩
theorem jtr_ref {ad : Int → Nat} {t : Nat} {z : Int} (h : 10 ≤ t) : jtr ad (t, z) = va_rf (jref ad z) := by
  unfold jtr
  rw [if_neg (by dsimp only; omega), if_neg (by dsimp only; omega)]
theorem jtr_at {ad : Int → Nat} {t : Nat} {z : Int} (h : 10 ≤ t) (hz : z ≠ -1) : jtr ad (t, z) = .ref (ad z) := by
  rw [jtr_ref h, jref, if_neg hz]
  rfl
theorem jtr_null {ad : Int → Nat} {t : Nat} (h : 10 ≤ t) : jtr ad (t, -1) = .null := by
  rw [jtr_ref h, jref, if_pos rfl]
  rfl
theorem jtr_cat {ad : Int → Nat} {v : jV} (h : v.1 ≠ 1) : (jtr ad v).category = 1 := by
  obtain ⟨t, z⟩ := v
  dsimp only at h
  unfold jtr
  dsimp only
  by_cases h0 : t = 0
  · rw [if_pos h0]; rfl
  · rw [if_neg h0, if_neg h]
    unfold jref
    by_cases hz : z = -1
    · rw [if_pos hz]; rfl
    · rw [if_neg hz]; rfl
/-- locals, as the kit lists them -/
def jlv (ad : Int → Nat) (loc : List jV) : List (Nat × Value) := (List.range loc.length).filterMap (fun i => match loc[i]? with | some v => if v.1 = 2 then none else some (i, jtr ad v) | none => none)
theorem jlv_mem {ad : Int → Nat} {loc : List jV} {q : Nat × Value} : q ∈ jlv ad loc ↔ ∃ v, loc[q.1]? = some v ∧ v.1 ≠ 2 ∧ q.2 = jtr ad v := by
  unfold jlv
  rw [List.mem_filterMap]
  constructor
  · rintro ⟨i, hi, h⟩
    cases hv : loc[i]? with
    | none => rw [hv] at h; cases h
    | some v =>
      rw [hv] at h
      dsimp only at h
      by_cases h2 : v.1 = 2
      · rw [if_pos h2] at h; cases h
      · rw [if_neg h2] at h
        cases h
        exact ⟨v, hv, h2, rfl⟩
  · rintro ⟨v, h1, h2, h3⟩
    have hl : q.1 < loc.length := (List.getElem?_eq_some_iff.mp h1).1
    refine ⟨q.1, List.mem_range.mpr hl, ?_⟩
    rw [h1]
    dsimp only
    rw [if_neg h2, ← h3]
theorem jL_has {ls : Array Slot} {nL : Nat} {ad : Int → Nat} {loc : List jV} (h : jL ls nL ad loc) : lv_has ls nL (jlv ad loc) := by
  refine ⟨h.1, h.2.2.1, fun q hq => ?_⟩
  obtain ⟨v, h1, h2, h3⟩ := jlv_mem.mp hq
  rw [h3]
  exact h.2.2.2 _ _ h1 h2
theorem getD_some {α : Type} {l : List α} {i : Nat} {d v : α} (h : l.getD i d = v) (hv : v ≠ d) : l[i]? = some v := by
  rw [List.getD_eq_getElem?_getD] at h
  cases hx : l[i]? with
  | none => rw [hx] at h; exact absurd h.symm hv
  | some w => rw [hx] at h; exact congrArg some h
theorem jL_get {ls : Array Slot} {nL : Nat} {ad : Int → Nat} {loc : List jV} {i t : Nat} {z : Int} (h : jL ls nL ad loc) (hg : loc.getD i (2, -1) = (t, z)) (ht : t ≠ 2) : ls[i]? = some (.val (jtr ad (t, z))) :=
  h.2.2.2 _ _ (getD_some hg (fun q => ht (congrArg Prod.fst q))) ht
theorem jloc_ok {S : jS} {loc : List jV} {i t : Nat} {z : Int} (h : ∀ v ∈ loc, jok S v) (hg : loc.getD i (2, -1) = (t, z)) (ht : t ≠ 2) : jok S (t, z) :=
  h _ (List.mem_of_getElem? (getD_some hg (fun q => ht (congrArg Prod.fst q))))
theorem jfree_lt {loc : List jV} {i : Nat} (h : jfree loc i = true) : i < loc.length := by
  unfold jfree at h
  simp only [Bool.and_eq_true, decide_eq_true_eq] at h
  exact h.1
theorem jfree_prev {loc : List jV} {i j : Nat} {v : jV} (h : jfree loc i = true) (hj : j + 1 = i) (hv : loc[j]? = some v) : v.1 ≠ 1 := by
  subst hj
  unfold jfree at h
  simp only [Bool.and_eq_true, decide_eq_true_eq] at h
  have h2 := h.2
  rw [List.getD_eq_getElem?_getD, hv] at h2
  exact h2
theorem jcat2 {ad : Int → Nat} {v : jV} (h : (jtr ad v).category = 2) : v.1 = 1 := by
  by_cases e : v.1 = 1
  · exact e
  · rw [jtr_cat e] at h
    omega
/-- a store of one slot -/
theorem jL_set {ls' : Array Slot} {nL : Nat} {ad : Int → Nat} {loc : List jV} {i : Nat} {w : jV} {v : Value} (hlen : loc.length = nL) (hf : jfree loc i = true) (hv : v = jtr ad w) (h : lv_has ls' nL ((i, v) :: (jlv ad loc).filter (fun q => !(q.1 == i) && !(q.1 + 1 == i && q.2.category == 2)))) : jL ls' nL ad (loc.set i w) := by
  refine ⟨h.1, by rw [List.length_set]; exact hlen, h.2.1, fun j u hj hu => ?_⟩
  by_cases e : j = i
  · subst e
    rw [List.getElem?_set_self (jfree_lt hf)] at hj
    cases hj
    rw [← hv]
    exact h.2.2 (j, v) List.mem_cons_self
  · rw [List.getElem?_set_ne (fun q => e q.symm)] at hj
    refine h.2.2 (j, jtr ad u) (List.mem_cons_of_mem _ (List.mem_filter.mpr ⟨jlv_mem.mpr ⟨u, hj, hu, rfl⟩, ?_⟩))
    simp only [Bool.and_eq_true, Bool.not_eq_true', beq_eq_false_iff_ne, ne_eq, Bool.and_eq_false_iff]
    refine ⟨e, ?_⟩
    by_cases e2 : j + 1 = i
    · right
      intro q
      exact jfree_prev hf e2 hj (jcat2 q)
    · left
      exact e2
/-- a store of two slots -/
theorem jL_set2 {ls' : Array Slot} {nL : Nat} {ad : Int → Nat} {loc : List jV} {i : Nat} {w : jV} {v : Value} (hlen : loc.length = nL) (hf : jfree loc i = true) (hi : i + 1 < loc.length) (hv : v = jtr ad w) (h : lv_has ls' nL ((i, v) :: (jlv ad loc).filter (fun q => !(q.1 == i) && (!(q.1 == i + 1) && !(q.1 + 1 == i && q.2.category == 2))))) : jL ls' nL ad ((loc.set i w).set (i + 1) (2, -1)) := by
  refine ⟨h.1, by rw [List.length_set, List.length_set]; exact hlen, h.2.1, fun j u hj hu => ?_⟩
  by_cases e1 : j = i + 1
  · subst e1
    rw [List.getElem?_set_self (by rw [List.length_set]; exact hi)] at hj
    cases hj
    exact absurd rfl hu
  · rw [List.getElem?_set_ne (fun q => e1 q.symm)] at hj
    by_cases e : j = i
    · subst e
      rw [List.getElem?_set_self (jfree_lt hf)] at hj
      cases hj
      rw [← hv]
      exact h.2.2 (j, v) List.mem_cons_self
    · rw [List.getElem?_set_ne (fun q => e q.symm)] at hj
      refine h.2.2 (j, jtr ad u) (List.mem_cons_of_mem _ (List.mem_filter.mpr ⟨jlv_mem.mpr ⟨u, hj, hu, rfl⟩, ?_⟩))
      simp only [Bool.and_eq_true, Bool.not_eq_true', beq_eq_false_iff_ne, ne_eq, Bool.and_eq_false_iff]
      refine ⟨e, e1, ?_⟩
      by_cases e2 : j + 1 = i
      · right
        intro q
        exact jfree_prev hf e2 hj (jcat2 q)
      · left
        exact e2
theorem jset_ok {S : jS} {loc : List jV} {i : Nat} {w : jV} (h : ∀ v ∈ loc, jok S v) (hw : jok S w) : ∀ v ∈ loc.set i w, jok S v := by
  intro v hv
  rcases List.mem_or_eq_of_mem_set hv with q | q
  · exact h v q
  · rw [q]; exact hw
theorem jlv_at {ad : Int → Nat} {loc : List jV} {i : Nat} {z : Int} (h : loc.getD i (2, -1) = (0, z)) : ∃ k : Nat, (jlv ad loc)[k]? = some (i, .int (Int32.ofInt z)) :=
  List.getElem?_of_mem (jlv_mem.mpr ⟨(0, z), getD_some h (fun q => absurd (congrArg Prod.fst q) (show ¬ 0 = 2 by decide)), show ¬ 0 = 2 by decide, rfl⟩)

def hIconst : jH := fun _ cc pc a _ _ => dc cc pc (.iconst a) 1 && decide (-2147483648 ≤ a ∧ a ≤ 2147483647)
theorem sIconst {Γ : jCtx} {own : Nat} {cc : ByteArray} {ce : jC} {rF : Int × jS} (C : jCx Γ own cc) : jSim Γ own cc ce rF hIconst (oPush 0 1) := by
  intro a b t pc loc st S k hc ho hk
  simp only [hIconst, Bool.and_eq_true] at hc
  intro ls H locs ad ⟨hl, hwf, hlo, hst, hn, hP, hD, hS⟩
  refine lv_iconst C.1 C.2.1 (dc_ok hc.1) rfl ?_
  exact hk _ _ _ _ ho ls H locs ad ⟨hl, hwf, hlo, List.forall_mem_cons.mpr ⟨jok_i (d32 hc.2), hst⟩, hn, hP, hD, hS⟩
def hBipush : jH := fun _ cc pc a _ _ => dc cc pc (.bipush a) 2 && (decide (-2147483648 ≤ a ∧ a ≤ 2147483647) && decide ((Int8.ofInt a).toInt32 = Int32.ofInt a))
theorem sBipush {Γ : jCtx} {own : Nat} {cc : ByteArray} {ce : jC} {rF : Int × jS} (C : jCx Γ own cc) : jSim Γ own cc ce rF hBipush (oPush 0 2) := by
  intro a b t pc loc st S k hc ho hk
  simp only [hBipush, Bool.and_eq_true] at hc
  intro ls H locs ad ⟨hl, hwf, hlo, hst, hn, hP, hD, hS⟩
  refine lv_bipush C.1 C.2.1 (dc_ok hc.1) (of_decide_eq_true hc.2.2) ?_
  exact hk _ _ _ _ ho ls H locs ad ⟨hl, hwf, hlo, List.forall_mem_cons.mpr ⟨jok_i (d32 hc.2.1), hst⟩, hn, hP, hD, hS⟩
def hSipush : jH := fun _ cc pc a _ _ => dc cc pc (.sipush a) 3 && (decide (-2147483648 ≤ a ∧ a ≤ 2147483647) && decide ((Int16.ofInt a).toInt32 = Int32.ofInt a))
theorem sSipush {Γ : jCtx} {own : Nat} {cc : ByteArray} {ce : jC} {rF : Int × jS} (C : jCx Γ own cc) : jSim Γ own cc ce rF hSipush (oPush 0 3) := by
  intro a b t pc loc st S k hc ho hk
  simp only [hSipush, Bool.and_eq_true] at hc
  intro ls H locs ad ⟨hl, hwf, hlo, hst, hn, hP, hD, hS⟩
  refine lv_sipush C.1 C.2.1 (dc_ok hc.1) (of_decide_eq_true hc.2.2) ?_
  exact hk _ _ _ _ ho ls H locs ad ⟨hl, hwf, hlo, List.forall_mem_cons.mpr ⟨jok_i (d32 hc.2.1), hst⟩, hn, hP, hD, hS⟩
def hLconst : jH := fun _ cc pc a _ _ => (decide (a = 0) && dc cc pc (.lconst 0) 1) || (decide (a = 1) && dc cc pc (.lconst 1) 1)
theorem sLconst {Γ : jCtx} {own : Nat} {cc : ByteArray} {ce : jC} {rF : Int × jS} (C : jCx Γ own cc) : jSim Γ own cc ce rF hLconst (oPush 1 1) := by
  intro a b t pc loc st S k hc ho hk
  simp only [hLconst, Bool.or_eq_true, Bool.and_eq_true, decide_eq_true_eq] at hc
  intro ls H locs ad ⟨hl, hwf, hlo, hst, hn, hP, hD, hS⟩
  rcases hc with ⟨rfl, hc⟩ | ⟨rfl, hc⟩
  · refine lv_lconst C.1 C.2.1 (dc_ok hc) rfl ?_
    exact hk _ _ _ _ ho ls H locs ad ⟨hl, hwf, hlo, List.forall_mem_cons.mpr ⟨jok_l z64, hst⟩, hn, hP, hD, hS⟩
  · refine lv_lconst C.1 C.2.1 (dc_ok hc) rfl ?_
    exact hk _ _ _ _ ho ls H locs ad ⟨hl, hwf, hlo, List.forall_mem_cons.mpr ⟨jok_l (by unfold j64; omega), hst⟩, hn, hP, hD, hS⟩
def hLdc : jH := fun own cc pc a b _ => dc cc pc (.ldc b.toNat) 2 && (decide (-2147483648 ≤ a ∧ a ≤ 2147483647) && decide ((own, b.toNat, a) ∈ jci))
theorem sLdc {Γ : jCtx} {own : Nat} {cc : ByteArray} {ce : jC} {rF : Int × jS} (C : jCx Γ own cc) : jSim Γ own cc ce rF hLdc (oPush 0 2) := by
  intro a b t pc loc st S k hc ho hk
  simp only [hLdc, Bool.and_eq_true] at hc
  intro ls H locs ad ⟨hl, hwf, hlo, hst, hn, hP, hD, hS⟩
  refine lv_ldc C.1 C.2.1 C.2.2.2.1 (C.2.2.2.2.1 _ (ci_ok (of_decide_eq_true hc.2.2))) (dc_ok hc.1) ?_
  exact hk _ _ _ _ ho ls H locs ad ⟨hl, hwf, hlo, List.forall_mem_cons.mpr ⟨jok_i (d32 hc.2.1), hst⟩, hn, hP, hD, hS⟩
def hLdcW : jH := fun own cc pc a b _ => dc cc pc (.ldc_w b.toNat) 3 && (decide (-2147483648 ≤ a ∧ a ≤ 2147483647) && decide ((own, b.toNat, a) ∈ jci))
theorem sLdcW {Γ : jCtx} {own : Nat} {cc : ByteArray} {ce : jC} {rF : Int × jS} (C : jCx Γ own cc) : jSim Γ own cc ce rF hLdcW (oPush 0 3) := by
  intro a b t pc loc st S k hc ho hk
  simp only [hLdcW, Bool.and_eq_true] at hc
  intro ls H locs ad ⟨hl, hwf, hlo, hst, hn, hP, hD, hS⟩
  refine lv_ldcw C.1 C.2.1 C.2.2.2.1 (C.2.2.2.2.1 _ (ci_ok (of_decide_eq_true hc.2.2))) (dc_ok hc.1) ?_
  exact hk _ _ _ _ ho ls H locs ad ⟨hl, hwf, hlo, List.forall_mem_cons.mpr ⟨jok_i (d32 hc.2.1), hst⟩, hn, hP, hD, hS⟩
def hLdc2 : jH := fun own cc pc a b _ => dc cc pc (.ldc2_w b.toNat) 3 && (decide (-9223372036854775808 ≤ a ∧ a ≤ 9223372036854775807) && decide ((own, b.toNat, a) ∈ jcj))
theorem sLdc2 {Γ : jCtx} {own : Nat} {cc : ByteArray} {ce : jC} {rF : Int × jS} (C : jCx Γ own cc) : jSim Γ own cc ce rF hLdc2 (oPush 1 3) := by
  intro a b t pc loc st S k hc ho hk
  simp only [hLdc2, Bool.and_eq_true] at hc
  intro ls H locs ad ⟨hl, hwf, hlo, hst, hn, hP, hD, hS⟩
  refine lv_ldc2 C.1 C.2.1 C.2.2.2.1 (C.2.2.2.2.1 _ (cj_ok (of_decide_eq_true hc.2.2))) (dc_ok hc.1) ?_
  exact hk _ _ _ _ ho ls H locs ad ⟨hl, hwf, hlo, List.forall_mem_cons.mpr ⟨jok_l (d64 hc.2.1), hst⟩, hn, hP, hD, hS⟩
def hIloadN : jH := fun _ cc pc a _ _ => if h : a.toNat < 4 then dc cc pc (.iload_n ⟨a.toNat, h⟩) 1 else false
theorem sIloadN {Γ : jCtx} {own : Nat} {cc : ByteArray} {ce : jC} {rF : Int × jS} (C : jCx Γ own cc) : jSim Γ own cc ce rF hIloadN (oLoad 0 1) := by
  intro a b t pc loc st S k hc ho hk
  unfold hIloadN at hc
  split at hc
  case isFalse => cases hc
  unfold oLoad at ho
  generalize hg : loc.getD a.toNat (2, -1) = q at ho
  obtain ⟨t', z⟩ := q
  dsimp only at ho
  split at ho
  case isFalse => cases ho
  rename_i e
  subst e
  intro ls H locs ad ⟨hl, hwf, hlo, hst, hn, hP, hD, hS⟩
  refine lv_iload_n C.1 C.2.1 (dc_ok hc) rfl (jL_get hl hg (by decide)) ?_
  exact hk _ _ _ _ ho ls H locs ad ⟨hl, hwf, hlo, List.forall_mem_cons.mpr ⟨jloc_ok hlo hg (by decide), hst⟩, hn, hP, hD, hS⟩
def hIload : jH := fun _ cc pc a _ _ => dc cc pc (.iload a.toNat) 2
theorem sIload {Γ : jCtx} {own : Nat} {cc : ByteArray} {ce : jC} {rF : Int × jS} (C : jCx Γ own cc) : jSim Γ own cc ce rF hIload (oLoad 0 2) := by
  intro a b t pc loc st S k hc ho hk
  unfold hIload at hc
  unfold oLoad at ho
  generalize hg : loc.getD a.toNat (2, -1) = q at ho
  obtain ⟨t', z⟩ := q
  dsimp only at ho
  split at ho
  case isFalse => cases ho
  rename_i e
  subst e
  intro ls H locs ad ⟨hl, hwf, hlo, hst, hn, hP, hD, hS⟩
  refine lv_iload C.1 C.2.1 (dc_ok hc) (jL_get hl hg (by decide)) ?_
  exact hk _ _ _ _ ho ls H locs ad ⟨hl, hwf, hlo, List.forall_mem_cons.mpr ⟨jloc_ok hlo hg (by decide), hst⟩, hn, hP, hD, hS⟩
def hLloadN : jH := fun _ cc pc a _ _ => if h : a.toNat < 4 then dc cc pc (.lload_n ⟨a.toNat, h⟩) 1 else false
theorem sLloadN {Γ : jCtx} {own : Nat} {cc : ByteArray} {ce : jC} {rF : Int × jS} (C : jCx Γ own cc) : jSim Γ own cc ce rF hLloadN (oLoad 1 1) := by
  intro a b t pc loc st S k hc ho hk
  unfold hLloadN at hc
  split at hc
  case isFalse => cases hc
  unfold oLoad at ho
  generalize hg : loc.getD a.toNat (2, -1) = q at ho
  obtain ⟨t', z⟩ := q
  dsimp only at ho
  split at ho
  case isFalse => cases ho
  rename_i e
  subst e
  intro ls H locs ad ⟨hl, hwf, hlo, hst, hn, hP, hD, hS⟩
  refine lv_lload_n C.1 C.2.1 (dc_ok hc) rfl (jL_get hl hg (by decide)) ?_
  exact hk _ _ _ _ ho ls H locs ad ⟨hl, hwf, hlo, List.forall_mem_cons.mpr ⟨jloc_ok hlo hg (by decide), hst⟩, hn, hP, hD, hS⟩
def hLload : jH := fun _ cc pc a _ _ => dc cc pc (.lload a.toNat) 2
theorem sLload {Γ : jCtx} {own : Nat} {cc : ByteArray} {ce : jC} {rF : Int × jS} (C : jCx Γ own cc) : jSim Γ own cc ce rF hLload (oLoad 1 2) := by
  intro a b t pc loc st S k hc ho hk
  unfold hLload at hc
  unfold oLoad at ho
  generalize hg : loc.getD a.toNat (2, -1) = q at ho
  obtain ⟨t', z⟩ := q
  dsimp only at ho
  split at ho
  case isFalse => cases ho
  rename_i e
  subst e
  intro ls H locs ad ⟨hl, hwf, hlo, hst, hn, hP, hD, hS⟩
  refine lv_lload C.1 C.2.1 (dc_ok hc) (jL_get hl hg (by decide)) ?_
  exact hk _ _ _ _ ho ls H locs ad ⟨hl, hwf, hlo, List.forall_mem_cons.mpr ⟨jloc_ok hlo hg (by decide), hst⟩, hn, hP, hD, hS⟩
def hAloadN : jH := fun _ cc pc a _ _ => if h : a.toNat < 4 then dc cc pc (.aload_n ⟨a.toNat, h⟩) 1 else false
theorem sAloadN {Γ : jCtx} {own : Nat} {cc : ByteArray} {ce : jC} {rF : Int × jS} (C : jCx Γ own cc) : jSim Γ own cc ce rF hAloadN (oALoad 1) := by
  intro a b t pc loc st S k hc ho hk
  unfold hAloadN at hc
  split at hc
  case isFalse => cases hc
  unfold oALoad at ho
  generalize hg : loc.getD a.toNat (2, -1) = q at ho
  obtain ⟨t', z⟩ := q
  dsimp only at ho
  split at ho
  case isFalse => cases ho
  rename_i e
  intro ls H locs ad ⟨hl, hwf, hlo, hst, hn, hP, hD, hS⟩
  have hgl := jL_get hl hg (by omega)
  have K := hk _ _ _ _ ho ls H locs ad ⟨hl, hwf, hlo, List.forall_mem_cons.mpr ⟨jloc_ok hlo hg (by omega), hst⟩, hn, hP, hD, hS⟩
  rw [List.map_cons] at K
  by_cases hz : z = -1
  · subst hz
    rw [jtr_null e] at hgl K
    exact lv_aload_nN C.1 C.2.1 (dc_ok hc) rfl hgl K
  · rw [jtr_at e hz] at hgl K
    exact lv_aload_n C.1 C.2.1 (dc_ok hc) rfl hgl K
def hAload : jH := fun _ cc pc a _ _ => dc cc pc (.aload a.toNat) 2
theorem sAload {Γ : jCtx} {own : Nat} {cc : ByteArray} {ce : jC} {rF : Int × jS} (C : jCx Γ own cc) : jSim Γ own cc ce rF hAload (oALoad 2) := by
  intro a b t pc loc st S k hc ho hk
  unfold hAload at hc
  unfold oALoad at ho
  generalize hg : loc.getD a.toNat (2, -1) = q at ho
  obtain ⟨t', z⟩ := q
  dsimp only at ho
  split at ho
  case isFalse => cases ho
  rename_i e
  intro ls H locs ad ⟨hl, hwf, hlo, hst, hn, hP, hD, hS⟩
  have hgl := jL_get hl hg (by omega)
  have K := hk _ _ _ _ ho ls H locs ad ⟨hl, hwf, hlo, List.forall_mem_cons.mpr ⟨jloc_ok hlo hg (by omega), hst⟩, hn, hP, hD, hS⟩
  rw [List.map_cons] at K
  by_cases hz : z = -1
  · subst hz
    rw [jtr_null e] at hgl K
    exact lv_aloadN C.1 C.2.1 (dc_ok hc) hgl K
  · rw [jtr_at e hz] at hgl K
    exact lv_aload C.1 C.2.1 (dc_ok hc) hgl K
def hIstoreN : jH := fun _ cc pc a _ _ => if h : a.toNat < 4 then dc cc pc (.istore_n ⟨a.toNat, h⟩) 1 else false
theorem sIstoreN {Γ : jCtx} {own : Nat} {cc : ByteArray} {ce : jC} {rF : Int × jS} (C : jCx Γ own cc) : jSim Γ own cc ce rF hIstoreN (oStore 1) := by
  intro a b t pc loc st S k hc ho hk
  unfold hIstoreN at hc
  split at hc
  case isFalse => cases hc
  unfold oStore at ho
  split at ho
  case h_2 => cases ho
  rename_i z r
  split at ho
  case isFalse => cases ho
  rename_i hf
  intro ls H locs ad ⟨hl, hwf, hlo, hst, hn, hP, hD, hS⟩
  have hst := List.forall_mem_cons.mp hst
  refine lv_istore_n C.1 C.2.1 (dc_ok hc) rfl (jL_has hl) (by rw [← hl.2.1]; exact jfree_lt hf) rfl (fun ls' h' => ?_)
  exact hk _ _ _ _ ho ls' H locs ad ⟨jL_set hl.2.1 hf rfl h', hwf, jset_ok hlo hst.1, hst.2, hn, hP, hD, hS⟩
def hIstore : jH := fun _ cc pc a _ _ => dc cc pc (.istore a.toNat) 2
theorem sIstore {Γ : jCtx} {own : Nat} {cc : ByteArray} {ce : jC} {rF : Int × jS} (C : jCx Γ own cc) : jSim Γ own cc ce rF hIstore (oStore 2) := by
  intro a b t pc loc st S k hc ho hk
  unfold hIstore at hc
  unfold oStore at ho
  split at ho
  case h_2 => cases ho
  rename_i z r
  split at ho
  case isFalse => cases ho
  rename_i hf
  intro ls H locs ad ⟨hl, hwf, hlo, hst, hn, hP, hD, hS⟩
  have hst := List.forall_mem_cons.mp hst
  refine lv_istore C.1 C.2.1 (dc_ok hc) (jL_has hl) (by rw [← hl.2.1]; exact jfree_lt hf) rfl (fun ls' h' => ?_)
  exact hk _ _ _ _ ho ls' H locs ad ⟨jL_set hl.2.1 hf rfl h', hwf, jset_ok hlo hst.1, hst.2, hn, hP, hD, hS⟩
def hLstoreN : jH := fun _ cc pc a _ _ => if h : a.toNat < 4 then dc cc pc (.lstore_n ⟨a.toNat, h⟩) 1 else false
theorem sLstoreN {Γ : jCtx} {own : Nat} {cc : ByteArray} {ce : jC} {rF : Int × jS} (C : jCx Γ own cc) : jSim Γ own cc ce rF hLstoreN (oLStore 1) := by
  intro a b t pc loc st S k hc ho hk
  unfold hLstoreN at hc
  split at hc
  case isFalse => cases hc
  unfold oLStore at ho
  split at ho
  case h_2 => cases ho
  rename_i z r
  split at ho
  case isFalse => cases ho
  rename_i hf
  simp only [Bool.and_eq_true, decide_eq_true_eq] at hf
  intro ls H locs ad ⟨hl, hwf, hlo, hst, hn, hP, hD, hS⟩
  have hst := List.forall_mem_cons.mp hst
  refine lv_lstore_n C.1 C.2.1 (dc_ok hc) rfl (jL_has hl) (by rw [← hl.2.1]; exact hf.2) rfl (fun ls' h' => ?_)
  exact hk _ _ _ _ ho ls' H locs ad ⟨jL_set2 hl.2.1 hf.1 hf.2 rfl h', hwf, jset_ok (jset_ok hlo hst.1) jok_u, hst.2, hn, hP, hD, hS⟩
def hLstore : jH := fun _ cc pc a _ _ => dc cc pc (.lstore a.toNat) 2
theorem sLstore {Γ : jCtx} {own : Nat} {cc : ByteArray} {ce : jC} {rF : Int × jS} (C : jCx Γ own cc) : jSim Γ own cc ce rF hLstore (oLStore 2) := by
  intro a b t pc loc st S k hc ho hk
  unfold hLstore at hc
  unfold oLStore at ho
  split at ho
  case h_2 => cases ho
  rename_i z r
  split at ho
  case isFalse => cases ho
  rename_i hf
  simp only [Bool.and_eq_true, decide_eq_true_eq] at hf
  intro ls H locs ad ⟨hl, hwf, hlo, hst, hn, hP, hD, hS⟩
  have hst := List.forall_mem_cons.mp hst
  refine lv_lstore C.1 C.2.1 (dc_ok hc) (jL_has hl) (by rw [← hl.2.1]; exact hf.2) rfl (fun ls' h' => ?_)
  exact hk _ _ _ _ ho ls' H locs ad ⟨jL_set2 hl.2.1 hf.1 hf.2 rfl h', hwf, jset_ok (jset_ok hlo hst.1) jok_u, hst.2, hn, hP, hD, hS⟩
def hAstoreN : jH := fun _ cc pc a _ _ => if h : a.toNat < 4 then dc cc pc (.astore_n ⟨a.toNat, h⟩) 1 else false
theorem sAstoreN {Γ : jCtx} {own : Nat} {cc : ByteArray} {ce : jC} {rF : Int × jS} (C : jCx Γ own cc) : jSim Γ own cc ce rF hAstoreN (oAStore 1) := by
  intro a b t pc loc st S k hc ho hk
  unfold hAstoreN at hc
  split at hc
  case isFalse => cases hc
  unfold oAStore at ho
  split at ho
  case h_2 => cases ho
  rename_i u z r
  split at ho
  case isFalse => cases ho
  rename_i hu
  split at ho
  case isFalse => cases ho
  rename_i hf
  intro ls H locs ad ⟨hl, hwf, hlo, hst, hn, hP, hD, hS⟩
  have hst := List.forall_mem_cons.mp hst
  rw [List.map_cons]
  by_cases hz : z = -1
  · subst hz
    rw [jtr_null hu]
    refine lv_astore_nN C.1 C.2.1 (dc_ok hc) rfl (jL_has hl) (by rw [← hl.2.1]; exact jfree_lt hf) rfl (fun ls' h' => ?_)
    exact hk _ _ _ _ ho ls' H locs ad ⟨jL_set hl.2.1 hf (jtr_null hu).symm h', hwf, jset_ok hlo hst.1, hst.2, hn, hP, hD, hS⟩
  · rw [jtr_at hu hz]
    refine lv_astore_n C.1 C.2.1 (dc_ok hc) rfl (jL_has hl) (by rw [← hl.2.1]; exact jfree_lt hf) rfl (fun ls' h' => ?_)
    exact hk _ _ _ _ ho ls' H locs ad ⟨jL_set hl.2.1 hf (jtr_at hu hz).symm h', hwf, jset_ok hlo hst.1, hst.2, hn, hP, hD, hS⟩
def hAstore : jH := fun _ cc pc a _ _ => dc cc pc (.astore a.toNat) 2
theorem sAstore {Γ : jCtx} {own : Nat} {cc : ByteArray} {ce : jC} {rF : Int × jS} (C : jCx Γ own cc) : jSim Γ own cc ce rF hAstore (oAStore 2) := by
  intro a b t pc loc st S k hc ho hk
  unfold hAstore at hc
  unfold oAStore at ho
  split at ho
  case h_2 => cases ho
  rename_i u z r
  split at ho
  case isFalse => cases ho
  rename_i hu
  split at ho
  case isFalse => cases ho
  rename_i hf
  intro ls H locs ad ⟨hl, hwf, hlo, hst, hn, hP, hD, hS⟩
  have hst := List.forall_mem_cons.mp hst
  rw [List.map_cons]
  by_cases hz : z = -1
  · subst hz
    rw [jtr_null hu]
    refine lv_astoreN C.1 C.2.1 (dc_ok hc) (jL_has hl) (by rw [← hl.2.1]; exact jfree_lt hf) rfl (fun ls' h' => ?_)
    exact hk _ _ _ _ ho ls' H locs ad ⟨jL_set hl.2.1 hf (jtr_null hu).symm h', hwf, jset_ok hlo hst.1, hst.2, hn, hP, hD, hS⟩
  · rw [jtr_at hu hz]
    refine lv_astore C.1 C.2.1 (dc_ok hc) (jL_has hl) (by rw [← hl.2.1]; exact jfree_lt hf) rfl (fun ls' h' => ?_)
    exact hk _ _ _ _ ho ls' H locs ad ⟨jL_set hl.2.1 hf (jtr_at hu hz).symm h', hwf, jset_ok hlo hst.1, hst.2, hn, hP, hD, hS⟩
def hIinc : jH := fun _ cc pc a b _ => dc cc pc (.iinc a.toNat b) 3
theorem sIinc {Γ : jCtx} {own : Nat} {cc : ByteArray} {ce : jC} {rF : Int × jS} (C : jCx Γ own cc) : jSim Γ own cc ce rF hIinc oIinc := by
  intro a b t pc loc st S k hc ho hk
  unfold hIinc at hc
  unfold oIinc at ho
  generalize hg : loc.getD a.toNat (2, -1) = q at ho
  split at ho
  case h_2 => cases ho
  rename_i z
  split at ho
  case isFalse => cases ho
  rename_i hf
  intro ls H locs ad ⟨hl, hwf, hlo, hst, hn, hP, hD, hS⟩
  obtain ⟨i0, hi0⟩ := jlv_at (ad := ad) hg
  refine lv_iinc C.1 C.2.1 (dc_ok hc) (jL_has hl) hi0 (add32 z b).symm (by rw [← hl.2.1]; exact jfree_lt hf) rfl (fun ls' h' => ?_)
  exact hk _ _ _ _ ho ls' H locs ad ⟨jL_set hl.2.1 hf rfl h', hwf, jset_ok hlo (jok_i (w32_ok _)), hst, hn, hP, hD, hS⟩
def hIadd : jH := fun _ cc pc _ _ _ => dc cc pc .iadd 1
theorem sIadd {Γ : jCtx} {own : Nat} {cc : ByteArray} {ce : jC} {rF : Int × jS} (C : jCx Γ own cc) : jSim Γ own cc ce rF hIadd (oBin jadd) := by
  intro a b t pc loc st S k hc ho hk
  unfold hIadd at hc
  unfold oBin at ho
  split at ho
  case h_2 => cases ho
  rename_i y x r
  intro ls H locs ad ⟨hl, hwf, hlo, hst, hn, hP, hD, hS⟩
  have hst := List.forall_mem_cons.mp hst
  have hsx := List.forall_mem_cons.mp hst.2
  have K := hk _ _ _ _ ho ls H locs ad ⟨hl, hwf, hlo, List.forall_mem_cons.mpr ⟨jok_i (w32_ok _), hsx.2⟩, hn, hP, hD, hS⟩
  refine lv_iadd C.1 C.2.1 (dc_ok hc) ?_
  rw [← add32]
  exact K
def hIsub : jH := fun _ cc pc _ _ _ => dc cc pc .isub 1
theorem sIsub {Γ : jCtx} {own : Nat} {cc : ByteArray} {ce : jC} {rF : Int × jS} (C : jCx Γ own cc) : jSim Γ own cc ce rF hIsub (oBin jsub) := by
  intro a b t pc loc st S k hc ho hk
  unfold hIsub at hc
  unfold oBin at ho
  split at ho
  case h_2 => cases ho
  rename_i y x r
  intro ls H locs ad ⟨hl, hwf, hlo, hst, hn, hP, hD, hS⟩
  have hst := List.forall_mem_cons.mp hst
  have hsx := List.forall_mem_cons.mp hst.2
  have K := hk _ _ _ _ ho ls H locs ad ⟨hl, hwf, hlo, List.forall_mem_cons.mpr ⟨jok_i (w32_ok _), hsx.2⟩, hn, hP, hD, hS⟩
  refine lv_isub C.1 C.2.1 (dc_ok hc) ?_
  rw [← sub32]
  exact K
def hImul : jH := fun _ cc pc _ _ _ => dc cc pc .imul 1
theorem sImul {Γ : jCtx} {own : Nat} {cc : ByteArray} {ce : jC} {rF : Int × jS} (C : jCx Γ own cc) : jSim Γ own cc ce rF hImul (oBin jmul) := by
  intro a b t pc loc st S k hc ho hk
  unfold hImul at hc
  unfold oBin at ho
  split at ho
  case h_2 => cases ho
  rename_i y x r
  intro ls H locs ad ⟨hl, hwf, hlo, hst, hn, hP, hD, hS⟩
  have hst := List.forall_mem_cons.mp hst
  have hsx := List.forall_mem_cons.mp hst.2
  have K := hk _ _ _ _ ho ls H locs ad ⟨hl, hwf, hlo, List.forall_mem_cons.mpr ⟨jok_i (w32_ok _), hsx.2⟩, hn, hP, hD, hS⟩
  refine lv_imul C.1 C.2.1 (dc_ok hc) ?_
  rw [← mul32]
  exact K
def hIand : jH := fun _ cc pc _ _ _ => dc cc pc .iand 1
theorem sIand {Γ : jCtx} {own : Nat} {cc : ByteArray} {ce : jC} {rF : Int × jS} (C : jCx Γ own cc) : jSim Γ own cc ce rF hIand (oBin iAnd) := by
  intro a b t pc loc st S k hc ho hk
  unfold hIand at hc
  unfold oBin at ho
  split at ho
  case h_2 => cases ho
  rename_i y x r
  intro ls H locs ad ⟨hl, hwf, hlo, hst, hn, hP, hD, hS⟩
  have hst := List.forall_mem_cons.mp hst
  have hsx := List.forall_mem_cons.mp hst.2
  have K := hk _ _ _ _ ho ls H locs ad ⟨hl, hwf, hlo, List.forall_mem_cons.mpr ⟨jok_i (r32 _), hsx.2⟩, hn, hP, hD, hS⟩
  refine lv_iand C.1 C.2.1 (dc_ok hc) ?_
  rw [← and32]
  exact K
def hIor : jH := fun _ cc pc _ _ _ => dc cc pc .ior 1
theorem sIor {Γ : jCtx} {own : Nat} {cc : ByteArray} {ce : jC} {rF : Int × jS} (C : jCx Γ own cc) : jSim Γ own cc ce rF hIor (oBin iOr) := by
  intro a b t pc loc st S k hc ho hk
  unfold hIor at hc
  unfold oBin at ho
  split at ho
  case h_2 => cases ho
  rename_i y x r
  intro ls H locs ad ⟨hl, hwf, hlo, hst, hn, hP, hD, hS⟩
  have hst := List.forall_mem_cons.mp hst
  have hsx := List.forall_mem_cons.mp hst.2
  have K := hk _ _ _ _ ho ls H locs ad ⟨hl, hwf, hlo, List.forall_mem_cons.mpr ⟨jok_i (r32 _), hsx.2⟩, hn, hP, hD, hS⟩
  refine lv_ior C.1 C.2.1 (dc_ok hc) ?_
  rw [← or32]
  exact K
def hIxor : jH := fun _ cc pc _ _ _ => dc cc pc .ixor 1
theorem sIxor {Γ : jCtx} {own : Nat} {cc : ByteArray} {ce : jC} {rF : Int × jS} (C : jCx Γ own cc) : jSim Γ own cc ce rF hIxor (oBin iXor) := by
  intro a b t pc loc st S k hc ho hk
  unfold hIxor at hc
  unfold oBin at ho
  split at ho
  case h_2 => cases ho
  rename_i y x r
  intro ls H locs ad ⟨hl, hwf, hlo, hst, hn, hP, hD, hS⟩
  have hst := List.forall_mem_cons.mp hst
  have hsx := List.forall_mem_cons.mp hst.2
  have K := hk _ _ _ _ ho ls H locs ad ⟨hl, hwf, hlo, List.forall_mem_cons.mpr ⟨jok_i (r32 _), hsx.2⟩, hn, hP, hD, hS⟩
  refine lv_ixor C.1 C.2.1 (dc_ok hc) ?_
  rw [← xor32]
  exact K
def hIshl : jH := fun _ cc pc _ _ _ => dc cc pc .ishl 1
theorem sIshl {Γ : jCtx} {own : Nat} {cc : ByteArray} {ce : jC} {rF : Int × jS} (C : jCx Γ own cc) : jSim Γ own cc ce rF hIshl (oBin iShl) := by
  intro a b t pc loc st S k hc ho hk
  unfold hIshl at hc
  unfold oBin at ho
  split at ho
  case h_2 => cases ho
  rename_i y x r
  intro ls H locs ad ⟨hl, hwf, hlo, hst, hn, hP, hD, hS⟩
  have hst := List.forall_mem_cons.mp hst
  have hsx := List.forall_mem_cons.mp hst.2
  have K := hk _ _ _ _ ho ls H locs ad ⟨hl, hwf, hlo, List.forall_mem_cons.mpr ⟨jok_i (r32 _), hsx.2⟩, hn, hP, hD, hS⟩
  refine lv_ishl C.1 C.2.1 (dc_ok hc) ?_
  rw [← shl32]
  exact K
def hIshr : jH := fun _ cc pc _ _ _ => dc cc pc .ishr 1
theorem sIshr {Γ : jCtx} {own : Nat} {cc : ByteArray} {ce : jC} {rF : Int × jS} (C : jCx Γ own cc) : jSim Γ own cc ce rF hIshr (oBin iShr) := by
  intro a b t pc loc st S k hc ho hk
  unfold hIshr at hc
  unfold oBin at ho
  split at ho
  case h_2 => cases ho
  rename_i y x r
  intro ls H locs ad ⟨hl, hwf, hlo, hst, hn, hP, hD, hS⟩
  have hst := List.forall_mem_cons.mp hst
  have hsx := List.forall_mem_cons.mp hst.2
  have K := hk _ _ _ _ ho ls H locs ad ⟨hl, hwf, hlo, List.forall_mem_cons.mpr ⟨jok_i (r32 _), hsx.2⟩, hn, hP, hD, hS⟩
  refine lv_ishr C.1 C.2.1 (dc_ok hc) ?_
  rw [← shr32]
  exact K
def hIushr : jH := fun _ cc pc _ _ _ => dc cc pc .iushr 1
theorem sIushr {Γ : jCtx} {own : Nat} {cc : ByteArray} {ce : jC} {rF : Int × jS} (C : jCx Γ own cc) : jSim Γ own cc ce rF hIushr (oBin iUshr) := by
  intro a b t pc loc st S k hc ho hk
  unfold hIushr at hc
  unfold oBin at ho
  split at ho
  case h_2 => cases ho
  rename_i y x r
  intro ls H locs ad ⟨hl, hwf, hlo, hst, hn, hP, hD, hS⟩
  have hst := List.forall_mem_cons.mp hst
  have hsx := List.forall_mem_cons.mp hst.2
  have K := hk _ _ _ _ ho ls H locs ad ⟨hl, hwf, hlo, List.forall_mem_cons.mpr ⟨jok_i (r32 _), hsx.2⟩, hn, hP, hD, hS⟩
  refine lv_iushr C.1 C.2.1 (dc_ok hc) rfl ?_
  rw [← ushr32]
  exact K
def hLadd : jH := fun _ cc pc _ _ _ => dc cc pc .ladd 1
theorem sLadd {Γ : jCtx} {own : Nat} {cc : ByteArray} {ce : jC} {rF : Int × jS} (C : jCx Γ own cc) : jSim Γ own cc ce rF hLadd (oBinL ladd) := by
  intro a b t pc loc st S k hc ho hk
  unfold hLadd at hc
  unfold oBinL at ho
  split at ho
  case h_2 => cases ho
  rename_i y x r
  intro ls H locs ad ⟨hl, hwf, hlo, hst, hn, hP, hD, hS⟩
  have hst := List.forall_mem_cons.mp hst
  have hsx := List.forall_mem_cons.mp hst.2
  have K := hk _ _ _ _ ho ls H locs ad ⟨hl, hwf, hlo, List.forall_mem_cons.mpr ⟨jok_l (w64_ok _), hsx.2⟩, hn, hP, hD, hS⟩
  refine lv_ladd C.1 C.2.1 (dc_ok hc) ?_
  rw [← add64]
  exact K
def hLsub : jH := fun _ cc pc _ _ _ => dc cc pc .lsub 1
theorem sLsub {Γ : jCtx} {own : Nat} {cc : ByteArray} {ce : jC} {rF : Int × jS} (C : jCx Γ own cc) : jSim Γ own cc ce rF hLsub (oBinL lsub) := by
  intro a b t pc loc st S k hc ho hk
  unfold hLsub at hc
  unfold oBinL at ho
  split at ho
  case h_2 => cases ho
  rename_i y x r
  intro ls H locs ad ⟨hl, hwf, hlo, hst, hn, hP, hD, hS⟩
  have hst := List.forall_mem_cons.mp hst
  have hsx := List.forall_mem_cons.mp hst.2
  have K := hk _ _ _ _ ho ls H locs ad ⟨hl, hwf, hlo, List.forall_mem_cons.mpr ⟨jok_l (w64_ok _), hsx.2⟩, hn, hP, hD, hS⟩
  refine lv_lsub C.1 C.2.1 (dc_ok hc) ?_
  rw [← sub64]
  exact K
def hLmul : jH := fun _ cc pc _ _ _ => dc cc pc .lmul 1
theorem sLmul {Γ : jCtx} {own : Nat} {cc : ByteArray} {ce : jC} {rF : Int × jS} (C : jCx Γ own cc) : jSim Γ own cc ce rF hLmul (oBinL lmul) := by
  intro a b t pc loc st S k hc ho hk
  unfold hLmul at hc
  unfold oBinL at ho
  split at ho
  case h_2 => cases ho
  rename_i y x r
  intro ls H locs ad ⟨hl, hwf, hlo, hst, hn, hP, hD, hS⟩
  have hst := List.forall_mem_cons.mp hst
  have hsx := List.forall_mem_cons.mp hst.2
  have K := hk _ _ _ _ ho ls H locs ad ⟨hl, hwf, hlo, List.forall_mem_cons.mpr ⟨jok_l (w64_ok _), hsx.2⟩, hn, hP, hD, hS⟩
  refine lv_lmul C.1 C.2.1 (dc_ok hc) ?_
  rw [← mul64]
  exact K
def hLand : jH := fun _ cc pc _ _ _ => dc cc pc .land 1
theorem sLand {Γ : jCtx} {own : Nat} {cc : ByteArray} {ce : jC} {rF : Int × jS} (C : jCx Γ own cc) : jSim Γ own cc ce rF hLand (oBinL lAnd) := by
  intro a b t pc loc st S k hc ho hk
  unfold hLand at hc
  unfold oBinL at ho
  split at ho
  case h_2 => cases ho
  rename_i y x r
  intro ls H locs ad ⟨hl, hwf, hlo, hst, hn, hP, hD, hS⟩
  have hst := List.forall_mem_cons.mp hst
  have hsx := List.forall_mem_cons.mp hst.2
  have K := hk _ _ _ _ ho ls H locs ad ⟨hl, hwf, hlo, List.forall_mem_cons.mpr ⟨jok_l (r64 _), hsx.2⟩, hn, hP, hD, hS⟩
  refine lv_land C.1 C.2.1 (dc_ok hc) ?_
  rw [← and64]
  exact K
def hLor : jH := fun _ cc pc _ _ _ => dc cc pc .lor 1
theorem sLor {Γ : jCtx} {own : Nat} {cc : ByteArray} {ce : jC} {rF : Int × jS} (C : jCx Γ own cc) : jSim Γ own cc ce rF hLor (oBinL lOr) := by
  intro a b t pc loc st S k hc ho hk
  unfold hLor at hc
  unfold oBinL at ho
  split at ho
  case h_2 => cases ho
  rename_i y x r
  intro ls H locs ad ⟨hl, hwf, hlo, hst, hn, hP, hD, hS⟩
  have hst := List.forall_mem_cons.mp hst
  have hsx := List.forall_mem_cons.mp hst.2
  have K := hk _ _ _ _ ho ls H locs ad ⟨hl, hwf, hlo, List.forall_mem_cons.mpr ⟨jok_l (r64 _), hsx.2⟩, hn, hP, hD, hS⟩
  refine lv_lor C.1 C.2.1 (dc_ok hc) ?_
  rw [← or64]
  exact K
end
section
def hIdiv : jH := fun _ cc pc _ _ _ => dc cc pc .idiv 1
theorem sIdiv {Γ : jCtx} {own : Nat} {cc : ByteArray} {ce : jC} {rF : Int × jS} (C : jCx Γ own cc) : jSim Γ own cc ce rF hIdiv (oDiv jdiv) := by
  intro a b t pc loc st S k hc ho hk
  unfold hIdiv at hc
  unfold oDiv at ho
  split at ho
  case h_2 => cases ho
  rename_i y x r
  split at ho
  case isTrue => cases ho
  rename_i hy
  intro ls H locs ad ⟨hl, hwf, hlo, hst, hn, hP, hD, hS⟩
  have hst := List.forall_mem_cons.mp hst
  have hsx := List.forall_mem_cons.mp hst.2
  have hjy : j32 y := hst.1.1 rfl
  have hjx : j32 x := hsx.1.1 rfl
  have K := hk _ _ _ _ ho ls H locs ad ⟨hl, hwf, hlo, List.forall_mem_cons.mpr ⟨jok_i (w32_ok _), hsx.2⟩, hn, hP, hD, hS⟩
  refine lv_idiv C.1 C.2.1 (dc_ok hc) (fun q => hy ((eq32 hjy z32).mp q)) ?_
  rw [← div32 hjx hjy]
  exact K
def hIrem : jH := fun _ cc pc _ _ _ => dc cc pc .irem 1
theorem sIrem {Γ : jCtx} {own : Nat} {cc : ByteArray} {ce : jC} {rF : Int × jS} (C : jCx Γ own cc) : jSim Γ own cc ce rF hIrem (oDiv jrem) := by
  intro a b t pc loc st S k hc ho hk
  unfold hIrem at hc
  unfold oDiv at ho
  split at ho
  case h_2 => cases ho
  rename_i y x r
  split at ho
  case isTrue => cases ho
  rename_i hy
  intro ls H locs ad ⟨hl, hwf, hlo, hst, hn, hP, hD, hS⟩
  have hst := List.forall_mem_cons.mp hst
  have hsx := List.forall_mem_cons.mp hst.2
  have hjy : j32 y := hst.1.1 rfl
  have hjx : j32 x := hsx.1.1 rfl
  have K := hk _ _ _ _ ho ls H locs ad ⟨hl, hwf, hlo, List.forall_mem_cons.mpr ⟨jok_i (jrem_ok hjx hjy), hsx.2⟩, hn, hP, hD, hS⟩
  refine lv_irem C.1 C.2.1 (dc_ok hc) (fun q => hy ((eq32 hjy z32).mp q)) ?_
  rw [← rem32 hjx hjy]
  exact K
def hLdiv : jH := fun _ cc pc _ _ _ => dc cc pc .ldiv 1
theorem sLdiv {Γ : jCtx} {own : Nat} {cc : ByteArray} {ce : jC} {rF : Int × jS} (C : jCx Γ own cc) : jSim Γ own cc ce rF hLdiv (oDivL ldiv) := by
  intro a b t pc loc st S k hc ho hk
  unfold hLdiv at hc
  unfold oDivL at ho
  split at ho
  case h_2 => cases ho
  rename_i y x r
  split at ho
  case isTrue => cases ho
  rename_i hy
  intro ls H locs ad ⟨hl, hwf, hlo, hst, hn, hP, hD, hS⟩
  have hst := List.forall_mem_cons.mp hst
  have hsx := List.forall_mem_cons.mp hst.2
  have hjy : j64 y := hst.1.2.1 rfl
  have hjx : j64 x := hsx.1.2.1 rfl
  have K := hk _ _ _ _ ho ls H locs ad ⟨hl, hwf, hlo, List.forall_mem_cons.mpr ⟨jok_l (w64_ok _), hsx.2⟩, hn, hP, hD, hS⟩
  refine lv_ldiv C.1 C.2.1 (dc_ok hc) (fun q => hy ((eq64 hjy z64).mp q)) ?_
  rw [← div64 hjx hjy]
  exact K
def hLrem : jH := fun _ cc pc _ _ _ => dc cc pc .lrem 1
theorem sLrem {Γ : jCtx} {own : Nat} {cc : ByteArray} {ce : jC} {rF : Int × jS} (C : jCx Γ own cc) : jSim Γ own cc ce rF hLrem (oDivL lrem) := by
  intro a b t pc loc st S k hc ho hk
  unfold hLrem at hc
  unfold oDivL at ho
  split at ho
  case h_2 => cases ho
  rename_i y x r
  split at ho
  case isTrue => cases ho
  rename_i hy
  intro ls H locs ad ⟨hl, hwf, hlo, hst, hn, hP, hD, hS⟩
  have hst := List.forall_mem_cons.mp hst
  have hsx := List.forall_mem_cons.mp hst.2
  have hjy : j64 y := hst.1.2.1 rfl
  have hjx : j64 x := hsx.1.2.1 rfl
  have K := hk _ _ _ _ ho ls H locs ad ⟨hl, hwf, hlo, List.forall_mem_cons.mpr ⟨jok_l (lrem_ok hjx hjy), hsx.2⟩, hn, hP, hD, hS⟩
  refine lv_lrem C.1 C.2.1 (dc_ok hc) (fun q => hy ((eq64 hjy z64).mp q)) ?_
  rw [← rem64 hjx hjy]
  exact K
def hLshl : jH := fun _ cc pc _ _ _ => dc cc pc .lshl 1
theorem sLshl {Γ : jCtx} {own : Nat} {cc : ByteArray} {ce : jC} {rF : Int × jS} (C : jCx Γ own cc) : jSim Γ own cc ce rF hLshl (oShL lShl) := by
  intro a b t pc loc st S k hc ho hk
  unfold hLshl at hc
  unfold oShL at ho
  split at ho
  case h_2 => cases ho
  rename_i y x r
  intro ls H locs ad ⟨hl, hwf, hlo, hst, hn, hP, hD, hS⟩
  have hst := List.forall_mem_cons.mp hst
  have hsx := List.forall_mem_cons.mp hst.2
  have K := hk _ _ _ _ ho ls H locs ad ⟨hl, hwf, hlo, List.forall_mem_cons.mpr ⟨jok_l (r64 _), hsx.2⟩, hn, hP, hD, hS⟩
  refine lv_lshl C.1 C.2.1 (dc_ok hc) rfl ?_
  rw [← shl64]
  exact K
def hLshr : jH := fun _ cc pc _ _ _ => dc cc pc .lshr 1
theorem sLshr {Γ : jCtx} {own : Nat} {cc : ByteArray} {ce : jC} {rF : Int × jS} (C : jCx Γ own cc) : jSim Γ own cc ce rF hLshr (oShL lShr) := by
  intro a b t pc loc st S k hc ho hk
  unfold hLshr at hc
  unfold oShL at ho
  split at ho
  case h_2 => cases ho
  rename_i y x r
  intro ls H locs ad ⟨hl, hwf, hlo, hst, hn, hP, hD, hS⟩
  have hst := List.forall_mem_cons.mp hst
  have hsx := List.forall_mem_cons.mp hst.2
  have K := hk _ _ _ _ ho ls H locs ad ⟨hl, hwf, hlo, List.forall_mem_cons.mpr ⟨jok_l (r64 _), hsx.2⟩, hn, hP, hD, hS⟩
  refine lv_lshr C.1 C.2.1 (dc_ok hc) rfl ?_
  rw [← shr64]
  exact K
def hLcmp : jH := fun _ cc pc _ _ _ => dc cc pc .lcmp 1
theorem sLcmp {Γ : jCtx} {own : Nat} {cc : ByteArray} {ce : jC} {rF : Int × jS} (C : jCx Γ own cc) : jSim Γ own cc ce rF hLcmp oLcmp := by
  intro a b t pc loc st S k hc ho hk
  unfold hLcmp at hc
  unfold oLcmp at ho
  split at ho
  case h_2 => cases ho
  rename_i y x r
  intro ls H locs ad ⟨hl, hwf, hlo, hst, hn, hP, hD, hS⟩
  have hst := List.forall_mem_cons.mp hst
  have hsx := List.forall_mem_cons.mp hst.2
  have K := hk _ _ _ _ ho ls H locs ad ⟨hl, hwf, hlo, List.forall_mem_cons.mpr ⟨jok_i (lCmp_ok x y), hsx.2⟩, hn, hP, hD, hS⟩
  refine W.lcmp C.1 C.2.1 (dc_ok hc) ?_
  rw [← cmp64 (hsx.1.2.1 rfl) (hst.1.2.1 rfl)]
  exact K
def hI2l : jH := fun _ cc pc _ _ _ => dc cc pc .i2l 1
theorem sI2l {Γ : jCtx} {own : Nat} {cc : ByteArray} {ce : jC} {rF : Int × jS} (C : jCx Γ own cc) : jSim Γ own cc ce rF hI2l oI2l := by
  intro a b t pc loc st S k hc ho hk
  unfold hI2l at hc
  unfold oI2l at ho
  split at ho
  case h_2 => cases ho
  rename_i x r
  intro ls H locs ad ⟨hl, hwf, hlo, hst, hn, hP, hD, hS⟩
  have hst := List.forall_mem_cons.mp hst
  have K := hk _ _ _ _ ho ls H locs ad ⟨hl, hwf, hlo, List.forall_mem_cons.mpr ⟨jok_l (j32_64 (hst.1.1 rfl)), hst.2⟩, hn, hP, hD, hS⟩
  exact lv_i2l C.1 C.2.1 (dc_ok hc) (i2l32 (hst.1.1 rfl)) K
def hL2i : jH := fun _ cc pc _ _ _ => dc cc pc .l2i 1
theorem sL2i {Γ : jCtx} {own : Nat} {cc : ByteArray} {ce : jC} {rF : Int × jS} (C : jCx Γ own cc) : jSim Γ own cc ce rF hL2i oL2i := by
  intro a b t pc loc st S k hc ho hk
  unfold hL2i at hc
  unfold oL2i at ho
  split at ho
  case h_2 => cases ho
  rename_i x r
  intro ls H locs ad ⟨hl, hwf, hlo, hst, hn, hP, hD, hS⟩
  have hst := List.forall_mem_cons.mp hst
  have K := hk _ _ _ _ ho ls H locs ad ⟨hl, hwf, hlo, List.forall_mem_cons.mpr ⟨jok_i (w32_ok _), hst.2⟩, hn, hP, hD, hS⟩
  exact lv_l2i C.1 C.2.1 (dc_ok hc) (l2i64 (hst.1.2.1 rfl)) K
def hIneg : jH := fun _ cc pc _ _ _ => dc cc pc .ineg 1
theorem sIneg {Γ : jCtx} {own : Nat} {cc : ByteArray} {ce : jC} {rF : Int × jS} (C : jCx Γ own cc) : jSim Γ own cc ce rF hIneg oIneg := by
  intro a b t pc loc st S k hc ho hk
  unfold hIneg at hc
  unfold oIneg at ho
  split at ho
  case h_2 => cases ho
  rename_i x r
  intro ls H locs ad ⟨hl, hwf, hlo, hst, hn, hP, hD, hS⟩
  have hst := List.forall_mem_cons.mp hst
  have K := hk _ _ _ _ ho ls H locs ad ⟨hl, hwf, hlo, List.forall_mem_cons.mpr ⟨jok_i (w32_ok _), hst.2⟩, hn, hP, hD, hS⟩
  refine lv_ineg C.1 C.2.1 (dc_ok hc) ?_
  rw [← neg32]
  exact K
def hDup : jH := fun _ cc pc _ _ _ => dc cc pc .dup 1
theorem sDup {Γ : jCtx} {own : Nat} {cc : ByteArray} {ce : jC} {rF : Int × jS} (C : jCx Γ own cc) : jSim Γ own cc ce rF hDup oDup := by
  intro a b t pc loc st S k hc ho hk
  unfold hDup at hc
  unfold oDup at ho
  split at ho
  case h_2 => cases ho
  rename_i u x r
  split at ho
  case isTrue => cases ho
  rename_i hu
  intro ls H locs ad ⟨hl, hwf, hlo, hst, hn, hP, hD, hS⟩
  have h1 := List.forall_mem_cons.mp hst
  have K := hk _ _ _ _ ho ls H locs ad ⟨hl, hwf, hlo, List.forall_mem_cons.mpr ⟨h1.1, hst⟩, hn, hP, hD, hS⟩
  exact lv_dup C.1 C.2.1 (dc_ok hc) (jtr_cat hu) K
theorem jtr_cat2 {ad : Int → Nat} {v : jV} (h : v.1 = 1) : (jtr ad v).category = 2 := by
  obtain ⟨t, z⟩ := v
  dsimp only at h
  subst h
  rfl
def hDup2 : jH := fun _ cc pc _ _ _ => dc cc pc .dup2 1
theorem sDup2 {Γ : jCtx} {own : Nat} {cc : ByteArray} {ce : jC} {rF : Int × jS} (C : jCx Γ own cc) : jSim Γ own cc ce rF hDup2 oDup2 := by
  intro a b t pc loc st S k hc ho hk
  unfold hDup2 at hc
  unfold oDup2 at ho
  split at ho
  case h_3 => cases ho
  case h_1 =>
    rename_i u x v y r
    split at ho
    case isTrue =>
      rename_i hu
      intro ls H locs ad ⟨hl, hwf, hlo, hst, hn, hP, hD, hS⟩
      have h1 := List.forall_mem_cons.mp hst
      have K := hk _ _ _ _ ho ls H locs ad ⟨hl, hwf, hlo, List.forall_mem_cons.mpr ⟨h1.1, hst⟩, hn, hP, hD, hS⟩
      exact lv_dup2_2 C.1 C.2.1 (dc_ok hc) (jtr_cat2 hu) K
    case isFalse =>
      rename_i hu
      split at ho
      case isTrue => cases ho
      rename_i hv
      intro ls H locs ad ⟨hl, hwf, hlo, hst, hn, hP, hD, hS⟩
      have h1 := List.forall_mem_cons.mp hst
      have h2 := List.forall_mem_cons.mp h1.2
      have K := hk _ _ _ _ ho ls H locs ad ⟨hl, hwf, hlo, List.forall_mem_cons.mpr ⟨h1.1, List.forall_mem_cons.mpr ⟨h2.1, hst⟩⟩, hn, hP, hD, hS⟩
      exact lv_dup2_11 C.1 C.2.1 (dc_ok hc) (jtr_cat hu) (jtr_cat hv) K
  case h_2 =>
    rename_i u x
    split at ho
    case isFalse => cases ho
    rename_i hu
    intro ls H locs ad ⟨hl, hwf, hlo, hst, hn, hP, hD, hS⟩
    have h1 := List.forall_mem_cons.mp hst
    have K := hk _ _ _ _ ho ls H locs ad ⟨hl, hwf, hlo, List.forall_mem_cons.mpr ⟨h1.1, hst⟩, hn, hP, hD, hS⟩
    exact lv_dup2_2 C.1 C.2.1 (dc_ok hc) (jtr_cat2 hu) K
def hPop : jH := fun _ cc pc _ _ _ => dc cc pc .pop 1
theorem sPop {Γ : jCtx} {own : Nat} {cc : ByteArray} {ce : jC} {rF : Int × jS} (C : jCx Γ own cc) : jSim Γ own cc ce rF hPop oPop := by
  intro a b t pc loc st S k hc ho hk
  unfold hPop at hc
  unfold oPop at ho
  split at ho
  case h_2 => cases ho
  rename_i u x r
  split at ho
  case isTrue => cases ho
  rename_i hu
  intro ls H locs ad ⟨hl, hwf, hlo, hst, hn, hP, hD, hS⟩
  have h1 := List.forall_mem_cons.mp hst
  have K := hk _ _ _ _ ho ls H locs ad ⟨hl, hwf, hlo, h1.2, hn, hP, hD, hS⟩
  exact lv_pop C.1 C.2.1 (dc_ok hc) (jtr_cat hu) K
theorem jtg {pc : Nat} {a : Int} (h : decide (0 ≤ a) = true) : (pc : Int) + (a - pc) = ((a.toNat : Nat) : Int) := by
  have := of_decide_eq_true h
  omega
def hIfEq : jH := fun _ cc pc a _ _ => dc cc pc (.ifCond .eq (a - pc)) 3 && decide (0 ≤ a)
theorem sIfEq {Γ : jCtx} {own : Nat} {cc : ByteArray} {ce : jC} {rF : Int × jS} (C : jCx Γ own cc) : jSim Γ own cc ce rF hIfEq oIfEq := by
  intro a b t pc loc st S k hc ho hk
  simp only [hIfEq, Bool.and_eq_true] at hc
  unfold oIfEq at ho
  split at ho
  case h_2 => cases ho
  rename_i x r
  intro ls H locs ad ⟨hl, hwf, hlo, hst, hn, hP, hD, hS⟩
  have hst := List.forall_mem_cons.mp hst
  have hx : j32 x := hst.1.1 rfl
  refine lv_if_eq C.1 C.2.1 (dc_ok hc.1) (jtg hc.2) (fun q => ?_) (fun q => ?_)
  · have w : x = 0 := (eq32 hx z32).mp q
    rw [if_pos (by omega)] at ho
    exact hk _ _ _ _ ho ls H locs ad ⟨hl, hwf, hlo, hst.2, hn, hP, hD, hS⟩
  · have w : ¬ x = 0 := fun v => q ((eq32 hx z32).mpr v)
    rw [if_neg (by omega)] at ho
    exact hk _ _ _ _ ho ls H locs ad ⟨hl, hwf, hlo, hst.2, hn, hP, hD, hS⟩
def hIfNe : jH := fun _ cc pc a _ _ => dc cc pc (.ifCond .ne (a - pc)) 3 && decide (0 ≤ a)
theorem sIfNe {Γ : jCtx} {own : Nat} {cc : ByteArray} {ce : jC} {rF : Int × jS} (C : jCx Γ own cc) : jSim Γ own cc ce rF hIfNe oIfNe := by
  intro a b t pc loc st S k hc ho hk
  simp only [hIfNe, Bool.and_eq_true] at hc
  unfold oIfNe at ho
  split at ho
  case h_2 => cases ho
  rename_i x r
  intro ls H locs ad ⟨hl, hwf, hlo, hst, hn, hP, hD, hS⟩
  have hst := List.forall_mem_cons.mp hst
  have hx : j32 x := hst.1.1 rfl
  refine lv_if_ne C.1 C.2.1 (dc_ok hc.1) (jtg hc.2) (fun q => ?_) (fun q => ?_)
  · have w : ¬ x = 0 := fun v => q ((eq32 hx z32).mpr v)
    rw [if_neg (by omega)] at ho
    exact hk _ _ _ _ ho ls H locs ad ⟨hl, hwf, hlo, hst.2, hn, hP, hD, hS⟩
  · have w : x = 0 := (eq32 hx z32).mp q
    rw [if_pos (by omega)] at ho
    exact hk _ _ _ _ ho ls H locs ad ⟨hl, hwf, hlo, hst.2, hn, hP, hD, hS⟩
def hIfLt : jH := fun _ cc pc a _ _ => dc cc pc (.ifCond .lt (a - pc)) 3 && decide (0 ≤ a)
theorem sIfLt {Γ : jCtx} {own : Nat} {cc : ByteArray} {ce : jC} {rF : Int × jS} (C : jCx Γ own cc) : jSim Γ own cc ce rF hIfLt oIfLt := by
  intro a b t pc loc st S k hc ho hk
  simp only [hIfLt, Bool.and_eq_true] at hc
  unfold oIfLt at ho
  split at ho
  case h_2 => cases ho
  rename_i x r
  intro ls H locs ad ⟨hl, hwf, hlo, hst, hn, hP, hD, hS⟩
  have hst := List.forall_mem_cons.mp hst
  have hx : j32 x := hst.1.1 rfl
  refine lv_if_lt C.1 C.2.1 (dc_ok hc.1) (jtg hc.2) (fun q => ?_) (fun q => ?_)
  · have w : x < 0 := (lt32 hx z32).mp q
    rw [if_pos (by omega)] at ho
    exact hk _ _ _ _ ho ls H locs ad ⟨hl, hwf, hlo, hst.2, hn, hP, hD, hS⟩
  · have w : ¬ x < 0 := fun v => q ((lt32 hx z32).mpr v)
    rw [if_neg (by omega)] at ho
    exact hk _ _ _ _ ho ls H locs ad ⟨hl, hwf, hlo, hst.2, hn, hP, hD, hS⟩
def hIfGe : jH := fun _ cc pc a _ _ => dc cc pc (.ifCond .ge (a - pc)) 3 && decide (0 ≤ a)
theorem sIfGe {Γ : jCtx} {own : Nat} {cc : ByteArray} {ce : jC} {rF : Int × jS} (C : jCx Γ own cc) : jSim Γ own cc ce rF hIfGe oIfGe := by
  intro a b t pc loc st S k hc ho hk
  simp only [hIfGe, Bool.and_eq_true] at hc
  unfold oIfGe at ho
  split at ho
  case h_2 => cases ho
  rename_i x r
  intro ls H locs ad ⟨hl, hwf, hlo, hst, hn, hP, hD, hS⟩
  have hst := List.forall_mem_cons.mp hst
  have hx : j32 x := hst.1.1 rfl
  refine lv_if_ge C.1 C.2.1 (dc_ok hc.1) (jtg hc.2) (fun q => ?_) (fun q => ?_)
  · have w : 0 ≤ x := (le32 z32 hx).mp q
    rw [if_neg (by omega)] at ho
    exact hk _ _ _ _ ho ls H locs ad ⟨hl, hwf, hlo, hst.2, hn, hP, hD, hS⟩
  · have w : ¬ 0 ≤ x := fun v => q ((le32 z32 hx).mpr v)
    rw [if_pos (by omega)] at ho
    exact hk _ _ _ _ ho ls H locs ad ⟨hl, hwf, hlo, hst.2, hn, hP, hD, hS⟩
def hIfGt : jH := fun _ cc pc a _ _ => dc cc pc (.ifCond .gt (a - pc)) 3 && decide (0 ≤ a)
theorem sIfGt {Γ : jCtx} {own : Nat} {cc : ByteArray} {ce : jC} {rF : Int × jS} (C : jCx Γ own cc) : jSim Γ own cc ce rF hIfGt oIfGt := by
  intro a b t pc loc st S k hc ho hk
  simp only [hIfGt, Bool.and_eq_true] at hc
  unfold oIfGt at ho
  split at ho
  case h_2 => cases ho
  rename_i x r
  intro ls H locs ad ⟨hl, hwf, hlo, hst, hn, hP, hD, hS⟩
  have hst := List.forall_mem_cons.mp hst
  have hx : j32 x := hst.1.1 rfl
  refine lv_if_gt C.1 C.2.1 (dc_ok hc.1) (jtg hc.2) (fun q => ?_) (fun q => ?_)
  · have w : 0 < x := (lt32 z32 hx).mp q
    rw [if_pos (by omega)] at ho
    exact hk _ _ _ _ ho ls H locs ad ⟨hl, hwf, hlo, hst.2, hn, hP, hD, hS⟩
  · have w : ¬ 0 < x := fun v => q ((lt32 z32 hx).mpr v)
    rw [if_neg (by omega)] at ho
    exact hk _ _ _ _ ho ls H locs ad ⟨hl, hwf, hlo, hst.2, hn, hP, hD, hS⟩
def hIfLe : jH := fun _ cc pc a _ _ => dc cc pc (.ifCond .le (a - pc)) 3 && decide (0 ≤ a)
theorem sIfLe {Γ : jCtx} {own : Nat} {cc : ByteArray} {ce : jC} {rF : Int × jS} (C : jCx Γ own cc) : jSim Γ own cc ce rF hIfLe oIfLe := by
  intro a b t pc loc st S k hc ho hk
  simp only [hIfLe, Bool.and_eq_true] at hc
  unfold oIfLe at ho
  split at ho
  case h_2 => cases ho
  rename_i x r
  intro ls H locs ad ⟨hl, hwf, hlo, hst, hn, hP, hD, hS⟩
  have hst := List.forall_mem_cons.mp hst
  have hx : j32 x := hst.1.1 rfl
  refine lv_if_le C.1 C.2.1 (dc_ok hc.1) (jtg hc.2) (fun q => ?_) (fun q => ?_)
  · have w : x ≤ 0 := (le32 hx z32).mp q
    rw [if_neg (by omega)] at ho
    exact hk _ _ _ _ ho ls H locs ad ⟨hl, hwf, hlo, hst.2, hn, hP, hD, hS⟩
  · have w : ¬ x ≤ 0 := fun v => q ((le32 hx z32).mpr v)
    rw [if_pos (by omega)] at ho
    exact hk _ _ _ _ ho ls H locs ad ⟨hl, hwf, hlo, hst.2, hn, hP, hD, hS⟩
def hIcEq : jH := fun _ cc pc a _ _ => dc cc pc (.if_icmp .eq (a - pc)) 3 && decide (0 ≤ a)
theorem sIcEq {Γ : jCtx} {own : Nat} {cc : ByteArray} {ce : jC} {rF : Int × jS} (C : jCx Γ own cc) : jSim Γ own cc ce rF hIcEq oIcEq := by
  intro a b t pc loc st S k hc ho hk
  simp only [hIcEq, Bool.and_eq_true] at hc
  unfold oIcEq at ho
  split at ho
  case h_2 => cases ho
  rename_i y x r
  intro ls H locs ad ⟨hl, hwf, hlo, hst, hn, hP, hD, hS⟩
  have hst := List.forall_mem_cons.mp hst
  have hsx := List.forall_mem_cons.mp hst.2
  have hy : j32 y := hst.1.1 rfl
  have hx : j32 x := hsx.1.1 rfl
  refine lv_icmp_eq C.1 C.2.1 (dc_ok hc.1) (jtg hc.2) (fun q => ?_) (fun q => ?_)
  · have w : x = y := (eq32 hx hy).mp q
    rw [if_pos (by omega)] at ho
    exact hk _ _ _ _ ho ls H locs ad ⟨hl, hwf, hlo, hsx.2, hn, hP, hD, hS⟩
  · have w : ¬ x = y := fun v => q ((eq32 hx hy).mpr v)
    rw [if_neg (by omega)] at ho
    exact hk _ _ _ _ ho ls H locs ad ⟨hl, hwf, hlo, hsx.2, hn, hP, hD, hS⟩
def hIcNe : jH := fun _ cc pc a _ _ => dc cc pc (.if_icmp .ne (a - pc)) 3 && decide (0 ≤ a)
theorem sIcNe {Γ : jCtx} {own : Nat} {cc : ByteArray} {ce : jC} {rF : Int × jS} (C : jCx Γ own cc) : jSim Γ own cc ce rF hIcNe oIcNe := by
  intro a b t pc loc st S k hc ho hk
  simp only [hIcNe, Bool.and_eq_true] at hc
  unfold oIcNe at ho
  split at ho
  case h_2 => cases ho
  rename_i y x r
  intro ls H locs ad ⟨hl, hwf, hlo, hst, hn, hP, hD, hS⟩
  have hst := List.forall_mem_cons.mp hst
  have hsx := List.forall_mem_cons.mp hst.2
  have hy : j32 y := hst.1.1 rfl
  have hx : j32 x := hsx.1.1 rfl
  refine lv_icmp_ne C.1 C.2.1 (dc_ok hc.1) (jtg hc.2) (fun q => ?_) (fun q => ?_)
  · have w : ¬ x = y := fun v => q ((eq32 hx hy).mpr v)
    rw [if_neg (by omega)] at ho
    exact hk _ _ _ _ ho ls H locs ad ⟨hl, hwf, hlo, hsx.2, hn, hP, hD, hS⟩
  · have w : x = y := (eq32 hx hy).mp q
    rw [if_pos (by omega)] at ho
    exact hk _ _ _ _ ho ls H locs ad ⟨hl, hwf, hlo, hsx.2, hn, hP, hD, hS⟩
def hIcLt : jH := fun _ cc pc a _ _ => dc cc pc (.if_icmp .lt (a - pc)) 3 && decide (0 ≤ a)
theorem sIcLt {Γ : jCtx} {own : Nat} {cc : ByteArray} {ce : jC} {rF : Int × jS} (C : jCx Γ own cc) : jSim Γ own cc ce rF hIcLt oIcLt := by
  intro a b t pc loc st S k hc ho hk
  simp only [hIcLt, Bool.and_eq_true] at hc
  unfold oIcLt at ho
  split at ho
  case h_2 => cases ho
  rename_i y x r
  intro ls H locs ad ⟨hl, hwf, hlo, hst, hn, hP, hD, hS⟩
  have hst := List.forall_mem_cons.mp hst
  have hsx := List.forall_mem_cons.mp hst.2
  have hy : j32 y := hst.1.1 rfl
  have hx : j32 x := hsx.1.1 rfl
  refine lv_icmp_lt C.1 C.2.1 (dc_ok hc.1) (jtg hc.2) (fun q => ?_) (fun q => ?_)
  · have w : x < y := (lt32 hx hy).mp q
    rw [if_pos (by omega)] at ho
    exact hk _ _ _ _ ho ls H locs ad ⟨hl, hwf, hlo, hsx.2, hn, hP, hD, hS⟩
  · have w : ¬ x < y := fun v => q ((lt32 hx hy).mpr v)
    rw [if_neg (by omega)] at ho
    exact hk _ _ _ _ ho ls H locs ad ⟨hl, hwf, hlo, hsx.2, hn, hP, hD, hS⟩
def hIcGe : jH := fun _ cc pc a _ _ => dc cc pc (.if_icmp .ge (a - pc)) 3 && decide (0 ≤ a)
theorem sIcGe {Γ : jCtx} {own : Nat} {cc : ByteArray} {ce : jC} {rF : Int × jS} (C : jCx Γ own cc) : jSim Γ own cc ce rF hIcGe oIcGe := by
  intro a b t pc loc st S k hc ho hk
  simp only [hIcGe, Bool.and_eq_true] at hc
  unfold oIcGe at ho
  split at ho
  case h_2 => cases ho
  rename_i y x r
  intro ls H locs ad ⟨hl, hwf, hlo, hst, hn, hP, hD, hS⟩
  have hst := List.forall_mem_cons.mp hst
  have hsx := List.forall_mem_cons.mp hst.2
  have hy : j32 y := hst.1.1 rfl
  have hx : j32 x := hsx.1.1 rfl
  refine lv_icmp_ge C.1 C.2.1 (dc_ok hc.1) (jtg hc.2) (fun q => ?_) (fun q => ?_)
  · have w : y ≤ x := (le32 hy hx).mp q
    rw [if_neg (by omega)] at ho
    exact hk _ _ _ _ ho ls H locs ad ⟨hl, hwf, hlo, hsx.2, hn, hP, hD, hS⟩
  · have w : ¬ y ≤ x := fun v => q ((le32 hy hx).mpr v)
    rw [if_pos (by omega)] at ho
    exact hk _ _ _ _ ho ls H locs ad ⟨hl, hwf, hlo, hsx.2, hn, hP, hD, hS⟩
def hIcGt : jH := fun _ cc pc a _ _ => dc cc pc (.if_icmp .gt (a - pc)) 3 && decide (0 ≤ a)
theorem sIcGt {Γ : jCtx} {own : Nat} {cc : ByteArray} {ce : jC} {rF : Int × jS} (C : jCx Γ own cc) : jSim Γ own cc ce rF hIcGt oIcGt := by
  intro a b t pc loc st S k hc ho hk
  simp only [hIcGt, Bool.and_eq_true] at hc
  unfold oIcGt at ho
  split at ho
  case h_2 => cases ho
  rename_i y x r
  intro ls H locs ad ⟨hl, hwf, hlo, hst, hn, hP, hD, hS⟩
  have hst := List.forall_mem_cons.mp hst
  have hsx := List.forall_mem_cons.mp hst.2
  have hy : j32 y := hst.1.1 rfl
  have hx : j32 x := hsx.1.1 rfl
  refine lv_icmp_gt C.1 C.2.1 (dc_ok hc.1) (jtg hc.2) (fun q => ?_) (fun q => ?_)
  · have w : y < x := (lt32 hy hx).mp q
    rw [if_pos (by omega)] at ho
    exact hk _ _ _ _ ho ls H locs ad ⟨hl, hwf, hlo, hsx.2, hn, hP, hD, hS⟩
  · have w : ¬ y < x := fun v => q ((lt32 hy hx).mpr v)
    rw [if_neg (by omega)] at ho
    exact hk _ _ _ _ ho ls H locs ad ⟨hl, hwf, hlo, hsx.2, hn, hP, hD, hS⟩
def hIcLe : jH := fun _ cc pc a _ _ => dc cc pc (.if_icmp .le (a - pc)) 3 && decide (0 ≤ a)
theorem sIcLe {Γ : jCtx} {own : Nat} {cc : ByteArray} {ce : jC} {rF : Int × jS} (C : jCx Γ own cc) : jSim Γ own cc ce rF hIcLe oIcLe := by
  intro a b t pc loc st S k hc ho hk
  simp only [hIcLe, Bool.and_eq_true] at hc
  unfold oIcLe at ho
  split at ho
  case h_2 => cases ho
  rename_i y x r
  intro ls H locs ad ⟨hl, hwf, hlo, hst, hn, hP, hD, hS⟩
  have hst := List.forall_mem_cons.mp hst
  have hsx := List.forall_mem_cons.mp hst.2
  have hy : j32 y := hst.1.1 rfl
  have hx : j32 x := hsx.1.1 rfl
  refine lv_icmp_le C.1 C.2.1 (dc_ok hc.1) (jtg hc.2) (fun q => ?_) (fun q => ?_)
  · have w : x ≤ y := (le32 hx hy).mp q
    rw [if_neg (by omega)] at ho
    exact hk _ _ _ _ ho ls H locs ad ⟨hl, hwf, hlo, hsx.2, hn, hP, hD, hS⟩
  · have w : ¬ x ≤ y := fun v => q ((le32 hx hy).mpr v)
    rw [if_pos (by omega)] at ho
    exact hk _ _ _ _ ho ls H locs ad ⟨hl, hwf, hlo, hsx.2, hn, hP, hD, hS⟩
def hGoto : jH := fun _ cc pc a _ _ => dc cc pc (.goto (a - pc)) 3 && decide (0 ≤ a)
theorem sGoto {Γ : jCtx} {own : Nat} {cc : ByteArray} {ce : jC} {rF : Int × jS} (C : jCx Γ own cc) : jSim Γ own cc ce rF hGoto oGoto := by
  intro a b t pc loc st S k hc ho hk
  simp only [hGoto, Bool.and_eq_true] at hc
  intro ls H locs ad hat
  exact lv_goto C.1 C.2.1 (dc_ok hc.1) (jtg hc.2) (hk _ _ _ _ ho ls H locs ad hat)
def hIfNN : jH := fun _ cc pc a _ _ => dc cc pc (.ifnonnull (a - pc)) 3 && decide (0 ≤ a)
theorem sIfNN {Γ : jCtx} {own : Nat} {cc : ByteArray} {ce : jC} {rF : Int × jS} (C : jCx Γ own cc) : jSim Γ own cc ce rF hIfNN oIfNN := by
  intro a b t pc loc st S k hc ho hk
  simp only [hIfNN, Bool.and_eq_true] at hc
  unfold oIfNN at ho
  split at ho
  case h_2 => cases ho
  rename_i u z r
  split at ho
  case isFalse => cases ho
  rename_i hu
  intro ls H locs ad ⟨hl, hwf, hlo, hst, hn, hP, hD, hS⟩
  have hst := List.forall_mem_cons.mp hst
  rw [List.map_cons]
  by_cases hz : z = -1
  · rw [if_pos hz] at ho
    subst hz
    rw [jtr_null hu]
    exact lv_ifnonnullN C.1 C.2.1 (dc_ok hc.1) (hk _ _ _ _ ho ls H locs ad ⟨hl, hwf, hlo, hst.2, hn, hP, hD, hS⟩)
  · rw [if_neg hz] at ho
    rw [jtr_at hu hz]
    exact lv_ifnonnull C.1 C.2.1 (dc_ok hc.1) (jtg hc.2) (hk _ _ _ _ ho ls H locs ad ⟨hl, hwf, hlo, hst.2, hn, hP, hD, hS⟩)
theorem jsw_spec {k : Nat → jR} {z d : Int} {rF : Int × jS} : ∀ (l : List Int) (lo : Int), jsw k z d lo l = some rF → (((z < lo ∨ lo + l.length ≤ z) ∧ k d.toNat = some rF) ∨ (lo ≤ z ∧ z < lo + l.length ∧ ∃ t, l[(z - lo).toNat]? = some t ∧ k t.toNat = some rF))
  | [], lo, h => Or.inl ⟨by simp; omega, h⟩
  | t :: l, lo, h => by
    unfold jsw at h
    by_cases e : z = lo
    · rw [if_pos e] at h
      refine Or.inr ⟨by omega, by simp; omega, t, ?_, h⟩
      rw [show (z - lo).toNat = 0 by omega]
      rfl
    · rw [if_neg e] at h
      rcases jsw_spec l (lo + 1) h with ⟨h1, h2⟩ | ⟨h1, h2, u, h3, h4⟩
      · refine Or.inl ⟨?_, h2⟩
        simp only [List.length_cons]
        omega
      · refine Or.inr ⟨by omega, by simp only [List.length_cons]; omega, u, ?_, h4⟩
        rw [show (z - lo).toNat = (z - (lo + 1)).toNat + 1 by omega]
        exact h3
def hTab : jH := fun _ cc pc a b t => (match decode cc pc with
  | .ok (.tableswitch d lo hi offs, _) => decide (lo = b) && (decide (hi = b + t.length - 1) && (decide (pc + d = a) && (decide (0 ≤ a) && (decide (offs.toList.map (fun x => (pc : Int) + x) = t) && t.all (fun x => decide (0 ≤ x))))))
  | _ => false)
theorem sTab {Γ : jCtx} {own : Nat} {cc : ByteArray} {ce : jC} {rF : Int × jS} (C : jCx Γ own cc) : jSim Γ own cc ce rF hTab oTab := by
  intro a b t pc loc st S k hc ho hk
  unfold hTab at hc
  split at hc
  case h_2 => cases hc
  rename_i d lo hi offs ln hdg
  simp only [Bool.and_eq_true, decide_eq_true_eq] at hc
  obtain ⟨rfl, h2, h3, h4, h5, h6⟩ := hc
  unfold oTab at ho
  split at ho
  case h_2 => cases ho
  rename_i z r
  intro ls H locs ad ⟨hl, hwf, hlo, hst, hn, hP, hD, hS⟩
  have hst := List.forall_mem_cons.mp hst
  have hz : j32 z := hst.1.1 rfl
  rcases jsw_spec _ _ ho with ⟨g1, g2⟩ | ⟨g1, g2, u, g3, g4⟩
  · refine lv_tableOut C.1 C.2.1 hdg (by rw [t32 hz]; omega) (tgt := a.toNat) (by omega) ?_
    exact hk _ _ _ _ g2 ls H locs ad ⟨hl, hwf, hlo, hst.2, hn, hP, hD, hS⟩
  · have hm : u ∈ t := List.mem_of_getElem? g3
    have hu := of_decide_eq_true (List.all_eq_true.mp h6 u hm)
    rw [← h5, List.getElem?_map, Option.map_eq_some_iff] at g3
    obtain ⟨off, g5, g6⟩ := g3
    refine lv_tableIn C.1 C.2.1 hdg (by rw [t32 hz]; omega) (by rw [t32 hz]; omega) (off := off) (by rw [t32 hz, ← Array.getElem?_toList]; exact g5) (tgt := u.toNat) (by omega) ?_
    exact hk _ _ _ _ g4 ls H locs ad ⟨hl, hwf, hlo, hst.2, hn, hP, hD, hS⟩
end
section
/-! lookupswitch, fields, arrays -/
def hLook : jH := fun _ cc pc a _ t => (match decode cc pc with
  | .ok (.lookupswitch d ps, _) => decide (pc + d = a) && (decide (0 ≤ a) && (decide (ps.toList.flatMap (fun x => [x.1, (pc : Int) + x.2]) = t) && ((ps.toList.zip (ps.toList.drop 1)).all (fun (x, y) => x.1 < y.1) && ps.toList.all (fun x => decide (0 ≤ (pc : Int) + x.2)))))
  | _ => false)
theorem jlk_spec {k : Nat → jR} {z d a : Int} {pc : Nat} {rF : Int × jS} (hd : (pc : Int) + d = a) (ha : 0 ≤ a) : ∀ (l : List (Int × Int)), (l.all (fun x => decide (0 ≤ (pc : Int) + x.2)) = true) → jlk k z a (l.flatMap (fun x => [x.1, (pc : Int) + x.2])) = some rF → ∃ tgt : Nat, (pc : Int) + Op.lookupswitch.offset l d z = (tgt : Int) ∧ k tgt = some rF
  | [], _, h => ⟨a.toNat, by show (pc : Int) + d = _; omega, h⟩
  | (x, y) :: l, hp, h => by
    simp only [List.all_cons, Bool.and_eq_true, decide_eq_true_eq] at hp
    have h' : (if z = x then k ((pc : Int) + y).toNat else jlk k z a (l.flatMap (fun x => [x.1, (pc : Int) + x.2]))) = some rF := h
    rw [Op.lookupswitch.offset_cons]
    by_cases e : z = x
    · rw [if_pos e] at h'
      rw [if_pos e.symm]
      exact ⟨_, by omega, h'⟩
    · rw [if_neg e] at h'
      rw [if_neg (fun q => e q.symm)]
      exact jlk_spec hd ha l hp.2 h'
theorem sLook {Γ : jCtx} {own : Nat} {cc : ByteArray} {ce : jC} {rF : Int × jS} (C : jCx Γ own cc) : jSim Γ own cc ce rF hLook oLook := by
  intro a b t pc loc st S k hc ho hk
  unfold hLook at hc
  split at hc
  case h_2 => cases hc
  rename_i d ps ln hdg
  simp only [Bool.and_eq_true] at hc
  obtain ⟨h2, h3, h4, h5, h6⟩ := hc
  have h4 := of_decide_eq_true h4
  unfold oLook at ho
  split at ho
  case h_2 => cases ho
  rename_i z r
  intro ls H locs ad ⟨hl, hwf, hlo, hst, hn, hP, hD, hS⟩
  have hst := List.forall_mem_cons.mp hst
  have hz : j32 z := hst.1.1 rfl
  rw [← h4] at ho
  obtain ⟨tgt, g1, g2⟩ := jlk_spec (of_decide_eq_true h2) (of_decide_eq_true h3) _ h6 ho
  refine lv_lookup C.1 C.2.1 hdg h5 (off := Op.lookupswitch.offset ps.toList d z) (by rw [t32 hz]) (tgt := tgt) g1 ?_
  exact hk _ _ _ _ g2 ls H locs ad ⟨hl, hwf, hlo, hst.2, hn, hP, hD, hS⟩
/-- a reference of a kind that isn't null -/
theorem jok_at {S : jS} {t q : Nat} {z : Int} (h : jok S (t, z)) (ht : t = 10 + q) (hq : q ≤ 19) (hz : 0 ≤ z) : z < gN S.1 ∧ gK S.1 z = q := by
  subst ht
  have h1 := h.2.2.1 (show 10 ≤ 10 + q by omega) (show 10 + q ≤ 29 by omega)
  rcases h1 with h1 | h1
  · dsimp only at h1; omega
  · refine ⟨h1.2.1, ?_⟩
    have h2 := h1.2.2
    rw [h2]
    dsimp only
    omega
theorem jok_rf {S : jS} {t : Nat} {z : Int} (h1 : 10 ≤ t) (h2 : t ≤ 29) (h : jokr S (t - 10) z) : jok S (t, z) :=
  ⟨fun q => by dsimp only at q; omega, fun q => by dsimp only at q; omega, fun _ _ => h, fun q => by dsimp only at q; omega, fun _ => by dsimp only; rcases h with h | h <;> omega⟩
theorem jok_num {S : jS} {tc : Nat} {z : Int} (h : jnum tc z) (ht : tc ≤ 3) : jok S ((if tc = 1 then 1 else 0), z) := by
  by_cases e : tc = 1
  · rw [if_pos e]
    exact jok_l (h.2.1 e)
  · rw [if_neg e]
    refine jok_i ?_
    rcases (show tc = 0 ∨ tc = 2 ∨ tc = 3 by omega) with q | q | q
    · exact h.1 q
    · have := h.2.2.1 q
      unfold j32
      omega
    · have := h.2.2.2 q
      unfold j32
      omega
theorem jok_G {S S' : jS} {v : jV} (hN : gN S'.1 = gN S.1) (hK : gK S'.1 = gK S.1) (h : jok S v) : jok S' v := by
  unfold jok jokr at *
  rw [hN, hK]
  exact h
theorem jWF_up {S : jS} {r j z : Int} (h : jWF S) (hr : 0 ≤ r) (ho : gK S.1 r ≤ 12 → ∀ i : Nat, (i : Int) = j → i < jnf.getD (gK S.1 r) 0 → jnum (jty (gK S.1 r) i) z) (ha : 13 ≤ gK S.1 r → jnum (jel (gK S.1 r)) z) : jWF (S.1, jup S.2 r j z) := by
  intro k hk
  obtain ⟨h1, h2, h3⟩ := h k hk
  refine ⟨h1, fun q i hi => ?_, fun q => ⟨(h3 q).1, fun i hi => ?_⟩⟩
  · obtain ⟨g1, g2⟩ := h2 q i hi
    refine ⟨?_, g2⟩
    show jnum (jty (gK S.1 k) i) (jup S.2 r j z k i)
    by_cases e : (k : Int) = r
    · subst e
      by_cases e2 : (i : Int) = j
      · rw [e2, jup_eq]
        exact ho q i e2 hi
      · rw [jup_j e2]
        exact g1
    · rw [jup_k e]
      exact g1
  · obtain ⟨g1, g2⟩ := (h3 q).2 i hi
    refine ⟨?_, g2⟩
    show jnum (jel (gK S.1 k)) (jup S.2 r j z k i)
    by_cases e : (k : Int) = r
    · subst e
      by_cases e2 : (i : Int) = j
      · rw [e2, jup_eq]
        exact ha q
      · rw [jup_j e2]
        exact g1
    · rw [jup_k e]
      exact g1
theorem jWF_rf {S : jS} {r j z : Int} (h : jWF S) (hr : 0 ≤ r) (ho : gK S.1 r ≤ 12 → ∀ i : Nat, (i : Int) = j → i < jnf.getD (gK S.1 r) 0 → jokr S (jty (gK S.1 r) i - 10) z) (ha : 13 ≤ gK S.1 r → jokr S (jel (gK S.1 r) - 10) z) : jWF (jsetR S r j z) := by
  intro k hk
  obtain ⟨h1, h2, h3⟩ := h k hk
  refine ⟨h1, fun q i hi => ?_, fun q => ⟨(h3 q).1, fun i hi => ?_⟩⟩
  · obtain ⟨g1, g2⟩ := h2 q i hi
    refine ⟨g1, fun w => ?_⟩
    show jokr S (jty (gK S.1 k) i - 10) (jup (gR S.1) r j z k i)
    by_cases e : (k : Int) = r
    · subst e
      by_cases e2 : (i : Int) = j
      · rw [e2, jup_eq]
        exact ho q i e2 hi
      · rw [jup_j e2]
        exact g2 w
    · rw [jup_k e]
      exact g2 w
  · obtain ⟨g1, g2⟩ := (h3 q).2 i hi
    refine ⟨g1, fun w => ?_⟩
    show jokr S (jel (gK S.1 k) - 10) (jup (gR S.1) r j z k i)
    by_cases e : (k : Int) = r
    · subst e
      by_cases e2 : (i : Int) = j
      · rw [e2, jup_eq]
        exact ha q
      · rw [jup_j e2]
        exact g2 w
    · rw [jup_k e]
      exact g2 w
theorem jrf_lt {S : jS} {r j z : Int} {q : Nat} (h : ∀ i j : Int, gR S.1 i j < gN S.1) (hz : jokr S q z) : ∀ a b : Int, gR (jsetR S r j z).1 a b < gN (jsetR S r j z).1 := by
  intro a b
  show jup (gR S.1) r j z a b < gN S.1
  unfold jup
  split
  · split
    · rcases hz with q | q <;> omega
    · exact h a b
  · exact h a b
def hFld (own : Nat) (a b : Int) (t : List Int) : Option Nat := match jfl[b.toNat]? with
  | some (o, i, c, j) => if o = own ∧ c = (t.getD 0 0).toNat ∧ (j : Int) = a then some i else none
  | none => none
theorem hFld_ok {own : Nat} {a b : Int} {t : List Int} {i : Nat} (h : hFld own a b t = some i) : ∃ j : Nat, (j : Int) = a ∧ (t.getD 0 0).toNat ≤ 12 ∧ j < jnf.getD (t.getD 0 0).toNat 0 ∧ Cond.fieldLink (jcn.getD own "") i (jcn.getD (t.getD 0 0).toNat "") ((jFT (t.getD 0 0).toNat) j).2.1 ((jFT (t.getD 0 0).toNat) j).2.2.1 ∈ jtbl := by
  unfold hFld at h
  split at h
  case h_2 => cases h
  rename_i o i' c j hq
  split at h
  case isFalse => cases h
  rename_i e
  obtain ⟨e1, e2, e3⟩ := e
  cases h
  obtain ⟨g1, g2, g3⟩ := fl_ok hq
  unfold jfw at g1
  dsimp only at g1 g2 g3
  rw [e1, e2] at g1
  rw [e2] at g2 g3
  exact ⟨j, e3, g2, g3, g1⟩
theorem same_fld {s : State} {c j : Nat} (hc : c ≤ 12) (hj : j < jnf.getD c 0) (x : ClassId × Class × Nat × Field) (h : s.fieldFound? ((jFT c) j).1 ((jFT c) j).2.1 ((jFT c) j).2.2.1 = some x) : s.fieldFound? (jcn.getD c "") ((jFT c) j).2.1 ((jFT c) j).2.2.1 = some x := by
  rw [dl_ok' c (by omega) j hj] at h
  exact h
def hGet : jH := fun own cc pc a b t => match hFld own a b t with
  | some i => dc cc pc (.getfield i) 3 && (decide (jty (t.getD 0 0).toNat a.toNat ≤ 2) && decide ((t.getD 1 0).toNat = if jty (t.getD 0 0).toNat a.toNat = 1 then 1 else 0))
  | none => false
theorem sGet {Γ : jCtx} {own : Nat} {cc : ByteArray} {ce : jC} {rF : Int × jS} (C : jCx Γ own cc) : jSim Γ own cc ce rF hGet oGet := by
  intro a b t pc loc st S k hc ho hk
  unfold hGet at hc
  split at hc
  case h_2 => cases hc
  rename_i i hf
  simp only [Bool.and_eq_true, decide_eq_true_eq] at hc
  obtain ⟨hdg, ht2, htag⟩ := hc
  obtain ⟨j, rfl, hcl, hj, hlink⟩ := hFld_ok hf
  rw [Int.toNat_natCast] at ht2 htag
  unfold oGet at ho
  split at ho
  case h_2 => cases ho
  rename_i u r rest
  split at ho
  case isFalse => cases ho
  rename_i hu
  split at ho
  case isFalse => cases ho
  rename_i hr
  generalize (t.getD 0 0).toNat = cn at *
  intro ls H locs ad ⟨hl, hwf, hlo, hst, hn, hP, hD, hS⟩
  have hst := List.forall_mem_cons.mp hst
  obtain ⟨hrn, hrk⟩ := jok_at hst.1 hu (by omega) hr
  have hw := (hwf r.toNat (by omega)).2.1
  rw [Int.toNat_of_nonneg hr, hrk] at hw
  have hw := hw hcl j
  rw [Int.toNat_of_nonneg hr, hrk] at hw
  have hw := (hw hj).1
  have K := hk _ _ _ _ ho ls H locs ad ⟨hl, hwf, hlo, List.forall_mem_cons.mpr ⟨by rw [htag]; exact jok_num hw (by omega), hst.2⟩, hn, hP, hD, hS⟩
  rw [List.map_cons] at K ⊢
  rw [jtr_at (t := u) (by omega) (by omega)]
  refine va_get (D := xD Γ) (ci := cn) (C := jcn.getD cn "") (T := jFT cn) (N := jnf.getD cn 0) (own := jcn.getD own "") (ref := jcn.getD cn "") C.1 C.2.1 C.2.2.2.2.1 (lay_ok hcl) C.2.2.2.1 C.2.2.2.2.2.1 hP r.toNat (jw_obj hr hrn hrk hcl) (cls_ok cn hcl) j hj (C.2.2.2.2.1 _ hlink) (same_fld hcl hj) (jfs_get hj) (dc_ok hdg) ?_
  have e : jfv ad S r.toNat cn j = jtr ad ((t.getD 1 0).toNat, S.2 r j) := by
    unfold jfv jtr
    rw [htag, Int.toNat_of_nonneg hr]
    by_cases e1 : jty cn j = 1
    · rw [if_pos e1, if_pos e1]; rfl
    · rw [if_neg e1, if_neg e1, if_pos ht2]; rfl
  rw [e]
  exact K
def hGetR : jH := fun own cc pc a b t => match hFld own a b t with
  | some i => dc cc pc (.getfield i) 3 && decide ((t.getD 1 0).toNat = jty (t.getD 0 0).toNat a.toNat ∧ 10 ≤ jty (t.getD 0 0).toNat a.toNat)
  | none => false
theorem sGetR {Γ : jCtx} {own : Nat} {cc : ByteArray} {ce : jC} {rF : Int × jS} (C : jCx Γ own cc) : jSim Γ own cc ce rF hGetR oGetR := by
  intro a b t pc loc st S k hc ho hk
  unfold hGetR at hc
  split at hc
  case h_2 => cases hc
  rename_i i hf
  simp only [Bool.and_eq_true, decide_eq_true_eq] at hc
  obtain ⟨hdg, htag, ht2⟩ := hc
  obtain ⟨j, rfl, hcl, hj, hlink⟩ := hFld_ok hf
  rw [Int.toNat_natCast] at ht2 htag
  unfold oGetR at ho
  split at ho
  case h_2 => cases ho
  rename_i u r rest
  split at ho
  case isFalse => cases ho
  rename_i hu
  split at ho
  case isFalse => cases ho
  rename_i hr
  generalize (t.getD 0 0).toNat = cn at *
  intro ls H locs ad ⟨hl, hwf, hlo, hst, hn, hP, hD, hS⟩
  have hst := List.forall_mem_cons.mp hst
  obtain ⟨hrn, hrk⟩ := jok_at hst.1 hu (by omega) hr
  have hw := (hwf r.toNat (by omega)).2.1
  rw [Int.toNat_of_nonneg hr, hrk] at hw
  have hw := hw hcl j
  rw [Int.toNat_of_nonneg hr, hrk] at hw
  have hw := (hw hj).2 ht2
  have ht29 : jty cn j ≤ 29 := by
    rcases tc_ok' cn (by omega) j hj with q | q <;> omega
  have K := hk _ _ _ _ ho ls H locs ad ⟨hl, hwf, hlo, List.forall_mem_cons.mpr ⟨by rw [htag]; exact jok_rf ht2 ht29 hw, hst.2⟩, hn, hP, hD, hS⟩
  rw [List.map_cons] at K ⊢
  rw [jtr_at (t := u) (by omega) (by omega)]
  refine va_get (D := xD Γ) (ci := cn) (C := jcn.getD cn "") (T := jFT cn) (N := jnf.getD cn 0) (own := jcn.getD own "") (ref := jcn.getD cn "") C.1 C.2.1 C.2.2.2.2.1 (lay_ok hcl) C.2.2.2.1 C.2.2.2.2.2.1 hP r.toNat (jw_obj hr hrn hrk hcl) (cls_ok cn hcl) j hj (C.2.2.2.2.1 _ hlink) (same_fld hcl hj) (jfs_get hj) (dc_ok hdg) ?_
  have e : jfv ad S r.toNat cn j = jtr ad ((t.getD 1 0).toNat, gR S.1 r j) := by
    rw [htag, jtr_ref ht2]
    unfold jfv
    rw [Int.toNat_of_nonneg hr, if_neg (by omega), if_neg (by omega)]
  rw [e]
  exact K
theorem jfs_len {ad : Int → Nat} {S : jS} {k c : Nat} : (jfs ad S k c).length = jnf.getD c 0 := by
  unfold jfs
  rw [List.length_map, List.length_range]
theorem nar_b0 : narrow .boolean (.int (Int32.ofInt 0)) = .int (Int32.ofInt 0) := by decide
theorem nar_b1 : narrow .boolean (.int (Int32.ofInt 1)) = .int (Int32.ofInt 1) := by decide
theorem fit_b0 : fits .boolean (.int (Int32.ofInt 0)) = true := by decide
theorem fit_b1 : fits .boolean (.int (Int32.ofInt 1)) = true := by decide
def hPut : jH := fun own cc pc a b t => match hFld own a b t with
  | some i => dc cc pc (.putfield i) 3 && decide (jty (t.getD 0 0).toNat a.toNat ≤ 1 ∧ (t.getD 1 0).toNat = jty (t.getD 0 0).toNat a.toNat ∧ ((jFT (t.getD 0 0).toNat) a.toNat).2.2.2 = false)
  | none => false
theorem sPut {Γ : jCtx} {own : Nat} {cc : ByteArray} {ce : jC} {rF : Int × jS} (C : jCx Γ own cc) : jSim Γ own cc ce rF hPut oPut := by
  intro a b t pc loc st S k hc ho hk
  unfold hPut at hc
  split at hc
  case h_2 => cases hc
  rename_i i hf
  simp only [Bool.and_eq_true, decide_eq_true_eq] at hc
  obtain ⟨hdg, ht2, htag, hfin⟩ := hc
  obtain ⟨j, rfl, hcl, hj, hlink⟩ := hFld_ok hf
  rw [Int.toNat_natCast] at ht2 htag hfin
  unfold oPut at ho
  split at ho
  case h_2 => cases ho
  rename_i v z u r rest
  split at ho
  case isFalse => cases ho
  rename_i hv
  split at ho
  case isFalse => cases ho
  rename_i hu
  split at ho
  case isFalse => cases ho
  rename_i hr
  generalize (t.getD 0 0).toNat = cn at *
  intro ls H locs ad ⟨hl, hwf, hlo, hst, hn, hP, hD, hS⟩
  have hst := List.forall_mem_cons.mp hst
  have hsx := List.forall_mem_cons.mp hst.2
  obtain ⟨hrn, hrk⟩ := jok_at hsx.1 hu (by omega) hr
  have hvt : v = jty cn j := hv.trans htag
  have hnum : jnum (jty cn j) z := by
    refine ⟨fun q => hst.1.1 (hvt.trans q), fun q => hst.1.2.1 (hvt.trans q), fun q => by omega, fun q => by omega⟩
  have hwf' : jWF (S.1, jup S.2 r j z) := jWF_up hwf hr (fun _ i hi _ => by rw [hrk, show i = j by omega]; exact hnum) (fun q => by rw [hrk] at q; omega)
  have hty := ty_ok hcl j hj
  have e : jtr ad (v, z) = (if jty cn j = 1 then Value.long (Int64.ofInt z) else .int (Int32.ofInt z)) := by
    rcases (show jty cn j = 0 ∨ jty cn j = 1 by omega) with q | q
    · rw [hvt, q]; rfl
    · rw [hvt, q]; rfl
  rw [List.map_cons, List.map_cons]
  rw [jtr_at (t := u) (by omega) (by omega)]
  refine va_put (D := xD Γ) (ci := cn) (v := jtr ad (v, z)) (ty := jTyp (jty cn j)) (C := jcn.getD cn "") (T := jFT cn) (N := jnf.getD cn 0) (own := jcn.getD own "") (ref := jcn.getD cn "") C.1 C.2.1 C.2.2.2.2.1 (lay_ok hcl) (fun k => jTyp (jty cn k)) (ty_ok hcl) (nm_ok cn hcl) C.2.2.2.1 C.2.2.2.2.2.1 hP hD hS r.toNat (jw_obj hr hrn hrk hcl) (cls_ok cn hcl) j hj (C.2.2.2.2.1 _ hlink) (same_fld hcl hj) hfin hty ?_ ?_ (by rw [jfs_len]; exact hj) (dc_ok hdg) (fun H1 locs1 hP1 hD1 hS1 => ?_)
  · rw [e]
    rcases (show jty cn j = 0 ∨ jty cn j = 1 by omega) with q | q
    · rw [q]; rfl
    · rw [q]; rfl
  · rw [e]
    rcases (show jty cn j = 0 ∨ jty cn j = 1 by omega) with q | q
    · rw [q]; rfl
    · rw [q]; rfl
  · rw [jw_setX hr hrn hrk hcl hj e (by omega)] at hP1 hD1
    exact hk _ _ _ _ ho ls H1 locs1 ad ⟨hl, hwf', hlo, hsx.2, hn, hP1, hD1, hS1⟩
def hPutZ : jH := fun own cc pc a b t => match hFld own a b t with
  | some i => dc cc pc (.putfield i) 3 && decide (jty (t.getD 0 0).toNat a.toNat = 2 ∧ ((jFT (t.getD 0 0).toNat) a.toNat).2.2.2 = false)
  | none => false
theorem sPutZ {Γ : jCtx} {own : Nat} {cc : ByteArray} {ce : jC} {rF : Int × jS} (C : jCx Γ own cc) : jSim Γ own cc ce rF hPutZ oPutZ := by
  intro a b t pc loc st S k hc ho hk
  unfold hPutZ at hc
  split at hc
  case h_2 => cases hc
  rename_i i hf
  simp only [Bool.and_eq_true, decide_eq_true_eq] at hc
  obtain ⟨hdg, ht2, hfin⟩ := hc
  obtain ⟨j, rfl, hcl, hj, hlink⟩ := hFld_ok hf
  rw [Int.toNat_natCast] at ht2 hfin
  unfold oPutZ at ho
  split at ho
  case h_2 => cases ho
  rename_i v z u r rest
  split at ho
  case isFalse => cases ho
  rename_i hv
  subst hv
  split at ho
  case isFalse => cases ho
  rename_i hu
  split at ho
  case isFalse => cases ho
  rename_i hr
  have hz : (z = 0 ∨ z = 1) ∧ k (pc + 3) loc rest (S.1, jup S.2 r j z) = some rF := by
    by_cases e : z = 0
    · rw [if_pos e] at ho
      rw [e]
      exact ⟨Or.inl rfl, ho⟩
    · rw [if_neg e] at ho
      by_cases e2 : z = 1
      · rw [if_pos e2] at ho
        rw [e2]
        exact ⟨Or.inr rfl, ho⟩
      · rw [if_neg e2] at ho
        cases ho
  obtain ⟨hz, ho⟩ := hz
  generalize (t.getD 0 0).toNat = cn at *
  intro ls H locs ad ⟨hl, hwf, hlo, hst, hn, hP, hD, hS⟩
  have hst := List.forall_mem_cons.mp hst
  have hsx := List.forall_mem_cons.mp hst.2
  obtain ⟨hrn, hrk⟩ := jok_at hsx.1 hu (by omega) hr
  have hnum : jnum (jty cn j) z := ⟨fun q => by omega, fun q => by omega, fun q => hz, fun q => by omega⟩
  have hwf' : jWF (S.1, jup S.2 r j z) := jWF_up hwf hr (fun _ i hi _ => by rw [hrk, show i = j by omega]; exact hnum) (fun q => by rw [hrk] at q; omega)
  have hty := ty_ok hcl j hj
  rw [List.map_cons, List.map_cons]
  rw [jtr_at (t := u) (by omega) (by omega)]
  refine va_put (D := xD Γ) (ci := cn) (v := .int (Int32.ofInt z)) (ty := jTyp (jty cn j)) (C := jcn.getD cn "") (T := jFT cn) (N := jnf.getD cn 0) (own := jcn.getD own "") (ref := jcn.getD cn "") C.1 C.2.1 C.2.2.2.2.1 (lay_ok hcl) (fun k => jTyp (jty cn k)) (ty_ok hcl) (nm_ok cn hcl) C.2.2.2.1 C.2.2.2.2.2.1 hP hD hS r.toNat (jw_obj hr hrn hrk hcl) (cls_ok cn hcl) j hj (C.2.2.2.2.1 _ hlink) (same_fld hcl hj) hfin hty ?_ ?_ (by rw [jfs_len]; exact hj) (dc_ok hdg) (fun H1 locs1 hP1 hD1 hS1 => ?_)
  · rw [ht2]
    rcases hz with q | q
    · rw [q]; exact nar_b0
    · rw [q]; exact nar_b1
  · rw [ht2]
    rcases hz with q | q
    · rw [q]; exact fit_b0
    · rw [q]; exact fit_b1
  · rw [jw_setX hr hrn hrk hcl hj (x := z) (by rw [if_neg (by omega)]) (by omega)] at hP1 hD1
    exact hk _ _ _ _ ho ls H1 locs1 ad ⟨hl, hwf', hlo, hsx.2, hn, hP1, hD1, hS1⟩
def hPutR : jH := fun own cc pc a b t => match hFld own a b t with
  | some i => dc cc pc (.putfield i) 3 && decide (10 ≤ jty (t.getD 0 0).toNat a.toNat ∧ (t.getD 1 0).toNat = jty (t.getD 0 0).toNat a.toNat ∧ ((jFT (t.getD 0 0).toNat) a.toNat).2.2.2 = false)
  | none => false
theorem sPutR {Γ : jCtx} {own : Nat} {cc : ByteArray} {ce : jC} {rF : Int × jS} (C : jCx Γ own cc) : jSim Γ own cc ce rF hPutR oPutR := by
  intro a b t pc loc st S k hc ho hk
  unfold hPutR at hc
  split at hc
  case h_2 => cases hc
  rename_i i hf
  simp only [Bool.and_eq_true, decide_eq_true_eq] at hc
  obtain ⟨hdg, ht2, htag, hfin⟩ := hc
  obtain ⟨j, rfl, hcl, hj, hlink⟩ := hFld_ok hf
  rw [Int.toNat_natCast] at ht2 htag hfin
  unfold oPutR at ho
  split at ho
  case h_2 => cases ho
  rename_i v z u r rest
  split at ho
  case isFalse => cases ho
  rename_i hv
  split at ho
  case isFalse => cases ho
  rename_i hu
  split at ho
  case isFalse => cases ho
  rename_i hr
  generalize (t.getD 0 0).toNat = cn at *
  intro ls H locs ad ⟨hl, hwf, hlo, hst, hn, hP, hD, hS⟩
  have hst := List.forall_mem_cons.mp hst
  have hsx := List.forall_mem_cons.mp hst.2
  obtain ⟨hrn, hrk⟩ := jok_at hsx.1 hu (by omega) hr
  have ht29 : jty cn j ≤ 29 := by
    rcases tc_ok' cn (by omega) j hj with q | q <;> omega
  have hvt : v = jty cn j := hv.trans htag
  have hzr : jokr S (jty cn j - 10) z := by
    have q := hst.1.2.2.1 (by rw [hvt]; exact ht2) (by rw [hvt]; exact ht29)
    rw [hvt] at q
    exact q
  have hwf' : jWF (jsetR S r j z) := jWF_rf hwf hr (fun _ i hi _ => by rw [hrk, show i = j by omega]; exact hzr) (fun q => by rw [hrk] at q; omega)
  have hty := ty_ok hcl j hj
  have e : jtr ad (v, z) = va_rf (jref ad z) := jtr_ref (by omega)
  have hvv : va_rf (jref ad z) = .null ∨ ∃ x, va_rf (jref ad z) = .ref x := by
    unfold jref
    by_cases q : z = -1
    · rw [if_pos q]; exact Or.inl rfl
    · rw [if_neg q]; exact Or.inr ⟨_, rfl⟩
  have hob : (∃ C0, jTyp (jty cn j) = .object C0) ∨ ∃ C0, jTyp (jty cn j) = .array C0 := by
    generalize jty cn j = y at ht2 ht29
    have hy : y ∈ List.range 30 := List.mem_range.mpr (by omega)
    revert hy ht2
    unfold jTyp
    split <;> intro h1 h2 <;> first | omega | exact Or.inr ⟨_, rfl⟩ | exact Or.inl ⟨_, rfl⟩
  rw [List.map_cons, List.map_cons]
  rw [jtr_at (t := u) (by omega) (by omega), e]
  refine va_put (D := xD Γ) (ci := cn) (v := va_rf (jref ad z)) (ty := jTyp (jty cn j)) (C := jcn.getD cn "") (T := jFT cn) (N := jnf.getD cn 0) (own := jcn.getD own "") (ref := jcn.getD cn "") C.1 C.2.1 C.2.2.2.2.1 (lay_ok hcl) (fun k => jTyp (jty cn k)) (ty_ok hcl) (nm_ok cn hcl) C.2.2.2.1 C.2.2.2.2.2.1 hP hD hS r.toNat (jw_obj hr hrn hrk hcl) (cls_ok cn hcl) j hj (C.2.2.2.2.1 _ hlink) (same_fld hcl hj) hfin hty ?_ ?_ (by rw [jfs_len]; exact hj) (dc_ok hdg) (fun H1 locs1 hP1 hD1 hS1 => ?_)
  · rcases hob with ⟨C0, q⟩ | ⟨C0, q⟩ <;> rcases hvv with w | ⟨x, w⟩ <;> rw [q, w] <;> rfl
  · rcases hob with ⟨C0, q⟩ | ⟨C0, q⟩ <;> rcases hvv with w | ⟨x, w⟩ <;> rw [q, w] <;> rfl
  · rw [jw_setR hr hrn hrk hcl hj (by omega)] at hP1 hD1
    exact hk _ _ _ _ ho ls H1 locs1 ad ⟨hl, hwf', fun w h => jok_G rfl rfl (hlo w h), fun w h => jok_G rfl rfl (hsx.2 w h), ⟨hn.1, hn.2.1, hn.2.2.1, jrf_lt hn.2.2.2.1 hzr, hn.2.2.2.2⟩, hP1, hD1, hS1⟩
def hPutF : jH := fun own cc pc a b t => match hFld own a b t with
  | some i => dc cc pc (.putfield i) 3 && decide (10 ≤ jty (t.getD 0 0).toNat a.toNat ∧ (t.getD 1 0).toNat = jty (t.getD 0 0).toNat a.toNat ∧ ((jFT (t.getD 0 0).toNat) a.toNat).2.2.2 = true ∧ (t.getD 0 0).toNat = own)
  | none => false
theorem sPutF {Γ : jCtx} {own : Nat} {cc : ByteArray} {ce : jC} {rF : Int × jS} (C : jCx Γ own cc) (hI : (xM Γ).name = "<init>") : jSim Γ own cc ce rF hPutF oPutR := by
  intro a b t pc loc st S k hc ho hk
  unfold hPutF at hc
  split at hc
  case h_2 => cases hc
  rename_i i hf
  simp only [Bool.and_eq_true, decide_eq_true_eq] at hc
  obtain ⟨hdg, ht2, htag, hfin, hown2⟩ := hc
  obtain ⟨j, rfl, hcl, hj, hlink⟩ := hFld_ok hf
  rw [Int.toNat_natCast] at ht2 htag hfin
  unfold oPutR at ho
  split at ho
  case h_2 => cases ho
  rename_i v z u r rest
  split at ho
  case isFalse => cases ho
  rename_i hv
  split at ho
  case isFalse => cases ho
  rename_i hu
  split at ho
  case isFalse => cases ho
  rename_i hr
  generalize (t.getD 0 0).toNat = cn at *
  intro ls H locs ad ⟨hl, hwf, hlo, hst, hn, hP, hD, hS⟩
  have hst := List.forall_mem_cons.mp hst
  have hsx := List.forall_mem_cons.mp hst.2
  obtain ⟨hrn, hrk⟩ := jok_at hsx.1 hu (by omega) hr
  have ht29 : jty cn j ≤ 29 := by
    rcases tc_ok' cn (by omega) j hj with q | q <;> omega
  have hvt : v = jty cn j := hv.trans htag
  have hzr : jokr S (jty cn j - 10) z := by
    have q := hst.1.2.2.1 (by rw [hvt]; exact ht2) (by rw [hvt]; exact ht29)
    rw [hvt] at q
    exact q
  have hwf' : jWF (jsetR S r j z) := jWF_rf hwf hr (fun _ i hi _ => by rw [hrk, show i = j by omega]; exact hzr) (fun q => by rw [hrk] at q; omega)
  have hty := ty_ok hcl j hj
  have e : jtr ad (v, z) = va_rf (jref ad z) := jtr_ref (by omega)
  have hvv : va_rf (jref ad z) = .null ∨ ∃ x, va_rf (jref ad z) = .ref x := by
    unfold jref
    by_cases q : z = -1
    · rw [if_pos q]; exact Or.inl rfl
    · rw [if_neg q]; exact Or.inr ⟨_, rfl⟩
  have hob : (∃ C0, jTyp (jty cn j) = .object C0) ∨ ∃ C0, jTyp (jty cn j) = .array C0 := by
    generalize jty cn j = y at ht2 ht29
    have hy : y ∈ List.range 30 := List.mem_range.mpr (by omega)
    revert hy ht2
    unfold jTyp
    split <;> intro h1 h2 <;> first | omega | exact Or.inr ⟨_, rfl⟩ | exact Or.inl ⟨_, rfl⟩
  rw [List.map_cons, List.map_cons]
  rw [jtr_at (t := u) (by omega) (by omega), e]
  refine va_putF (D := xD Γ) (ci := cn) (v := va_rf (jref ad z)) (ty := jTyp (jty cn j)) (C := jcn.getD cn "") (T := jFT cn) (N := jnf.getD cn 0) (own := jcn.getD own "") (ref := jcn.getD cn "") C.1 C.2.1 C.2.2.2.2.1 (lay_ok hcl) (fun k => jTyp (jty cn k)) (ty_ok hcl) (nm_ok cn hcl) C.2.2.2.1 C.2.2.2.2.2.1 hP hD hS r.toNat (jw_obj hr hrn hrk hcl) (cls_ok cn hcl) j hj (C.2.2.2.2.1 _ hlink) (same_fld hcl hj) hfin hI (by rw [dl_ok' cn (by omega) j hj, hown2]) hty ?_ ?_ (by rw [jfs_len]; exact hj) (dc_ok hdg) (fun H1 locs1 hP1 hD1 hS1 => ?_)
  · rcases hob with ⟨C0, q⟩ | ⟨C0, q⟩ <;> rcases hvv with w | ⟨x, w⟩ <;> rw [q, w] <;> rfl
  · rcases hob with ⟨C0, q⟩ | ⟨C0, q⟩ <;> rcases hvv with w | ⟨x, w⟩ <;> rw [q, w] <;> rfl
  · rw [jw_setR hr hrn hrk hcl hj (by omega)] at hP1 hD1
    exact hk _ _ _ _ ho ls H1 locs1 ad ⟨hl, hwf', fun w h => jok_G rfl rfl (hlo w h), fun w h => jok_G rfl rfl (hsx.2 w h), ⟨hn.1, hn.2.1, hn.2.2.1, jrf_lt hn.2.2.2.1 hzr, hn.2.2.2.2⟩, hP1, hD1, hS1⟩
end
section
/-! arrays -/
theorem jln_ok {S : jS} {r : Int} {q : Nat} (hwf : jWF S) (hr : 0 ≤ r) (hrn : r < gN S.1) (hrk : gK S.1 r = q) (hq : 13 ≤ q) : (0 ≤ gL S.1 r ∧ gL S.1 r ≤ 100000) ∧ ∀ i : Int, 0 ≤ i → i < gL S.1 r → jnum (jel q) (S.2 r i) ∧ (10 ≤ jel q → jokr S (jel q - 10) (gR S.1 r i)) := by
  have hw := (hwf r.toNat (by omega)).2.2
  rw [Int.toNat_of_nonneg hr, hrk] at hw
  have hw := hw hq
  unfold jWFa at hw
  rw [Int.toNat_of_nonneg hr, hrk] at hw
  refine ⟨hw.1, fun i h0 h1 => ?_⟩
  have := hw.2 i.toNat (by omega)
  rw [Int.toNat_of_nonneg h0] at this
  exact this
theorem vp_nar_b0 : vp_nar .boolean (Int32.ofInt 0) = Int32.ofInt 0 := by decide
theorem vp_nar_b1 : vp_nar .boolean (Int32.ofInt 1) = Int32.ofInt 1 := by decide
theorem vp_nar_c {z : Int} (h0 : 0 ≤ z) (h1 : z ≤ 65535) : vp_nar .char (Int32.ofInt z) = Int32.ofInt z := by
  have e : Int32.ofInt z = nI z.toNat := by
    unfold nI
    rw [← Int32.ofInt_eq_ofNat]
    congr 1
    omega
  have h2 := (pk_charN (q := z.toNat) (by omega)).1
  unfold vp_nar
  rw [e, h2]
def hIald : jH := fun _ cc pc _ _ _ => dc cc pc .iaload 1
theorem sIald {Γ : jCtx} {own : Nat} {cc : ByteArray} {ce : jC} {rF : Int × jS} (C : jCx Γ own cc) : jSim Γ own cc ce rF hIald (oAld 24 0) := by
  intro a b t pc loc st S k hc ho hk
  unfold hIald at hc
  unfold oAld at ho
  split at ho
  case h_2 => cases ho
  rename_i i u r rest
  split at ho
  case isFalse => cases ho
  rename_i hu
  split at ho
  case isFalse => cases ho
  rename_i hr
  split at ho
  case isFalse => cases ho
  rename_i hi
  split at ho
  case isFalse => cases ho
  rename_i hi2
  intro ls H locs ad ⟨hl, hwf, hlo, hst, hn, hP, hD, hS⟩
  have hst := List.forall_mem_cons.mp hst
  have hsx := List.forall_mem_cons.mp hst.2
  obtain ⟨hrn, hrk⟩ := jok_at (q := 14) hsx.1 (by omega) (by omega) hr
  obtain ⟨hln, hel⟩ := jln_ok hwf hr hrn hrk (by omega)
  have hi32 : j32 i := hst.1.1 rfl
  have hw := (hel i hi hi2).1
  have K := hk _ _ _ _ ho ls H locs ad ⟨hl, hwf, hlo, List.forall_mem_cons.mpr ⟨jok_num (tc := 0) hw (by omega), hsx.2⟩, hn, hP, hD, hS⟩
  rw [List.map_cons, List.map_cons, jtr_at (t := u) (by omega) (by omega)]
  refine va_iald C.1 C.2.1 C.2.2.2.2.2.1 hP r.toNat 1 (jw_int hr hrn hrk (by omega) (by omega) (by omega)) rfl (in32 hi32 hi (by omega)) (dc_ok hc) ?_
  rw [cl32 hi32, Int.toNat_of_nonneg hi]
  exact K
def hZald : jH := fun _ cc pc _ _ _ => dc cc pc .baload 1
theorem sZald {Γ : jCtx} {own : Nat} {cc : ByteArray} {ce : jC} {rF : Int × jS} (C : jCx Γ own cc) : jSim Γ own cc ce rF hZald (oAld 26 0) := by
  intro a b t pc loc st S k hc ho hk
  unfold hZald at hc
  unfold oAld at ho
  split at ho
  case h_2 => cases ho
  rename_i i u r rest
  split at ho
  case isFalse => cases ho
  rename_i hu
  split at ho
  case isFalse => cases ho
  rename_i hr
  split at ho
  case isFalse => cases ho
  rename_i hi
  split at ho
  case isFalse => cases ho
  rename_i hi2
  intro ls H locs ad ⟨hl, hwf, hlo, hst, hn, hP, hD, hS⟩
  have hst := List.forall_mem_cons.mp hst
  have hsx := List.forall_mem_cons.mp hst.2
  obtain ⟨hrn, hrk⟩ := jok_at (q := 16) hsx.1 (by omega) (by omega) hr
  obtain ⟨hln, hel⟩ := jln_ok hwf hr hrn hrk (by omega)
  have hi32 : j32 i := hst.1.1 rfl
  have hw := (hel i hi hi2).1
  have K := hk _ _ _ _ ho ls H locs ad ⟨hl, hwf, hlo, List.forall_mem_cons.mpr ⟨jok_num (tc := 2) hw (by omega), hsx.2⟩, hn, hP, hD, hS⟩
  rw [List.map_cons, List.map_cons, jtr_at (t := u) (by omega) (by omega)]
  refine va_zald C.1 C.2.1 C.2.2.2.2.2.1 hP r.toNat 3 (jw_int hr hrn hrk (by omega) (by omega) (by omega)) rfl (in32 hi32 hi (by omega)) (dc_ok hc) ?_
  rw [cl32 hi32, Int.toNat_of_nonneg hi]
  exact K
def hCald : jH := fun _ cc pc _ _ _ => dc cc pc .caload 1
theorem sCald {Γ : jCtx} {own : Nat} {cc : ByteArray} {ce : jC} {rF : Int × jS} (C : jCx Γ own cc) : jSim Γ own cc ce rF hCald (oAld 23 0) := by
  intro a b t pc loc st S k hc ho hk
  unfold hCald at hc
  unfold oAld at ho
  split at ho
  case h_2 => cases ho
  rename_i i u r rest
  split at ho
  case isFalse => cases ho
  rename_i hu
  split at ho
  case isFalse => cases ho
  rename_i hr
  split at ho
  case isFalse => cases ho
  rename_i hi
  split at ho
  case isFalse => cases ho
  rename_i hi2
  intro ls H locs ad ⟨hl, hwf, hlo, hst, hn, hP, hD, hS⟩
  have hst := List.forall_mem_cons.mp hst
  have hsx := List.forall_mem_cons.mp hst.2
  obtain ⟨hrn, hrk⟩ := jok_at (q := 13) hsx.1 (by omega) (by omega) hr
  obtain ⟨hln, hel⟩ := jln_ok hwf hr hrn hrk (by omega)
  have hi32 : j32 i := hst.1.1 rfl
  have hw := (hel i hi hi2).1
  have K := hk _ _ _ _ ho ls H locs ad ⟨hl, hwf, hlo, List.forall_mem_cons.mpr ⟨jok_num (tc := 3) hw (by omega), hsx.2⟩, hn, hP, hD, hS⟩
  rw [List.map_cons, List.map_cons, jtr_at (t := u) (by omega) (by omega)]
  refine va_cald C.1 C.2.1 C.2.2.2.2.2.1 hP r.toNat 0 (jw_int hr hrn hrk (by omega) (by omega) (by omega)) rfl (in32 hi32 hi (by omega)) (dc_ok hc) ?_
  rw [cl32 hi32, Int.toNat_of_nonneg hi]
  exact K
def hLald : jH := fun _ cc pc _ _ _ => dc cc pc .laload 1
theorem sLald {Γ : jCtx} {own : Nat} {cc : ByteArray} {ce : jC} {rF : Int × jS} (C : jCx Γ own cc) : jSim Γ own cc ce rF hLald (oAld 25 1) := by
  intro a b t pc loc st S k hc ho hk
  unfold hLald at hc
  unfold oAld at ho
  split at ho
  case h_2 => cases ho
  rename_i i u r rest
  split at ho
  case isFalse => cases ho
  rename_i hu
  split at ho
  case isFalse => cases ho
  rename_i hr
  split at ho
  case isFalse => cases ho
  rename_i hi
  split at ho
  case isFalse => cases ho
  rename_i hi2
  intro ls H locs ad ⟨hl, hwf, hlo, hst, hn, hP, hD, hS⟩
  have hst := List.forall_mem_cons.mp hst
  have hsx := List.forall_mem_cons.mp hst.2
  obtain ⟨hrn, hrk⟩ := jok_at (q := 15) hsx.1 (by omega) (by omega) hr
  obtain ⟨hln, hel⟩ := jln_ok hwf hr hrn hrk (by omega)
  have hi32 : j32 i := hst.1.1 rfl
  have hw := (hel i hi hi2).1
  have K := hk _ _ _ _ ho ls H locs ad ⟨hl, hwf, hlo, List.forall_mem_cons.mpr ⟨jok_num (tc := 1) hw (by omega), hsx.2⟩, hn, hP, hD, hS⟩
  rw [List.map_cons, List.map_cons, jtr_at (t := u) (by omega) (by omega)]
  refine va_lald C.1 C.2.1 C.2.2.2.2.2.1 hP r.toNat 2 (jw_long hr hrn hrk) rfl (in32 hi32 hi (by omega)) (dc_ok hc) ?_
  rw [cl32 hi32, Int.toNat_of_nonneg hi]
  exact K
def hIast : jH := fun _ cc pc _ _ _ => dc cc pc .iastore 1
theorem sIast {Γ : jCtx} {own : Nat} {cc : ByteArray} {ce : jC} {rF : Int × jS} (C : jCx Γ own cc) : jSim Γ own cc ce rF hIast (oAst 24 0) := by
  intro a b t pc loc st S k hc ho hk
  unfold hIast at hc
  unfold oAst at ho
  split at ho
  case h_2 => cases ho
  rename_i v z i u r rest
  split at ho
  case isFalse => cases ho
  rename_i hv
  subst hv
  split at ho
  case isFalse => cases ho
  rename_i hu
  split at ho
  case isFalse => cases ho
  rename_i hr
  split at ho
  case isFalse => cases ho
  rename_i hi
  split at ho
  case isFalse => cases ho
  rename_i hi2
  intro ls H locs ad ⟨hl, hwf, hlo, hst, hn, hP, hD, hS⟩
  have hsv := List.forall_mem_cons.mp hst
  have hst := List.forall_mem_cons.mp hsv.2
  have hsx := List.forall_mem_cons.mp hst.2
  obtain ⟨hrn, hrk⟩ := jok_at (q := 14) hsx.1 (by omega) (by omega) hr
  obtain ⟨hln, hel⟩ := jln_ok hwf hr hrn hrk (by omega)
  have hi32 : j32 i := hst.1.1 rfl
  have hnum : jnum (jel 14) z := ⟨fun q => hsv.1.1 rfl, fun q => absurd q (by decide), fun q => absurd q (by decide), fun q => absurd q (by decide)⟩
  have hwf' : jWF (S.1, jup S.2 r i z) := jWF_up hwf hr (fun q => by rw [hrk] at q; omega) (fun q => by rw [hrk]; exact hnum)
  rw [List.map_cons, List.map_cons, List.map_cons, jtr_at (t := u) (by omega) (by omega)]
  refine va_iast C.1 C.2.1 C.2.2.2.2.2.1 hP hD hS r.toNat 1 (jw_int hr hrn hrk (by omega) (by omega) (by omega)) rfl (in32 hi32 hi (by omega)) (dc_ok hc) (fun H1 locs1 hP1 hD1 hS1 => ?_)
  rw [jw_setI hr hrn hrk (by omega) (by omega) (by omega) hi (cl32 hi32)] at hP1 hD1
  exact hk _ _ _ _ ho ls H1 locs1 ad ⟨hl, hwf', hlo, hsx.2, hn, hP1, hD1, hS1⟩
def hLast : jH := fun _ cc pc _ _ _ => dc cc pc .lastore 1
theorem sLast {Γ : jCtx} {own : Nat} {cc : ByteArray} {ce : jC} {rF : Int × jS} (C : jCx Γ own cc) : jSim Γ own cc ce rF hLast (oAst 25 1) := by
  intro a b t pc loc st S k hc ho hk
  unfold hLast at hc
  unfold oAst at ho
  split at ho
  case h_2 => cases ho
  rename_i v z i u r rest
  split at ho
  case isFalse => cases ho
  rename_i hv
  subst hv
  split at ho
  case isFalse => cases ho
  rename_i hu
  split at ho
  case isFalse => cases ho
  rename_i hr
  split at ho
  case isFalse => cases ho
  rename_i hi
  split at ho
  case isFalse => cases ho
  rename_i hi2
  intro ls H locs ad ⟨hl, hwf, hlo, hst, hn, hP, hD, hS⟩
  have hsv := List.forall_mem_cons.mp hst
  have hst := List.forall_mem_cons.mp hsv.2
  have hsx := List.forall_mem_cons.mp hst.2
  obtain ⟨hrn, hrk⟩ := jok_at (q := 15) hsx.1 (by omega) (by omega) hr
  obtain ⟨hln, hel⟩ := jln_ok hwf hr hrn hrk (by omega)
  have hi32 : j32 i := hst.1.1 rfl
  have hnum : jnum (jel 15) z := ⟨fun q => absurd q (by decide), fun q => hsv.1.2.1 rfl, fun q => absurd q (by decide), fun q => absurd q (by decide)⟩
  have hwf' : jWF (S.1, jup S.2 r i z) := jWF_up hwf hr (fun q => by rw [hrk] at q; omega) (fun q => by rw [hrk]; exact hnum)
  rw [List.map_cons, List.map_cons, List.map_cons, jtr_at (t := u) (by omega) (by omega)]
  refine va_last C.1 C.2.1 C.2.2.2.2.2.1 hP hD hS r.toNat 2 (jw_long hr hrn hrk) rfl (in32 hi32 hi (by omega)) (dc_ok hc) (fun H1 locs1 hP1 hD1 hS1 => ?_)
  rw [jw_setL hr hrn hrk hi (cl32 hi32)] at hP1 hD1
  exact hk _ _ _ _ ho ls H1 locs1 ad ⟨hl, hwf', hlo, hsx.2, hn, hP1, hD1, hS1⟩
def hCst : jH := fun _ cc pc _ _ _ => dc cc pc .castore 1
theorem sCst {Γ : jCtx} {own : Nat} {cc : ByteArray} {ce : jC} {rF : Int × jS} (C : jCx Γ own cc) : jSim Γ own cc ce rF hCst oCst := by
  intro a b t pc loc st S k hc ho hk
  unfold hCst at hc
  unfold oCst at ho
  split at ho
  case h_2 => cases ho
  rename_i z i u r rest
  split at ho
  case isFalse => cases ho
  rename_i hu
  split at ho
  case isFalse => cases ho
  rename_i hr
  split at ho
  case isFalse => cases ho
  rename_i hi
  split at ho
  case isFalse => cases ho
  rename_i hi2
  split at ho
  case isFalse => cases ho
  rename_i hz1
  split at ho
  case isFalse => cases ho
  rename_i hz2
  intro ls H locs ad ⟨hl, hwf, hlo, hst, hn, hP, hD, hS⟩
  have hsv := List.forall_mem_cons.mp hst
  have hst := List.forall_mem_cons.mp hsv.2
  have hsx := List.forall_mem_cons.mp hst.2
  obtain ⟨hrn, hrk⟩ := jok_at (q := 13) hsx.1 (by omega) (by omega) hr
  obtain ⟨hln, hel⟩ := jln_ok hwf hr hrn hrk (by omega)
  have hi32 : j32 i := hst.1.1 rfl
  have hnum : jnum (jel 13) z := ⟨fun q => absurd q (by decide), fun q => absurd q (by decide), fun q => absurd q (by decide), fun q => ⟨hz1, hz2⟩⟩
  have hwf' : jWF (S.1, jup S.2 r i z) := jWF_up hwf hr (fun q => by rw [hrk] at q; omega) (fun q => by rw [hrk]; exact hnum)
  rw [List.map_cons, List.map_cons, List.map_cons, jtr_at (t := u) (by omega) (by omega)]
  refine va_cast C.1 C.2.1 C.2.2.2.2.2.1 hP hD hS r.toNat 0 (jw_int hr hrn hrk (by omega) (by omega) (by omega)) rfl (in32 hi32 hi (by omega)) (dc_ok hc) (fun H1 locs1 hP1 hD1 hS1 => ?_)
  rw [vp_nar_c hz1 hz2, jw_setI hr hrn hrk (by omega) (by omega) (by omega) hi (cl32 hi32)] at hP1 hD1
  exact hk _ _ _ _ ho ls H1 locs1 ad ⟨hl, hwf', hlo, hsx.2, hn, hP1, hD1, hS1⟩
def hZst : jH := fun _ cc pc _ _ _ => dc cc pc .bastore 1
theorem sZst {Γ : jCtx} {own : Nat} {cc : ByteArray} {ce : jC} {rF : Int × jS} (C : jCx Γ own cc) : jSim Γ own cc ce rF hZst oZst := by
  intro a b t pc loc st S k hc ho hk
  unfold hZst at hc
  unfold oZst at ho
  split at ho
  case h_2 => cases ho
  rename_i z i u r rest
  split at ho
  case isFalse => cases ho
  rename_i hu
  split at ho
  case isFalse => cases ho
  rename_i hr
  split at ho
  case isFalse => cases ho
  rename_i hi
  split at ho
  case isFalse => cases ho
  rename_i hi2
  have hz : (z = 0 ∨ z = 1) ∧ k (pc + 1) loc rest (S.1, jup S.2 r i z) = some rF := by
    by_cases e : z = 0
    · rw [if_pos e] at ho
      rw [e]
      exact ⟨Or.inl rfl, ho⟩
    · rw [if_neg e] at ho
      by_cases e2 : z = 1
      · rw [if_pos e2] at ho
        rw [e2]
        exact ⟨Or.inr rfl, ho⟩
      · rw [if_neg e2] at ho
        cases ho
  obtain ⟨hz, ho⟩ := hz
  intro ls H locs ad ⟨hl, hwf, hlo, hst, hn, hP, hD, hS⟩
  have hsv := List.forall_mem_cons.mp hst
  have hst := List.forall_mem_cons.mp hsv.2
  have hsx := List.forall_mem_cons.mp hst.2
  obtain ⟨hrn, hrk⟩ := jok_at (q := 16) hsx.1 (by omega) (by omega) hr
  obtain ⟨hln, hel⟩ := jln_ok hwf hr hrn hrk (by omega)
  have hi32 : j32 i := hst.1.1 rfl
  have hnum : jnum (jel 16) z := ⟨fun q => absurd q (by decide), fun q => absurd q (by decide), fun q => hz, fun q => absurd q (by decide)⟩
  have hwf' : jWF (S.1, jup S.2 r i z) := jWF_up hwf hr (fun q => by rw [hrk] at q; omega) (fun q => by rw [hrk]; exact hnum)
  rw [List.map_cons, List.map_cons, List.map_cons, jtr_at (t := u) (by omega) (by omega)]
  refine va_zast C.1 C.2.1 C.2.2.2.2.2.1 hP hD hS r.toNat 3 (jw_int hr hrn hrk (by omega) (by omega) (by omega)) rfl (in32 hi32 hi (by omega)) (dc_ok hc) (fun H1 locs1 hP1 hD1 hS1 => ?_)
  have en : vp_nar .boolean (Int32.ofInt z) = Int32.ofInt z := by
    rcases hz with q | q
    · rw [q]; exact vp_nar_b0
    · rw [q]; exact vp_nar_b1
  rw [en, jw_setI hr hrn hrk (by omega) (by omega) (by omega) hi (cl32 hi32)] at hP1 hD1
  exact hk _ _ _ _ ho ls H1 locs1 ad ⟨hl, hwf', hlo, hsx.2, hn, hP1, hD1, hS1⟩
theorem jty_at {cy : Nat → ClassId} : ∀ q : Nat, 13 ≤ q → q ≤ 19 → ∃ (t0 : Nat) (ty : FieldType), (jtys cy)[t0]? = some (cy q, ty)
  | 13, _, _ => ⟨0, _, rfl⟩ | 14, _, _ => ⟨1, _, rfl⟩ | 15, _, _ => ⟨2, _, rfl⟩ | 16, _, _ => ⟨3, _, rfl⟩ | 17, _, _ => ⟨4, _, rfl⟩ | 18, _, _ => ⟨5, _, rfl⟩ | 19, _, _ => ⟨6, _, rfl⟩
  | 0, h, _ => absurd h (by omega) | 1, h, _ => absurd h (by omega) | 2, h, _ => absurd h (by omega) | 3, h, _ => absurd h (by omega) | 4, h, _ => absurd h (by omega) | 5, h, _ => absurd h (by omega) | 6, h, _ => absurd h (by omega) | 7, h, _ => absurd h (by omega) | 8, h, _ => absurd h (by omega) | 9, h, _ => absurd h (by omega) | 10, h, _ => absurd h (by omega) | 11, h, _ => absurd h (by omega) | 12, h, _ => absurd h (by omega)
  | n + 20, _, h => absurd h (by omega)
theorem ofNat_toNat {z : Int} (h : 0 ≤ z) : Int32.ofNat z.toNat = Int32.ofInt z := by
  rw [← Int32.ofInt_eq_ofNat, Int.toNat_of_nonneg h]
def hLen : jH := fun _ cc pc _ _ _ => dc cc pc .arraylength 1
theorem sLen {Γ : jCtx} {own : Nat} {cc : ByteArray} {ce : jC} {rF : Int × jS} (C : jCx Γ own cc) : jSim Γ own cc ce rF hLen oLen := by
  intro a b t pc loc st S k hc ho hk
  unfold hLen at hc
  unfold oLen at ho
  split at ho
  case h_2 => cases ho
  rename_i u r rest
  split at ho
  case isFalse => cases ho
  rename_i hu
  split at ho
  case isFalse => cases ho
  rename_i hu2
  split at ho
  case isFalse => cases ho
  rename_i hr
  intro ls H locs ad ⟨hl, hwf, hlo, hst, hn, hP, hD, hS⟩
  have hst := List.forall_mem_cons.mp hst
  obtain ⟨hrn, hrk⟩ := jok_at (q := u - 10) hst.1 (by omega) (by omega) hr
  obtain ⟨hln, hel⟩ := jln_ok hwf hr hrn hrk (by omega)
  obtain ⟨t0, ty, hty⟩ := jty_at (cy := xy Γ) (u - 10) (by omega) (by omega)
  have K := hk _ _ _ _ ho ls H locs ad ⟨hl, hwf, hlo, List.forall_mem_cons.mpr ⟨jok_i (by unfold j32; omega), hst.2⟩, hn, hP, hD, hS⟩
  rw [List.map_cons] at K ⊢
  rw [jtr_at (t := u) (by omega) (by omega)]
  rcases (show u - 10 = 15 ∨ (u - 10 ≤ 16 ∧ u - 10 ≠ 15) ∨ 17 ≤ u - 10 by omega) with q | q | q
  · rw [q] at hrk hty
    exact va_alen C.1 C.2.1 C.2.2.2.2.2.1 hP r.toNat t0 (jw_long hr hrn hrk) hty (ofNat_toNat hln.1) (dc_ok hc) K
  · exact va_alen C.1 C.2.1 C.2.2.2.2.2.1 hP r.toNat t0 (jw_int hr hrn hrk (by omega) q.1 q.2) hty (ofNat_toNat hln.1) (dc_ok hc) K
  · exact va_alen C.1 C.2.1 C.2.2.2.2.2.1 hP r.toNat t0 (jw_refs hr hrn hrk q) hty (ofNat_toNat hln.1) (dc_ok hc) K
end
section
/-! new cells -/
def jadn (ad : Int → Nat) (n q : Nat) : Int → Nat := fun z => if z = (n : Int) then q else ad z
theorem jadn_ne {ad : Int → Nat} {n q : Nat} {z : Int} (h : z ≠ n) : jadn ad n q z = ad z := if_neg h
theorem jadn_eq {ad : Int → Nat} {n q : Nat} : jadn ad n q n = q := if_pos rfl
theorem jref_ext {ad : Int → Nat} {n q : Nat} {z : Int} (h : z < n) : jref (jadn ad n q) z = jref ad z := by
  unfold jref
  rw [jadn_ne (by omega)]
theorem jtr_ext {S : jS} {ad : Int → Nat} {q : Nat} {v : jV} (h : jok S v) : jtr (jadn ad (gN S.1) q) v = jtr ad v := by
  obtain ⟨t, z⟩ := v
  unfold jtr
  dsimp only
  by_cases h0 : t = 0
  · rw [if_pos h0, if_pos h0]
  · by_cases h1 : t = 1
    · rw [if_neg h0, if_neg h0, if_pos h1, if_pos h1]
    · rw [if_neg h0, if_neg h0, if_neg h1, if_neg h1, jref_ext (h.2.2.2.2 (by dsimp only; omega))]
theorem jmap_ext {S : jS} {ad : Int → Nat} {q : Nat} {st : List jV} (h : ∀ v ∈ st, jok S v) : st.map (jtr (jadn ad (gN S.1) q)) = st.map (jtr ad) := List.map_congr_left (fun v hv => jtr_ext (h v hv))
theorem jL_ext {S : jS} {ls : Array Slot} {nL q : Nat} {ad : Int → Nat} {loc : List jV} (h : jL ls nL ad loc) (hlo : ∀ v ∈ loc, jok S v) : jL ls nL (jadn ad (gN S.1) q) loc :=
  ⟨h.1, h.2.1, h.2.2.1, fun i v hi hv => by rw [jtr_ext (hlo v (List.mem_of_getElem? hi))]; exact h.2.2.2 i v hi hv⟩
theorem jw_new {cy : Nat → ClassId} {ad : Int → Nat} {S : jS} {kd sl q : Nat} {len : Int} {e : va_E} (hb : ∀ i j : Int, gR S.1 i j < gN S.1) (he : jcell cy (jadn ad (gN S.1) q) (jnew kd len sl S) (gN S.1) = e) : jwld cy ad S ++ [(q, e)] = jwld cy (jadn ad (gN S.1) q) (jnew kd len sl S) := by
  unfold jwld
  have hN : gN (jnew kd len sl S).1 = gN S.1 + 1 := rfl
  rw [hN, List.range_succ, List.map_append, List.map_cons, List.map_nil, jadn_eq, he]
  congr 1
  apply List.map_congr_left
  intro k hk
  have hk := List.mem_range.mp hk
  have hne : (k : Int) ≠ ((gN S.1 : Nat) : Int) := by omega
  have hne' : ¬ (k : Int) = ((S.1.1 : Nat) : Int) := hne
  have e1 : gK (jnew kd len sl S).1 k = gK S.1 k := by
    unfold gK jnew
    dsimp only
    rw [if_neg hne']
  have e2 : gL (jnew kd len sl S).1 k = gL S.1 k := by
    unfold gL jnew
    dsimp only
    rw [if_neg hne']
  have e3 : ∀ j : Int, gR (jnew kd len sl S).1 k j = gR S.1 k j := fun j => by
    unfold gR jnew
    dsimp only
    rw [if_neg hne']
  have e4 : ∀ j : Int, (jnew kd len sl S).2 k j = S.2 k j := fun j => by
    unfold jnew
    dsimp only
    rw [if_neg hne']
  rw [jadn_ne hne]
  congr 1
  exact (jcell_cong e1 e2 (fun j => e4 j) (fun j => by rw [e3, jref_ext (hb _ _)])).symm
theorem jok_new {S : jS} {kd sl : Nat} {len : Int} {v : jV} (h : jok S v) : jok (jnew kd len sl S) v := by
  have hN : gN (jnew kd len sl S).1 = gN S.1 + 1 := rfl
  refine ⟨h.1, h.2.1, fun a b => ?_, h.2.2.2.1, fun a => by rw [hN]; have := h.2.2.2.2 a; omega⟩
  rcases h.2.2.1 a b with q | q
  · exact Or.inl q
  · refine Or.inr ⟨q.1, by rw [hN]; omega, ?_⟩
    rw [← q.2.2]
    unfold gK jnew
    dsimp only
    have : ¬ v.2 = ((S.1.1 : Nat) : Int) := by
      have := q.2.1
      unfold gN at this
      omega
    rw [if_neg this]
theorem jokr_new {S : jS} {kd sl c : Nat} {len z : Int} (h : jokr S c z) : jokr (jnew kd len sl S) c z := by
  have hN : gN (jnew kd len sl S).1 = gN S.1 + 1 := rfl
  rcases h with q | q
  · exact Or.inl q
  · refine Or.inr ⟨q.1, by rw [hN]; omega, ?_⟩
    rw [← q.2.2]
    unfold gK jnew
    dsimp only
    have : ¬ z = ((S.1.1 : Nat) : Int) := by
      have := q.2.1
      unfold gN at this
      omega
    rw [if_neg this]
theorem jnum_0 (tc : Nat) : jnum tc 0 := ⟨fun _ => z32, fun _ => z64, fun _ => Or.inl rfl, fun _ => by omega⟩
theorem jnew_kd {S : jS} {kd sl : Nat} {len : Int} : gK (jnew kd len sl S).1 ((gN S.1 : Nat) : Int) = kd := by
  unfold gK jnew gN
  dsimp only
  rw [if_pos rfl]
theorem jnew_ln {S : jS} {kd sl : Nat} {len : Int} : gL (jnew kd len sl S).1 ((gN S.1 : Nat) : Int) = len := by
  unfold gL jnew gN
  dsimp only
  rw [if_pos rfl]
theorem jnew_x {S : jS} {kd sl : Nat} {len j : Int} : (jnew kd len sl S).2 ((gN S.1 : Nat) : Int) j = 0 := by
  unfold jnew gN
  dsimp only
  rw [if_pos rfl]
theorem jnew_r {S : jS} {kd sl : Nat} {len j : Int} : gR (jnew kd len sl S).1 ((gN S.1 : Nat) : Int) j = -1 := by
  unfold gR jnew gN
  dsimp only
  rw [if_pos rfl]
theorem jWF_new {S : jS} {kd sl : Nat} {len : Int} (h : jWF S) (hk : kd ≤ 19) (hl : 13 ≤ kd → 0 ≤ len ∧ len ≤ 100000) : jWF (jnew kd len sl S) := by
  intro k hkn
  have hN : gN (jnew kd len sl S).1 = gN S.1 + 1 := rfl
  rw [hN] at hkn
  by_cases e : k = gN S.1
  · subst e
    unfold jWFo jWFa
    rw [jnew_kd, jnew_ln]
    refine ⟨hk, fun _ j _ => ?_, fun q => ⟨hl q, fun j _ => ?_⟩⟩
    · rw [jnew_x, jnew_r]
      exact ⟨jnum_0 _, fun _ => Or.inl rfl⟩
    · rw [jnew_x, jnew_r]
      exact ⟨jnum_0 _, fun _ => Or.inl rfl⟩
  · have hne' : ¬ (k : Int) = ((S.1.1 : Nat) : Int) := by
      unfold gN at e
      omega
    have e1 : gK (jnew kd len sl S).1 k = gK S.1 k := by
      unfold gK jnew
      dsimp only
      rw [if_neg hne']
    have e2 : gL (jnew kd len sl S).1 k = gL S.1 k := by
      unfold gL jnew
      dsimp only
      rw [if_neg hne']
    have e3 : ∀ j : Int, gR (jnew kd len sl S).1 k j = gR S.1 k j := fun j => by
      unfold gR jnew
      dsimp only
      rw [if_neg hne']
    have e4 : ∀ j : Int, (jnew kd len sl S).2 k j = S.2 k j := fun j => by
      unfold jnew
      dsimp only
      rw [if_neg hne']
    obtain ⟨h1, h2, h3⟩ := h k (by omega)
    unfold jWFo at h2 ⊢
    unfold jWFa at h3 ⊢
    rw [e1, e2]
    simp only [e3, e4]
    exact ⟨h1, fun q j hj => ⟨(h2 q j hj).1, fun w => jokr_new ((h2 q j hj).2 w)⟩, fun q => ⟨(h3 q).1, fun j hj => ⟨((h3 q).2 j hj).1, fun w => jokr_new (((h3 q).2 j hj).2 w)⟩⟩⟩
/-- behind a new cell -/
theorem jAt_new {Γ : jCtx} {loc st : List jV} {S : jS} {ls : Array Slot} {H H1 : Heap} {locs : List Loc} {ad : Int → Nat} {kd sl q : Nat} {len : Int} {e : va_E} (h : jAt Γ loc st S ls H locs ad) (hk : kd ≤ 19) (hl : 13 ≤ kd → 0 ≤ len ∧ len ≤ 100000) (he : jcell (xy Γ) (jadn ad (gN S.1) q) (jnew kd len sl S) (gN S.1) = e) (hP : va_P (xD Γ) vwCl (jwld (xy Γ) ad S ++ [(q, e)]) H1) (hD : va_D (xA Γ) (jwld (xy Γ) ad S ++ [(q, e)])) (hS : va_S (xA Γ) (xs Γ).heap H1 locs) : jAt Γ loc ((10 + kd, (S.1.1 : Int)) :: st) (jnew kd len sl S) ls H1 locs (jadn ad (gN S.1) q) := by
  obtain ⟨hl0, hwf, hlo, hst, hn, -, -, -⟩ := h
  have hN : gN (jnew kd len sl S).1 = gN S.1 + 1 := rfl
  have hM : gM (jnew kd len sl S).1 = gM S.1 + sl := rfl
  rw [jw_new hn.2.2.2.1 he] at hP hD
  refine ⟨jL_ext hl0 hlo, jWF_new hwf hk hl, fun v hv => jok_new (hlo v hv), List.forall_mem_cons.mpr ⟨jok_rf (by omega) (by omega) (Or.inr ⟨by omega, by rw [hN]; unfold gN; omega, by rw [show 10 + kd - 10 = kd by omega]; exact jnew_kd⟩), fun v hv => jok_new (hst v hv)⟩, ⟨fun z hz => ?_, by rw [hN]; omega, by rw [hM]; omega, fun i j => ?_, fun z hz => ?_⟩, hP, hD, hS⟩
  · rw [jadn_ne (by omega)]
    exact hn.1 z hz
  · rw [hN]
    show (if i = ((S.1.1 : Nat) : Int) then -1 else gR S.1 i j) < _
    split
    · omega
    · have := hn.2.2.2.1 i j
      omega
  · rw [← hn.2.2.2.2 z hz]
    unfold gK jnew
    dsimp only
    have : ¬ z = ((S.1.1 : Nat) : Int) := by
      have := hn.2.1
      unfold gN at this
      omega
    rw [if_neg this]
/-- with the room that is left -/
def jSimM (Γ : jCtx) (own : Nat) (cc : ByteArray) (ce : jC) (rF : Int × jS) (h : jH) (o : jF) : Prop := ∀ (a b : Int) (t : List Int) (pc : Nat) (loc st : List jV) (S : jS) (k : jT), h own cc pc a b t = true → o a b t ce pc loc st S k = some rF → (∀ pc loc st S, k pc loc st S = some rF → gN S.1 - xk Γ ≤ (xR Γ).cells ∧ gM S.1 - xj Γ ≤ (xR Γ).slots) → (∀ pc loc st S, k pc loc st S = some rF → jK Γ pc loc st S) → jK Γ pc loc st S
def hNew : jH := fun own cc pc a b t => dc cc pc (.new b.toNat) 3 && decide (a.toNat ≤ 12 ∧ (own, b.toNat, a.toNat) ∈ jcw ∧ (t.getD 0 0).toNat = jnf.getD a.toNat 0)
theorem jdef_ok {c j : Nat} (hc : c ≤ 12) (hj : j < jnf.getD c 0) : defaultValue (jTyp (jty c j)) = (if jty c j = 1 then Value.long (Int64.ofInt 0) else if jty c j ≤ 2 then .int (Int32.ofInt 0) else .null) := by
  rcases tc_ok' c (by omega) j hj with q | q
  · rcases (show jty c j = 0 ∨ jty c j = 1 ∨ jty c j = 2 by omega) with w | w | w <;> rw [w] <;> rfl
  · rw [if_neg (by omega), if_neg (by omega)]
    generalize jty c j = y at q
    unfold jTyp
    split <;> first | omega | rfl
theorem sNew {Γ : jCtx} {own : Nat} {cc : ByteArray} {ce : jC} {rF : Int × jS} (C : jCx Γ own cc) : jSimM Γ own cc ce rF hNew oNew := by
  intro a b t pc loc st S k hc ho hm hk
  unfold hNew at hc
  simp only [Bool.and_eq_true, decide_eq_true_eq] at hc
  obtain ⟨hdg, hcl, hlk, hsl⟩ := hc
  unfold oNew at ho
  rw [hsl] at ho
  generalize a.toNat = cn at *
  intro ls H locs ad hat
  have hat' := hat
  obtain ⟨hl, hwf, hlo, hst, hn, hP, hD, hS⟩ := hat'
  have hroom := hm _ _ _ _ ho
  have hN : gN (jnew cn 0 (jnf.getD cn 0) S).1 = gN S.1 + 1 := rfl
  have hM : gM (jnew cn 0 (jnf.getD cn 0) S).1 = gM S.1 + jnf.getD cn 0 := rfl
  rw [hN, hM] at hroom
  have h1 := hn.2.1
  have h2 := hn.2.2.1
  refine va_new (ci := cn) (fs := (List.range (jnf.getD cn 0)).map (fun j => if jty cn j = 1 then Value.long (Int64.ofInt 0) else if jty cn j ≤ 2 then .int (Int32.ofInt 0) else .null)) (C := jcn.getD cn "") (T := jFT cn) (N := jnf.getD cn 0) (own := jcn.getD own "") C.1 C.2.1 C.2.2.2.2.1 (lay_ok hcl) (fun k => jTyp (jty cn k)) (ty_ok hcl) C.2.2.2.1 (C.2.2.2.2.1 _ (cl_ok hlk)) (C.2.2.2.2.1 _ (inst_ok hcl)) (C.2.2.2.2.1 _ (ini_ok (by omega))) C.2.2.2.2.2.1 hP hD hS C.2.2.2.2.2.2.1 (cls_ok cn hcl) (fun j hj => ?_) (by omega) (by omega) (dc_ok hdg) (fun q H1 hP1 hD1 hS1 => ?_)
  · unfold vp_V
    rw [jdef_ok hcl hj, List.getD_eq_getElem?_getD, rng_get _ hj]
    rfl
  · have he : jcell (xy Γ) (jadn ad (gN S.1) q) (jnew cn 0 (jnf.getD cn 0) S) (gN S.1) = .inr (cn, (List.range (jnf.getD cn 0)).map (fun j => if jty cn j = 1 then Value.long (Int64.ofInt 0) else if jty cn j ≤ 2 then .int (Int32.ofInt 0) else .null)) := by
      unfold jcell
      rw [jnew_kd, if_pos hcl]
      congr 2
      unfold jfs
      congr 1
      funext j
      unfold jfv
      rw [jnew_x, jnew_r]
      rfl
    have K := hk _ _ _ _ ho ls H1 locs _ (jAt_new hat (by omega) (fun q => by omega) he hP1 hD1 hS1)
    rw [List.map_cons, jmap_ext hst, jtr_at (by omega) (by have : (0 : Int) ≤ (S.1.1 : Int) := Int.natCast_nonneg _; omega)] at K
    have e1 : jadn ad (gN S.1) q ((S.1.1 : Nat) : Int) = q := jadn_eq
    rw [e1] at K
    unfold jW at K
    rw [hN, hM, show gN S.1 + 1 - xk Γ = gN S.1 - xk Γ + 1 by omega, show gM S.1 + jnf.getD cn 0 - xj Γ = gM S.1 - xj Γ + jnf.getD cn 0 by omega] at K
    exact K
end
section
/-! arrays that are made; references in arrays; the rest -/
/-- the classes of arrays are those that the tables name -/
theorem jcy {Γ : jCtx} {own : Nat} {cc : ByteArray} (C : jCx Γ own cc) {q t0 : Nat} {ty : FieldType} {cA : ClassId} (ht : (jtys (xy Γ))[t0]? = some (xy Γ q, ty)) (h : va_K (xD Γ) vwCl (jtys (xy Γ) ++ [(cA, ty)]) (xs Γ)) : cA = xy Γ q := by
  have h1 := (C.2.2.2.2.2.1.2 t0 _ ht).2
  have h2 := (h.2 (jtys (xy Γ)).length (cA, ty) (by rw [List.getElem?_append_right (Nat.le_refl _), Nat.sub_self]; rfl)).2
  dsimp only at h1 h2
  unfold va_RA at h1 h2
  cases ty with
  | object N =>
    obtain ⟨_, _, _, _, _, g1⟩ := h1
    obtain ⟨_, _, _, _, _, g2⟩ := h2
    exact Option.some.inj (g2.symm.trans g1)
  | _ => exact Option.some.inj (h2.symm.trans h1)
def jat (q : Nat) : ArrayType := if q = 13 then .char else if q = 15 then .long else if q = 16 then .boolean else .int
def hNewA : jH := fun _ cc pc a _ _ => dc cc pc (.newarray (jat a.toNat)) 2 && decide (13 ≤ a.toNat ∧ a.toNat ≤ 16)
theorem arrC {Γ : jCtx} {own : Nat} {cc : ByteArray} (C : jCx Γ own cc) : ∀ q : Nat, 13 ≤ q → q ≤ 16 → ∃ t0 : Nat, (jtys (xy Γ))[t0]? = some (xy Γ q, newarray.typeOf (jat q)) ∧ (Cond.arrayClass (newarray.typeOf (jat q))).before (xa Γ) (xs Γ) = true
  | 13, _, _ => ⟨0, rfl, C.2.2.2.2.1 _ (mi_ok 5 rfl rfl)⟩
  | 14, _, _ => ⟨1, rfl, C.2.2.2.2.1 _ (mi_ok 6 rfl rfl)⟩
  | 15, _, _ => ⟨2, rfl, C.2.2.2.2.1 _ (mi_ok 7 rfl rfl)⟩
  | 16, _, _ => ⟨3, rfl, C.2.2.2.2.1 _ (mi_ok 8 rfl rfl)⟩
  | 0, h, _ => absurd h (by omega) | 1, h, _ => absurd h (by omega) | 2, h, _ => absurd h (by omega) | 3, h, _ => absurd h (by omega) | 4, h, _ => absurd h (by omega) | 5, h, _ => absurd h (by omega) | 6, h, _ => absurd h (by omega) | 7, h, _ => absurd h (by omega) | 8, h, _ => absurd h (by omega) | 9, h, _ => absurd h (by omega) | 10, h, _ => absurd h (by omega) | 11, h, _ => absurd h (by omega) | 12, h, _ => absurd h (by omega)
  | n + 17, _, h => absurd h (by omega)
def ja0 (q : Nat) (n : Nat) : vp_A := if q = 15 then (n, .inr (.inl (fun _ => Int64.ofInt 0))) else (n, .inl (fun _ => Int32.ofInt 0))
theorem ja0_ok (q n : Nat) (h1 : 13 ≤ q) (h2 : q ≤ 16) (cA : ClassId) : vp_cell cA (ja0 q n) = arrV cA n (fun _ => defaultValue (newarray.typeOf (jat q))) := by
  rcases (show q = 13 ∨ q = 14 ∨ q = 15 ∨ q = 16 by omega) with e | e | e | e <;> subst e <;> rfl
theorem jbytes (q : Nat) : componentBytes (newarray.typeOf (jat q)) ≤ 8 := by
  unfold jat
  split
  · decide
  · split
    · decide
    · split <;> decide
theorem sNewA {Γ : jCtx} {own : Nat} {cc : ByteArray} {ce : jC} {rF : Int × jS} (C : jCx Γ own cc) : jSimM Γ own cc ce rF hNewA (oNewA 2) := by
  intro a b t pc loc st S k hc ho hm hk
  unfold hNewA at hc
  simp only [Bool.and_eq_true, decide_eq_true_eq] at hc
  obtain ⟨hdg, hq1, hq2⟩ := hc
  unfold oNewA at ho
  split at ho
  case h_2 => cases ho
  rename_i z rest
  split at ho
  case isFalse => cases ho
  rename_i hz
  split at ho
  case isFalse => cases ho
  rename_i hz2
  generalize a.toNat = q at *
  intro ls H locs ad hat
  have hat' := hat
  obtain ⟨hl, hwf, hlo, hst, hn, hP, hD, hS⟩ := hat'
  have hst := List.forall_mem_cons.mp hst
  have hroom := hm _ _ _ _ ho
  have hN : gN (jnew q z z.toNat S).1 = gN S.1 + 1 := rfl
  have hM : gM (jnew q z z.toNat S).1 = gM S.1 + z.toNat := rfl
  rw [hN, hM] at hroom
  have h1 := hn.2.1
  have h2 := hn.2.2.1
  have hz32 : j32 z := hst.1.1 rfl
  obtain ⟨t0, ht0, harr⟩ := arrC C q hq1 hq2
  have hby := jbytes q
  have hby2 : z.toNat * componentBytes (newarray.typeOf (jat q)) ≤ 536870912 := by
    have : z.toNat * componentBytes (newarray.typeOf (jat q)) ≤ 100000 * 8 := Nat.mul_le_mul (by omega) hby
    omega
  rw [List.map_cons]
  refine va_newa (a0 := ja0 q z.toNat) C.1 C.2.1 harr rfl C.2.2.2.2.2.1 hP hD hS C.2.2.2.2.2.2.1 (ja0_ok q z.toNat hq1 hq2) (ge32 hz32 hz) (cl32 hz32) hby2 (by omega) (by omega) (dc_ok hdg) (fun w cA H1 hK1 hP1 hD1 hS1 => ?_)
  have ec := jcy C ht0 hK1
  subst ec
  have he : jcell (xy Γ) (jadn ad (gN S.1) w) (jnew q z z.toNat S) (gN S.1) = .inl (xy Γ q, ja0 q z.toNat) := by
    unfold jcell ja0
    rw [jnew_kd, jnew_ln]
    simp only [jnew_x]
    rw [if_neg (by omega)]
    by_cases e : q = 15
    · rw [if_pos e, if_pos e, e]
    · rw [if_neg e, if_neg e, if_pos (by omega)]
  have K := hk _ _ _ _ ho ls H1 locs _ (jAt_new (st := rest) (e := .inl (xy Γ q, ja0 q z.toNat)) ⟨hl, hwf, hlo, hst.2, hn, hP, hD, hS⟩ (by omega) (fun _ => ⟨hz, hz2⟩) he hP1 hD1 hS1)
  rw [List.map_cons, jmap_ext hst.2, jtr_at (by omega) (by have : (0 : Int) ≤ (S.1.1 : Int) := Int.natCast_nonneg _; omega)] at K
  have e1 : jadn ad (gN S.1) w ((S.1.1 : Nat) : Int) = w := jadn_eq
  rw [e1] at K
  unfold jW at K
  rw [hN, hM, show gN S.1 + 1 - xk Γ = gN S.1 - xk Γ + 1 by omega, show gM S.1 + z.toNat - xj Γ = gM S.1 - xj Γ + z.toNat by omega] at K
  exact K
/-- arrays of references to Ground, Mine -/
def hNewQ : jH := fun own cc pc a b _ => dc cc pc (.anewarray b.toNat) 3 && decide ((a.toNat = 17 ∧ (own, b.toNat, 1) ∈ jcw) ∨ (a.toNat = 18 ∧ (own, b.toNat, 3) ∈ jcw))
theorem jnewQ {Γ : jCtx} {own : Nat} {cc : ByteArray} {rF : Int × jS} (C : jCx Γ own cc) (hO : va_AO RX1 (xs Γ) ∧ va_AO RX3 (xs Γ)) {q c t0 : Nat} (hq : (q = 17 ∧ c = 1 ∧ t0 = 4) ∨ (q = 18 ∧ c = 3 ∧ t0 = 5)) {b : Int} {pc : Nat} (hlk : (own, b.toNat, c) ∈ jcw) (hdg : dc cc pc (.anewarray b.toNat) 3 = true) {loc rest : List jV} {S : jS} {k : jT} {z : Int} (hz : 0 ≤ z) (hz2 : z ≤ 100000) (ho : k (pc + 3) loc ((10 + q, (S.1.1 : Int)) :: rest) (jnew q z z.toNat S) = some rF) (hm : ∀ pc loc st S, k pc loc st S = some rF → gN S.1 - xk Γ ≤ (xR Γ).cells ∧ gM S.1 - xj Γ ≤ (xR Γ).slots) (hk : ∀ pc loc st S, k pc loc st S = some rF → jK Γ pc loc st S) : jK Γ pc loc ((0, z) :: rest) S := by
  intro ls H locs ad hat
  have hat' := hat
  obtain ⟨hl, hwf, hlo, hst, hn, hP, hD, hS⟩ := hat'
  have hst := List.forall_mem_cons.mp hst
  have hroom := hm _ _ _ _ ho
  have hN : gN (jnew q z z.toNat S).1 = gN S.1 + 1 := rfl
  have hM : gM (jnew q z z.toNat S).1 = gM S.1 + z.toNat := rfl
  rw [hN, hM] at hroom
  have h1 := hn.2.1
  have h2 := hn.2.2.1
  have hz32 : j32 z := hst.1.1 rfl
  have hao : va_AO (jcn.getD c "") (xs Γ) := by
    rcases hq with ⟨-, e, -⟩ | ⟨-, e, -⟩ <;> subst e
    · exact hO.1
    · exact hO.2
  have ht0 : (jtys (xy Γ))[t0]? = some (xy Γ q, .object (jcn.getD c "")) := by
    rcases hq with ⟨e1, e2, e3⟩ | ⟨e1, e2, e3⟩ <;> subst e1 <;> subst e2 <;> subst e3 <;> rfl
  rw [List.map_cons]
  refine va_newq C.1 C.2.1 C.2.2.2.1 (C.2.2.2.2.1 _ (cl_ok hlk)) hao C.2.2.2.2.2.1 hP hD hS C.2.2.2.2.2.2.1 (ge32 hz32 hz) (cl32 hz32) (by omega) (by omega) (by omega) (dc_ok hdg) (fun w cA H1 hK1 hP1 hD1 hS1 => ?_)
  have ec := jcy C ht0 hK1
  subst ec
  have he : jcell (xy Γ) (jadn ad (gN S.1) w) (jnew q z z.toNat S) (gN S.1) = .inl (xy Γ q, z.toNat, .inr (.inr (.inr (.inr (fun _ => none))))) := by
    unfold jcell
    rw [jnew_kd, jnew_ln]
    simp only [jnew_r]
    rw [if_neg (by omega), if_neg (by omega), if_neg (by omega)]
    rfl
  have K := hk _ _ _ _ ho ls H1 locs _ (jAt_new (st := rest) (e := .inl (xy Γ q, z.toNat, .inr (.inr (.inr (.inr (fun _ => none)))))) ⟨hl, hwf, hlo, hst.2, hn, hP, hD, hS⟩ (by omega) (fun _ => ⟨hz, hz2⟩) he hP1 hD1 hS1)
  rw [List.map_cons, jmap_ext hst.2, jtr_at (by omega) (by have : (0 : Int) ≤ (S.1.1 : Int) := Int.natCast_nonneg _; omega)] at K
  have e1 : jadn ad (gN S.1) w ((S.1.1 : Nat) : Int) = w := jadn_eq
  rw [e1] at K
  unfold jW at K
  rw [hN, hM, show gN S.1 + 1 - xk Γ = gN S.1 - xk Γ + 1 by omega, show gM S.1 + z.toNat - xj Γ = gM S.1 - xj Γ + z.toNat by omega] at K
  exact K
theorem sNewQ {Γ : jCtx} {own : Nat} {cc : ByteArray} {ce : jC} {rF : Int × jS} (C : jCx Γ own cc) : jSimM Γ own cc ce rF hNewQ (oNewA 3) := by
  intro a b t pc loc st S k hc ho hm hk
  unfold hNewQ at hc
  simp only [Bool.and_eq_true, decide_eq_true_eq] at hc
  obtain ⟨hdg, hq⟩ := hc
  unfold oNewA at ho
  split at ho
  case h_2 => cases ho
  rename_i z rest
  split at ho
  case isFalse => cases ho
  rename_i hz
  split at ho
  case isFalse => cases ho
  rename_i hz2
  rcases hq with ⟨hq, hlk⟩ | ⟨hq, hlk⟩
  · rw [hq] at ho
    exact jnewQ C ⟨C.2.2.2.2.2.2.2.2.2.1.2.1, C.2.2.2.2.2.2.2.2.2.1.2.2.1⟩ (Or.inl ⟨rfl, rfl, rfl⟩) hlk hdg hz hz2 ho hm hk
  · rw [hq] at ho
    exact jnewQ C ⟨C.2.2.2.2.2.2.2.2.2.1.2.1, C.2.2.2.2.2.2.2.2.2.1.2.2.1⟩ (Or.inr ⟨rfl, rfl, rfl⟩) hlk hdg hz hz2 ho hm hk
/-- aaload -/
def hAald : jH := fun _ cc pc a b _ => dc cc pc .aaload 1 && decide ((a = 27 ∧ b = 11) ∨ (a = 28 ∧ b = 13) ∨ (a = 29 ∧ b = 24))
theorem sAald {Γ : jCtx} {own : Nat} {cc : ByteArray} {ce : jC} {rF : Int × jS} (C : jCx Γ own cc) : jSim Γ own cc ce rF hAald oAald := by
  intro a b t pc loc st S k hc ho hk
  unfold hAald at hc
  simp only [Bool.and_eq_true, decide_eq_true_eq] at hc
  obtain ⟨hdg, hab⟩ := hc
  unfold oAald at ho
  split at ho
  case h_2 => cases ho
  rename_i i u r rest
  split at ho
  case isFalse => cases ho
  rename_i hu
  split at ho
  case isFalse => cases ho
  rename_i hr
  split at ho
  case isFalse => cases ho
  rename_i hi
  split at ho
  case isFalse => cases ho
  rename_i hi2
  have hq : ∃ q : Nat, u = 10 + q ∧ 17 ≤ q ∧ q ≤ 19 ∧ jel q = b.toNat := by
    rcases hab with ⟨e1, e2⟩ | ⟨e1, e2⟩ | ⟨e1, e2⟩ <;> subst e1 <;> subst e2
    · exact ⟨17, hu, by omega, by omega, rfl⟩
    · exact ⟨18, hu, by omega, by omega, rfl⟩
    · exact ⟨19, hu, by omega, by omega, rfl⟩
  obtain ⟨q, hq1, hq2, hq3, hq4⟩ := hq
  have hb10 : 10 ≤ b.toNat ∧ b.toNat ≤ 29 := by omega
  intro ls H locs ad ⟨hl, hwf, hlo, hst, hn, hP, hD, hS⟩
  have hst := List.forall_mem_cons.mp hst
  have hsx := List.forall_mem_cons.mp hst.2
  obtain ⟨hrn, hrk⟩ := jok_at (q := q) hsx.1 hq1 (by omega) hr
  obtain ⟨hln, hel⟩ := jln_ok hwf hr hrn hrk (by omega)
  have hi32 : j32 i := hst.1.1 rfl
  have hw := (hel i hi hi2).2 (by rw [hq4]; exact hb10.1)
  rw [hq4] at hw
  have K := hk _ _ _ _ ho ls H locs ad ⟨hl, hwf, hlo, List.forall_mem_cons.mpr ⟨jok_rf hb10.1 hb10.2 hw, hsx.2⟩, hn, hP, hD, hS⟩
  rw [List.map_cons, jtr_ref hb10.1] at K
  rw [List.map_cons, List.map_cons, jtr_at (t := u) (by omega) (by omega)]
  have hin : vp_in (Int32.ofInt i) (gL S.1 r).toNat := in32 hi32 hi (by omega)
  have hcl : (Int32.ofInt i).toNatClampNeg = i.toNat := cl32 hi32
  have hlt : (Int32.ofInt i).toNatClampNeg < (gL S.1 r).toNat := Nat.not_le.mp fun q => hin (Or.inr q)
  have ha := jw_refs (cy := xy Γ) (ad := ad) hr hrn hrk hq2
  have hty : ∃ (t0 : Nat) (ty : FieldType), (jtys (xy Γ))[t0]? = some (xy Γ q, ty) ∧ refKind ty = true := by
    rcases (show q = 17 ∨ q = 18 ∨ q = 19 by omega) with e | e | e <;> subst e
    · exact ⟨4, _, rfl, rfl⟩
    · exact ⟨5, _, rfl, rfl⟩
    · exact ⟨6, _, rfl, rfl⟩
  obtain ⟨t0, ty, ht0, hrk2⟩ := hty
  refine W.aald (v := va_rf (jref ad (gR S.1 r ((Int32.ofInt i).toNatClampNeg : Nat)))) (ty := ty) C.1 C.2.1 (hP r.toNat _ ha) ((C.2.2.2.2.2.1.2 t0 _ ht0).1 (gL S.1 r).toNat (fun j => va_rf (jref ad (gR S.1 r j)))) hrk2 (fun q => by cases q) (by show ¬ (Int32.ofInt i < 0 ∨ (arrV _ _ _).slots.size ≤ _); rw [arrV_size]; exact hin) (by show (arrV _ _ _).slots[_]? = _; rw [arrV_read _ _ hlt]) rfl rfl (dc_ok hdg) ?_
  rw [hcl, Int.toNat_of_nonneg hi]
  exact K
end
section
/-! the rest of the plain instructions -/
theorem jcat_sum (ad : Int → Nat) : ∀ st : List jV, ((st.map (jtr ad)).map fun v => v.category).sum = jcat st
  | [] => rfl
  | (t, z) :: r => by
    rw [List.map_cons, List.map_cons, List.sum_cons, jcat_sum ad r]
    show _ = (if t = 1 then 2 else 1) + jcat r
    by_cases e : t = 1
    · rw [if_pos e, jtr_cat2 (show ((t, z) : jV).1 = 1 from e)]
    · rw [if_neg e, jtr_cat (show ((t, z) : jV).1 ≠ 1 from e)]
def hAast : jH := fun _ cc pc a b _ => dc cc pc .aastore 1 && decide ((a = 27 ∧ b = 11) ∨ (a = 28 ∧ b = 13))
theorem sAast {Γ : jCtx} {own : Nat} {cc : ByteArray} {ce : jC} {rF : Int × jS} (C : jCx Γ own cc) : jSim Γ own cc ce rF hAast oAast := by
  intro a b t pc loc st S k hc ho hk
  unfold hAast at hc
  simp only [Bool.and_eq_true, decide_eq_true_eq] at hc
  obtain ⟨hdg, hab⟩ := hc
  unfold oAast at ho
  split at ho
  case h_2 => cases ho
  rename_i v z i u r rest
  split at ho
  case isFalse => cases ho
  rename_i hv
  split at ho
  case isFalse => cases ho
  rename_i hu
  split at ho
  case isFalse => cases ho
  rename_i hr
  split at ho
  case isFalse => cases ho
  rename_i hz
  split at ho
  case isFalse => cases ho
  rename_i hi
  split at ho
  case isFalse => cases ho
  rename_i hi2
  have hq : ∃ q c t0 : Nat, u = 10 + q ∧ v = 10 + c ∧ 17 ≤ q ∧ q ≤ 18 ∧ c ≤ 12 ∧ jel q = 10 + c ∧ (jtys (xy Γ))[t0]? = some (xy Γ q, .object (jcn.getD c "")) := by
    rcases hab with ⟨e1, e2⟩ | ⟨e1, e2⟩ <;> subst e1 <;> subst e2
    · exact ⟨17, 1, 4, hu, hv, by omega, by omega, by omega, rfl, rfl⟩
    · exact ⟨18, 3, 5, hu, hv, by omega, by omega, by omega, rfl, rfl⟩
  obtain ⟨q, c, t0, hq1, hv1, hq2, hq3, hc12, hq4, ht0⟩ := hq
  intro ls H locs ad ⟨hl, hwf, hlo, hst, hn, hP, hD, hS⟩
  have hsv := List.forall_mem_cons.mp hst
  have hst := List.forall_mem_cons.mp hsv.2
  have hsx := List.forall_mem_cons.mp hst.2
  obtain ⟨hrn, hrk⟩ := jok_at (q := q) hsx.1 hq1 (by omega) hr
  obtain ⟨hzn, hzk⟩ := jok_at (q := c) hsv.1 hv1 (by omega) hz
  obtain ⟨hln, hel⟩ := jln_ok hwf hr hrn hrk (by omega)
  have hi32 : j32 i := hst.1.1 rfl
  have hzr : jokr S (jel q - 10) z := Or.inr ⟨hz, hzn, by rw [hzk, hq4]; omega⟩
  have hwf' : jWF (jsetR S r i z) := jWF_rf hwf hr (fun w => by rw [hrk] at w; omega) (fun w => by rw [hrk]; exact hzr)
  rw [List.map_cons, List.map_cons, List.map_cons, jtr_at (t := u) (by omega) (by omega), jtr_at (t := v) (by omega) (by omega)]
  refine va_astq C.1 C.2.1 C.2.2.2.2.2.1 hP hD hS r.toNat t0 z.toNat c (jw_refs hr hrn hrk hq2) (r := (jcn.getD c "", jFT c, jnf.getD c 0)) ht0 (jw_obj hz hzn hzk hc12) (cls_ok c hc12) (in32 hi32 hi (by omega)) (dc_ok hdg) (fun H1 locs1 hP1 hD1 hS1 => ?_)
  have e : some (ad z) = jref ad z := by
    unfold jref
    rw [if_neg (by omega)]
  rw [e, jw_setQ hr hrn hrk hq2 hi (cl32 hi32)] at hP1 hD1
  exact hk _ _ _ _ ho ls H1 locs1 ad ⟨hl, hwf', fun w h => jok_G rfl rfl (hlo w h), fun w h => jok_G rfl rfl (hsx.2 w h), ⟨hn.1, hn.2.1, hn.2.2.1, jrf_lt hn.2.2.2.1 hzr, hn.2.2.2.2⟩, hP1, hD1, hS1⟩
def hObj : jH := fun own cc pc _ b _ => dc cc pc (.invokespecial b.toNat) 3 && decide ((own, b.toNat) ∈ jol)
theorem sObj {Γ : jCtx} {own : Nat} {cc : ByteArray} {ce : jC} {rF : Int × jS} (C : jCx Γ own cc) : jSim Γ own cc ce rF hObj oObj := by
  intro a b t pc loc st S k hc ho hk
  unfold hObj at hc
  simp only [Bool.and_eq_true, decide_eq_true_eq] at hc
  unfold oObj at ho
  split at ho
  case h_2 => cases ho
  rename_i u r rest
  split at ho
  case isFalse => cases ho
  rename_i hu
  split at ho
  case isFalse => cases ho
  rename_i hr
  split at ho
  case isFalse => cases ho
  rename_i hj
  intro ls H locs ad ⟨hl, hwf, hlo, hst, hn, hP, hD, hS⟩
  have hst := List.forall_mem_cons.mp hst
  have K := hk _ _ _ _ ho ls H locs ad ⟨hl, hwf, hlo, hst.2, hn, hP, hD, hS⟩
  rw [List.map_cons, jtr_at (t := u) (by omega) (by omega)]
  have hrm := C.2.2.2.2.2.2.2.2.2.2
  refine W.objInit C.1 C.2.1 C.2.2.2.1 (C.2.2.2.2.1 _ (ol_ok hc.2)) (C.2.2.2.2.1 _ (mi_ok 0 rfl rfl)) (C.2.2.2.2.1 _ (mi_ok 1 rfl rfl)) rfl (by rw [C.2.2.1]; exact hl.1) rfl (dc_ok hc.1) (by omega) ?_ ?_
  · have h8 : 2 * (F0 (xm Γ) pc ls (.ref (ad r) :: rest.map (jtr ad))).monitorRoom + ((rest.map (jtr ad)).map fun v => v.category).sum ≤ 8 := lv_room (by rw [jcat_sum]; exact hj)
    omega
  · exact K
def hNull : jH := fun _ cc pc a _ _ => dc cc pc .aconst_null 1 && decide (a = -1)
theorem sNull {Γ : jCtx} {own : Nat} {cc : ByteArray} {ce : jC} {rF : Int × jS} (C : jCx Γ own cc) : jSim Γ own cc ce rF hNull (oPush 24 1) := by
  intro a b t pc loc st S k hc ho hk
  simp only [hNull, Bool.and_eq_true, decide_eq_true_eq] at hc
  obtain ⟨hdg, rfl⟩ := hc
  intro ls H locs ad ⟨hl, hwf, hlo, hst, hn, hP, hD, hS⟩
  refine lv_null C.1 C.2.1 (dc_ok hdg) ?_
  exact hk _ _ _ _ ho ls H locs ad ⟨hl, hwf, hlo, List.forall_mem_cons.mpr ⟨jok_rf (by omega) (by omega) (Or.inl rfl), hst⟩, hn, hP, hD, hS⟩
def hCopy : jH := fun own cc pc _ b _ => dc cc pc (.invokestatic b.toNat) 3 && decide ((own, b.toNat) ∈ jal)
theorem jw_cpy {cy : Nat → ClassId} {ad : Int → Nat} {S : jS} {s t sp dp n : Int} {a b c : Nat} (h0 : 0 ≤ t) (h : t < gN S.1) (hk : gK S.1 t = 14) (hs : 0 ≤ sp) (hd : 0 ≤ dp) (hn : 0 ≤ n) (ha : a = sp.toNat) (hb : b = dp.toNat) (hc : c = n.toNat) :
    (jwld cy ad S).set t.toNat (ad t, .inl (cy 14, (gL S.1 t).toNat, .inl (va_cpy (fun j => Int32.ofInt (S.2 s j)) (fun j => Int32.ofInt (S.2 t j)) a b c))) = jwld cy ad (S.1, jcpy S.2 s sp t dp n) := by
  refine jw_set (S' := (S.1, jcpy S.2 s sp t dp n)) h0 h rfl ?_ ?_
  · unfold jcell
    rw [Int.toNat_of_nonneg h0]
    dsimp only
    rw [hk, if_neg (by omega), if_neg (by omega), if_pos (by omega)]
    congr 4
    funext j
    unfold jcpy
    rw [if_pos rfl]
    by_cases e : b ≤ j ∧ j < b + c
    · rw [pk_cpy_in e.1 e.2, if_pos (by omega), if_pos (by omega)]
      rw [show ((a + (j - b) : Nat) : Int) = sp + ((j : Int) - dp) by omega]
    · rw [pk_cpy_out (by omega)]
      by_cases e1 : dp ≤ (j : Int)
      · rw [if_pos e1, if_neg (by omega)]
      · rw [if_neg e1]
  · intro k hk hne
    refine jcell_cong rfl rfl (fun j => ?_) (fun j => rfl)
    unfold jcpy
    dsimp only
    rw [if_neg hne]
theorem jWF_cpy {S : jS} {s t sp dp n : Int} (h : jWF S) (hs0 : 0 ≤ s) (hs1 : s < gN S.1) (hsk : gK S.1 s = 14) (ht0 : 0 ≤ t) (htk : gK S.1 t = 14) (h1 : 0 ≤ sp) (h2 : sp + n ≤ gL S.1 s) : jWF (S.1, jcpy S.2 s sp t dp n) := by
  intro k hk
  obtain ⟨g1, g2, g3⟩ := h k hk
  obtain ⟨-, hel⟩ := jln_ok h hs0 hs1 hsk (by omega)
  refine ⟨g1, fun q i hi => ?_, fun q => ⟨(g3 q).1, fun i hi => ?_⟩⟩
  · obtain ⟨f1, f2⟩ := g2 q i hi
    refine ⟨?_, f2⟩
    show jnum (jty (gK S.1 k) i) (jcpy S.2 s sp t dp n k i)
    unfold jcpy
    by_cases e : (k : Int) = t
    · rw [e, htk] at q
      omega
    · rw [if_neg e]
      exact f1
  · obtain ⟨f1, f2⟩ := (g3 q).2 i hi
    refine ⟨?_, f2⟩
    show jnum (jel (gK S.1 k)) (jcpy S.2 s sp t dp n k i)
    unfold jcpy
    by_cases e : (k : Int) = t
    · rw [if_pos e]
      split
      · split
        · rw [e, htk]
          exact (hel _ (by omega) (by omega)).1
        · exact f1
      · exact f1
    · rw [if_neg e]
      exact f1
theorem sCopy {Γ : jCtx} {own : Nat} {cc : ByteArray} {ce : jC} {rF : Int × jS} (C : jCx Γ own cc) : jSim Γ own cc ce rF hCopy oCopy := by
  intro a b t pc loc st S k hc ho hk
  unfold hCopy at hc
  simp only [Bool.and_eq_true, decide_eq_true_eq] at hc
  unfold oCopy at ho
  split at ho
  case h_2 => cases ho
  rename_i n dp u t sp v s rest
  split at ho
  case isFalse => cases ho
  rename_i hu
  split at ho
  case isFalse => cases ho
  rename_i hv
  split at ho
  case isFalse => cases ho
  rename_i ht
  split at ho
  case isFalse => cases ho
  rename_i hs
  split at ho
  case isFalse => cases ho
  rename_i hn0
  split at ho
  case isFalse => cases ho
  rename_i hsp
  split at ho
  case isFalse => cases ho
  rename_i hdp
  split at ho
  case isFalse => cases ho
  rename_i hb1
  split at ho
  case isFalse => cases ho
  rename_i hb2
  split at ho
  case isFalse => cases ho
  rename_i hj
  intro ls H locs ad ⟨hl, hwf, hlo, hst, hn, hP, hD, hS⟩
  have s1 := List.forall_mem_cons.mp hst
  have s2 := List.forall_mem_cons.mp s1.2
  have s3 := List.forall_mem_cons.mp s2.2
  have s4 := List.forall_mem_cons.mp s3.2
  have s5 := List.forall_mem_cons.mp s4.2
  obtain ⟨htn, htk⟩ := jok_at (q := 14) s3.1 (by omega) (by omega) ht
  obtain ⟨hsn, hsk⟩ := jok_at (q := 14) s5.1 (by omega) (by omega) hs
  obtain ⟨hlt, -⟩ := jln_ok hwf ht htn htk (by omega)
  obtain ⟨hls, -⟩ := jln_ok hwf hs hsn hsk (by omega)
  have jn : j32 n := s1.1.1 rfl
  have jd : j32 dp := s2.1.1 rfl
  have js : j32 sp := s4.1.1 rfl
  have hrm := C.2.2.2.2.2.2.2.2.2.2
  rw [List.map_cons, List.map_cons, List.map_cons, List.map_cons, List.map_cons, jtr_at (t := u) (by omega) (by omega), jtr_at (t := v) (by omega) (by omega)]
  refine va_copyi C.1 C.2.1 (by rw [C.2.2.1]; exact hl.1.symm) C.2.2.2.1 (C.2.2.2.2.1 _ (al_ok hc.2)) (C.2.2.2.2.1 _ (mi_ok 2 rfl rfl)) (C.2.2.2.2.1 _ (mi_ok 3 rfl rfl)) (C.2.2.2.2.1 _ (mi_ok 4 rfl rfl)) C.2.2.2.2.2.1 hP hD hS s.toNat t.toNat 1 1 (jw_int hs hsn hsk (by omega) (by omega) (by omega)) (jw_int ht htn htk (by omega) (by omega) (by omega)) rfl rfl rfl (ge32 js hsp) (ge32 jd hdp) (ge32 jn hn0) (by rw [cl32 js, cl32 jn]; omega) (by rw [cl32 jd, cl32 jn]; omega) (fun _ _ => rfl) (by omega) ?_ (dc_ok hc.1) (fun H1 locs1 hP1 hD1 hS1 => ?_)
  · rw [jcat_sum]
    have h9 : nativeFrameWords "java/lang/System" "arraycopy" 5 + 11 ≤ 50 := by decide +kernel
    omega
  · rw [jw_cpy ht htn htk hsp hdp hn0 (cl32 js) (cl32 jd) (cl32 jn)] at hP1 hD1
    exact hk _ _ _ _ ho ls H1 locs1 ad ⟨hl, jWF_cpy hwf hs hsn hsk ht htk hsp hb1, hlo, s5.2, hn, hP1, hD1, hS1⟩
/-- the script -/
def jScr (Γ : jCtx) (L : Nat) (x : Int → Int) : Prop := ∃ f : Nat → Int32, va_X (xd Γ (-2)) L f (xs Γ) (xs Γ).heap ∧ xd Γ (-2) < (xs Γ).heap.size ∧ ¬ xA Γ (xd Γ (-2)) ∧ L ≤ 3072 ∧ ∀ j : Nat, j < L → (j32 (x j) ∧ Int32.ofInt (x j) = f j)
/-- the calls of the law: the script beside the others -/
def jcs (L : Nat) (x : Int → Int) (ce : jC) : jC := fun m a S => if m = 1000 then (match a with | [(0, i)] => if 0 ≤ i then (if i < L then some (x i, S) else none) else none | _ => none) else if m = 1001 then some ((L : Int), S) else ce m a S
def hSld : jH := fun _ cc pc _ _ _ => dc cc pc .iaload 1
theorem sSld {Γ : jCtx} {own : Nat} {cc : ByteArray} {ce : jC} {rF : Int × jS} {L : Nat} {x : Int → Int} (C : jCx Γ own cc) (hX : jScr Γ L x) (had : -2 < (xk Γ : Int)) : jSim Γ own cc (jcs L x ce) rF hSld oSld := by
  intro a b t pc loc st S k hc ho hk
  unfold hSld at hc
  unfold oSld at ho
  split at ho
  case h_2 => cases ho
  rename_i i u r rest
  split at ho
  case isFalse => cases ho
  rename_i hu
  split at ho
  case isFalse => cases ho
  rename_i hr
  rw [Option.bind_eq_some_iff] at ho
  obtain ⟨q, hq, ho⟩ := ho
  unfold jcs at hq
  rw [if_pos rfl] at hq
  change (if 0 ≤ i then (if i < (L : Int) then some (x i, S) else none) else none) = some q at hq
  split at hq
  case isFalse => cases hq
  rename_i hi
  split at hq
  case isFalse => cases hq
  rename_i hi2
  cases hq
  dsimp only at ho
  obtain ⟨f, h1, h2, h3, h4, h5⟩ := hX
  intro ls H locs ad ⟨hl, hwf, hlo, hst, hn, hP, hD, hS⟩
  have hst := List.forall_mem_cons.mp hst
  have hsx := List.forall_mem_cons.mp hst.2
  have hi32 : j32 i := hst.1.1 rfl
  have g := h5 i.toNat (by omega)
  rw [Int.toNat_of_nonneg hi] at g
  have K := hk _ _ _ _ ho ls H locs ad ⟨hl, hwf, hlo, List.forall_mem_cons.mpr ⟨jok_i g.1, hsx.2⟩, hn, hP, hD, hS⟩
  rw [List.map_cons, List.map_cons, jtr_at (t := u) (by omega) (by omega), hr, hn.1 (-2) had]
  refine va_sld C.1 C.2.1 h1 h2 h3 hS (in32 hi32 hi (by omega)) (dc_ok hc) ?_
  rw [cl32 hi32, ← g.2]
  exact K
def hSlen : jH := fun _ cc pc _ _ _ => dc cc pc .arraylength 1
theorem sSlen {Γ : jCtx} {own : Nat} {cc : ByteArray} {ce : jC} {rF : Int × jS} {L : Nat} {x : Int → Int} (C : jCx Γ own cc) (hX : jScr Γ L x) (had : -2 < (xk Γ : Int)) : jSim Γ own cc (jcs L x ce) rF hSlen oSlen := by
  intro a b t pc loc st S k hc ho hk
  unfold hSlen at hc
  unfold oSlen at ho
  split at ho
  case h_2 => cases ho
  rename_i u r rest
  split at ho
  case isFalse => cases ho
  rename_i hu
  split at ho
  case isFalse => cases ho
  rename_i hr
  rw [Option.bind_eq_some_iff] at ho
  obtain ⟨q, hq, ho⟩ := ho
  unfold jcs at hq
  rw [if_neg (by decide), if_pos rfl] at hq
  cases hq
  dsimp only at ho
  obtain ⟨f, h1, h2, h3, h4, h5⟩ := hX
  intro ls H locs ad ⟨hl, hwf, hlo, hst, hn, hP, hD, hS⟩
  have hst := List.forall_mem_cons.mp hst
  have K := hk _ _ _ _ ho ls H locs ad ⟨hl, hwf, hlo, List.forall_mem_cons.mpr ⟨jok_i (by unfold j32; omega), hst.2⟩, hn, hP, hD, hS⟩
  rw [List.map_cons, jtr_at (t := u) (by omega) (by omega), hr, hn.1 (-2) had]
  refine va_slen C.1 C.2.1 h1 h2 h3 hS (dc_ok hc) ?_
  have e : jtr ad (0, (L : Int)) = .int (Int32.ofNat L) := by
    show Value.int (Int32.ofInt (L : Int)) = _
    rw [Int32.ofInt_eq_ofNat]
  rw [List.map_cons, e] at K
  exact K
end
section
/-! CALLS: contracts of the pure machine's methods -/
def jrm (d mc ms : Nat) : Room := { frames := d + 7, cells := mc, slots := ms, locals := 60 * (d + 7) }
def jws (m : Nat) : List Cond := jcodew (jme m) :: jtbl
def jrt (m : Nat) : Option Nat := match (jme m).2.2.2.1 with
  | none => none
  | some .long => some 1
  | some (.array _) => some 24
  | some _ => some 0
/-- what a method's world is at its start -/
def jPre (D : va_G) (cy : Nat → ClassId) (ad : Int → Nat) (v0 sz : Nat) (S : jS) (U : State) : Prop := U.heap.size = sz ∧ va_P D vwCl (jwld cy ad S) U.heap ∧ va_K D vwCl (jtys cy) U ∧ va_D (fun _ => True) (jwld cy ad S) ∧ jE (ad (-3)) v0 (va_A (jwld cy ad S) sz) U U.heap ∧ jX0 U
/-- .. and at its end -/
def jPost (D : va_G) (cy : Nat → ClassId) (ad : Int → Nat) (sz : Nat) (S : jS) (rt : Option Nat) (z : Int) (S' : jS) : Array Value → State → Outcome → State → Prop := fun _ st o t => ∃ ad' : Int → Nat, (∀ w : Int, w < gN S.1 → ad' w = ad w) ∧ o = .returned (rt.map (fun g => jtr ad' (g, z))) ∧ va_P D vwCl (jwld cy ad' S') t.heap ∧ va_K D vwCl (jtys cy) t ∧ va_D (va_A (jwld cy ad S) sz) (jwld cy ad' S') ∧ va_F (va_A (jwld cy ad S) sz) st t ∧ jWF S' ∧ (∀ g, rt = some g → jok S' (g, z)) ∧ gN S.1 ≤ gN S'.1 ∧ gM S.1 ≤ gM S'.1 ∧ (∀ i j : Int, gR S'.1 i j < gN S'.1) ∧ ∀ w : Int, w < gN S.1 → gK S'.1 w = gK S.1 w
def jMet (l : Launch) (d m : Nat) (args : List jV) (S : jS) (z : Int) (S' : jS) : Prop := ∀ (D : va_G) (cy : Nat → ClassId) (ad : Int → Nat) (v0 sz : Nat), jWF S → (∀ v ∈ args, jok S v) → (∀ i j : Int, gR S.1 i j < gN S.1) → Met l (jy m) (jws m) (jrm d (gN S'.1 - gN S.1) (gM S'.1 - gM S.1)) (va_Pc (args.map (jtr ad)) (jPre D cy ad v0 sz S)) (jPost D cy ad sz S (jrt m) z S') (gN S'.1 - gN S.1) (gM S'.1 - gM S.1) (va_A (jwld cy ad S) sz)
/-- an answer comes on the stack -/
def jpush (rt : Option Nat) (z : Int) (rest : List jV) : List jV := match rt with
  | none => rest
  | some g => (g, z) :: rest
theorem jtr_agree {S : jS} {ad ad' : Int → Nat} {v : jV} (h : jok S v) (ha : ∀ w : Int, w < gN S.1 → ad' w = ad w) : jtr ad' v = jtr ad v := by
  obtain ⟨t, z⟩ := v
  unfold jtr
  dsimp only
  by_cases h0 : t = 0
  · rw [if_pos h0, if_pos h0]
  · by_cases h1 : t = 1
    · rw [if_neg h0, if_neg h0, if_pos h1, if_pos h1]
    · rw [if_neg h0, if_neg h0, if_neg h1, if_neg h1]
      unfold jref
      rw [ha z (h.2.2.2.2 (by dsimp only; omega))]
theorem jok_grow {S S' : jS} {v : jV} (h : jok S v) (hN : gN S.1 ≤ gN S'.1) (hK : ∀ w : Int, w < gN S.1 → gK S'.1 w = gK S.1 w) : jok S' v := by
  refine ⟨h.1, h.2.1, fun a b => ?_, h.2.2.2.1, fun a => by have := h.2.2.2.2 a; omega⟩
  rcases h.2.2.1 a b with q | q
  · exact Or.inl q
  · exact Or.inr ⟨q.1, by omega, by rw [hK _ q.2.1]; exact q.2.2⟩
/-- behind a call -/
theorem jback {Γ : jCtx} {own : Nat} {cc : ByteArray} (C : jCx Γ own cc) {S S' : jS} {loc st0 rest : List jV} {ls : Array Slot} {H : Heap} {locs : List Loc} {ad : Int → Nat} {pc : Nat} {rt : Option Nat} {z : Int} {a : Array Value} {sk : List Value}
    (hr : va_Run (xp Γ) (xl Γ) (xe Γ) (xR Γ) (xs Γ) (xm Γ) (xa Γ) (xb Γ) (xM Γ) (xc Γ) H locs (gN S.1 - xk Γ) (gM S.1 - xj Γ) (gN S'.1 - gN S.1) (gM S'.1 - gM S.1) (F0 (xm Γ) pc ls sk) (rest.map (jtr ad)) (jPost (xD Γ) (xy Γ) ad H.size S rt z S' a) (va_A (jwld (xy Γ) ad S) H.size))
    (hat : jAt Γ loc st0 S ls H locs ad) (hrest : ∀ v ∈ rest, jok S v) (hk : jK Γ (pc + 3) loc (jpush rt z rest) S') : jW Γ S H locs (F0 (xm Γ) pc ls sk) := by
  obtain ⟨hl, hwf, hlo, hst, hn, hP, hD, hS⟩ := hat
  intro T hT X
  obtain ⟨v, st₀, t, T', L, h0, X', hL, e1, e2, ⟨ad', p1, p2, p3, p4, p5, ⟨p6, p7⟩, p8, p9, p10, p11, p12, p13⟩, st⟩ := hr T hT X
  have hv : v = rt.map (fun g => jtr ad' (g, z)) := Outcome.returned.inj p2
  rw [h0] at p6 p7
  have hfree : ∀ q, va_A (jwld (xy Γ) ad S) H.size q → xA Γ q := by
    intro q hq
    rcases hq with ⟨k, en, hq⟩ | hq
    · exact hD.2 k (q, en) hq
    · exact C.2.2.2.2.2.2.1 q (Nat.le_trans hS.1 hq)
  have h1 := hn.2.1
  have h2 := hn.2.2.1
  have hst' : ∀ w ∈ jpush rt z rest, jok S' w := by
    cases rt with
    | none => exact fun w hw => jok_grow (hrest w hw) p10 p13
    | some g => exact List.forall_mem_cons.mpr ⟨p9 g rfl, fun w hw => jok_grow (hrest w hw) p10 p13⟩
  have hAt : jAt Γ loc (jpush rt z rest) S' ls T'.heap (locs ++ L) ad' := by
    refine ⟨⟨hl.1, hl.2.1, hl.2.2.1, fun i w hi hw => ?_⟩, p8, fun w hw => jok_grow (hlo w hw) p10 p13, hst', ⟨fun w hw => ?_, by omega, by omega, p12, fun w hw => ?_⟩, by rw [e1]; exact p3, p5.weaken (fun _ _ _ h => hfree _ h), ?_⟩
    · rw [jtr_agree (hlo w (List.mem_of_getElem? hi)) p1]
      exact hl.2.2.2 i w hi hw
    · rw [p1 w (by omega)]
      exact hn.1 w hw
    · rw [p13 w (by omega)]
      exact hn.2.2.2.2 w hw
    · refine ⟨Nat.le_trans hS.1 (by rw [e1]; exact p6), fun q g1 g2 => ?_, fun q hq => ?_⟩
      · rw [e1, p7 q (Nat.lt_of_lt_of_le g1 hS.1) (fun w => g2 (hfree q w))]
        exact hS.2.1 q g1 g2
      · rcases List.mem_append.mp hq with w | w
        · exact hS.2.2 q w
        · exact hfree _ (hL q w)
  have K := hk ls T'.heap (locs ++ L) ad' hAt
  have hstack : v.toList ++ rest.map (jtr ad) = (jpush rt z rest).map (jtr ad') := by
    have hr' : rest.map (jtr ad) = rest.map (jtr ad') := List.map_congr_left (fun w hw => (jtr_agree (hrest w hw) p1).symm)
    rw [hv, hr']
    cases rt with
    | none => rfl
    | some g => rfl
  unfold jW at K
  rw [show gN S'.1 - xk Γ = gN S.1 - xk Γ + (gN S'.1 - gN S.1) by omega, show gM S'.1 - xj Γ = gM S.1 - xj Γ + (gM S'.1 - gM S.1) by omega, ← hstack] at K
  obtain ⟨t2, a1, b1⟩ := K T' rfl X'
  exact ⟨t2, st t2 a1, b1⟩
theorem va_AOA.moved {ty : FieldType} {u U : State} (hvm : u.vm.Alike U.vm) (h : va_AOA ty u) : va_AOA ty U := by
  have e := Cond.arrayOver_setVmC (args := #[]) hvm (.array ty)
  unfold va_AOA at *
  rw [← e] at h
  exact h
theorem jX0.warm {s U : State} (hW : s.WarmedH U.vm) (h : jX0 s) : jX0 U := ⟨fun q hq => va_Nw.warmM hW (h.1 q hq), h.2.1.moved hW.alike, h.2.2.1.moved hW.alike, h.2.2.2.moved hW.alike⟩
theorem jX0.same {u U : State} (hv : u.vm = U.vm) (h : jX0 u) : jX0 U := ⟨fun q hq => va_Nw.same rfl hv (h.1 q hq), h.2.1.moved (by rw [hv]; exact Vm.Alike.refl _), h.2.2.1.moved (by rw [hv]; exact Vm.Alike.refl _), h.2.2.2.moved (by rw [hv]; exact Vm.Alike.refl _)⟩
theorem jE.warm {a v : Nat} {A B : Nat → Prop} {s U : State} {H H1 : Heap} (hW : s.WarmedH U.vm) (h : jE a v A s H) (hq : ∀ a : Nat, a < H.size → ¬ A a → H1[a]? = H[a]?) (hAB : ∀ q, B q → A q) : jE a v B U H1 :=
  ⟨vk_R.warm hW h.1, ((h.2.1.moved hW.alike).kept hq).narrow hAB, ((h.2.2.1.moved hW.alike).kept hq).narrow hAB, by
    obtain ⟨w, h1, h2⟩ := h.2.2.2
    exact ⟨w, h1, ((h2.moved hW.alike).kept hq).narrow hAB⟩⟩
theorem jE.same {a v : Nat} {A : Nat → Prop} {u U : State} {H : Heap} (hv : u.vm = U.vm) (h : jE a v A u H) : jE a v A U H :=
  ⟨vk_R.same hv.symm h.1, h.2.1.moved (by rw [hv]; exact Vm.Alike.refl _), h.2.2.1.moved (by rw [hv]; exact Vm.Alike.refl _), by
    obtain ⟨w, h1, h2⟩ := h.2.2.2
    exact ⟨w, h1, h2.moved (by rw [hv]; exact Vm.Alike.refl _)⟩⟩
theorem jblind (D : va_G) (cy : Nat → ClassId) (ad : Int → Nat) (v0 sz : Nat) (S : jS) (av : List Value) : FrameBlind (va_Pc av (jPre D cy ad v0 sz S)) := by
  intro a U g mk h
  obtain ⟨h1, h2, h3, h4, h5, h6, h7⟩ := h
  exact ⟨h1, h2, h3, va_K.moved (u := U) (U := U.calling g mk a) (Vm.Alike.refl U.vm) h4, h5, jE.same (u := U) rfl h6, jX0.same (u := U) rfl h7⟩
theorem jPre_of {Γ : jCtx} {own : Nat} {cc : ByteArray} (C : jCx Γ own cc) {S : jS} {loc st : List jV} {ls : Array Slot} {H : Heap} {locs : List Loc} {ad : Int → Nat} (hat : jAt Γ loc st S ls H locs ad) (U : State) (hU : U.heap = H) (hW : (xs Γ).WarmedH U.vm) : jPre (xD Γ) (xy Γ) ad (xv Γ) H.size S U := by
  obtain ⟨hl, hwf, hlo, hst, hn, hP, hD, hS⟩ := hat
  have hfree : ∀ q, va_A (jwld (xy Γ) ad S) H.size q → xA Γ q := by
    intro q hq
    rcases hq with ⟨k, en, hq⟩ | hq
    · exact hD.2 k (q, en) hq
    · exact C.2.2.2.2.2.2.1 q (Nat.le_trans hS.1 hq)
  refine ⟨by rw [hU], by rw [hU]; exact hP, va_K.moved hW.alike C.2.2.2.2.2.1, hD.weaken (fun _ _ _ _ => trivial), ?_, jX0.warm hW C.2.2.2.2.2.2.2.2.2.1⟩
  rw [hU, hn.1 (-3) (by omega)]
  exact jE.warm hW C.2.2.2.2.2.2.2.2.1 (fun a h1 h2 => hS.2.1 a h1 h2) hfree
theorem jgood {m : Nat} (h : m < 343) (hl : m ≠ 342) : GoodIn jtbl (jws m) := by
  intro w hw
  have hm : w ∈ jtbl := by
    rcases List.mem_cons.mp hw with e | e
    · rw [e]
      exact cw_ok h hl
    · exact e
  exact ⟨hm, good_of_word (List.mem_filter.mp hm).2⟩
/-- facts of a method that can be called, by program -/
def jcallee (m n : Nat) : Bool := decide (m < 343 ∧ m ≠ 342 ∧ (jme m).2.2.2.2 < 17 ∧ (jme m).2.2.1 ≤ 30 ∧ (jy m).cls = jcn.getD (jme m).2.2.2.2 "" ∧ (jy m).cls ≠ "java/lang/invoke/MethodHandle" ∧ (jy m).cls ≠ "java/lang/invoke/VarHandle" ∧ (parseMethodDescriptor (jy m).desc).map (fun d => d.parameters.length) = some n)
def jrtI (m : Nat) : Int := match jrt m with
  | none => 99
  | some g => g
/-- virtual calls: the link's number b in jml -/
def hCallV : jH := fun own cc pc a b t => match jml[b.toNat]? with
  | some (o, i, m) => dc cc pc (.invokevirtual i) 3 && (decide (o = own ∧ m = a.toNat ∧ m ∈ jinst ∧ (m ∈ jvt ∨ m ∈ jvp) ∧ 1 ≤ (t.getD 0 0).toNat ∧ t.getD 1 0 = jrtI m ∧ (t.getD 2 0).toNat = 10 + (jme m).2.2.2.2 ∧ (jme m).2.2.2.2 ≤ 12) && jcallee m ((t.getD 0 0).toNat - 1))
  | none => false
theorem jstk {m : Nat} {t : List Int} {rest : List jV} {z : Int} (h : t.getD 1 0 = jrtI m) : (if t.getD 1 0 = 99 then rest else ((t.getD 1 0).toNat, z) :: rest) = jpush (jrt m) z rest := by
  rw [h]
  unfold jrtI
  have hj : jrt m = none ∨ jrt m = some 0 ∨ jrt m = some 1 ∨ jrt m = some 24 := by
    unfold jrt
    split
    · exact Or.inl rfl
    · exact Or.inr (Or.inr (Or.inl rfl))
    · exact Or.inr (Or.inr (Or.inr rfl))
    · exact Or.inr (Or.inl rfl)
  rcases hj with q | q | q | q <;> rw [q] <;> rfl
theorem jtake {st : List jV} {n : Nat} (h : n ≤ st.length) : st = (st.take n).reverse.reverse ++ st.drop n := by
  rw [List.reverse_reverse, List.take_append_drop]
/-- the receiver and the other arguments -/
theorem jrecv {st : List jV} {n : Nat} {v : jV} (h : (st.take n).getLast? = some v) : ∃ as : List jV, (st.take n).reverse = v :: as := by
  cases hr : (st.take n).reverse with
  | nil =>
    rw [List.reverse_eq_nil_iff] at hr
    rw [hr] at h
    cases h
  | cons w as =>
    refine ⟨as, ?_⟩
    have e : st.take n = as.reverse ++ [w] := by
      rw [← List.reverse_reverse (st.take n), hr, List.reverse_cons]
    rw [e, List.getLast?_append] at h
    simp at h
    rw [h]
end
section
/-! the simulation of calls -/
set_option maxRecDepth 20000 in
theorem room_ar {dd mL f lo : Nat} (h : mL ≤ 30) (hR : dd + 8 ≤ f ∧ 60 * (dd + 8) ≤ lo) : dd + 7 + 1 ≤ f ∧ 8 + (mL + 11) + 60 * (dd + 7) ≤ lo := by omega
theorem room_ce {a k c s j d x y : Nat} (h1 : k ≤ a) (h2 : a ≤ c) (h3 : c - k ≤ x) (h4 : j ≤ s) (h5 : s ≤ d) (h6 : d - j ≤ y) : (a - k) + (c - a) ≤ x ∧ (s - j) + (d - s) ≤ y := by omega
theorem sCallV {Γ : jCtx} {own : Nat} {cc : ByteArray} {ce : jC} {rF : Int × jS} {dd : Nat} (C : jCx Γ own cc) (hce : ∀ (m : Nat) (args : List jV) (S : jS) (z : Int) (S' : jS), m < 343 → ce m args S = some (z, S') → jMet (xl Γ) dd m args S z S') (hgr : ∀ (m : Nat) (args : List jV) (S : jS) (z : Int) (S' : jS), m < 343 → ce m args S = some (z, S') → gN S.1 ≤ gN S'.1 ∧ gM S.1 ≤ gM S'.1) (hR : ∀ (m : Nat) (args : List jV) (S : jS) (r : Int × jS), m < 343 → ce m args S = some r → dd + 8 ≤ (xR Γ).frames ∧ 60 * (dd + 8) ≤ (xR Γ).locals) : jSimM Γ own cc ce rF hCallV oCallV := by
  intro a b t pc loc st S k hc ho hm hk
  unfold hCallV at hc
  split at hc
  case h_2 => cases hc
  rename_i o i m hq
  simp only [Bool.and_eq_true, decide_eq_true_eq] at hc
  obtain ⟨hdg, hc1, hc2⟩ := hc
  have hc2 := of_decide_eq_true hc2
  obtain ⟨hown, hma, hin, hsel, hn1, htag, hrt, hcl⟩ := hc1
  obtain ⟨m1, m2, m3, m4, m5, m6, m7, m8⟩ := hc2
  have hmem := List.mem_of_getElem? hq
  unfold oCallV at ho
  split at ho
  case h_2 => cases ho
  rename_i u r hlast
  split at ho
  case isFalse => cases ho
  rename_i hu
  split at ho
  case isFalse => cases ho
  rename_i hr
  unfold oCall at ho
  split at ho
  case isFalse => cases ho
  rename_i hlen
  split at ho
  case isFalse => cases ho
  rename_i hj
  rw [Option.bind_eq_some_iff] at ho
  obtain ⟨⟨z, S'⟩, hcall, ho⟩ := ho
  dsimp only at ho
  rw [jstk htag] at ho
  rw [← hma] at hcall
  generalize (t.getD 0 0).toNat = n at *
  obtain ⟨as, has⟩ := jrecv hlast
  intro ls H locs ad hat
  have hat' := hat
  obtain ⟨hl, hwf, hlo, hst, hn, hP, hD, hS⟩ := hat'
  have hargs : ∀ v ∈ (st.take n).reverse, jok S v := fun v hv => hst v (List.mem_of_mem_take (List.mem_reverse.mp hv))
  have hrest : ∀ v ∈ st.drop n, jok S v := fun v hv => hst v (List.mem_of_mem_drop hv)
  have M := hce m _ S z S' m1 hcall (xD Γ) (xy Γ) ad (xv Γ) H.size hwf hargs hn.2.2.2.1
  have hg := hgr m _ S z S' m1 hcall
  have hR := hR m _ S _ m1 hcall
  have hroom := hm _ _ _ _ ho
  have h1 := hn.2.1
  have h2 := hn.2.2.1
  have hlw : (st.take n).length = n := by rw [List.length_take]; omega
  have hstk : st.map (jtr ad) = ((st.take n).reverse.map (jtr ad)).reverse ++ (st.drop n).map (jtr ad) := by
    rw [← List.map_reverse, ← List.map_append, List.reverse_reverse, List.take_append_drop]
  have hlen2 : ((st.take n).reverse).length = n := by rw [List.length_reverse]; exact hlw
  have hroom2 : (jrm dd (gN S'.1 - gN S.1) (gM S'.1 - gM S.1)).frames + 1 ≤ (xR Γ).frames ∧ 8 + ((jme m).2.2.1 + 11) + (jrm dd (gN S'.1 - gN S.1) (gM S'.1 - gM S.1)).locals ≤ (xR Γ).locals := by
    exact room_ar m4 hR
  have hini : (Cond.initialized (jy m).cls).before (xa Γ) (xs Γ) = true := by
    rw [m5]
    exact C.2.2.2.2.1 _ (ini_ok m3)
  have hlink : (Cond.methodLink (jcn.getD own "") i (jy m)).before (xa Γ) (xs Γ) = true := by
    rw [← hown]
    exact C.2.2.2.2.1 _ (ml_ok hmem)
  have hro := hargs (u, r) (by rw [has]; exact List.mem_cons_self)
  obtain ⟨hrn, hrk⟩ := jok_at (q := (jme m).2.2.2.2) hro (by rw [hu, hrt]) (by omega) hr
  have hrcv := va_recv C.2.2.2.2.2.1 hP (ci := (jme m).2.2.2.2) (cls_ok _ hcl) (jw_obj (cy := xy Γ) (ad := ad) hr hrn hrk hcl)
  have hcn : (jy m).cls = jcn.getD (jme m).2.2.2.2 "" := m5
  rw [hstk]
  rw [has] at M hlen2 ⊢
  rw [List.map_cons, jtr_at (t := u) (by omega) (by omega)] at M ⊢
  have hK := hk _ _ _ _ ho
  refine jback C (rest := st.drop n) (va_runV (C := jcn.getD (jme m).2.2.2.2 "") (As := as.map (jtr ad)) (rest := (st.drop n).map (jtr ad)) (b := ad r) ⟨C.1, C.2.1, C.2.2.1, C.2.2.2.1, C.2.2.2.2.1⟩ M ⟨callB_of (n - 1) C.2.2.2.2.1 (jgood m1 m2) rfl rfl rfl hini hlink ⟨m6, m7, m8⟩ hroom2, (C.2.2.2.2.1 _ (in_ok hin)), (by rw [← hcn]; exact C.2.2.2.2.1 _ (vt_ok hsel))⟩ ⟨jblind _ _ _ _ _ _ _, hrcv, (fun U hU hW => ⟨rfl, jPre_of C hat U hU hW⟩)⟩ rfl (by rw [List.length_map]; rw [List.length_cons] at hlen2; omega) (by rw [hl.1]) (by rw [List.reverse_cons, List.append_assoc]; rfl) (lv_room (by rw [jcat_sum]; exact hj)) (dc_ok hdg) (room_ce h1 hg.1 hroom.1 h2 hg.2 hroom.2)) hat hrest hK

def hCallVN : jH := fun own cc pc a b t => match jnl[b.toNat]? with
  | some (o, i, m) => dc cc pc (.invokevirtual i) 3 && (decide (o = own ∧ m = a.toNat ∧ m ∈ jinst ∧ (m ∈ jvt ∨ m ∈ jvp) ∧ 1 ≤ (t.getD 0 0).toNat ∧ t.getD 1 0 = jrtI m ∧ (t.getD 2 0).toNat = 10 + (jme m).2.2.2.2 ∧ (jme m).2.2.2.2 ≤ 12) && jcallee m ((t.getD 0 0).toNat - 1))
  | none => false
theorem sCallVN {Γ : jCtx} {own : Nat} {cc : ByteArray} {ce : jC} {rF : Int × jS} {dd : Nat} (C : jCx Γ own cc) (hce : ∀ (m : Nat) (args : List jV) (S : jS) (z : Int) (S' : jS), m < 343 → ce m args S = some (z, S') → jMet (xl Γ) dd m args S z S') (hgr : ∀ (m : Nat) (args : List jV) (S : jS) (z : Int) (S' : jS), m < 343 → ce m args S = some (z, S') → gN S.1 ≤ gN S'.1 ∧ gM S.1 ≤ gM S'.1) (hR : ∀ (m : Nat) (args : List jV) (S : jS) (r : Int × jS), m < 343 → ce m args S = some r → dd + 8 ≤ (xR Γ).frames ∧ 60 * (dd + 8) ≤ (xR Γ).locals) : jSimM Γ own cc ce rF hCallVN oCallV := by
  intro a b t pc loc st S k hc ho hm hk
  unfold hCallVN at hc
  split at hc
  case h_2 => cases hc
  rename_i o i m hq
  simp only [Bool.and_eq_true, decide_eq_true_eq] at hc
  obtain ⟨hdg, hc1, hc2⟩ := hc
  have hc2 := of_decide_eq_true hc2
  obtain ⟨hown, hma, hin, hsel, hn1, htag, hrt, hcl⟩ := hc1
  obtain ⟨m1, m2, m3, m4, m5, m6, m7, m8⟩ := hc2
  have hmem := List.mem_of_getElem? hq
  unfold oCallV at ho
  split at ho
  case h_2 => cases ho
  rename_i u r hlast
  split at ho
  case isFalse => cases ho
  rename_i hu
  split at ho
  case isFalse => cases ho
  rename_i hr
  unfold oCall at ho
  split at ho
  case isFalse => cases ho
  rename_i hlen
  split at ho
  case isFalse => cases ho
  rename_i hj
  rw [Option.bind_eq_some_iff] at ho
  obtain ⟨⟨z, S'⟩, hcall, ho⟩ := ho
  dsimp only at ho
  rw [jstk htag] at ho
  rw [← hma] at hcall
  generalize (t.getD 0 0).toNat = n at *
  obtain ⟨as, has⟩ := jrecv hlast
  intro ls H locs ad hat
  have hat' := hat
  obtain ⟨hl, hwf, hlo, hst, hn, hP, hD, hS⟩ := hat'
  have hargs : ∀ v ∈ (st.take n).reverse, jok S v := fun v hv => hst v (List.mem_of_mem_take (List.mem_reverse.mp hv))
  have hrest : ∀ v ∈ st.drop n, jok S v := fun v hv => hst v (List.mem_of_mem_drop hv)
  have M := hce m _ S z S' m1 hcall (xD Γ) (xy Γ) ad (xv Γ) H.size hwf hargs hn.2.2.2.1
  have hg := hgr m _ S z S' m1 hcall
  have hR := hR m _ S _ m1 hcall
  have hroom := hm _ _ _ _ ho
  have h1 := hn.2.1
  have h2 := hn.2.2.1
  have hlw : (st.take n).length = n := by rw [List.length_take]; omega
  have hstk : st.map (jtr ad) = ((st.take n).reverse.map (jtr ad)).reverse ++ (st.drop n).map (jtr ad) := by
    rw [← List.map_reverse, ← List.map_append, List.reverse_reverse, List.take_append_drop]
  have hlen2 : ((st.take n).reverse).length = n := by rw [List.length_reverse]; exact hlw
  have hroom2 : (jrm dd (gN S'.1 - gN S.1) (gM S'.1 - gM S.1)).frames + 1 ≤ (xR Γ).frames ∧ 8 + ((jme m).2.2.1 + 11) + (jrm dd (gN S'.1 - gN S.1) (gM S'.1 - gM S.1)).locals ≤ (xR Γ).locals := by
    exact room_ar m4 hR
  have hini : (Cond.initialized (jy m).cls).before (xa Γ) (xs Γ) = true := by
    rw [m5]
    exact C.2.2.2.2.1 _ (ini_ok m3)
  have hlink : va_Nw (.methodLinkNest (jcn.getD own "") i (jy m) "SundayPit") (xs Γ) := by
    rw [← hown]
    exact C.2.2.2.2.2.2.2.2.2.1.1 _ hmem
  have hro := hargs (u, r) (by rw [has]; exact List.mem_cons_self)
  obtain ⟨hrn, hrk⟩ := jok_at (q := (jme m).2.2.2.2) hro (by rw [hu, hrt]) (by omega) hr
  have hrcv := va_recv C.2.2.2.2.2.1 hP (ci := (jme m).2.2.2.2) (cls_ok _ hcl) (jw_obj (cy := xy Γ) (ad := ad) hr hrn hrk hcl)
  have hcn : (jy m).cls = jcn.getD (jme m).2.2.2.2 "" := m5
  rw [hstk]
  rw [has] at M hlen2 ⊢
  rw [List.map_cons, jtr_at (t := u) (by omega) (by omega)] at M ⊢
  have hK := hk _ _ _ _ ho
  refine jback C (rest := st.drop n) (va_runVN (C := jcn.getD (jme m).2.2.2.2 "") (host := "SundayPit") (As := as.map (jtr ad)) (rest := (st.drop n).map (jtr ad)) (b := ad r) ⟨C.1, C.2.1, C.2.2.1, C.2.2.2.1, C.2.2.2.2.1⟩ M ⟨va_cnB (n - 1) C.2.2.2.2.1 (jgood m1 m2) rfl rfl rfl hlink hini ⟨m6, m7, m8⟩ hroom2, (C.2.2.2.2.1 _ (in_ok hin)), (by rw [← hcn]; exact C.2.2.2.2.1 _ (vt_ok hsel))⟩ ⟨jblind _ _ _ _ _ _ _, hrcv, (fun U hU hW => ⟨rfl, jPre_of C hat U hU hW⟩)⟩ rfl (by rw [List.length_map]; rw [List.length_cons] at hlen2; omega) (by rw [hl.1]) (by rw [List.reverse_cons, List.append_assoc]; rfl) (lv_room (by rw [jcat_sum]; exact hj)) (dc_ok hdg) (room_ce h1 hg.1 hroom.1 h2 hg.2 hroom.2)) hat hrest hK

def hCallI : jH := fun own cc pc a b t => match jml[b.toNat]? with
  | some (o, i, m) => dc cc pc (.invokespecial i) 3 && (decide (o = own ∧ m = a.toNat ∧ m ∈ jinst ∧ ((jy m).name = "<init>" ∧ (jme m).2.2.2.1 = none) ∧ 1 ≤ (t.getD 0 0).toNat ∧ t.getD 1 0 = jrtI m ∧ (t.getD 2 0).toNat = 10 + (jme m).2.2.2.2 ∧ (jme m).2.2.2.2 ≤ 12) && jcallee m ((t.getD 0 0).toNat - 1))
  | none => false
theorem sCallI {Γ : jCtx} {own : Nat} {cc : ByteArray} {ce : jC} {rF : Int × jS} {dd : Nat} (C : jCx Γ own cc) (hce : ∀ (m : Nat) (args : List jV) (S : jS) (z : Int) (S' : jS), m < 343 → ce m args S = some (z, S') → jMet (xl Γ) dd m args S z S') (hgr : ∀ (m : Nat) (args : List jV) (S : jS) (z : Int) (S' : jS), m < 343 → ce m args S = some (z, S') → gN S.1 ≤ gN S'.1 ∧ gM S.1 ≤ gM S'.1) (hR : ∀ (m : Nat) (args : List jV) (S : jS) (r : Int × jS), m < 343 → ce m args S = some r → dd + 8 ≤ (xR Γ).frames ∧ 60 * (dd + 8) ≤ (xR Γ).locals) : jSimM Γ own cc ce rF hCallI oCallV := by
  intro a b t pc loc st S k hc ho hm hk
  unfold hCallI at hc
  split at hc
  case h_2 => cases hc
  rename_i o i m hq
  simp only [Bool.and_eq_true, decide_eq_true_eq] at hc
  obtain ⟨hdg, hc1, hc2⟩ := hc
  have hc2 := of_decide_eq_true hc2
  obtain ⟨hown, hma, hin, hsel, hn1, htag, hrt, hcl⟩ := hc1
  obtain ⟨m1, m2, m3, m4, m5, m6, m7, m8⟩ := hc2
  have hmem := List.mem_of_getElem? hq
  unfold oCallV at ho
  split at ho
  case h_2 => cases ho
  rename_i u r hlast
  split at ho
  case isFalse => cases ho
  rename_i hu
  split at ho
  case isFalse => cases ho
  rename_i hr
  unfold oCall at ho
  split at ho
  case isFalse => cases ho
  rename_i hlen
  split at ho
  case isFalse => cases ho
  rename_i hj
  rw [Option.bind_eq_some_iff] at ho
  obtain ⟨⟨z, S'⟩, hcall, ho⟩ := ho
  dsimp only at ho
  rw [jstk htag] at ho
  rw [← hma] at hcall
  generalize (t.getD 0 0).toNat = n at *
  obtain ⟨as, has⟩ := jrecv hlast
  intro ls H locs ad hat
  have hat' := hat
  obtain ⟨hl, hwf, hlo, hst, hn, hP, hD, hS⟩ := hat'
  have hargs : ∀ v ∈ (st.take n).reverse, jok S v := fun v hv => hst v (List.mem_of_mem_take (List.mem_reverse.mp hv))
  have hrest : ∀ v ∈ st.drop n, jok S v := fun v hv => hst v (List.mem_of_mem_drop hv)
  have M := hce m _ S z S' m1 hcall (xD Γ) (xy Γ) ad (xv Γ) H.size hwf hargs hn.2.2.2.1
  have hg := hgr m _ S z S' m1 hcall
  have hR := hR m _ S _ m1 hcall
  have hroom := hm _ _ _ _ ho
  have h1 := hn.2.1
  have h2 := hn.2.2.1
  have hlw : (st.take n).length = n := by rw [List.length_take]; omega
  have hstk : st.map (jtr ad) = ((st.take n).reverse.map (jtr ad)).reverse ++ (st.drop n).map (jtr ad) := by
    rw [← List.map_reverse, ← List.map_append, List.reverse_reverse, List.take_append_drop]
  have hlen2 : ((st.take n).reverse).length = n := by rw [List.length_reverse]; exact hlw
  have hroom2 : (jrm dd (gN S'.1 - gN S.1) (gM S'.1 - gM S.1)).frames + 1 ≤ (xR Γ).frames ∧ 8 + ((jme m).2.2.1 + 11) + (jrm dd (gN S'.1 - gN S.1) (gM S'.1 - gM S.1)).locals ≤ (xR Γ).locals := by
    exact room_ar m4 hR
  have hini : (Cond.initialized (jy m).cls).before (xa Γ) (xs Γ) = true := by
    rw [m5]
    exact C.2.2.2.2.1 _ (ini_ok m3)
  have hlink : (Cond.methodLink (jcn.getD own "") i (jy m)).before (xa Γ) (xs Γ) = true := by
    rw [← hown]
    exact C.2.2.2.2.1 _ (ml_ok hmem)
  have hcode : jcodew (jme m) = Cond.code (jy m) (jme m).2.1 (jme m).2.2.1 none := by
    unfold jcodew
    rw [hsel.2]
    rfl
  have hro := hargs (u, r) (by rw [has]; exact List.mem_cons_self)
  obtain ⟨hrn, hrk⟩ := jok_at (q := (jme m).2.2.2.2) hro (by rw [hu, hrt]) (by omega) hr
  have hrcv := va_recv C.2.2.2.2.2.1 hP (ci := (jme m).2.2.2.2) (cls_ok _ hcl) (jw_obj (cy := xy Γ) (ad := ad) hr hrn hrk hcl)
  have hcn : (jy m).cls = jcn.getD (jme m).2.2.2.2 "" := m5
  rw [hstk]
  rw [has] at M hlen2 ⊢
  rw [List.map_cons, jtr_at (t := u) (by omega) (by omega)] at M ⊢
  have hK := hk _ _ _ _ ho
  refine jback C (rest := st.drop n) (va_runI (bytes := (jme m).2.1) (maxL := (jme m).2.2.1) (As := as.map (jtr ad)) (rest := (st.drop n).map (jtr ad)) (b := ad r) ⟨C.1, C.2.1, C.2.2.1, C.2.2.2.1, C.2.2.2.2.1⟩ M ⟨callB_of (n - 1) (ret := none) (ws' := jtbl) C.2.2.2.2.1 (jgood m1 m2) (by unfold jws; rw [hcode]) rfl rfl hini hlink ⟨m6, m7, m8⟩ hroom2, hsel.1, (C.2.2.2.2.1 _ (in_ok hin))⟩ ⟨jblind _ _ _ _ _ _ _, (fun U hU hW => ⟨rfl, jPre_of C hat U hU hW⟩)⟩ rfl (by rw [List.length_map]; rw [List.length_cons] at hlen2; omega) (by rw [hl.1]) (by rw [List.reverse_cons, List.append_assoc]; rfl) (lv_room (by rw [jcat_sum]; exact hj)) (dc_ok hdg) (room_ce h1 hg.1 hroom.1 h2 hg.2 hroom.2)) hat hrest hK

def hCallIN : jH := fun own cc pc a b t => match jnl[b.toNat]? with
  | some (o, i, m) => dc cc pc (.invokespecial i) 3 && (decide (o = own ∧ m = a.toNat ∧ m ∈ jinst ∧ ((jy m).name = "<init>" ∧ (jme m).2.2.2.1 = none) ∧ 1 ≤ (t.getD 0 0).toNat ∧ t.getD 1 0 = jrtI m ∧ (t.getD 2 0).toNat = 10 + (jme m).2.2.2.2 ∧ (jme m).2.2.2.2 ≤ 12) && jcallee m ((t.getD 0 0).toNat - 1))
  | none => false
theorem sCallIN {Γ : jCtx} {own : Nat} {cc : ByteArray} {ce : jC} {rF : Int × jS} {dd : Nat} (C : jCx Γ own cc) (hce : ∀ (m : Nat) (args : List jV) (S : jS) (z : Int) (S' : jS), m < 343 → ce m args S = some (z, S') → jMet (xl Γ) dd m args S z S') (hgr : ∀ (m : Nat) (args : List jV) (S : jS) (z : Int) (S' : jS), m < 343 → ce m args S = some (z, S') → gN S.1 ≤ gN S'.1 ∧ gM S.1 ≤ gM S'.1) (hR : ∀ (m : Nat) (args : List jV) (S : jS) (r : Int × jS), m < 343 → ce m args S = some r → dd + 8 ≤ (xR Γ).frames ∧ 60 * (dd + 8) ≤ (xR Γ).locals) : jSimM Γ own cc ce rF hCallIN oCallV := by
  intro a b t pc loc st S k hc ho hm hk
  unfold hCallIN at hc
  split at hc
  case h_2 => cases hc
  rename_i o i m hq
  simp only [Bool.and_eq_true, decide_eq_true_eq] at hc
  obtain ⟨hdg, hc1, hc2⟩ := hc
  have hc2 := of_decide_eq_true hc2
  obtain ⟨hown, hma, hin, hsel, hn1, htag, hrt, hcl⟩ := hc1
  obtain ⟨m1, m2, m3, m4, m5, m6, m7, m8⟩ := hc2
  have hmem := List.mem_of_getElem? hq
  unfold oCallV at ho
  split at ho
  case h_2 => cases ho
  rename_i u r hlast
  split at ho
  case isFalse => cases ho
  rename_i hu
  split at ho
  case isFalse => cases ho
  rename_i hr
  unfold oCall at ho
  split at ho
  case isFalse => cases ho
  rename_i hlen
  split at ho
  case isFalse => cases ho
  rename_i hj
  rw [Option.bind_eq_some_iff] at ho
  obtain ⟨⟨z, S'⟩, hcall, ho⟩ := ho
  dsimp only at ho
  rw [jstk htag] at ho
  rw [← hma] at hcall
  generalize (t.getD 0 0).toNat = n at *
  obtain ⟨as, has⟩ := jrecv hlast
  intro ls H locs ad hat
  have hat' := hat
  obtain ⟨hl, hwf, hlo, hst, hn, hP, hD, hS⟩ := hat'
  have hargs : ∀ v ∈ (st.take n).reverse, jok S v := fun v hv => hst v (List.mem_of_mem_take (List.mem_reverse.mp hv))
  have hrest : ∀ v ∈ st.drop n, jok S v := fun v hv => hst v (List.mem_of_mem_drop hv)
  have M := hce m _ S z S' m1 hcall (xD Γ) (xy Γ) ad (xv Γ) H.size hwf hargs hn.2.2.2.1
  have hg := hgr m _ S z S' m1 hcall
  have hR := hR m _ S _ m1 hcall
  have hroom := hm _ _ _ _ ho
  have h1 := hn.2.1
  have h2 := hn.2.2.1
  have hlw : (st.take n).length = n := by rw [List.length_take]; omega
  have hstk : st.map (jtr ad) = ((st.take n).reverse.map (jtr ad)).reverse ++ (st.drop n).map (jtr ad) := by
    rw [← List.map_reverse, ← List.map_append, List.reverse_reverse, List.take_append_drop]
  have hlen2 : ((st.take n).reverse).length = n := by rw [List.length_reverse]; exact hlw
  have hroom2 : (jrm dd (gN S'.1 - gN S.1) (gM S'.1 - gM S.1)).frames + 1 ≤ (xR Γ).frames ∧ 8 + ((jme m).2.2.1 + 11) + (jrm dd (gN S'.1 - gN S.1) (gM S'.1 - gM S.1)).locals ≤ (xR Γ).locals := by
    exact room_ar m4 hR
  have hini : (Cond.initialized (jy m).cls).before (xa Γ) (xs Γ) = true := by
    rw [m5]
    exact C.2.2.2.2.1 _ (ini_ok m3)
  have hlink : va_Nw (.methodLinkNest (jcn.getD own "") i (jy m) "SundayPit") (xs Γ) := by
    rw [← hown]
    exact C.2.2.2.2.2.2.2.2.2.1.1 _ hmem
  have hcode : jcodew (jme m) = Cond.code (jy m) (jme m).2.1 (jme m).2.2.1 none := by
    unfold jcodew
    rw [hsel.2]
    rfl
  have hro := hargs (u, r) (by rw [has]; exact List.mem_cons_self)
  obtain ⟨hrn, hrk⟩ := jok_at (q := (jme m).2.2.2.2) hro (by rw [hu, hrt]) (by omega) hr
  have hrcv := va_recv C.2.2.2.2.2.1 hP (ci := (jme m).2.2.2.2) (cls_ok _ hcl) (jw_obj (cy := xy Γ) (ad := ad) hr hrn hrk hcl)
  have hcn : (jy m).cls = jcn.getD (jme m).2.2.2.2 "" := m5
  rw [hstk]
  rw [has] at M hlen2 ⊢
  rw [List.map_cons, jtr_at (t := u) (by omega) (by omega)] at M ⊢
  have hK := hk _ _ _ _ ho
  refine jback C (rest := st.drop n) (va_runIN (bytes := (jme m).2.1) (maxL := (jme m).2.2.1) (host := "SundayPit") (As := as.map (jtr ad)) (rest := (st.drop n).map (jtr ad)) (b := ad r) ⟨C.1, C.2.1, C.2.2.1, C.2.2.2.1, C.2.2.2.2.1⟩ M ⟨va_cnB (n - 1) (ret := none) (ws' := jtbl) C.2.2.2.2.1 (jgood m1 m2) (by unfold jws; rw [hcode]) rfl rfl hlink hini ⟨m6, m7, m8⟩ hroom2, hsel.1, (C.2.2.2.2.1 _ (in_ok hin))⟩ ⟨jblind _ _ _ _ _ _ _, (fun U hU hW => ⟨rfl, jPre_of C hat U hU hW⟩)⟩ rfl (by rw [List.length_map]; rw [List.length_cons] at hlen2; omega) (by rw [hl.1]) (by rw [List.reverse_cons, List.append_assoc]; rfl) (lv_room (by rw [jcat_sum]; exact hj)) (dc_ok hdg) (room_ce h1 hg.1 hroom.1 h2 hg.2 hroom.2)) hat hrest hK

def hCallS : jH := fun own cc pc a b t => match jml[b.toNat]? with
  | some (o, i, m) => dc cc pc (.invokestatic i) 3 && (decide (o = own ∧ m = a.toNat ∧ m ∈ jstat ∧ t.getD 1 0 = jrtI m) && jcallee m (t.getD 0 0).toNat)
  | none => false
theorem sCallS {Γ : jCtx} {own : Nat} {cc : ByteArray} {ce : jC} {rF : Int × jS} {dd : Nat} (C : jCx Γ own cc) (hce : ∀ (m : Nat) (args : List jV) (S : jS) (z : Int) (S' : jS), m < 343 → ce m args S = some (z, S') → jMet (xl Γ) dd m args S z S') (hgr : ∀ (m : Nat) (args : List jV) (S : jS) (z : Int) (S' : jS), m < 343 → ce m args S = some (z, S') → gN S.1 ≤ gN S'.1 ∧ gM S.1 ≤ gM S'.1) (hR : ∀ (m : Nat) (args : List jV) (S : jS) (r : Int × jS), m < 343 → ce m args S = some r → dd + 8 ≤ (xR Γ).frames ∧ 60 * (dd + 8) ≤ (xR Γ).locals) : jSimM Γ own cc ce rF hCallS oCall := by
  intro a b t pc loc st S k hc ho hm hk
  unfold hCallS at hc
  split at hc
  case h_2 => cases hc
  rename_i o i m hq
  simp only [Bool.and_eq_true, decide_eq_true_eq] at hc
  obtain ⟨hdg, hc1, hc2⟩ := hc
  have hc2 := of_decide_eq_true hc2
  obtain ⟨hown, hma, hin, htag⟩ := hc1
  obtain ⟨m1, m2, m3, m4, m5, m6, m7, m8⟩ := hc2
  have hmem := List.mem_of_getElem? hq
  unfold oCall at ho
  split at ho
  case isFalse => cases ho
  rename_i hlen
  split at ho
  case isFalse => cases ho
  rename_i hj
  rw [Option.bind_eq_some_iff] at ho
  obtain ⟨⟨z, S'⟩, hcall, ho⟩ := ho
  dsimp only at ho
  rw [jstk htag] at ho
  rw [← hma] at hcall
  generalize (t.getD 0 0).toNat = n at *
  obtain ⟨as, has⟩ : ∃ as : List jV, (st.take n).reverse = as := ⟨_, rfl⟩
  intro ls H locs ad hat
  have hat' := hat
  obtain ⟨hl, hwf, hlo, hst, hn, hP, hD, hS⟩ := hat'
  have hargs : ∀ v ∈ (st.take n).reverse, jok S v := fun v hv => hst v (List.mem_of_mem_take (List.mem_reverse.mp hv))
  have hrest : ∀ v ∈ st.drop n, jok S v := fun v hv => hst v (List.mem_of_mem_drop hv)
  have M := hce m _ S z S' m1 hcall (xD Γ) (xy Γ) ad (xv Γ) H.size hwf hargs hn.2.2.2.1
  have hg := hgr m _ S z S' m1 hcall
  have hR := hR m _ S _ m1 hcall
  have hroom := hm _ _ _ _ ho
  have h1 := hn.2.1
  have h2 := hn.2.2.1
  have hlw : (st.take n).length = n := by rw [List.length_take]; omega
  have hstk : st.map (jtr ad) = ((st.take n).reverse.map (jtr ad)).reverse ++ (st.drop n).map (jtr ad) := by
    rw [← List.map_reverse, ← List.map_append, List.reverse_reverse, List.take_append_drop]
  have hlen2 : ((st.take n).reverse).length = n := by rw [List.length_reverse]; exact hlw
  have hroom2 : (jrm dd (gN S'.1 - gN S.1) (gM S'.1 - gM S.1)).frames + 1 ≤ (xR Γ).frames ∧ 8 + ((jme m).2.2.1 + 11) + (jrm dd (gN S'.1 - gN S.1) (gM S'.1 - gM S.1)).locals ≤ (xR Γ).locals := by
    exact room_ar m4 hR
  have hini : (Cond.initialized (jy m).cls).before (xa Γ) (xs Γ) = true := by
    rw [m5]
    exact C.2.2.2.2.1 _ (ini_ok m3)
  have hlink : (Cond.methodLink (jcn.getD own "") i (jy m)).before (xa Γ) (xs Γ) = true := by
    rw [← hown]
    exact C.2.2.2.2.1 _ (ml_ok hmem)
  rw [hstk]
  rw [has] at M hlen2 ⊢
  have hK := hk _ _ _ _ ho
  refine jback C (rest := st.drop n) (va_runS (As := as.map (jtr ad)) (rest := (st.drop n).map (jtr ad)) ⟨C.1, C.2.1, C.2.2.1, C.2.2.2.1, C.2.2.2.2.1⟩ M ⟨callB_of n C.2.2.2.2.1 (jgood m1 m2) rfl rfl rfl hini hlink ⟨m6, m7, m8⟩ hroom2, (C.2.2.2.2.1 _ (st_ok hin))⟩ ⟨jblind _ _ _ _ _ _ _, (fun U hU hW => ⟨rfl, jPre_of C hat U hU hW⟩)⟩ rfl (by rw [List.length_map]; exact hlen2) (by rw [hl.1]) (rfl) (lv_room (by rw [jcat_sum]; exact hj)) (dc_ok hdg) (room_ce h1 hg.1 hroom.1 h2 hg.2 hroom.2)) hat hrest hK
end
section
/-! the ends of methods -/
def hTrue : jH := fun _ _ _ _ _ _ => true
def hRetI : jH := fun _ cc pc _ _ _ => dc cc pc .ireturn 1
def hRetL : jH := fun _ cc pc _ _ _ => dc cc pc .lreturn 1
def hRetR : jH := fun _ cc pc a _ _ => dc cc pc .areturn 1 && decide (a = 24)
def hRetZ : jH := fun _ cc pc _ _ _ => dc cc pc .ireturn 1
def hRetV : jH := fun _ cc pc _ _ _ => dc cc pc .return_ 1
def hMulti : jH := fun own cc pc _ b _ => dc cc pc (.multianewarray b.toNat 2) 4 && decide (own = 8 ∧ b = 24)
def hLdcS : jH := fun own cc pc _ _ _ => dc cc pc (.ldc 67) 2 && decide (own = 7)
def hSLen : jH := fun own cc pc _ b _ => dc cc pc (.invokevirtual 69) 3 && decide (own = 7 ∧ b = 69)
def hSChr : jH := fun own cc pc _ b _ => dc cc pc (.invokevirtual 72) 3 && decide (own = 7 ∧ b = 72)
def jchks : List jH := [hTrue, hIconst, hBipush, hSipush, hLdc, hLdcW, hLconst, hLdc2, hIloadN, hIload, hLloadN, hLload, hAloadN, hAload, hIstoreN, hIstore, hLstoreN, hLstore, hAstoreN, hAstore, hIinc, hIadd, hIsub, hImul, hIdiv, hIrem, hIneg, hIshl, hIshr, hIushr, hIand, hIor, hIxor, hLadd, hLsub, hLmul, hLdiv, hLrem, hLand, hLor, hLshl, hLshr, hLcmp, hI2l, hL2i, hDup, hDup2, hPop, hIfEq, hIfNe, hIfLt, hIfGe, hIfGt, hIfLe, hIcEq, hIcNe, hIcLt, hIcGe, hIcGt, hIcLe, hGoto, hIfNN, hTab, hLook, hGet, hGetR, hPut, hPutZ, hPutR, hPutF, hIald, hLald, hZald, hCald, hAald, hIast, hLast, hZst, hCst, hAast, hLen, hNew, hNewA, hNewQ, hMulti, hCallV, hCallVN, hCallI, hCallIN, hCallS, hObj, hRetI, hRetL, hRetR, hRetZ, hRetV, hNull, hCopy, hLdcS, hSLen, hSChr, hSld, hSlen]
/-- the end that a method's answer asks for -/
def jRchk (ret : Option FieldType) (i : jI) : Bool := decide ((i.1 = 91 → ret = some .int) ∧ (i.1 = 92 → ret = some .long) ∧ (i.1 = 93 → ret = some (.array .int)) ∧ (i.1 = 94 → ret = some .boolean) ∧ (i.1 = 95 → ret = none))
/-- the context is that of a method begun at S0 -/
def jBeg (Γ : jCtx) (S0 : jS) : Prop := xk Γ = gN S0.1 ∧ xj Γ = gM S0.1 ∧ xκ Γ = gK S0.1 ∧ xA Γ = va_A (jwld (xy Γ) (xd Γ) S0) (xs Γ).heap.size
theorem jpost_at {Γ : jCtx} {own : Nat} {cc : ByteArray} (C : jCx Γ own cc) {S0 S' : jS} (h0 : jBeg Γ S0) {loc st : List jV} {ls : Array Slot} {H : Heap} {locs : List Loc} {ad : Int → Nat} {rt : Option Nat} {z : Int} (hat : jAt Γ loc st S' ls H locs ad) (hrt : ∀ g, rt = some g → jok S' (g, z)) (t : State) (ht : t.heap = H) (hW : (xs Γ).WarmedH t.vm) : jPost (xD Γ) (xy Γ) (xd Γ) (xs Γ).heap.size S0 rt z S' (xa Γ) (xs Γ) (.returned (rt.map (fun g => jtr ad (g, z)))) t := by
  obtain ⟨hl, hwf, hlo, hst, hn, hP, hD, hS⟩ := hat
  obtain ⟨e1, e2, e3, e4⟩ := h0
  refine ⟨ad, fun w hw => hn.1 w (by rw [e1]; exact hw), rfl, by rw [ht]; exact hP, va_K.moved hW.alike C.2.2.2.2.2.1, by rw [← e4]; exact hD, by rw [← e4]; exact hS.F ht, hwf, hrt, by rw [← e1]; exact hn.2.1, by rw [← e2]; exact hn.2.2.1, hn.2.2.2.1, fun w hw => ?_⟩
  rw [← e3]
  exact hn.2.2.2.2 w (by rw [e1]; exact hw)
/-- .. and what its end must be -/
def jEnd (Γ : jCtx) (S0 : jS) (rt : Option Nat) (rF : Int × jS) : Prop := xQ Γ = MQ (xb Γ) (jPost (xD Γ) (xy Γ) (xd Γ) (xs Γ).heap.size S0 rt rF.1 rF.2) (xa Γ) (xs Γ) (gN rF.2.1 - xk Γ) (gM rF.2.1 - xj Γ) (xA Γ)
def jRets (Γ : jCtx) (own : Nat) (cc : ByteArray) (ret : Option FieldType) (rF : Int × jS) : Prop := ∀ (n : Nat) (a b : Int) (t : List Int) (ce : jC) (pc : Nat) (loc st : List jV) (S : jS) (k : jT), 91 ≤ n → n ≤ 95 → jRchk ret (n, a, b, t) = true → (jchks.getD n hTrue) own cc pc a b t = true → (jops.getD n oBad) a b t ce pc loc st S k = some rF → jK Γ pc loc st S
def jrtF (ret : Option FieldType) : Option Nat := match ret with
  | none => none
  | some .long => some 1
  | some (.array _) => some 24
  | some _ => some 0
theorem jrets_met {Γ : jCtx} {own : Nat} {cc : ByteArray} (C : jCx Γ own cc) {S0 : jS} {ret : Option FieldType} {rt : Option Nat} {rF : Int × jS} (h0 : jBeg Γ S0) (hQ : jEnd Γ S0 rt rF) (hr : (xM Γ).sig.returnType = ret) (hrt : rt = jrtF ret) : jRets Γ own cc ret rF := by
  intro n a b t ce pc loc st S k h1 h2 hre hc ho
  have hre := of_decide_eq_true hre
  dsimp only at hre
  rcases (show n = 91 ∨ n = 92 ∨ n = 93 ∨ n = 94 ∨ n = 95 by omega) with e | e | e | e | e <;> subst e
  · have hret := hre.1 rfl
    subst hret
    change oRet 0 a b t ce pc loc st S k = some rF at ho
    change dc cc pc .ireturn 1 = true at hc
    unfold oRet at ho
    split at ho
    case h_2 => cases ho
    rename_i u z
    split at ho
    case isFalse => cases ho
    rename_i hu
    subst hu
    cases ho
    have hrt : rt = some 0 := hrt
    subst hrt
    intro ls H locs ad hat
    unfold jEnd at hQ
    unfold jW
    rw [hQ]
    exact W.iret C.1 C.2.1 hr (fun t ht hW => jpost_at C h0 hat (fun g hg => by cases hg; exact hat.2.2.2.1 _ List.mem_cons_self) t ht hW) hat.2.2.2.2.2.2.2.2.2 (dc_ok hc) C.2.2.2.2.2.2.2.1
  · have hret := hre.2.1 rfl
    subst hret
    change oRet 1 a b t ce pc loc st S k = some rF at ho
    change dc cc pc .lreturn 1 = true at hc
    unfold oRet at ho
    split at ho
    case h_2 => cases ho
    rename_i u z
    split at ho
    case isFalse => cases ho
    rename_i hu
    subst hu
    cases ho
    have hrt : rt = some 1 := hrt
    subst hrt
    intro ls H locs ad hat
    unfold jEnd at hQ
    unfold jW
    rw [hQ]
    exact W.lret C.1 C.2.1 hr (fun t ht hW => jpost_at C h0 hat (fun g hg => by cases hg; exact hat.2.2.2.1 _ List.mem_cons_self) t ht hW) hat.2.2.2.2.2.2.2.2.2 (dc_ok hc) C.2.2.2.2.2.2.2.1
  · have hret := hre.2.2.1 rfl
    subst hret
    change oRetR a b t ce pc loc st S k = some rF at ho
    change (dc cc pc .areturn 1 && decide (a = 24)) = true at hc
    simp only [Bool.and_eq_true, decide_eq_true_eq] at hc
    obtain ⟨hc, rfl⟩ := hc
    unfold oRetR at ho
    split at ho
    case h_2 => cases ho
    rename_i u z
    split at ho
    case isFalse => cases ho
    rename_i hu
    change u = 24 at hu
    subst hu
    cases ho
    have hrt : rt = some 24 := hrt
    subst hrt
    intro ls H locs ad hat
    unfold jEnd at hQ
    unfold jW
    rw [hQ]
    refine W.aret C.1 C.2.1 hr (Or.inr ⟨_, rfl⟩) ?_ (fun t ht hW => jpost_at C h0 hat (fun g hg => by cases hg; exact hat.2.2.2.1 _ List.mem_cons_self) t ht hW) hat.2.2.2.2.2.2.2.2.2 (dc_ok hc) C.2.2.2.2.2.2.2.1
    by_cases hz : z = -1
    · rw [hz, jtr_null (by omega)]
      exact Or.inl rfl
    · rw [jtr_at (by omega) hz]
      exact Or.inr ⟨_, rfl⟩
  · have hret := hre.2.2.2.1 rfl
    subst hret
    change oRetZ a b t ce pc loc st S k = some rF at ho
    change dc cc pc .ireturn 1 = true at hc
    unfold oRetZ at ho
    split at ho
    case h_2 => cases ho
    rename_i u z
    split at ho
    case isFalse => cases ho
    rename_i hu
    subst hu
    have hz : (z = 0 ∨ z = 1) ∧ rF = (z, S) := by
      by_cases e : z = 0
      · rw [if_pos e] at ho
        rw [e]
        exact ⟨Or.inl rfl, (Option.some.inj ho).symm⟩
      · rw [if_neg e] at ho
        by_cases e2 : z = 1
        · rw [if_pos e2] at ho
          rw [e2]
          exact ⟨Or.inr rfl, (Option.some.inj ho).symm⟩
        · rw [if_neg e2] at ho
          cases ho
    obtain ⟨hz, rfl⟩ := hz
    have hrt : rt = some 0 := hrt
    subst hrt
    intro ls H locs ad hat
    unfold jEnd at hQ
    unfold jW
    rw [hQ]
    refine W.zret (ty := .boolean) C.1 C.2.1 hr ?_ (fun t ht hW => jpost_at C h0 hat (fun g hg => by cases hg; exact hat.2.2.2.1 _ List.mem_cons_self) t ht hW) hat.2.2.2.2.2.2.2.2.2 (dc_ok hc) C.2.2.2.2.2.2.2.1
    rcases hz with q | q
    · rw [q]; exact nar_b0
    · rw [q]; exact nar_b1
  · have hret := hre.2.2.2.2 rfl
    subst hret
    change oRetV a b t ce pc loc st S k = some rF at ho
    change dc cc pc .return_ 1 = true at hc
    unfold oRetV at ho
    split at ho
    case h_2 => cases ho
    cases ho
    have hrt : rt = none := hrt
    subst hrt
    intro ls H locs ad hat
    unfold jEnd at hQ
    unfold jW
    rw [hQ]
    exact W.vret C.1 C.2.1 hr (fun t ht hW => jpost_at C h0 hat (fun g hg => by cases hg) t ht hW) hat.2.2.2.2.2.2.2.2.2 (dc_ok hc) C.2.2.2.2.2.2.2.1
/-- what a step rests on, beside the context -/
def jOth (Γ : jCtx) (own : Nat) (cc : ByteArray) (ce : jC) (rF : Int × jS) : Prop := ∀ n : Nat, (n = 84 ∨ n = 98 ∨ n = 99 ∨ n = 100 ∨ n = 101 ∨ n = 102) → jSimM Γ own cc ce rF (jchks.getD n hTrue) (jops.getD n oBad)
theorem jstep_sim {Γ : jCtx} {own : Nat} {cc : ByteArray} {ce : jC} {rF : Int × jS} {dd : Nat} {ret : Option FieldType} (C : jCx Γ own cc) (hce : ∀ (m : Nat) (args : List jV) (S : jS) (z : Int) (S' : jS), m < 343 → ce m args S = some (z, S') → jMet (xl Γ) dd m args S z S') (hgr : ∀ (m : Nat) (args : List jV) (S : jS) (z : Int) (S' : jS), m < 343 → ce m args S = some (z, S') → gN S.1 ≤ gN S'.1 ∧ gM S.1 ≤ gM S'.1) (hR : ∀ (m : Nat) (args : List jV) (S : jS) (r : Int × jS), m < 343 → ce m args S = some r → dd + 8 ≤ (xR Γ).frames ∧ 60 * (dd + 8) ≤ (xR Γ).locals) (hret : jRets Γ own cc ret rF) (hoth : jOth Γ own cc ce rF)
    (a b : Int) (t : List Int) (pc : Nat) (loc st : List jV) (S : jS) (k : jT) : ∀ n : Nat, (n = 69 → (xM Γ).name = "<init>") → jRchk ret (n, a, b, t) = true → (jchks.getD n hTrue) own cc pc a b t = true → (jops.getD n oBad) a b t ce pc loc st S k = some rF → (∀ pc loc st S, k pc loc st S = some rF → gN S.1 - xk Γ ≤ (xR Γ).cells ∧ gM S.1 - xj Γ ≤ (xR Γ).slots) → (∀ pc loc st S, k pc loc st S = some rF → jK Γ pc loc st S) → jK Γ pc loc st S
  | 0, _, _, _, ho, _, _ => by cases ho
  | 1, _, _, hc, ho, _, hk => sIconst (ce := ce) C a b t pc loc st S k hc ho hk
  | 2, _, _, hc, ho, _, hk => sBipush (ce := ce) C a b t pc loc st S k hc ho hk
  | 3, _, _, hc, ho, _, hk => sSipush (ce := ce) C a b t pc loc st S k hc ho hk
  | 4, _, _, hc, ho, _, hk => sLdc (ce := ce) C a b t pc loc st S k hc ho hk
  | 5, _, _, hc, ho, _, hk => sLdcW (ce := ce) C a b t pc loc st S k hc ho hk
  | 6, _, _, hc, ho, _, hk => sLconst (ce := ce) C a b t pc loc st S k hc ho hk
  | 7, _, _, hc, ho, _, hk => sLdc2 (ce := ce) C a b t pc loc st S k hc ho hk
  | 8, _, _, hc, ho, _, hk => sIloadN (ce := ce) C a b t pc loc st S k hc ho hk
  | 9, _, _, hc, ho, _, hk => sIload (ce := ce) C a b t pc loc st S k hc ho hk
  | 10, _, _, hc, ho, _, hk => sLloadN (ce := ce) C a b t pc loc st S k hc ho hk
  | 11, _, _, hc, ho, _, hk => sLload (ce := ce) C a b t pc loc st S k hc ho hk
  | 12, _, _, hc, ho, _, hk => sAloadN (ce := ce) C a b t pc loc st S k hc ho hk
  | 13, _, _, hc, ho, _, hk => sAload (ce := ce) C a b t pc loc st S k hc ho hk
  | 14, _, _, hc, ho, _, hk => sIstoreN (ce := ce) C a b t pc loc st S k hc ho hk
  | 15, _, _, hc, ho, _, hk => sIstore (ce := ce) C a b t pc loc st S k hc ho hk
  | 16, _, _, hc, ho, _, hk => sLstoreN (ce := ce) C a b t pc loc st S k hc ho hk
  | 17, _, _, hc, ho, _, hk => sLstore (ce := ce) C a b t pc loc st S k hc ho hk
  | 18, _, _, hc, ho, _, hk => sAstoreN (ce := ce) C a b t pc loc st S k hc ho hk
  | 19, _, _, hc, ho, _, hk => sAstore (ce := ce) C a b t pc loc st S k hc ho hk
  | 20, _, _, hc, ho, _, hk => sIinc (ce := ce) C a b t pc loc st S k hc ho hk
  | 21, _, _, hc, ho, _, hk => sIadd (ce := ce) C a b t pc loc st S k hc ho hk
  | 22, _, _, hc, ho, _, hk => sIsub (ce := ce) C a b t pc loc st S k hc ho hk
  | 23, _, _, hc, ho, _, hk => sImul (ce := ce) C a b t pc loc st S k hc ho hk
  | 24, _, _, hc, ho, _, hk => sIdiv (ce := ce) C a b t pc loc st S k hc ho hk
  | 25, _, _, hc, ho, _, hk => sIrem (ce := ce) C a b t pc loc st S k hc ho hk
  | 26, _, _, hc, ho, _, hk => sIneg (ce := ce) C a b t pc loc st S k hc ho hk
  | 27, _, _, hc, ho, _, hk => sIshl (ce := ce) C a b t pc loc st S k hc ho hk
  | 28, _, _, hc, ho, _, hk => sIshr (ce := ce) C a b t pc loc st S k hc ho hk
  | 29, _, _, hc, ho, _, hk => sIushr (ce := ce) C a b t pc loc st S k hc ho hk
  | 30, _, _, hc, ho, _, hk => sIand (ce := ce) C a b t pc loc st S k hc ho hk
  | 31, _, _, hc, ho, _, hk => sIor (ce := ce) C a b t pc loc st S k hc ho hk
  | 32, _, _, hc, ho, _, hk => sIxor (ce := ce) C a b t pc loc st S k hc ho hk
  | 33, _, _, hc, ho, _, hk => sLadd (ce := ce) C a b t pc loc st S k hc ho hk
  | 34, _, _, hc, ho, _, hk => sLsub (ce := ce) C a b t pc loc st S k hc ho hk
  | 35, _, _, hc, ho, _, hk => sLmul (ce := ce) C a b t pc loc st S k hc ho hk
  | 36, _, _, hc, ho, _, hk => sLdiv (ce := ce) C a b t pc loc st S k hc ho hk
  | 37, _, _, hc, ho, _, hk => sLrem (ce := ce) C a b t pc loc st S k hc ho hk
  | 38, _, _, hc, ho, _, hk => sLand (ce := ce) C a b t pc loc st S k hc ho hk
  | 39, _, _, hc, ho, _, hk => sLor (ce := ce) C a b t pc loc st S k hc ho hk
  | 40, _, _, hc, ho, _, hk => sLshl (ce := ce) C a b t pc loc st S k hc ho hk
  | 41, _, _, hc, ho, _, hk => sLshr (ce := ce) C a b t pc loc st S k hc ho hk
  | 42, _, _, hc, ho, _, hk => sLcmp (ce := ce) C a b t pc loc st S k hc ho hk
  | 43, _, _, hc, ho, _, hk => sI2l (ce := ce) C a b t pc loc st S k hc ho hk
  | 44, _, _, hc, ho, _, hk => sL2i (ce := ce) C a b t pc loc st S k hc ho hk
  | 45, _, _, hc, ho, _, hk => sDup (ce := ce) C a b t pc loc st S k hc ho hk
  | 46, _, _, hc, ho, _, hk => sDup2 (ce := ce) C a b t pc loc st S k hc ho hk
  | 47, _, _, hc, ho, _, hk => sPop (ce := ce) C a b t pc loc st S k hc ho hk
  | 48, _, _, hc, ho, _, hk => sIfEq (ce := ce) C a b t pc loc st S k hc ho hk
  | 49, _, _, hc, ho, _, hk => sIfNe (ce := ce) C a b t pc loc st S k hc ho hk
  | 50, _, _, hc, ho, _, hk => sIfLt (ce := ce) C a b t pc loc st S k hc ho hk
  | 51, _, _, hc, ho, _, hk => sIfGe (ce := ce) C a b t pc loc st S k hc ho hk
  | 52, _, _, hc, ho, _, hk => sIfGt (ce := ce) C a b t pc loc st S k hc ho hk
  | 53, _, _, hc, ho, _, hk => sIfLe (ce := ce) C a b t pc loc st S k hc ho hk
  | 54, _, _, hc, ho, _, hk => sIcEq (ce := ce) C a b t pc loc st S k hc ho hk
  | 55, _, _, hc, ho, _, hk => sIcNe (ce := ce) C a b t pc loc st S k hc ho hk
  | 56, _, _, hc, ho, _, hk => sIcLt (ce := ce) C a b t pc loc st S k hc ho hk
  | 57, _, _, hc, ho, _, hk => sIcGe (ce := ce) C a b t pc loc st S k hc ho hk
  | 58, _, _, hc, ho, _, hk => sIcGt (ce := ce) C a b t pc loc st S k hc ho hk
  | 59, _, _, hc, ho, _, hk => sIcLe (ce := ce) C a b t pc loc st S k hc ho hk
  | 60, _, _, hc, ho, _, hk => sGoto (ce := ce) C a b t pc loc st S k hc ho hk
  | 61, _, _, hc, ho, _, hk => sIfNN (ce := ce) C a b t pc loc st S k hc ho hk
  | 62, _, _, hc, ho, _, hk => sTab (ce := ce) C a b t pc loc st S k hc ho hk
  | 63, _, _, hc, ho, _, hk => sLook (ce := ce) C a b t pc loc st S k hc ho hk
  | 64, _, _, hc, ho, _, hk => sGet (ce := ce) C a b t pc loc st S k hc ho hk
  | 65, _, _, hc, ho, _, hk => sGetR (ce := ce) C a b t pc loc st S k hc ho hk
  | 66, _, _, hc, ho, _, hk => sPut (ce := ce) C a b t pc loc st S k hc ho hk
  | 67, _, _, hc, ho, _, hk => sPutZ (ce := ce) C a b t pc loc st S k hc ho hk
  | 68, _, _, hc, ho, _, hk => sPutR (ce := ce) C a b t pc loc st S k hc ho hk
  | 69, hI, _, hc, ho, _, hk => sPutF (ce := ce) C (hI rfl) a b t pc loc st S k hc ho hk
  | 70, _, _, hc, ho, _, hk => sIald (ce := ce) C a b t pc loc st S k hc ho hk
  | 71, _, _, hc, ho, _, hk => sLald (ce := ce) C a b t pc loc st S k hc ho hk
  | 72, _, _, hc, ho, _, hk => sZald (ce := ce) C a b t pc loc st S k hc ho hk
  | 73, _, _, hc, ho, _, hk => sCald (ce := ce) C a b t pc loc st S k hc ho hk
  | 74, _, _, hc, ho, _, hk => sAald (ce := ce) C a b t pc loc st S k hc ho hk
  | 75, _, _, hc, ho, _, hk => sIast (ce := ce) C a b t pc loc st S k hc ho hk
  | 76, _, _, hc, ho, _, hk => sLast (ce := ce) C a b t pc loc st S k hc ho hk
  | 77, _, _, hc, ho, _, hk => sZst (ce := ce) C a b t pc loc st S k hc ho hk
  | 78, _, _, hc, ho, _, hk => sCst (ce := ce) C a b t pc loc st S k hc ho hk
  | 79, _, _, hc, ho, _, hk => sAast (ce := ce) C a b t pc loc st S k hc ho hk
  | 80, _, _, hc, ho, _, hk => sLen (ce := ce) C a b t pc loc st S k hc ho hk
  | 81, _, _, hc, ho, hm, hk => sNew (ce := ce) C a b t pc loc st S k hc ho hm hk
  | 82, _, _, hc, ho, hm, hk => sNewA (ce := ce) C a b t pc loc st S k hc ho hm hk
  | 83, _, _, hc, ho, hm, hk => sNewQ (ce := ce) C a b t pc loc st S k hc ho hm hk
  | 84, _, _, hc, ho, hm, hk => hoth 84 (by omega) a b t pc loc st S k hc ho hm hk
  | 85, _, _, hc, ho, hm, hk => sCallV C hce hgr hR a b t pc loc st S k hc ho hm hk
  | 86, _, _, hc, ho, hm, hk => sCallVN C hce hgr hR a b t pc loc st S k hc ho hm hk
  | 87, _, _, hc, ho, hm, hk => sCallI C hce hgr hR a b t pc loc st S k hc ho hm hk
  | 88, _, _, hc, ho, hm, hk => sCallIN C hce hgr hR a b t pc loc st S k hc ho hm hk
  | 89, _, _, hc, ho, hm, hk => sCallS C hce hgr hR a b t pc loc st S k hc ho hm hk
  | 90, _, _, hc, ho, _, hk => sObj (ce := ce) C a b t pc loc st S k hc ho hk
  | 91, _, hr, hc, ho, _, _ => hret 91 a b t ce pc loc st S k (by omega) (by omega) hr hc ho
  | 92, _, hr, hc, ho, _, _ => hret 92 a b t ce pc loc st S k (by omega) (by omega) hr hc ho
  | 93, _, hr, hc, ho, _, _ => hret 93 a b t ce pc loc st S k (by omega) (by omega) hr hc ho
  | 94, _, hr, hc, ho, _, _ => hret 94 a b t ce pc loc st S k (by omega) (by omega) hr hc ho
  | 95, _, hr, hc, ho, _, _ => hret 95 a b t ce pc loc st S k (by omega) (by omega) hr hc ho
  | 96, _, _, hc, ho, _, hk => sNull (ce := ce) C a b t pc loc st S k hc ho hk
  | 97, _, _, hc, ho, _, hk => sCopy (ce := ce) C a b t pc loc st S k hc ho hk
  | 98, _, _, hc, ho, hm, hk => hoth 98 (by omega) a b t pc loc st S k hc ho hm hk
  | 99, _, _, hc, ho, hm, hk => hoth 99 (by omega) a b t pc loc st S k hc ho hm hk
  | 100, _, _, hc, ho, hm, hk => hoth 100 (by omega) a b t pc loc st S k hc ho hm hk
  | 101, _, _, hc, ho, hm, hk => hoth 101 (by omega) a b t pc loc st S k hc ho hm hk
  | 102, _, _, hc, ho, hm, hk => hoth 102 (by omega) a b t pc loc st S k hc ho hm hk
  | n + 103, _, _, _, ho, _, _ => by cases ho
end
section
/-! what the pure machine's instructions have in common: they hand on, what is made stays made -/
def grow (S S' : jS) : Prop := gN S.1 ≤ gN S'.1 ∧ gM S.1 ≤ gM S'.1
theorem grow.rfl' {S : jS} : grow S S := ⟨Nat.le_refl _, Nat.le_refl _⟩
theorem grow.trans {A B C : jS} (h : grow A B) (h2 : grow B C) : grow A C := ⟨Nat.le_trans h.1 h2.1, Nat.le_trans h.2 h2.2⟩
def jGroC (ce : jC) : Prop := ∀ m a S z S', ce m a S = some (z, S') → grow S S'
def jGroT (k : jT) : Prop := ∀ pc loc st S r, k pc loc st S = some r → grow S r.2
def jGro (o : jF) : Prop := ∀ a b t ce pc loc st S k r, jGroC ce → jGroT k → o a b t ce pc loc st S k = some r → grow S r.2
theorem grow_new {kd sl : Nat} {len : Int} {S : jS} : grow S (jnew kd len sl S) := ⟨Nat.le_succ _, Nat.le_add_right _ _⟩
theorem grow_rows {m : Int} : ∀ (n : Nat) (S : jS), grow S (jrows m n S)
  | 0, _ => grow.rfl'
  | n + 1, S => (grow_rows n S).trans grow_new
theorem grow_rowsR {r : Int} : ∀ (n : Nat) (S : jS), grow S (jrowsR r n S)
  | 0, _ => grow.rfl'
  | n + 1, S => grow_rowsR n S
theorem jsw_gro {k : Nat → jR} {z d : Int} {r : Int × jS} {S : jS} (hk : ∀ t, k t = some r → grow S r.2) : ∀ (l : List Int) (lo : Int), jsw k z d lo l = some r → grow S r.2
  | [], _, h => hk _ h
  | t :: l, lo, h => by
    unfold jsw at h
    split at h
    · exact hk _ h
    · exact jsw_gro hk l (lo + 1) h
theorem jsw_mono {k k' : Nat → jR} {z d : Int} {r : Int × jS} (hk : ∀ t, k t = some r → k' t = some r) : ∀ (l : List Int) (lo : Int), jsw k z d lo l = some r → jsw k' z d lo l = some r
  | [], _, h => hk _ h
  | t :: l, lo, h => by
    unfold jsw at h ⊢
    split at h
    · rw [if_pos (by assumption)]
      exact hk _ h
    · rw [if_neg (by assumption)]
      exact jsw_mono hk l (lo + 1) h
theorem jlk_gro {k : Nat → jR} {z d : Int} {r : Int × jS} {S : jS} (hk : ∀ t, k t = some r → grow S r.2) : ∀ (l : List Int), jlk k z d l = some r → grow S r.2
  | [], h => hk _ h
  | [_], h => hk _ h
  | x :: t :: l, h => by
    unfold jlk at h
    split at h
    · exact hk _ h
    · exact jlk_gro hk l h
theorem jlk_mono {k k' : Nat → jR} {z d : Int} {r : Int × jS} (hk : ∀ t, k t = some r → k' t = some r) : ∀ (l : List Int), jlk k z d l = some r → jlk k' z d l = some r
  | [], h => hk _ h
  | [_], h => hk _ h
  | x :: t :: l, h => by
    unfold jlk at h ⊢
    split at h
    · rw [if_pos (by assumption)]
      exact hk _ h
    · rw [if_neg (by assumption)]
      exact jlk_mono hk l h
theorem gr_oBad  : jGro oBad := by
  intro a b t ce pc loc st S k r hc hk h
  unfold oBad at h
  (repeat' split at h) <;> first | (cases h; done) | (cases h; exact grow.rfl') | (have q := hk _ _ _ _ _ h; exact ⟨q.1, q.2⟩) | exact grow_new.trans (hk _ _ _ _ _ h) | exact (grow_new.trans ((grow_rows _ _).trans (grow_rowsR _ _))).trans (hk _ _ _ _ _ h)
theorem mo_oBad  : jMono oBad := by
  intro a b t ce ce' pc loc st S k k' hc hk r h
  unfold oBad at h ⊢
  (repeat' split at h) <;> first | (cases h; done) | ((repeat (first | rw [if_pos (by assumption)] | rw [if_neg (by assumption)])); first | exact h | exact hk _ _ _ _ _ h)
theorem gr_oPush (t n : Nat) : jGro (oPush t n) := by
  intro a b t ce pc loc st S k r hc hk h
  unfold oPush at h
  (repeat' split at h) <;> first | (cases h; done) | (cases h; exact grow.rfl') | (have q := hk _ _ _ _ _ h; exact ⟨q.1, q.2⟩) | exact grow_new.trans (hk _ _ _ _ _ h) | exact (grow_new.trans ((grow_rows _ _).trans (grow_rowsR _ _))).trans (hk _ _ _ _ _ h)
theorem mo_oPush (t n : Nat) : jMono (oPush t n) := by
  intro a b t ce ce' pc loc st S k k' hc hk r h
  unfold oPush at h ⊢
  (repeat' split at h) <;> first | (cases h; done) | ((repeat (first | rw [if_pos (by assumption)] | rw [if_neg (by assumption)])); first | exact h | exact hk _ _ _ _ _ h)
theorem gr_oLoad (t n : Nat) : jGro (oLoad t n) := by
  intro a b t ce pc loc st S k r hc hk h
  unfold oLoad at h
  (repeat' split at h) <;> first | (cases h; done) | (cases h; exact grow.rfl') | (have q := hk _ _ _ _ _ h; exact ⟨q.1, q.2⟩) | exact grow_new.trans (hk _ _ _ _ _ h) | exact (grow_new.trans ((grow_rows _ _).trans (grow_rowsR _ _))).trans (hk _ _ _ _ _ h)
theorem mo_oLoad (t n : Nat) : jMono (oLoad t n) := by
  intro a b t ce ce' pc loc st S k k' hc hk r h
  unfold oLoad at h ⊢
  (repeat' split at h) <;> first | (cases h; done) | ((repeat (first | rw [if_pos (by assumption)] | rw [if_neg (by assumption)])); first | exact h | exact hk _ _ _ _ _ h)
theorem gr_oALoad (n : Nat) : jGro (oALoad n) := by
  intro a b t ce pc loc st S k r hc hk h
  unfold oALoad at h
  (repeat' split at h) <;> first | (cases h; done) | (cases h; exact grow.rfl') | (have q := hk _ _ _ _ _ h; exact ⟨q.1, q.2⟩) | exact grow_new.trans (hk _ _ _ _ _ h) | exact (grow_new.trans ((grow_rows _ _).trans (grow_rowsR _ _))).trans (hk _ _ _ _ _ h)
theorem mo_oALoad (n : Nat) : jMono (oALoad n) := by
  intro a b t ce ce' pc loc st S k k' hc hk r h
  unfold oALoad at h ⊢
  (repeat' split at h) <;> first | (cases h; done) | ((repeat (first | rw [if_pos (by assumption)] | rw [if_neg (by assumption)])); first | exact h | exact hk _ _ _ _ _ h)
theorem gr_oStore (n : Nat) : jGro (oStore n) := by
  intro a b t ce pc loc st S k r hc hk h
  unfold oStore at h
  (repeat' split at h) <;> first | (cases h; done) | (cases h; exact grow.rfl') | (have q := hk _ _ _ _ _ h; exact ⟨q.1, q.2⟩) | exact grow_new.trans (hk _ _ _ _ _ h) | exact (grow_new.trans ((grow_rows _ _).trans (grow_rowsR _ _))).trans (hk _ _ _ _ _ h)
theorem mo_oStore (n : Nat) : jMono (oStore n) := by
  intro a b t ce ce' pc loc st S k k' hc hk r h
  unfold oStore at h ⊢
  (repeat' split at h) <;> first | (cases h; done) | ((repeat (first | rw [if_pos (by assumption)] | rw [if_neg (by assumption)])); first | exact h | exact hk _ _ _ _ _ h)
theorem gr_oLStore (n : Nat) : jGro (oLStore n) := by
  intro a b t ce pc loc st S k r hc hk h
  unfold oLStore at h
  (repeat' split at h) <;> first | (cases h; done) | (cases h; exact grow.rfl') | (have q := hk _ _ _ _ _ h; exact ⟨q.1, q.2⟩) | exact grow_new.trans (hk _ _ _ _ _ h) | exact (grow_new.trans ((grow_rows _ _).trans (grow_rowsR _ _))).trans (hk _ _ _ _ _ h)
theorem mo_oLStore (n : Nat) : jMono (oLStore n) := by
  intro a b t ce ce' pc loc st S k k' hc hk r h
  unfold oLStore at h ⊢
  (repeat' split at h) <;> first | (cases h; done) | ((repeat (first | rw [if_pos (by assumption)] | rw [if_neg (by assumption)])); first | exact h | exact hk _ _ _ _ _ h)
theorem gr_oAStore (n : Nat) : jGro (oAStore n) := by
  intro a b t ce pc loc st S k r hc hk h
  unfold oAStore at h
  (repeat' split at h) <;> first | (cases h; done) | (cases h; exact grow.rfl') | (have q := hk _ _ _ _ _ h; exact ⟨q.1, q.2⟩) | exact grow_new.trans (hk _ _ _ _ _ h) | exact (grow_new.trans ((grow_rows _ _).trans (grow_rowsR _ _))).trans (hk _ _ _ _ _ h)
theorem mo_oAStore (n : Nat) : jMono (oAStore n) := by
  intro a b t ce ce' pc loc st S k k' hc hk r h
  unfold oAStore at h ⊢
  (repeat' split at h) <;> first | (cases h; done) | ((repeat (first | rw [if_pos (by assumption)] | rw [if_neg (by assumption)])); first | exact h | exact hk _ _ _ _ _ h)
theorem gr_oIinc  : jGro oIinc := by
  intro a b t ce pc loc st S k r hc hk h
  unfold oIinc at h
  (repeat' split at h) <;> first | (cases h; done) | (cases h; exact grow.rfl') | (have q := hk _ _ _ _ _ h; exact ⟨q.1, q.2⟩) | exact grow_new.trans (hk _ _ _ _ _ h) | exact (grow_new.trans ((grow_rows _ _).trans (grow_rowsR _ _))).trans (hk _ _ _ _ _ h)
theorem mo_oIinc  : jMono oIinc := by
  intro a b t ce ce' pc loc st S k k' hc hk r h
  unfold oIinc at h ⊢
  (repeat' split at h) <;> first | (cases h; done) | ((repeat (first | rw [if_pos (by assumption)] | rw [if_neg (by assumption)])); first | exact h | exact hk _ _ _ _ _ h)
theorem gr_oBin (f : Int → Int → Int) : jGro (oBin f) := by
  intro a b t ce pc loc st S k r hc hk h
  unfold oBin at h
  (repeat' split at h) <;> first | (cases h; done) | (cases h; exact grow.rfl') | (have q := hk _ _ _ _ _ h; exact ⟨q.1, q.2⟩) | exact grow_new.trans (hk _ _ _ _ _ h) | exact (grow_new.trans ((grow_rows _ _).trans (grow_rowsR _ _))).trans (hk _ _ _ _ _ h)
theorem mo_oBin (f : Int → Int → Int) : jMono (oBin f) := by
  intro a b t ce ce' pc loc st S k k' hc hk r h
  unfold oBin at h ⊢
  (repeat' split at h) <;> first | (cases h; done) | ((repeat (first | rw [if_pos (by assumption)] | rw [if_neg (by assumption)])); first | exact h | exact hk _ _ _ _ _ h)
theorem gr_oDiv (f : Int → Int → Int) : jGro (oDiv f) := by
  intro a b t ce pc loc st S k r hc hk h
  unfold oDiv at h
  (repeat' split at h) <;> first | (cases h; done) | (cases h; exact grow.rfl') | (have q := hk _ _ _ _ _ h; exact ⟨q.1, q.2⟩) | exact grow_new.trans (hk _ _ _ _ _ h) | exact (grow_new.trans ((grow_rows _ _).trans (grow_rowsR _ _))).trans (hk _ _ _ _ _ h)
theorem mo_oDiv (f : Int → Int → Int) : jMono (oDiv f) := by
  intro a b t ce ce' pc loc st S k k' hc hk r h
  unfold oDiv at h ⊢
  (repeat' split at h) <;> first | (cases h; done) | ((repeat (first | rw [if_pos (by assumption)] | rw [if_neg (by assumption)])); first | exact h | exact hk _ _ _ _ _ h)
theorem gr_oBinL (f : Int → Int → Int) : jGro (oBinL f) := by
  intro a b t ce pc loc st S k r hc hk h
  unfold oBinL at h
  (repeat' split at h) <;> first | (cases h; done) | (cases h; exact grow.rfl') | (have q := hk _ _ _ _ _ h; exact ⟨q.1, q.2⟩) | exact grow_new.trans (hk _ _ _ _ _ h) | exact (grow_new.trans ((grow_rows _ _).trans (grow_rowsR _ _))).trans (hk _ _ _ _ _ h)
theorem mo_oBinL (f : Int → Int → Int) : jMono (oBinL f) := by
  intro a b t ce ce' pc loc st S k k' hc hk r h
  unfold oBinL at h ⊢
  (repeat' split at h) <;> first | (cases h; done) | ((repeat (first | rw [if_pos (by assumption)] | rw [if_neg (by assumption)])); first | exact h | exact hk _ _ _ _ _ h)
theorem gr_oDivL (f : Int → Int → Int) : jGro (oDivL f) := by
  intro a b t ce pc loc st S k r hc hk h
  unfold oDivL at h
  (repeat' split at h) <;> first | (cases h; done) | (cases h; exact grow.rfl') | (have q := hk _ _ _ _ _ h; exact ⟨q.1, q.2⟩) | exact grow_new.trans (hk _ _ _ _ _ h) | exact (grow_new.trans ((grow_rows _ _).trans (grow_rowsR _ _))).trans (hk _ _ _ _ _ h)
theorem mo_oDivL (f : Int → Int → Int) : jMono (oDivL f) := by
  intro a b t ce ce' pc loc st S k k' hc hk r h
  unfold oDivL at h ⊢
  (repeat' split at h) <;> first | (cases h; done) | ((repeat (first | rw [if_pos (by assumption)] | rw [if_neg (by assumption)])); first | exact h | exact hk _ _ _ _ _ h)
theorem gr_oShL (f : Int → Int → Int) : jGro (oShL f) := by
  intro a b t ce pc loc st S k r hc hk h
  unfold oShL at h
  (repeat' split at h) <;> first | (cases h; done) | (cases h; exact grow.rfl') | (have q := hk _ _ _ _ _ h; exact ⟨q.1, q.2⟩) | exact grow_new.trans (hk _ _ _ _ _ h) | exact (grow_new.trans ((grow_rows _ _).trans (grow_rowsR _ _))).trans (hk _ _ _ _ _ h)
theorem mo_oShL (f : Int → Int → Int) : jMono (oShL f) := by
  intro a b t ce ce' pc loc st S k k' hc hk r h
  unfold oShL at h ⊢
  (repeat' split at h) <;> first | (cases h; done) | ((repeat (first | rw [if_pos (by assumption)] | rw [if_neg (by assumption)])); first | exact h | exact hk _ _ _ _ _ h)
theorem gr_oLcmp  : jGro oLcmp := by
  intro a b t ce pc loc st S k r hc hk h
  unfold oLcmp at h
  (repeat' split at h) <;> first | (cases h; done) | (cases h; exact grow.rfl') | (have q := hk _ _ _ _ _ h; exact ⟨q.1, q.2⟩) | exact grow_new.trans (hk _ _ _ _ _ h) | exact (grow_new.trans ((grow_rows _ _).trans (grow_rowsR _ _))).trans (hk _ _ _ _ _ h)
theorem mo_oLcmp  : jMono oLcmp := by
  intro a b t ce ce' pc loc st S k k' hc hk r h
  unfold oLcmp at h ⊢
  (repeat' split at h) <;> first | (cases h; done) | ((repeat (first | rw [if_pos (by assumption)] | rw [if_neg (by assumption)])); first | exact h | exact hk _ _ _ _ _ h)
theorem gr_oI2l  : jGro oI2l := by
  intro a b t ce pc loc st S k r hc hk h
  unfold oI2l at h
  (repeat' split at h) <;> first | (cases h; done) | (cases h; exact grow.rfl') | (have q := hk _ _ _ _ _ h; exact ⟨q.1, q.2⟩) | exact grow_new.trans (hk _ _ _ _ _ h) | exact (grow_new.trans ((grow_rows _ _).trans (grow_rowsR _ _))).trans (hk _ _ _ _ _ h)
theorem mo_oI2l  : jMono oI2l := by
  intro a b t ce ce' pc loc st S k k' hc hk r h
  unfold oI2l at h ⊢
  (repeat' split at h) <;> first | (cases h; done) | ((repeat (first | rw [if_pos (by assumption)] | rw [if_neg (by assumption)])); first | exact h | exact hk _ _ _ _ _ h)
theorem gr_oL2i  : jGro oL2i := by
  intro a b t ce pc loc st S k r hc hk h
  unfold oL2i at h
  (repeat' split at h) <;> first | (cases h; done) | (cases h; exact grow.rfl') | (have q := hk _ _ _ _ _ h; exact ⟨q.1, q.2⟩) | exact grow_new.trans (hk _ _ _ _ _ h) | exact (grow_new.trans ((grow_rows _ _).trans (grow_rowsR _ _))).trans (hk _ _ _ _ _ h)
theorem mo_oL2i  : jMono oL2i := by
  intro a b t ce ce' pc loc st S k k' hc hk r h
  unfold oL2i at h ⊢
  (repeat' split at h) <;> first | (cases h; done) | ((repeat (first | rw [if_pos (by assumption)] | rw [if_neg (by assumption)])); first | exact h | exact hk _ _ _ _ _ h)
theorem gr_oIneg  : jGro oIneg := by
  intro a b t ce pc loc st S k r hc hk h
  unfold oIneg at h
  (repeat' split at h) <;> first | (cases h; done) | (cases h; exact grow.rfl') | (have q := hk _ _ _ _ _ h; exact ⟨q.1, q.2⟩) | exact grow_new.trans (hk _ _ _ _ _ h) | exact (grow_new.trans ((grow_rows _ _).trans (grow_rowsR _ _))).trans (hk _ _ _ _ _ h)
theorem mo_oIneg  : jMono oIneg := by
  intro a b t ce ce' pc loc st S k k' hc hk r h
  unfold oIneg at h ⊢
  (repeat' split at h) <;> first | (cases h; done) | ((repeat (first | rw [if_pos (by assumption)] | rw [if_neg (by assumption)])); first | exact h | exact hk _ _ _ _ _ h)
theorem gr_oDup  : jGro oDup := by
  intro a b t ce pc loc st S k r hc hk h
  unfold oDup at h
  (repeat' split at h) <;> first | (cases h; done) | (cases h; exact grow.rfl') | (have q := hk _ _ _ _ _ h; exact ⟨q.1, q.2⟩) | exact grow_new.trans (hk _ _ _ _ _ h) | exact (grow_new.trans ((grow_rows _ _).trans (grow_rowsR _ _))).trans (hk _ _ _ _ _ h)
theorem mo_oDup  : jMono oDup := by
  intro a b t ce ce' pc loc st S k k' hc hk r h
  unfold oDup at h ⊢
  (repeat' split at h) <;> first | (cases h; done) | ((repeat (first | rw [if_pos (by assumption)] | rw [if_neg (by assumption)])); first | exact h | exact hk _ _ _ _ _ h)
theorem gr_oDup2  : jGro oDup2 := by
  intro a b t ce pc loc st S k r hc hk h
  unfold oDup2 at h
  (repeat' split at h) <;> first | (cases h; done) | (cases h; exact grow.rfl') | (have q := hk _ _ _ _ _ h; exact ⟨q.1, q.2⟩) | exact grow_new.trans (hk _ _ _ _ _ h) | exact (grow_new.trans ((grow_rows _ _).trans (grow_rowsR _ _))).trans (hk _ _ _ _ _ h)
theorem mo_oDup2  : jMono oDup2 := by
  intro a b t ce ce' pc loc st S k k' hc hk r h
  unfold oDup2 at h ⊢
  (repeat' split at h) <;> first | (cases h; done) | ((repeat (first | rw [if_pos (by assumption)] | rw [if_neg (by assumption)])); first | exact h | exact hk _ _ _ _ _ h)
theorem gr_oPop  : jGro oPop := by
  intro a b t ce pc loc st S k r hc hk h
  unfold oPop at h
  (repeat' split at h) <;> first | (cases h; done) | (cases h; exact grow.rfl') | (have q := hk _ _ _ _ _ h; exact ⟨q.1, q.2⟩) | exact grow_new.trans (hk _ _ _ _ _ h) | exact (grow_new.trans ((grow_rows _ _).trans (grow_rowsR _ _))).trans (hk _ _ _ _ _ h)
theorem mo_oPop  : jMono oPop := by
  intro a b t ce ce' pc loc st S k k' hc hk r h
  unfold oPop at h ⊢
  (repeat' split at h) <;> first | (cases h; done) | ((repeat (first | rw [if_pos (by assumption)] | rw [if_neg (by assumption)])); first | exact h | exact hk _ _ _ _ _ h)
theorem gr_oIfEq  : jGro oIfEq := by
  intro a b t ce pc loc st S k r hc hk h
  unfold oIfEq at h
  (repeat' split at h) <;> first | (cases h; done) | (cases h; exact grow.rfl') | (have q := hk _ _ _ _ _ h; exact ⟨q.1, q.2⟩) | exact grow_new.trans (hk _ _ _ _ _ h) | exact (grow_new.trans ((grow_rows _ _).trans (grow_rowsR _ _))).trans (hk _ _ _ _ _ h)
theorem mo_oIfEq  : jMono oIfEq := by
  intro a b t ce ce' pc loc st S k k' hc hk r h
  unfold oIfEq at h ⊢
  (repeat' split at h) <;> first | (cases h; done) | ((repeat (first | rw [if_pos (by assumption)] | rw [if_neg (by assumption)])); first | exact h | exact hk _ _ _ _ _ h)
theorem gr_oIfNe  : jGro oIfNe := by
  intro a b t ce pc loc st S k r hc hk h
  unfold oIfNe at h
  (repeat' split at h) <;> first | (cases h; done) | (cases h; exact grow.rfl') | (have q := hk _ _ _ _ _ h; exact ⟨q.1, q.2⟩) | exact grow_new.trans (hk _ _ _ _ _ h) | exact (grow_new.trans ((grow_rows _ _).trans (grow_rowsR _ _))).trans (hk _ _ _ _ _ h)
theorem mo_oIfNe  : jMono oIfNe := by
  intro a b t ce ce' pc loc st S k k' hc hk r h
  unfold oIfNe at h ⊢
  (repeat' split at h) <;> first | (cases h; done) | ((repeat (first | rw [if_pos (by assumption)] | rw [if_neg (by assumption)])); first | exact h | exact hk _ _ _ _ _ h)
theorem gr_oIfLt  : jGro oIfLt := by
  intro a b t ce pc loc st S k r hc hk h
  unfold oIfLt at h
  (repeat' split at h) <;> first | (cases h; done) | (cases h; exact grow.rfl') | (have q := hk _ _ _ _ _ h; exact ⟨q.1, q.2⟩) | exact grow_new.trans (hk _ _ _ _ _ h) | exact (grow_new.trans ((grow_rows _ _).trans (grow_rowsR _ _))).trans (hk _ _ _ _ _ h)
theorem mo_oIfLt  : jMono oIfLt := by
  intro a b t ce ce' pc loc st S k k' hc hk r h
  unfold oIfLt at h ⊢
  (repeat' split at h) <;> first | (cases h; done) | ((repeat (first | rw [if_pos (by assumption)] | rw [if_neg (by assumption)])); first | exact h | exact hk _ _ _ _ _ h)
theorem gr_oIfGe  : jGro oIfGe := by
  intro a b t ce pc loc st S k r hc hk h
  unfold oIfGe at h
  (repeat' split at h) <;> first | (cases h; done) | (cases h; exact grow.rfl') | (have q := hk _ _ _ _ _ h; exact ⟨q.1, q.2⟩) | exact grow_new.trans (hk _ _ _ _ _ h) | exact (grow_new.trans ((grow_rows _ _).trans (grow_rowsR _ _))).trans (hk _ _ _ _ _ h)
theorem mo_oIfGe  : jMono oIfGe := by
  intro a b t ce ce' pc loc st S k k' hc hk r h
  unfold oIfGe at h ⊢
  (repeat' split at h) <;> first | (cases h; done) | ((repeat (first | rw [if_pos (by assumption)] | rw [if_neg (by assumption)])); first | exact h | exact hk _ _ _ _ _ h)
theorem gr_oIfGt  : jGro oIfGt := by
  intro a b t ce pc loc st S k r hc hk h
  unfold oIfGt at h
  (repeat' split at h) <;> first | (cases h; done) | (cases h; exact grow.rfl') | (have q := hk _ _ _ _ _ h; exact ⟨q.1, q.2⟩) | exact grow_new.trans (hk _ _ _ _ _ h) | exact (grow_new.trans ((grow_rows _ _).trans (grow_rowsR _ _))).trans (hk _ _ _ _ _ h)
theorem mo_oIfGt  : jMono oIfGt := by
  intro a b t ce ce' pc loc st S k k' hc hk r h
  unfold oIfGt at h ⊢
  (repeat' split at h) <;> first | (cases h; done) | ((repeat (first | rw [if_pos (by assumption)] | rw [if_neg (by assumption)])); first | exact h | exact hk _ _ _ _ _ h)
theorem gr_oIfLe  : jGro oIfLe := by
  intro a b t ce pc loc st S k r hc hk h
  unfold oIfLe at h
  (repeat' split at h) <;> first | (cases h; done) | (cases h; exact grow.rfl') | (have q := hk _ _ _ _ _ h; exact ⟨q.1, q.2⟩) | exact grow_new.trans (hk _ _ _ _ _ h) | exact (grow_new.trans ((grow_rows _ _).trans (grow_rowsR _ _))).trans (hk _ _ _ _ _ h)
theorem mo_oIfLe  : jMono oIfLe := by
  intro a b t ce ce' pc loc st S k k' hc hk r h
  unfold oIfLe at h ⊢
  (repeat' split at h) <;> first | (cases h; done) | ((repeat (first | rw [if_pos (by assumption)] | rw [if_neg (by assumption)])); first | exact h | exact hk _ _ _ _ _ h)
theorem gr_oIcEq  : jGro oIcEq := by
  intro a b t ce pc loc st S k r hc hk h
  unfold oIcEq at h
  (repeat' split at h) <;> first | (cases h; done) | (cases h; exact grow.rfl') | (have q := hk _ _ _ _ _ h; exact ⟨q.1, q.2⟩) | exact grow_new.trans (hk _ _ _ _ _ h) | exact (grow_new.trans ((grow_rows _ _).trans (grow_rowsR _ _))).trans (hk _ _ _ _ _ h)
theorem mo_oIcEq  : jMono oIcEq := by
  intro a b t ce ce' pc loc st S k k' hc hk r h
  unfold oIcEq at h ⊢
  (repeat' split at h) <;> first | (cases h; done) | ((repeat (first | rw [if_pos (by assumption)] | rw [if_neg (by assumption)])); first | exact h | exact hk _ _ _ _ _ h)
theorem gr_oIcNe  : jGro oIcNe := by
  intro a b t ce pc loc st S k r hc hk h
  unfold oIcNe at h
  (repeat' split at h) <;> first | (cases h; done) | (cases h; exact grow.rfl') | (have q := hk _ _ _ _ _ h; exact ⟨q.1, q.2⟩) | exact grow_new.trans (hk _ _ _ _ _ h) | exact (grow_new.trans ((grow_rows _ _).trans (grow_rowsR _ _))).trans (hk _ _ _ _ _ h)
theorem mo_oIcNe  : jMono oIcNe := by
  intro a b t ce ce' pc loc st S k k' hc hk r h
  unfold oIcNe at h ⊢
  (repeat' split at h) <;> first | (cases h; done) | ((repeat (first | rw [if_pos (by assumption)] | rw [if_neg (by assumption)])); first | exact h | exact hk _ _ _ _ _ h)
theorem gr_oIcLt  : jGro oIcLt := by
  intro a b t ce pc loc st S k r hc hk h
  unfold oIcLt at h
  (repeat' split at h) <;> first | (cases h; done) | (cases h; exact grow.rfl') | (have q := hk _ _ _ _ _ h; exact ⟨q.1, q.2⟩) | exact grow_new.trans (hk _ _ _ _ _ h) | exact (grow_new.trans ((grow_rows _ _).trans (grow_rowsR _ _))).trans (hk _ _ _ _ _ h)
theorem mo_oIcLt  : jMono oIcLt := by
  intro a b t ce ce' pc loc st S k k' hc hk r h
  unfold oIcLt at h ⊢
  (repeat' split at h) <;> first | (cases h; done) | ((repeat (first | rw [if_pos (by assumption)] | rw [if_neg (by assumption)])); first | exact h | exact hk _ _ _ _ _ h)
theorem gr_oIcGe  : jGro oIcGe := by
  intro a b t ce pc loc st S k r hc hk h
  unfold oIcGe at h
  (repeat' split at h) <;> first | (cases h; done) | (cases h; exact grow.rfl') | (have q := hk _ _ _ _ _ h; exact ⟨q.1, q.2⟩) | exact grow_new.trans (hk _ _ _ _ _ h) | exact (grow_new.trans ((grow_rows _ _).trans (grow_rowsR _ _))).trans (hk _ _ _ _ _ h)
theorem mo_oIcGe  : jMono oIcGe := by
  intro a b t ce ce' pc loc st S k k' hc hk r h
  unfold oIcGe at h ⊢
  (repeat' split at h) <;> first | (cases h; done) | ((repeat (first | rw [if_pos (by assumption)] | rw [if_neg (by assumption)])); first | exact h | exact hk _ _ _ _ _ h)
theorem gr_oIcGt  : jGro oIcGt := by
  intro a b t ce pc loc st S k r hc hk h
  unfold oIcGt at h
  (repeat' split at h) <;> first | (cases h; done) | (cases h; exact grow.rfl') | (have q := hk _ _ _ _ _ h; exact ⟨q.1, q.2⟩) | exact grow_new.trans (hk _ _ _ _ _ h) | exact (grow_new.trans ((grow_rows _ _).trans (grow_rowsR _ _))).trans (hk _ _ _ _ _ h)
theorem mo_oIcGt  : jMono oIcGt := by
  intro a b t ce ce' pc loc st S k k' hc hk r h
  unfold oIcGt at h ⊢
  (repeat' split at h) <;> first | (cases h; done) | ((repeat (first | rw [if_pos (by assumption)] | rw [if_neg (by assumption)])); first | exact h | exact hk _ _ _ _ _ h)
theorem gr_oIcLe  : jGro oIcLe := by
  intro a b t ce pc loc st S k r hc hk h
  unfold oIcLe at h
  (repeat' split at h) <;> first | (cases h; done) | (cases h; exact grow.rfl') | (have q := hk _ _ _ _ _ h; exact ⟨q.1, q.2⟩) | exact grow_new.trans (hk _ _ _ _ _ h) | exact (grow_new.trans ((grow_rows _ _).trans (grow_rowsR _ _))).trans (hk _ _ _ _ _ h)
theorem mo_oIcLe  : jMono oIcLe := by
  intro a b t ce ce' pc loc st S k k' hc hk r h
  unfold oIcLe at h ⊢
  (repeat' split at h) <;> first | (cases h; done) | ((repeat (first | rw [if_pos (by assumption)] | rw [if_neg (by assumption)])); first | exact h | exact hk _ _ _ _ _ h)
theorem gr_oGoto  : jGro oGoto := by
  intro a b t ce pc loc st S k r hc hk h
  unfold oGoto at h
  (repeat' split at h) <;> first | (cases h; done) | (cases h; exact grow.rfl') | (have q := hk _ _ _ _ _ h; exact ⟨q.1, q.2⟩) | exact grow_new.trans (hk _ _ _ _ _ h) | exact (grow_new.trans ((grow_rows _ _).trans (grow_rowsR _ _))).trans (hk _ _ _ _ _ h)
theorem mo_oGoto  : jMono oGoto := by
  intro a b t ce ce' pc loc st S k k' hc hk r h
  unfold oGoto at h ⊢
  (repeat' split at h) <;> first | (cases h; done) | ((repeat (first | rw [if_pos (by assumption)] | rw [if_neg (by assumption)])); first | exact h | exact hk _ _ _ _ _ h)
theorem gr_oIfNN  : jGro oIfNN := by
  intro a b t ce pc loc st S k r hc hk h
  unfold oIfNN at h
  (repeat' split at h) <;> first | (cases h; done) | (cases h; exact grow.rfl') | (have q := hk _ _ _ _ _ h; exact ⟨q.1, q.2⟩) | exact grow_new.trans (hk _ _ _ _ _ h) | exact (grow_new.trans ((grow_rows _ _).trans (grow_rowsR _ _))).trans (hk _ _ _ _ _ h)
theorem mo_oIfNN  : jMono oIfNN := by
  intro a b t ce ce' pc loc st S k k' hc hk r h
  unfold oIfNN at h ⊢
  (repeat' split at h) <;> first | (cases h; done) | ((repeat (first | rw [if_pos (by assumption)] | rw [if_neg (by assumption)])); first | exact h | exact hk _ _ _ _ _ h)
theorem gr_oGet  : jGro oGet := by
  intro a b t ce pc loc st S k r hc hk h
  unfold oGet at h
  (repeat' split at h) <;> first | (cases h; done) | (cases h; exact grow.rfl') | (have q := hk _ _ _ _ _ h; exact ⟨q.1, q.2⟩) | exact grow_new.trans (hk _ _ _ _ _ h) | exact (grow_new.trans ((grow_rows _ _).trans (grow_rowsR _ _))).trans (hk _ _ _ _ _ h)
theorem mo_oGet  : jMono oGet := by
  intro a b t ce ce' pc loc st S k k' hc hk r h
  unfold oGet at h ⊢
  (repeat' split at h) <;> first | (cases h; done) | ((repeat (first | rw [if_pos (by assumption)] | rw [if_neg (by assumption)])); first | exact h | exact hk _ _ _ _ _ h)
theorem gr_oGetR  : jGro oGetR := by
  intro a b t ce pc loc st S k r hc hk h
  unfold oGetR at h
  (repeat' split at h) <;> first | (cases h; done) | (cases h; exact grow.rfl') | (have q := hk _ _ _ _ _ h; exact ⟨q.1, q.2⟩) | exact grow_new.trans (hk _ _ _ _ _ h) | exact (grow_new.trans ((grow_rows _ _).trans (grow_rowsR _ _))).trans (hk _ _ _ _ _ h)
theorem mo_oGetR  : jMono oGetR := by
  intro a b t ce ce' pc loc st S k k' hc hk r h
  unfold oGetR at h ⊢
  (repeat' split at h) <;> first | (cases h; done) | ((repeat (first | rw [if_pos (by assumption)] | rw [if_neg (by assumption)])); first | exact h | exact hk _ _ _ _ _ h)
theorem gr_oPut  : jGro oPut := by
  intro a b t ce pc loc st S k r hc hk h
  unfold oPut at h
  (repeat' split at h) <;> first | (cases h; done) | (cases h; exact grow.rfl') | (have q := hk _ _ _ _ _ h; exact ⟨q.1, q.2⟩) | exact grow_new.trans (hk _ _ _ _ _ h) | exact (grow_new.trans ((grow_rows _ _).trans (grow_rowsR _ _))).trans (hk _ _ _ _ _ h)
theorem mo_oPut  : jMono oPut := by
  intro a b t ce ce' pc loc st S k k' hc hk r h
  unfold oPut at h ⊢
  (repeat' split at h) <;> first | (cases h; done) | ((repeat (first | rw [if_pos (by assumption)] | rw [if_neg (by assumption)])); first | exact h | exact hk _ _ _ _ _ h)
theorem gr_oPutZ  : jGro oPutZ := by
  intro a b t ce pc loc st S k r hc hk h
  unfold oPutZ at h
  (repeat' split at h) <;> first | (cases h; done) | (cases h; exact grow.rfl') | (have q := hk _ _ _ _ _ h; exact ⟨q.1, q.2⟩) | exact grow_new.trans (hk _ _ _ _ _ h) | exact (grow_new.trans ((grow_rows _ _).trans (grow_rowsR _ _))).trans (hk _ _ _ _ _ h)
theorem mo_oPutZ  : jMono oPutZ := by
  intro a b t ce ce' pc loc st S k k' hc hk r h
  unfold oPutZ at h ⊢
  (repeat' split at h) <;> first | (cases h; done) | ((repeat (first | rw [if_pos (by assumption)] | rw [if_neg (by assumption)])); first | exact h | exact hk _ _ _ _ _ h)
theorem gr_oPutR  : jGro oPutR := by
  intro a b t ce pc loc st S k r hc hk h
  unfold oPutR at h
  (repeat' split at h) <;> first | (cases h; done) | (cases h; exact grow.rfl') | (have q := hk _ _ _ _ _ h; exact ⟨q.1, q.2⟩) | exact grow_new.trans (hk _ _ _ _ _ h) | exact (grow_new.trans ((grow_rows _ _).trans (grow_rowsR _ _))).trans (hk _ _ _ _ _ h)
theorem mo_oPutR  : jMono oPutR := by
  intro a b t ce ce' pc loc st S k k' hc hk r h
  unfold oPutR at h ⊢
  (repeat' split at h) <;> first | (cases h; done) | ((repeat (first | rw [if_pos (by assumption)] | rw [if_neg (by assumption)])); first | exact h | exact hk _ _ _ _ _ h)
theorem gr_oCst  : jGro oCst := by
  intro a b t ce pc loc st S k r hc hk h
  unfold oCst at h
  (repeat' split at h) <;> first | (cases h; done) | (cases h; exact grow.rfl') | (have q := hk _ _ _ _ _ h; exact ⟨q.1, q.2⟩) | exact grow_new.trans (hk _ _ _ _ _ h) | exact (grow_new.trans ((grow_rows _ _).trans (grow_rowsR _ _))).trans (hk _ _ _ _ _ h)
theorem mo_oCst  : jMono oCst := by
  intro a b t ce ce' pc loc st S k k' hc hk r h
  unfold oCst at h ⊢
  (repeat' split at h) <;> first | (cases h; done) | ((repeat (first | rw [if_pos (by assumption)] | rw [if_neg (by assumption)])); first | exact h | exact hk _ _ _ _ _ h)
theorem gr_oZst  : jGro oZst := by
  intro a b t ce pc loc st S k r hc hk h
  unfold oZst at h
  (repeat' split at h) <;> first | (cases h; done) | (cases h; exact grow.rfl') | (have q := hk _ _ _ _ _ h; exact ⟨q.1, q.2⟩) | exact grow_new.trans (hk _ _ _ _ _ h) | exact (grow_new.trans ((grow_rows _ _).trans (grow_rowsR _ _))).trans (hk _ _ _ _ _ h)
theorem mo_oZst  : jMono oZst := by
  intro a b t ce ce' pc loc st S k k' hc hk r h
  unfold oZst at h ⊢
  (repeat' split at h) <;> first | (cases h; done) | ((repeat (first | rw [if_pos (by assumption)] | rw [if_neg (by assumption)])); first | exact h | exact hk _ _ _ _ _ h)
theorem gr_oAald  : jGro oAald := by
  intro a b t ce pc loc st S k r hc hk h
  unfold oAald at h
  (repeat' split at h) <;> first | (cases h; done) | (cases h; exact grow.rfl') | (have q := hk _ _ _ _ _ h; exact ⟨q.1, q.2⟩) | exact grow_new.trans (hk _ _ _ _ _ h) | exact (grow_new.trans ((grow_rows _ _).trans (grow_rowsR _ _))).trans (hk _ _ _ _ _ h)
theorem mo_oAald  : jMono oAald := by
  intro a b t ce ce' pc loc st S k k' hc hk r h
  unfold oAald at h ⊢
  (repeat' split at h) <;> first | (cases h; done) | ((repeat (first | rw [if_pos (by assumption)] | rw [if_neg (by assumption)])); first | exact h | exact hk _ _ _ _ _ h)
theorem gr_oAast  : jGro oAast := by
  intro a b t ce pc loc st S k r hc hk h
  unfold oAast at h
  (repeat' split at h) <;> first | (cases h; done) | (cases h; exact grow.rfl') | (have q := hk _ _ _ _ _ h; exact ⟨q.1, q.2⟩) | exact grow_new.trans (hk _ _ _ _ _ h) | exact (grow_new.trans ((grow_rows _ _).trans (grow_rowsR _ _))).trans (hk _ _ _ _ _ h)
theorem mo_oAast  : jMono oAast := by
  intro a b t ce ce' pc loc st S k k' hc hk r h
  unfold oAast at h ⊢
  (repeat' split at h) <;> first | (cases h; done) | ((repeat (first | rw [if_pos (by assumption)] | rw [if_neg (by assumption)])); first | exact h | exact hk _ _ _ _ _ h)
theorem gr_oLen  : jGro oLen := by
  intro a b t ce pc loc st S k r hc hk h
  unfold oLen at h
  (repeat' split at h) <;> first | (cases h; done) | (cases h; exact grow.rfl') | (have q := hk _ _ _ _ _ h; exact ⟨q.1, q.2⟩) | exact grow_new.trans (hk _ _ _ _ _ h) | exact (grow_new.trans ((grow_rows _ _).trans (grow_rowsR _ _))).trans (hk _ _ _ _ _ h)
theorem mo_oLen  : jMono oLen := by
  intro a b t ce ce' pc loc st S k k' hc hk r h
  unfold oLen at h ⊢
  (repeat' split at h) <;> first | (cases h; done) | ((repeat (first | rw [if_pos (by assumption)] | rw [if_neg (by assumption)])); first | exact h | exact hk _ _ _ _ _ h)
theorem gr_oNew  : jGro oNew := by
  intro a b t ce pc loc st S k r hc hk h
  unfold oNew at h
  (repeat' split at h) <;> first | (cases h; done) | (cases h; exact grow.rfl') | (have q := hk _ _ _ _ _ h; exact ⟨q.1, q.2⟩) | exact grow_new.trans (hk _ _ _ _ _ h) | exact (grow_new.trans ((grow_rows _ _).trans (grow_rowsR _ _))).trans (hk _ _ _ _ _ h)
theorem mo_oNew  : jMono oNew := by
  intro a b t ce ce' pc loc st S k k' hc hk r h
  unfold oNew at h ⊢
  (repeat' split at h) <;> first | (cases h; done) | ((repeat (first | rw [if_pos (by assumption)] | rw [if_neg (by assumption)])); first | exact h | exact hk _ _ _ _ _ h)
theorem gr_oMulti  : jGro oMulti := by
  intro a b t ce pc loc st S k r hc hk h
  unfold oMulti at h
  (repeat' split at h) <;> first | (cases h; done) | (cases h; exact grow.rfl') | (have q := hk _ _ _ _ _ h; exact ⟨q.1, q.2⟩) | exact grow_new.trans (hk _ _ _ _ _ h) | exact (grow_new.trans ((grow_rows _ _).trans (grow_rowsR _ _))).trans (hk _ _ _ _ _ h)
theorem mo_oMulti  : jMono oMulti := by
  intro a b t ce ce' pc loc st S k k' hc hk r h
  unfold oMulti at h ⊢
  (repeat' split at h) <;> first | (cases h; done) | ((repeat (first | rw [if_pos (by assumption)] | rw [if_neg (by assumption)])); first | exact h | exact hk _ _ _ _ _ h)
theorem gr_oObj  : jGro oObj := by
  intro a b t ce pc loc st S k r hc hk h
  unfold oObj at h
  (repeat' split at h) <;> first | (cases h; done) | (cases h; exact grow.rfl') | (have q := hk _ _ _ _ _ h; exact ⟨q.1, q.2⟩) | exact grow_new.trans (hk _ _ _ _ _ h) | exact (grow_new.trans ((grow_rows _ _).trans (grow_rowsR _ _))).trans (hk _ _ _ _ _ h)
theorem mo_oObj  : jMono oObj := by
  intro a b t ce ce' pc loc st S k k' hc hk r h
  unfold oObj at h ⊢
  (repeat' split at h) <;> first | (cases h; done) | ((repeat (first | rw [if_pos (by assumption)] | rw [if_neg (by assumption)])); first | exact h | exact hk _ _ _ _ _ h)
theorem gr_oRetR  : jGro oRetR := by
  intro a b t ce pc loc st S k r hc hk h
  unfold oRetR at h
  (repeat' split at h) <;> first | (cases h; done) | (cases h; exact grow.rfl') | (have q := hk _ _ _ _ _ h; exact ⟨q.1, q.2⟩) | exact grow_new.trans (hk _ _ _ _ _ h) | exact (grow_new.trans ((grow_rows _ _).trans (grow_rowsR _ _))).trans (hk _ _ _ _ _ h)
theorem mo_oRetR  : jMono oRetR := by
  intro a b t ce ce' pc loc st S k k' hc hk r h
  unfold oRetR at h ⊢
  (repeat' split at h) <;> first | (cases h; done) | ((repeat (first | rw [if_pos (by assumption)] | rw [if_neg (by assumption)])); first | exact h | exact hk _ _ _ _ _ h)
theorem gr_oRetZ  : jGro oRetZ := by
  intro a b t ce pc loc st S k r hc hk h
  unfold oRetZ at h
  (repeat' split at h) <;> first | (cases h; done) | (cases h; exact grow.rfl') | (have q := hk _ _ _ _ _ h; exact ⟨q.1, q.2⟩) | exact grow_new.trans (hk _ _ _ _ _ h) | exact (grow_new.trans ((grow_rows _ _).trans (grow_rowsR _ _))).trans (hk _ _ _ _ _ h)
theorem mo_oRetZ  : jMono oRetZ := by
  intro a b t ce ce' pc loc st S k k' hc hk r h
  unfold oRetZ at h ⊢
  (repeat' split at h) <;> first | (cases h; done) | ((repeat (first | rw [if_pos (by assumption)] | rw [if_neg (by assumption)])); first | exact h | exact hk _ _ _ _ _ h)
theorem gr_oRetV  : jGro oRetV := by
  intro a b t ce pc loc st S k r hc hk h
  unfold oRetV at h
  (repeat' split at h) <;> first | (cases h; done) | (cases h; exact grow.rfl') | (have q := hk _ _ _ _ _ h; exact ⟨q.1, q.2⟩) | exact grow_new.trans (hk _ _ _ _ _ h) | exact (grow_new.trans ((grow_rows _ _).trans (grow_rowsR _ _))).trans (hk _ _ _ _ _ h)
theorem mo_oRetV  : jMono oRetV := by
  intro a b t ce ce' pc loc st S k k' hc hk r h
  unfold oRetV at h ⊢
  (repeat' split at h) <;> first | (cases h; done) | ((repeat (first | rw [if_pos (by assumption)] | rw [if_neg (by assumption)])); first | exact h | exact hk _ _ _ _ _ h)
theorem gr_oCopy  : jGro oCopy := by
  intro a b t ce pc loc st S k r hc hk h
  unfold oCopy at h
  (repeat' split at h) <;> first | (cases h; done) | (cases h; exact grow.rfl') | (have q := hk _ _ _ _ _ h; exact ⟨q.1, q.2⟩) | exact grow_new.trans (hk _ _ _ _ _ h) | exact (grow_new.trans ((grow_rows _ _).trans (grow_rowsR _ _))).trans (hk _ _ _ _ _ h)
theorem mo_oCopy  : jMono oCopy := by
  intro a b t ce ce' pc loc st S k k' hc hk r h
  unfold oCopy at h ⊢
  (repeat' split at h) <;> first | (cases h; done) | ((repeat (first | rw [if_pos (by assumption)] | rw [if_neg (by assumption)])); first | exact h | exact hk _ _ _ _ _ h)
theorem gr_oLdcS  : jGro oLdcS := by
  intro a b t ce pc loc st S k r hc hk h
  unfold oLdcS at h
  (repeat' split at h) <;> first | (cases h; done) | (cases h; exact grow.rfl') | (have q := hk _ _ _ _ _ h; exact ⟨q.1, q.2⟩) | exact grow_new.trans (hk _ _ _ _ _ h) | exact (grow_new.trans ((grow_rows _ _).trans (grow_rowsR _ _))).trans (hk _ _ _ _ _ h)
theorem mo_oLdcS  : jMono oLdcS := by
  intro a b t ce ce' pc loc st S k k' hc hk r h
  unfold oLdcS at h ⊢
  (repeat' split at h) <;> first | (cases h; done) | ((repeat (first | rw [if_pos (by assumption)] | rw [if_neg (by assumption)])); first | exact h | exact hk _ _ _ _ _ h)
theorem gr_oSLen  : jGro oSLen := by
  intro a b t ce pc loc st S k r hc hk h
  unfold oSLen at h
  (repeat' split at h) <;> first | (cases h; done) | (cases h; exact grow.rfl') | (have q := hk _ _ _ _ _ h; exact ⟨q.1, q.2⟩) | exact grow_new.trans (hk _ _ _ _ _ h) | exact (grow_new.trans ((grow_rows _ _).trans (grow_rowsR _ _))).trans (hk _ _ _ _ _ h)
theorem mo_oSLen  : jMono oSLen := by
  intro a b t ce ce' pc loc st S k k' hc hk r h
  unfold oSLen at h ⊢
  (repeat' split at h) <;> first | (cases h; done) | ((repeat (first | rw [if_pos (by assumption)] | rw [if_neg (by assumption)])); first | exact h | exact hk _ _ _ _ _ h)
theorem gr_oSChr  : jGro oSChr := by
  intro a b t ce pc loc st S k r hc hk h
  unfold oSChr at h
  (repeat' split at h) <;> first | (cases h; done) | (cases h; exact grow.rfl') | (have q := hk _ _ _ _ _ h; exact ⟨q.1, q.2⟩) | exact grow_new.trans (hk _ _ _ _ _ h) | exact (grow_new.trans ((grow_rows _ _).trans (grow_rowsR _ _))).trans (hk _ _ _ _ _ h)
theorem mo_oSChr  : jMono oSChr := by
  intro a b t ce ce' pc loc st S k k' hc hk r h
  unfold oSChr at h ⊢
  (repeat' split at h) <;> first | (cases h; done) | ((repeat (first | rw [if_pos (by assumption)] | rw [if_neg (by assumption)])); first | exact h | exact hk _ _ _ _ _ h)
theorem gr_oAld (ta tv : Nat) : jGro (oAld ta tv) := by
  intro a b t ce pc loc st S k r hc hk h
  unfold oAld at h
  (repeat' split at h) <;> first | (cases h; done) | (cases h; exact grow.rfl') | (have q := hk _ _ _ _ _ h; exact ⟨q.1, q.2⟩) | exact grow_new.trans (hk _ _ _ _ _ h) | exact (grow_new.trans ((grow_rows _ _).trans (grow_rowsR _ _))).trans (hk _ _ _ _ _ h)
theorem mo_oAld (ta tv : Nat) : jMono (oAld ta tv) := by
  intro a b t ce ce' pc loc st S k k' hc hk r h
  unfold oAld at h ⊢
  (repeat' split at h) <;> first | (cases h; done) | ((repeat (first | rw [if_pos (by assumption)] | rw [if_neg (by assumption)])); first | exact h | exact hk _ _ _ _ _ h)
theorem gr_oAst (ta tv : Nat) : jGro (oAst ta tv) := by
  intro a b t ce pc loc st S k r hc hk h
  unfold oAst at h
  (repeat' split at h) <;> first | (cases h; done) | (cases h; exact grow.rfl') | (have q := hk _ _ _ _ _ h; exact ⟨q.1, q.2⟩) | exact grow_new.trans (hk _ _ _ _ _ h) | exact (grow_new.trans ((grow_rows _ _).trans (grow_rowsR _ _))).trans (hk _ _ _ _ _ h)
theorem mo_oAst (ta tv : Nat) : jMono (oAst ta tv) := by
  intro a b t ce ce' pc loc st S k k' hc hk r h
  unfold oAst at h ⊢
  (repeat' split at h) <;> first | (cases h; done) | ((repeat (first | rw [if_pos (by assumption)] | rw [if_neg (by assumption)])); first | exact h | exact hk _ _ _ _ _ h)
theorem gr_oNewA (n : Nat) : jGro (oNewA n) := by
  intro a b t ce pc loc st S k r hc hk h
  unfold oNewA at h
  (repeat' split at h) <;> first | (cases h; done) | (cases h; exact grow.rfl') | (have q := hk _ _ _ _ _ h; exact ⟨q.1, q.2⟩) | exact grow_new.trans (hk _ _ _ _ _ h) | exact (grow_new.trans ((grow_rows _ _).trans (grow_rowsR _ _))).trans (hk _ _ _ _ _ h)
theorem mo_oNewA (n : Nat) : jMono (oNewA n) := by
  intro a b t ce ce' pc loc st S k k' hc hk r h
  unfold oNewA at h ⊢
  (repeat' split at h) <;> first | (cases h; done) | ((repeat (first | rw [if_pos (by assumption)] | rw [if_neg (by assumption)])); first | exact h | exact hk _ _ _ _ _ h)
theorem gr_oRet (t : Nat) : jGro (oRet t) := by
  intro a b t ce pc loc st S k r hc hk h
  unfold oRet at h
  (repeat' split at h) <;> first | (cases h; done) | (cases h; exact grow.rfl') | (have q := hk _ _ _ _ _ h; exact ⟨q.1, q.2⟩) | exact grow_new.trans (hk _ _ _ _ _ h) | exact (grow_new.trans ((grow_rows _ _).trans (grow_rowsR _ _))).trans (hk _ _ _ _ _ h)
theorem mo_oRet (t : Nat) : jMono (oRet t) := by
  intro a b t ce ce' pc loc st S k k' hc hk r h
  unfold oRet at h ⊢
  (repeat' split at h) <;> first | (cases h; done) | ((repeat (first | rw [if_pos (by assumption)] | rw [if_neg (by assumption)])); first | exact h | exact hk _ _ _ _ _ h)
theorem gr_oTab : jGro oTab := by
  intro a b t ce pc loc st S k r hc hk h
  unfold oTab at h
  split at h
  · exact jsw_gro (fun t h => hk _ _ _ _ _ h) _ _ h
  · cases h
theorem mo_oTab : jMono oTab := by
  intro a b t ce ce' pc loc st S k k' hc hk r h
  unfold oTab at h ⊢
  split at h
  · exact jsw_mono (fun t h => hk _ _ _ _ _ h) _ _ h
  · cases h
theorem gr_oLook : jGro oLook := by
  intro a b t ce pc loc st S k r hc hk h
  unfold oLook at h
  split at h
  · exact jlk_gro (fun t h => hk _ _ _ _ _ h) _ h
  · cases h
theorem mo_oLook : jMono oLook := by
  intro a b t ce ce' pc loc st S k k' hc hk r h
  unfold oLook at h ⊢
  split at h
  · exact jlk_mono (fun t h => hk _ _ _ _ _ h) _ h
  · cases h
theorem gr_oCall : jGro oCall := by
  intro a b t ce pc loc st S k r hc hk h
  unfold oCall at h
  split at h
  case isFalse => cases h
  split at h
  case isFalse => cases h
  rw [Option.bind_eq_some_iff] at h
  obtain ⟨⟨z, S'⟩, h1, h2⟩ := h
  exact (hc _ _ _ _ _ h1).trans (hk _ _ _ _ _ h2)
theorem mo_oCall : jMono oCall := by
  intro a b t ce ce' pc loc st S k k' hc hk r h
  unfold oCall at h ⊢
  split at h
  case isFalse => cases h
  split at h
  case isFalse => cases h
  rw [if_pos (by assumption), if_pos (by assumption)]
  rw [Option.bind_eq_some_iff] at h ⊢
  obtain ⟨q, h1, h2⟩ := h
  exact ⟨q, hc _ _ _ _ h1, hk _ _ _ _ _ h2⟩
theorem gr_oCallV : jGro oCallV := by
  intro a b t ce pc loc st S k r hc hk h
  unfold oCallV at h
  split at h
  case h_2 => cases h
  split at h
  case isFalse => cases h
  split at h
  case isFalse => cases h
  exact gr_oCall a b t ce pc loc st S k r hc hk h
theorem mo_oCallV : jMono oCallV := by
  intro a b t ce ce' pc loc st S k k' hc hk r h
  unfold oCallV at h ⊢
  split at h
  case h_2 => cases h
  split at h
  case isFalse => cases h
  split at h
  case isFalse => cases h
  rw [if_pos (by assumption), if_pos (by assumption)]
  exact mo_oCall a b t ce ce' pc loc st S k k' hc hk r h
theorem gr_oSld : jGro oSld := by
  intro a b t ce pc loc st S k r hc hk h
  unfold oSld at h
  split at h
  case h_2 => cases h
  split at h
  case isFalse => cases h
  split at h
  case isFalse => cases h
  rw [Option.bind_eq_some_iff] at h
  obtain ⟨q, h1, h2⟩ := h
  exact hk _ _ _ _ _ h2
theorem mo_oSld : jMono oSld := by
  intro a b t ce ce' pc loc st S k k' hc hk r h
  unfold oSld at h ⊢
  split at h
  case h_2 => cases h
  split at h
  case isFalse => cases h
  split at h
  case isFalse => cases h
  rw [if_pos (by assumption), if_pos (by assumption)]
  rw [Option.bind_eq_some_iff] at h ⊢
  obtain ⟨q, h1, h2⟩ := h
  exact ⟨q, hc _ _ _ _ h1, hk _ _ _ _ _ h2⟩
theorem gr_oSlen : jGro oSlen := by
  intro a b t ce pc loc st S k r hc hk h
  unfold oSlen at h
  split at h
  case h_2 => cases h
  split at h
  case isFalse => cases h
  split at h
  case isFalse => cases h
  rw [Option.bind_eq_some_iff] at h
  obtain ⟨q, h1, h2⟩ := h
  exact hk _ _ _ _ _ h2
theorem mo_oSlen : jMono oSlen := by
  intro a b t ce ce' pc loc st S k k' hc hk r h
  unfold oSlen at h ⊢
  split at h
  case h_2 => cases h
  split at h
  case isFalse => cases h
  split at h
  case isFalse => cases h
  rw [if_pos (by assumption), if_pos (by assumption)]
  rw [Option.bind_eq_some_iff] at h ⊢
  obtain ⟨q, h1, h2⟩ := h
  exact ⟨q, hc _ _ _ _ h1, hk _ _ _ _ _ h2⟩
theorem gr_all : ∀ n : Nat, jGro (jops.getD n oBad)
  | 0 => gr_oBad
  | 1 => gr_oPush 0 1
  | 2 => gr_oPush 0 2
  | 3 => gr_oPush 0 3
  | 4 => gr_oPush 0 2
  | 5 => gr_oPush 0 3
  | 6 => gr_oPush 1 1
  | 7 => gr_oPush 1 3
  | 8 => gr_oLoad 0 1
  | 9 => gr_oLoad 0 2
  | 10 => gr_oLoad 1 1
  | 11 => gr_oLoad 1 2
  | 12 => gr_oALoad 1
  | 13 => gr_oALoad 2
  | 14 => gr_oStore 1
  | 15 => gr_oStore 2
  | 16 => gr_oLStore 1
  | 17 => gr_oLStore 2
  | 18 => gr_oAStore 1
  | 19 => gr_oAStore 2
  | 20 => gr_oIinc
  | 21 => gr_oBin jadd
  | 22 => gr_oBin jsub
  | 23 => gr_oBin jmul
  | 24 => gr_oDiv jdiv
  | 25 => gr_oDiv jrem
  | 26 => gr_oIneg
  | 27 => gr_oBin iShl
  | 28 => gr_oBin iShr
  | 29 => gr_oBin iUshr
  | 30 => gr_oBin iAnd
  | 31 => gr_oBin iOr
  | 32 => gr_oBin iXor
  | 33 => gr_oBinL ladd
  | 34 => gr_oBinL lsub
  | 35 => gr_oBinL lmul
  | 36 => gr_oDivL ldiv
  | 37 => gr_oDivL lrem
  | 38 => gr_oBinL lAnd
  | 39 => gr_oBinL lOr
  | 40 => gr_oShL lShl
  | 41 => gr_oShL lShr
  | 42 => gr_oLcmp
  | 43 => gr_oI2l
  | 44 => gr_oL2i
  | 45 => gr_oDup
  | 46 => gr_oDup2
  | 47 => gr_oPop
  | 48 => gr_oIfEq
  | 49 => gr_oIfNe
  | 50 => gr_oIfLt
  | 51 => gr_oIfGe
  | 52 => gr_oIfGt
  | 53 => gr_oIfLe
  | 54 => gr_oIcEq
  | 55 => gr_oIcNe
  | 56 => gr_oIcLt
  | 57 => gr_oIcGe
  | 58 => gr_oIcGt
  | 59 => gr_oIcLe
  | 60 => gr_oGoto
  | 61 => gr_oIfNN
  | 62 => gr_oTab
  | 63 => gr_oLook
  | 64 => gr_oGet
  | 65 => gr_oGetR
  | 66 => gr_oPut
  | 67 => gr_oPutZ
  | 68 => gr_oPutR
  | 69 => gr_oPutR
  | 70 => gr_oAld 24 0
  | 71 => gr_oAld 25 1
  | 72 => gr_oAld 26 0
  | 73 => gr_oAld 23 0
  | 74 => gr_oAald
  | 75 => gr_oAst 24 0
  | 76 => gr_oAst 25 1
  | 77 => gr_oZst
  | 78 => gr_oCst
  | 79 => gr_oAast
  | 80 => gr_oLen
  | 81 => gr_oNew
  | 82 => gr_oNewA 2
  | 83 => gr_oNewA 3
  | 84 => gr_oMulti
  | 85 => gr_oCallV
  | 86 => gr_oCallV
  | 87 => gr_oCallV
  | 88 => gr_oCallV
  | 89 => gr_oCall
  | 90 => gr_oObj
  | 91 => gr_oRet 0
  | 92 => gr_oRet 1
  | 93 => gr_oRetR
  | 94 => gr_oRetZ
  | 95 => gr_oRetV
  | 96 => gr_oPush 24 1
  | 97 => gr_oCopy
  | 98 => gr_oLdcS
  | 99 => gr_oSLen
  | 100 => gr_oSChr
  | 101 => gr_oSld
  | 102 => gr_oSlen
  | n + 103 => gr_oBad
theorem mo_all : ∀ n : Nat, jMono (jops.getD n oBad)
  | 0 => mo_oBad
  | 1 => mo_oPush 0 1
  | 2 => mo_oPush 0 2
  | 3 => mo_oPush 0 3
  | 4 => mo_oPush 0 2
  | 5 => mo_oPush 0 3
  | 6 => mo_oPush 1 1
  | 7 => mo_oPush 1 3
  | 8 => mo_oLoad 0 1
  | 9 => mo_oLoad 0 2
  | 10 => mo_oLoad 1 1
  | 11 => mo_oLoad 1 2
  | 12 => mo_oALoad 1
  | 13 => mo_oALoad 2
  | 14 => mo_oStore 1
  | 15 => mo_oStore 2
  | 16 => mo_oLStore 1
  | 17 => mo_oLStore 2
  | 18 => mo_oAStore 1
  | 19 => mo_oAStore 2
  | 20 => mo_oIinc
  | 21 => mo_oBin jadd
  | 22 => mo_oBin jsub
  | 23 => mo_oBin jmul
  | 24 => mo_oDiv jdiv
  | 25 => mo_oDiv jrem
  | 26 => mo_oIneg
  | 27 => mo_oBin iShl
  | 28 => mo_oBin iShr
  | 29 => mo_oBin iUshr
  | 30 => mo_oBin iAnd
  | 31 => mo_oBin iOr
  | 32 => mo_oBin iXor
  | 33 => mo_oBinL ladd
  | 34 => mo_oBinL lsub
  | 35 => mo_oBinL lmul
  | 36 => mo_oDivL ldiv
  | 37 => mo_oDivL lrem
  | 38 => mo_oBinL lAnd
  | 39 => mo_oBinL lOr
  | 40 => mo_oShL lShl
  | 41 => mo_oShL lShr
  | 42 => mo_oLcmp
  | 43 => mo_oI2l
  | 44 => mo_oL2i
  | 45 => mo_oDup
  | 46 => mo_oDup2
  | 47 => mo_oPop
  | 48 => mo_oIfEq
  | 49 => mo_oIfNe
  | 50 => mo_oIfLt
  | 51 => mo_oIfGe
  | 52 => mo_oIfGt
  | 53 => mo_oIfLe
  | 54 => mo_oIcEq
  | 55 => mo_oIcNe
  | 56 => mo_oIcLt
  | 57 => mo_oIcGe
  | 58 => mo_oIcGt
  | 59 => mo_oIcLe
  | 60 => mo_oGoto
  | 61 => mo_oIfNN
  | 62 => mo_oTab
  | 63 => mo_oLook
  | 64 => mo_oGet
  | 65 => mo_oGetR
  | 66 => mo_oPut
  | 67 => mo_oPutZ
  | 68 => mo_oPutR
  | 69 => mo_oPutR
  | 70 => mo_oAld 24 0
  | 71 => mo_oAld 25 1
  | 72 => mo_oAld 26 0
  | 73 => mo_oAld 23 0
  | 74 => mo_oAald
  | 75 => mo_oAst 24 0
  | 76 => mo_oAst 25 1
  | 77 => mo_oZst
  | 78 => mo_oCst
  | 79 => mo_oAast
  | 80 => mo_oLen
  | 81 => mo_oNew
  | 82 => mo_oNewA 2
  | 83 => mo_oNewA 3
  | 84 => mo_oMulti
  | 85 => mo_oCallV
  | 86 => mo_oCallV
  | 87 => mo_oCallV
  | 88 => mo_oCallV
  | 89 => mo_oCall
  | 90 => mo_oObj
  | 91 => mo_oRet 0
  | 92 => mo_oRet 1
  | 93 => mo_oRetR
  | 94 => mo_oRetZ
  | 95 => mo_oRetV
  | 96 => mo_oPush 24 1
  | 97 => mo_oCopy
  | 98 => mo_oLdcS
  | 99 => mo_oSLen
  | 100 => mo_oSChr
  | 101 => mo_oSld
  | 102 => mo_oSlen
  | n + 103 => mo_oBad
theorem jrun_gro {ce : jC} {cd : List jI} (hc : jGroC ce) : ∀ n : Nat, jGroT (jrun ce cd n)
  | 0 => fun _ _ _ _ _ h => by cases h
  | n + 1 => fun pc loc st S r h => gr_all _ _ _ _ ce pc loc st S _ r hc (jrun_gro hc n) h
/-- the arguments' words fit, and it isn't the law -/
def jfit (m : Nat) (args : List jV) : Bool := decide ((args.flatMap fun v => if v.1 = 1 then [v, (2, -1)] else [v]).length ≤ jml0 m ∧ m < 342)
/-- the methods, at most d calls deep, at most F steps each -/
def jeva (F : Nat) : Nat → jC
  | 0 => fun _ _ _ => none
  | d + 1 => fun m args S => if jfit m args then jrun (jeva F d) (jcd m) F 0 (jent args (jml0 m)) [] S else none
theorem jeva_fit {F d m : Nat} {args : List jV} {S : jS} {r : Int × jS} (h : jeva F (d + 1) m args S = some r) : jfit m args = true ∧ jrun (jeva F d) (jcd m) F 0 (jent args (jml0 m)) [] S = some r := by
  unfold jeva at h
  split at h
  · exact ⟨by assumption, h⟩
  · cases h
theorem jeva_gro (F : Nat) : ∀ d : Nat, jGroC (jeva F d)
  | 0 => fun _ _ _ _ _ h => by cases h
  | d + 1 => fun m a S z S' h => jrun_gro (jeva_gro F d) F _ _ _ _ _ (jeva_fit h).2
theorem jrun_mono {ce ce' : jC} {cd : List jI} (hc : jleC ce ce') : ∀ n n' : Nat, n ≤ n' → jleT (jrun ce cd n) (jrun ce' cd n')
  | 0, _, _ => fun _ _ _ _ _ h => by cases h
  | n + 1, 0, h => absurd h (by omega)
  | n + 1, n' + 1, hn => fun pc loc st S r h => mo_all _ _ _ _ ce ce' pc loc st S _ _ hc (jrun_mono hc n n' (by omega)) r h
theorem jeva_mono {F F' : Nat} (hF : F ≤ F') : ∀ d d' : Nat, d ≤ d' → jleC (jeva F d) (jeva F' d')
  | 0, _, _ => fun _ _ _ _ h => by cases h
  | d + 1, 0, h => absurd h (by omega)
  | d + 1, d' + 1, hd => fun m a S r h => by
    obtain ⟨h1, h2⟩ := jeva_fit h
    unfold jeva
    rw [if_pos h1]
    exact jrun_mono (jeva_mono hF d d' (by omega)) F F' hF _ _ _ _ r h2
end
section
/-! every method that the pure machine runs to its end is met -/
def jck (own : Nat) (cc : ByteArray) (ret : Option FieldType) (ini : Bool) (i : jI) (pc : Nat) : Bool := (jchks.getD i.1 hTrue) own cc pc i.2.1 i.2.2.1 i.2.2.2 && (jRchk ret i && (decide (i.1 ≠ 69) || ini))
theorem jrun_sim {Γ : jCtx} {own : Nat} {cc : ByteArray} {ce : jC} {rF : Int × jS} {dd : Nat} {ret : Option FieldType} {cd : List jI} {ini : Bool} (C : jCx Γ own cc) (hce : ∀ (m : Nat) (args : List jV) (S : jS) (z : Int) (S' : jS), m < 343 → ce m args S = some (z, S') → jMet (xl Γ) dd m args S z S') (hG : jGroC ce) (hR : ∀ (m : Nat) (args : List jV) (S : jS) (r : Int × jS), m < 343 → ce m args S = some r → dd + 8 ≤ (xR Γ).frames ∧ 60 * (dd + 8) ≤ (xR Γ).locals) (hret : jRets Γ own cc ret rF) (hoth : jOth Γ own cc ce rF) (hcells : gN rF.2.1 - xk Γ ≤ (xR Γ).cells ∧ gM rF.2.1 - xj Γ ≤ (xR Γ).slots) (hini : ini = true → (xM Γ).name = "<init>") (hck : ∀ pc : Nat, jck own cc ret ini (cd.getD pc (0, 0, 0, [])) pc = true) :
    ∀ (n pc : Nat) (loc st : List jV) (S : jS), jrun ce cd n pc loc st S = some rF → jK Γ pc loc st S
  | 0, _, _, _, _, h => by cases h
  | n + 1, pc, loc, st, S, h => by
    have hc := hck pc
    unfold jck at hc
    simp only [Bool.and_eq_true] at hc
    refine jstep_sim C hce (fun m a S z S' _ h => hG m a S z S' h) hR hret hoth _ _ _ pc loc st S (jrun ce cd n) _ (fun e => ?_) hc.2.1 hc.1 h (fun pc loc st S h => ?_) (jrun_sim C hce hG hR hret hoth hcells hini hck n)
    · have h3 := hc.2.2
      rw [Bool.or_eq_true] at h3
      rcases h3 with q | q
      · exact absurd e (of_decide_eq_true q)
      · exact hini q
    · have g := jrun_gro hG n pc loc st S rF h
      have g1 := g.1
      have g2 := g.2
      omega
theorem jent_mem (ad : Int → Nat) (k : Nat) : ∀ (args : List jV) (off i : Nat) (v : jV), ((args.flatMap fun v => if v.1 = 1 then [v, (2, -1)] else [v]) ++ List.replicate k (2, -1))[i]? = some v → v.1 ≠ 2 → (off + i, jtr ad v) ∈ lv_args off (args.map (jtr ad))
  | [], off, i, v, h, hv => by
    rw [List.flatMap_nil, List.nil_append] at h
    have := List.eq_of_mem_replicate (List.mem_of_getElem? h)
    rw [this] at hv
    exact absurd rfl hv
  | a :: as, off, i, v, h, hv => by
    rw [List.flatMap_cons] at h
    rw [List.map_cons]
    show (off + i, jtr ad v) ∈ (off, jtr ad a) :: lv_args (if (jtr ad a).category = 2 then off + 2 else off + 1) (as.map (jtr ad))
    by_cases e : a.1 = 1
    · rw [if_pos e] at h
      rw [if_pos (jtr_cat2 e)]
      match i, h with
      | 0, h =>
        have ea : a = v := Option.some.inj h
        rw [ea]
        exact List.mem_cons_self
      | 1, h =>
        have ea : ((2, -1) : jV) = v := Option.some.inj h
        rw [← ea] at hv
        exact absurd rfl hv
      | i + 2, h =>
        have := jent_mem ad k as (off + 2) i v h hv
        rw [show off + 2 + i = off + (i + 2) by omega] at this
        exact List.mem_cons_of_mem _ this
    · rw [if_neg e] at h
      rw [if_neg (by rw [jtr_cat e]; omega)]
      match i, h with
      | 0, h =>
        have ea : a = v := Option.some.inj h
        rw [ea]
        exact List.mem_cons_self
      | i + 1, h =>
        have := jent_mem ad k as (off + 1) i v h hv
        rw [show off + 1 + i = off + (i + 1) by omega] at this
        exact List.mem_cons_of_mem _ this
theorem jsl_len (ad : Int → Nat) : ∀ args : List jV, (lg_sl (args.map (jtr ad))).length = (args.flatMap fun v => if v.1 = 1 then [v, (2, -1)] else [v]).length
  | [] => rfl
  | a :: as => by
    have ih := jsl_len ad as
    unfold lg_sl at ih ⊢
    rw [List.map_cons, List.flatMap_cons, List.flatMap_cons, List.length_append, List.length_append, ih]
    congr 1
    by_cases e : a.1 = 1
    · rw [if_pos e, if_pos (jtr_cat2 e)]
      rfl
    · rw [if_neg e, if_neg (by rw [jtr_cat e]; omega)]
      rfl
theorem jL_entry {ls : Array Slot} {nL : Nat} {ad : Int → Nat} {args : List jV} (hf : (args.flatMap fun v => if v.1 = 1 then [v, (2, -1)] else [v]).length ≤ nL) (h : lv_has ls nL (lv_args 0 (args.map (jtr ad)))) : jL ls nL ad (jent args nL) := by
  refine ⟨h.1, ?_, h.2.1, fun i v hi hv => ?_⟩
  · unfold jent
    rw [List.length_append, List.length_replicate]
    omega
  · have := jent_mem ad _ args 0 i v hi hv
    rw [Nat.zero_add] at this
    exact h.2.2 (i, jtr ad v) this
theorem jent_ok {S : jS} {args : List jV} {n : Nat} (h : ∀ v ∈ args, jok S v) : ∀ v ∈ jent args n, jok S v := by
  intro v hv
  unfold jent at hv
  rcases List.mem_append.mp hv with q | q
  · obtain ⟨w, h1, h2⟩ := List.mem_flatMap.mp q
    by_cases e : w.1 = 1
    · rw [if_pos e] at h2
      rcases List.mem_cons.mp h2 with g | g
      · rw [g]; exact h w h1
      · rw [List.mem_singleton.mp g]; exact jok_u
    · rw [if_neg e] at h2
      rw [List.mem_singleton.mp h2]; exact h w h1
  · rw [List.eq_of_mem_replicate q]; exact jok_u
/-- a method's code is what its table says -/
def jckM (m : Nat) : Prop := ∀ pc : Nat, jck (jme m).2.2.2.2 (jme m).2.1 (jme m).2.2.2.1 (decide ((jy m).name = "<init>")) ((jcd m).getD pc (0, 0, 0, [])) pc = true
/-- what is known of every method, by program -/
def jgoodM (m : Nat) : Prop := plainName (jy m).cls = true ∧ (jy m).cls = jcn.getD (jme m).2.2.2.2 "" ∧ jml0 m = (jme m).2.2.1
/-- what the instructions beside need: the string constant, new T[n][m]; the script is the law's alone -/
def jOthM (l : Launch) : Prop := ∀ (Γ : jCtx) (own : Nat) (cc : ByteArray) (ce : jC) (rF : Int × jS), xl Γ = l → jCx Γ own cc → (∀ a S, ce 1000 a S = none) → (∀ a S, ce 1001 a S = none) → jOth Γ own cc ce rF
theorem jeva_none {F d m : Nat} {args : List jV} {S : jS} (h : ¬ m < 342) : jeva F d m args S = none := by
  cases d with
  | zero => rfl
  | succ d =>
    unfold jeva
    rw [if_neg]
    unfold jfit
    intro q
    exact h (of_decide_eq_true q).2
theorem jmet_all (l : Launch) (F : Nat) (hoth : jOthM l) (hck : ∀ m, m < 342 → jckM m ∧ jgoodM m) : ∀ (d m : Nat) (args : List jV) (S : jS) (z : Int) (S' : jS), jeva F (d + 1) m args S = some (z, S') → jMet l d m args S z S' := by
  intro d
  induction d using Nat.strongRecOn with
  | _ d ih =>
  intro m args S z S' h D cy ad v0 sz hwf hargs hgr
  obtain ⟨hfit, hrun⟩ := jeva_fit h
  obtain ⟨hf1, hm⟩ := of_decide_eq_true hfit
  obtain ⟨hc, hpl, hcn, hml0⟩ := hck m hm
  refine Met.ofW (cc := (jme m).2.1) (maxL := (jme m).2.2.1) (ret := (jme m).2.2.2.1) hpl rfl ?_
  intro p e s m' args' below meth c s₁ B hml hv
  obtain ⟨rfl, hsz, hP, hK, hD0, hE, hX⟩ := hv
  subst hsz
  have hts : ∀ w ∈ jtbl, w.before (args.map (jtr ad)).toArray s = true := fun w hw => atoms_spec (ws := jws m) B.pre w (List.mem_cons_of_mem _ hw)
  have hown : s.vm.findClass (jy m).cls = some m'.cls := findClass_of_methodNamed B.named
  rw [hcn] at hown
  have hD := hD0.self (sz := s.heap.size)
  let Γ : jCtx := ((p, l, e, jrm d (gN S'.1 - gN S.1) (gM S'.1 - gM S.1), s, m', (args.map (jtr ad)).toArray, below), (meth, c, MQ below (jPost D cy ad s.heap.size S (jrt m) z S') (args.map (jtr ad)).toArray s (gN S'.1 - gN S.1) (gM S'.1 - gM S.1) (va_A (jwld cy ad S) s.heap.size), (jme m).2.2.1, D, cy, va_A (jwld cy ad S) s.heap.size), (ad, gN S.1, gM S.1, v0, gK S.1))
  have C : jCx Γ (jme m).2.2.2.2 (jme m).2.1 := ⟨B.exec, B.bytes, hml, hown, hts, hK, fun q h => Or.inr h, B.notSynchronized, hE, hX, by show 7 ≤ d + 7; omega, by show 420 ≤ 60 * (d + 7); omega⟩
  have hrets : jRets Γ (jme m).2.2.2.2 (jme m).2.1 (jme m).2.2.2.1 (z, S') := jrets_met C (S0 := S) (rt := jrt m) ⟨rfl, rfl, rfl, rfl⟩ rfl B.returns rfl
  have hn1 : ∀ a S, jeva F d 1000 a S = none := fun a S => jeva_none (by omega)
  have hn2 : ∀ a S, jeva F d 1001 a S = none := fun a S => jeva_none (by omega)
  have hK0 : jK Γ 0 (jent args (jml0 m)) [] S := by
    refine jrun_sim (dd := d - 1) C (fun m2 a2 S2 z2 S2' _ h2 => ?_) (jeva_gro F d) (fun m2 a2 S2 r2 _ h2 => ?_) hrets (hoth Γ _ _ _ _ rfl C hn1 hn2) ⟨Nat.le_refl _, Nat.le_refl _⟩ (fun q => ?_) hc F 0 _ _ S hrun
    · cases d with
      | zero => cases h2
      | succ d => exact ih d (Nat.lt_succ_self d) m2 a2 S2 z2 S2' h2
    · cases d with
      | zero => cases h2
      | succ d =>
        show d + 1 - 1 + 8 ≤ d + 1 + 7 ∧ 60 * (d + 1 - 1 + 8) ≤ 60 * (d + 1 + 7)
        omega
    · have h1 := (name_of_methodNamed B.named B.method).1
      show meth.name = "<init>"
      rw [h1]
      exact of_decide_eq_true q
  have hl := lv_entry (args.map (jtr ad)) (n := (jme m).2.2.1) (by rw [jsl_len, ← hml0]; exact hf1)
  rw [lg_entry_eq]
  generalize (lg_sl (args.map (jtr ad)) ++ List.replicate ((jme m).2.2.1 - (lg_sl (args.map (jtr ad))).length) Slot.unset).toArray = ls at hl ⊢
  have hjl : jL ls (jme m).2.2.1 ad (jent args (jml0 m)) := by
    rw [hml0]
    exact jL_entry (by rw [← hml0]; exact hf1) hl
  have K := hK0 ls s.heap [] ad ⟨hjl, hwf, jent_ok hargs, fun v hv => absurd hv List.not_mem_nil, ⟨fun _ _ => rfl, Nat.le_refl _, Nat.le_refl _, hgr, fun _ _ => rfl⟩, hP, hD, va_S.rf⟩
  unfold jW at K
  rw [show gN S.1 - xk Γ = 0 from Nat.sub_self _, show gM S.1 - xj Γ = 0 from Nat.sub_self _] at K
  exact K
end
section
/-! the string constant's reading: the JDK's own methods -/
def sWords : List Cond := [.code yJ3_checkIndex_8e157 cJ3_checkIndex_8e157 3 (some .int), .code yJ0_checkIndex_df160 cJ0_checkIndex_df160 2 none, .fieldLink RJ0 1053 "jdk/internal/util/Preconditions" "SIOOBE_FORMATTER" "Ljava/util/function/BiFunction;", .methodLink RJ0 1059 yJ3_checkIndex_8e157, .static yJ3_checkIndex_8e157, .initialized RJ3,
  .code yJ1_charAt_3b067 cJ1_charAt_3b067 2 (some .char), .methodLink RJ1 9 yJ0_checkIndex_df160, .static yJ0_checkIndex_df160, .initialized RJ0,
  .code yJ0_isLatin1_aae02 cJ0_isLatin1_aae02 1 (some .boolean), .fieldLink RJ0 38 RJ0 "COMPACT_STRINGS" "Z", .fieldLink RJ0 15 RJ0 "coder" "B",
  .code yJ0_coder_7d493 cJ0_coder_7d493 1 (some .byte), .code yJ0_length_8abf5 cJ0_length_8abf5 1 (some .int), .fieldLink RJ0 9 RJ0 "value" "[B", .methodLink RJ0 335 yJ0_coder_7d493, .instanceMethod yJ0_coder_7d493, .selects RJ0 yJ0_coder_7d493 yJ0_coder_7d493,
  .code yJ0_charAt_5068e cJ0_charAt_5068e 2 (some .char), .methodLink RJ0 492 yJ0_isLatin1_aae02, .instanceMethod yJ0_isLatin1_aae02, .selects RJ0 yJ0_isLatin1_aae02 yJ0_isLatin1_aae02, .methodLink RJ0 495 yJ1_charAt_3b067, .static yJ1_charAt_3b067, .initialized RJ1,
  .methodLink RX7 69 yJ0_length_8abf5, .instanceMethod yJ0_length_8abf5, .selects RJ0 yJ0_length_8abf5 yJ0_length_8abf5, .methodLink RX7 72 yJ0_charAt_5068e, .instanceMethod yJ0_charAt_5068e, .selects RJ0 yJ0_charAt_5068e yJ0_charAt_5068e]
set_option maxRecDepth 100000 in
theorem e_sw : sWords = [577, 572, 573, 575, 576, 18, 569, 570, 571, 16, 566, 557, 2272, 556, 552, 2271, 553, 554, 555, 562, 563, 564, 565, 567, 568, 17, 549, 550, 551, 559, 560, 561].filterMap (fun i => tables_1[i]?) := by rfl
theorem q_sw : ∀ w ∈ sWords, w ∈ tables_1 := pick_mem e_sw
theorem sw_good : ∀ w ∈ sWords, goodWord w = true := by decide +kernel
theorem sw_ok {w : Cond} (k : Nat) (h : sWords[k]? = some w) : w ∈ jtbl := mem_jtbl (tab_in _ (q_sw _ (List.mem_of_getElem? h))) (sw_good _ (List.mem_of_getElem? h))
def sWs (w : Cond) : List Cond := w :: jtbl
theorem sgood {w : Cond} (h : w ∈ jtbl) : GoodIn jtbl (sWs w) := by
  intro v hv
  have hm : v ∈ jtbl := by
    rcases List.mem_cons.mp hv with e | e
    · rw [e]; exact h
    · exact e
  exact ⟨hm, good_of_word (List.mem_filter.mp hm).2⟩
def sRm (d : Nat) : Room := { frames := d, cells := 0, slots := 0, locals := 60 * d }
def sPc (av : List Value) (a v : Nat) (A : Nat → Prop) : Array Value → State → Prop := va_Pc av (fun U => jE a v A U U.heap)
def sQc (r : Option Value) : Array Value → State → Outcome → State → Prop := fun _ st o t => o = .returned r ∧ t.heap = st.heap
theorem sblind (av : List Value) (a v : Nat) (A : Nat → Prop) : FrameBlind (sPc av a v A) := by
  intro b U g mk h
  exact ⟨h.1, jE.same (u := U) rfl h.2⟩
/-- behind such a call nothing has changed -/
theorem sback {p : Program} {l : Launch} {e : Env} {R : Room} {s : State} {m : MethodId} {args : Array Value} {below : List Frame} {meth : Method} {c : Code} {H : Heap} {locs : List Loc} {cells slots : Nat} {Q : State → Prop} {pc : Nat} {ls : Array Slot} {st0 rest : List Value} {r : Option Value} {a : Array Value}
    (hr : va_Run p l e R s m args below meth c H locs cells slots 0 0 (F0 m pc ls st0) rest (sQc r a) (fun _ => False)) (kk : W p l e R s m args below meth c H locs cells slots Q (F0 m (pc + 3) ls (r.toList ++ rest))) : W p l e R s m args below meth c H locs cells slots Q (F0 m pc ls st0) := by
  intro T hT X
  obtain ⟨v, st₀, t, T', L, h0, X', hL, e1, e2, ⟨hv, ht⟩, st⟩ := hr T hT X
  have hv : v = r := Outcome.returned.inj hv
  have hLn : L = [] := by
    cases L with
    | nil => rfl
    | cons x L => exact absurd (hL x List.mem_cons_self) id
  subst hv
  subst hLn
  rw [List.append_nil] at X'
  obtain ⟨t2, a1, b1⟩ := kk T' (by rw [e1, ht, h0]) X'
  exact ⟨t2, st t2 a1, b1⟩

section STR
variable {l : Launch} {a v : Nat} {A : Nat → Prop}
set_option maxRecDepth 20000 in
/-- Preconditions.checkIndex: the index, where it is one -/
theorem c_check3 {i n : Int32} {w : Value} (hw : w = .null ∨ ∃ x : Nat, w = .ref x) (h0 : ¬ i < 0) (h1 : i < n) : Met l yJ3_checkIndex_8e157 (sWs (.code yJ3_checkIndex_8e157 cJ3_checkIndex_8e157 3 (some .int))) (sRm 1) (sPc [.int i, .int n, w] a v A) (sQc (some (.int i))) 0 0 (fun _ => False) := by
  refine Met.ofW (cc := cJ3_checkIndex_8e157) (maxL := 3) (ret := (some .int)) (by decide) rfl ?_
  intro p e s m args below meth c s₁ B hml hv
  obtain ⟨rfl, hE⟩ := hv
  have hx := B.exec
  have hb := B.bytes
  have hr := B.returns
  have hlocks := B.notSynchronized
  have hts : ∀ w0 ∈ jtbl, w0.before ([.int i, .int n, w] : List Value).toArray s = true := fun w0 hw => atoms_spec (ws := sWs (.code yJ3_checkIndex_8e157 cJ3_checkIndex_8e157 3 (some .int))) B.pre w0 (List.mem_cons_of_mem _ hw)
  have hown : s.vm.findClass (yJ3_checkIndex_8e157).cls = some m.cls := findClass_of_methodNamed B.named
  have hS : va_S A s.heap s.heap [] := va_S.rf
  obtain ⟨hO, hOc, hOv, hT⟩ := hE.2.1.1 0 (by decide)
  have hl : ∃ ls : Array Slot, entryFrame m ([.int i, .int n, w] : List Value).toArray 3 = F0 m 0 ls [] ∧ lv_has ls 3 [(0, .int i), (1, .int n), (2, w)] := by
    rcases hw with rfl | ⟨x, rfl⟩
    · exact ⟨_, lg_entry_eq m _ 3, lv_entry ([.int i, .int n, .null] : List Value) (n := 3) (Nat.le_of_ble_eq_true rfl)⟩
    · exact ⟨_, lg_entry_eq m _ 3, lv_entry ([.int i, .int n, .ref x] : List Value) (n := 3) (Nat.le_of_ble_eq_true rfl)⟩
  obtain ⟨ls, he, hl⟩ := hl
  rw [he]
  refine lv_iload_n hx hb (show decode cJ3_checkIndex_8e157 0 = .ok (.iload_n 0, 1) by decide +kernel) rfl (lv_at hl 0 rfl) ?_
  refine lv_if_lt (tgt := 9) hx hb (show decode cJ3_checkIndex_8e157 1 = .ok (.ifCond .lt 8, 3) by decide +kernel) (by decide) (fun q => absurd q h0) (fun _ => ?_)
  refine lv_iload_n hx hb (show decode cJ3_checkIndex_8e157 4 = .ok (.iload_n 0, 1) by decide +kernel) rfl (lv_at hl 0 rfl) ?_
  refine lv_iload_n hx hb (show decode cJ3_checkIndex_8e157 5 = .ok (.iload_n 1, 1) by decide +kernel) rfl (lv_at hl 1 rfl) ?_
  refine lv_icmp_lt (tgt := 16) hx hb (show decode cJ3_checkIndex_8e157 6 = .ok (.if_icmp .lt 10, 3) by decide +kernel) (by decide) (fun _ => ?_) (fun q => absurd h1 q)
  refine lv_iload_n hx hb (show decode cJ3_checkIndex_8e157 16 = .ok (.iload_n 0, 1) by decide +kernel) rfl (lv_at hl 0 rfl) ?_
  exact W.iret hx hb hr (fun t ht hW => ⟨rfl, ht⟩) (fun q hq => absurd hq List.not_mem_nil) (show decode cJ3_checkIndex_8e157 17 = .ok (.ireturn, 1) by decide +kernel)

set_option maxRecDepth 20000 in
/-- String.checkIndex -/
theorem c_check0 {i n : Int32} (h0 : ¬ i < 0) (h1 : i < n) : Met l yJ0_checkIndex_df160 (sWs (.code yJ0_checkIndex_df160 cJ0_checkIndex_df160 2 none)) (sRm 2) (sPc [.int i, .int n] a v A) (sQc none) 0 0 (fun _ => False) := by
  refine Met.ofW (cc := cJ0_checkIndex_df160) (maxL := 2) (ret := none) (by decide) rfl ?_
  intro p e s m args below meth c s₁ B hml hv
  obtain ⟨rfl, hE⟩ := hv
  have hx := B.exec
  have hb := B.bytes
  have hr := B.returns
  have hlocks := B.notSynchronized
  have hts : ∀ w0 ∈ jtbl, w0.before ([.int i, .int n] : List Value).toArray s = true := fun w0 hw => atoms_spec (ws := sWs (.code yJ0_checkIndex_df160 cJ0_checkIndex_df160 2 none)) B.pre w0 (List.mem_cons_of_mem _ hw)
  have hown : s.vm.findClass (yJ0_checkIndex_df160).cls = some m.cls := findClass_of_methodNamed B.named
  have hS : va_S A s.heap s.heap [] := va_S.rf
  obtain ⟨hO, hOc, hOv, hT⟩ := hE.2.1.1 0 (by decide)
  have hl := lv_entry ([.int i, .int n] : List Value) (n := 2) (Nat.le_of_ble_eq_true rfl)
  rw [lg_entry_eq]
  generalize (lg_sl ([.int i, .int n] : List Value) ++ List.replicate (2 - (lg_sl ([.int i, .int n] : List Value)).length) Slot.unset).toArray = ls at hl ⊢
  have hl : lv_has ls 2 [(0, .int i), (1, .int n)] := hl
  obtain ⟨w, hw, hZ⟩ := hE.2.2.2
  refine lv_iload_n hx hb (show decode cJ0_checkIndex_df160 0 = .ok (.iload_n 0, 1) by decide +kernel) rfl (lv_at hl 0 rfl) ?_
  refine lv_iload_n hx hb (show decode cJ0_checkIndex_df160 1 = .ok (.iload_n 1, 1) by decide +kernel) rfl (lv_at hl 1 rfl) ?_
  refine va_gets hx hb hZ hS hown (hts _ (sw_ok 2 rfl)) (fun _ h => h) (show decode cJ0_checkIndex_df160 2 = .ok (.getstatic 1053, 3) by decide +kernel) ?_
  refine sback (va_runS (As := [.int i, .int n, w]) (rest := []) (nL := 2) ⟨hx, hb, hml, hown, hts⟩ (c_check3 (a := a) (v := v) (A := A) hw h0 h1) ⟨callB_of 3 hts (sgood (sw_ok 0 rfl)) rfl rfl rfl (hts _ (sw_ok 5 rfl)) (hts _ (sw_ok 3 rfl)) ⟨by decide, by decide, by decide +kernel⟩ ⟨Nat.le_of_ble_eq_true rfl, Nat.le_of_ble_eq_true rfl⟩, (hts _ (sw_ok 4 rfl))⟩ ⟨sblind _ _ _ _, (fun U hU hW => ⟨rfl, jE.warm hW hE (fun _ _ _ => by rw [hU]) (fun _ h => h)⟩)⟩ rfl rfl hl.1 rfl (lv_room (Nat.le_of_ble_eq_true rfl)) (show decode cJ0_checkIndex_df160 5 = .ok (.invokestatic 1059, 3) by decide +kernel) ⟨Nat.le_of_ble_eq_true rfl, Nat.le_of_ble_eq_true rfl⟩) ?_
  refine lv_pop hx hb (show decode cJ0_checkIndex_df160 8 = .ok (.pop, 1) by decide +kernel) rfl ?_
  exact W.vret hx hb hr (fun t ht hW => ⟨rfl, ht⟩) (fun q hq => absurd hq List.not_mem_nil) (show decode cJ0_checkIndex_df160 9 = .ok (.return_, 1) by decide +kernel)

theorem jch_ok : ∀ j, j < 178 → ((((jWords.map Int32.ofInt).getD j 0) &&& (Int16.ofInt 255).toInt32).toUInt32 % 65536).toInt32 = Int32.ofInt (jWords.getD j 0) ∧ narrow .char (.int (Int32.ofInt (jWords.getD j 0))) = .int (Int32.ofInt (jWords.getD j 0)) := by decide +kernel
set_option maxRecDepth 20000 in
/-- StringLatin1.charAt -/
theorem c_latin {i : Int} (h0 : 0 ≤ i) (h1 : i < 178) : Met l yJ1_charAt_3b067 (sWs (.code yJ1_charAt_3b067 cJ1_charAt_3b067 2 (some .char))) (sRm 3) (sPc [.ref v, .int (Int32.ofInt i)] a v A) (sQc (some (.int (Int32.ofInt (jWords.getD i.toNat 0))))) 0 0 (fun _ => False) := by
  refine Met.ofW (cc := cJ1_charAt_3b067) (maxL := 2) (ret := (some .char)) (by decide) rfl ?_
  intro p e s m args below meth c s₁ B hml hv
  obtain ⟨rfl, hE⟩ := hv
  have hx := B.exec
  have hb := B.bytes
  have hr := B.returns
  have hlocks := B.notSynchronized
  have hts : ∀ w0 ∈ jtbl, w0.before ([.ref v, .int (Int32.ofInt i)] : List Value).toArray s = true := fun w0 hw => atoms_spec (ws := sWs (.code yJ1_charAt_3b067 cJ1_charAt_3b067 2 (some .char))) B.pre w0 (List.mem_cons_of_mem _ hw)
  have hown : s.vm.findClass (yJ1_charAt_3b067).cls = some m.cls := findClass_of_methodNamed B.named
  have hS : va_S A s.heap s.heap [] := va_S.rf
  obtain ⟨hO, hOc, hOv, hT⟩ := hE.2.1.1 0 (by decide)
  have hl := lv_entry ([.ref v, .int (Int32.ofInt i)] : List Value) (n := 2) (Nat.le_of_ble_eq_true rfl)
  rw [lg_entry_eq]
  generalize (lg_sl ([.ref v, .int (Int32.ofInt i)] : List Value) ++ List.replicate (2 - (lg_sl ([.ref v, .int (Int32.ofInt i)] : List Value)).length) Slot.unset).toArray = ls at hl ⊢
  have hl : lv_has ls 2 [(0, .ref v), (1, .int (Int32.ofInt i))] := hl
  have hi : j32 i := by unfold j32; omega
  have hin : vp_in (Int32.ofInt i) 178 := in32 hi h0 h1
  have h178 : Int32.ofInt i < 178 := (lt32 (b := 178) hi (by unfold j32; omega)).mpr h1
  have hch := jch_ok i.toNat (by omega)
  refine lv_iload_n hx hb (show decode cJ1_charAt_3b067 0 = .ok (.iload_n 1, 1) by decide +kernel) rfl (lv_at hl 1 rfl) ?_
  refine lv_aload_n hx hb (show decode cJ1_charAt_3b067 1 = .ok (.aload_n 0, 1) by decide +kernel) rfl (lv_at hl 0 rfl) ?_
  refine va_tlen hx hb hT hS (v := 178) rfl (show decode cJ1_charAt_3b067 2 = .ok (.arraylength, 1) by decide +kernel) ?_
  refine sback (va_runS (As := [.int (Int32.ofInt i), .int 178]) (rest := []) (nL := 2) ⟨hx, hb, hml, hown, hts⟩ (c_check0 (a := a) (v := v) (A := A) (ge32 hi h0) h178) ⟨callB_of 2 hts (sgood (sw_ok 1 rfl)) rfl rfl rfl (hts _ (sw_ok 9 rfl)) (hts _ (sw_ok 7 rfl)) ⟨by decide, by decide, by decide +kernel⟩ ⟨Nat.le_of_ble_eq_true rfl, Nat.le_of_ble_eq_true rfl⟩, (hts _ (sw_ok 8 rfl))⟩ ⟨sblind _ _ _ _, (fun U hU hW => ⟨rfl, jE.warm hW hE (fun _ _ _ => by rw [hU]) (fun _ h => h)⟩)⟩ rfl rfl hl.1 rfl (lv_room (Nat.le_of_ble_eq_true rfl)) (show decode cJ1_charAt_3b067 3 = .ok (.invokestatic 9, 3) by decide +kernel) ⟨Nat.le_of_ble_eq_true rfl, Nat.le_of_ble_eq_true rfl⟩) ?_
  refine lv_aload_n hx hb (show decode cJ1_charAt_3b067 6 = .ok (.aload_n 0, 1) by decide +kernel) rfl (lv_at hl 0 rfl) ?_
  refine lv_iload_n hx hb (show decode cJ1_charAt_3b067 7 = .ok (.iload_n 1, 1) by decide +kernel) rfl (lv_at hl 1 rfl) ?_
  refine va_tb hx hb hT hS hin (v := .int ((jWords.map Int32.ofInt).getD i.toNat 0)) (by rw [cl32 hi]; rfl) (show decode cJ1_charAt_3b067 8 = .ok (.baload, 1) by decide +kernel) ?_
  refine lv_sipush hx hb (show decode cJ1_charAt_3b067 9 = .ok (.sipush 255, 3) by decide +kernel) rfl ?_
  refine lv_iand hx hb (show decode cJ1_charAt_3b067 12 = .ok (.iand, 1) by decide +kernel) ?_
  refine lv_i2c hx hb (show decode cJ1_charAt_3b067 13 = .ok (.i2c, 1) by decide +kernel) hch.1 ?_
  exact W.zret (ty := .char) hx hb hr hch.2 (fun t ht hW => ⟨rfl, ht⟩) (fun q hq => absurd hq List.not_mem_nil) (show decode cJ1_charAt_3b067 14 = .ok (.ireturn, 1) by decide +kernel)

set_option maxRecDepth 20000 in
/-- String.isLatin1 -/
theorem c_isLat  : Met l yJ0_isLatin1_aae02 (sWs (.code yJ0_isLatin1_aae02 cJ0_isLatin1_aae02 1 (some .boolean))) (sRm 1) (sPc [.ref a] a v A) (sQc (some (.int 1))) 0 0 (fun _ => False) := by
  refine Met.ofW (cc := cJ0_isLatin1_aae02) (maxL := 1) (ret := (some .boolean)) (by decide) rfl ?_
  intro p e s m args below meth c s₁ B hml hv
  obtain ⟨rfl, hE⟩ := hv
  have hx := B.exec
  have hb := B.bytes
  have hr := B.returns
  have hlocks := B.notSynchronized
  have hts : ∀ w0 ∈ jtbl, w0.before ([.ref a] : List Value).toArray s = true := fun w0 hw => atoms_spec (ws := sWs (.code yJ0_isLatin1_aae02 cJ0_isLatin1_aae02 1 (some .boolean))) B.pre w0 (List.mem_cons_of_mem _ hw)
  have hown : s.vm.findClass (yJ0_isLatin1_aae02).cls = some m.cls := findClass_of_methodNamed B.named
  have hS : va_S A s.heap s.heap [] := va_S.rf
  obtain ⟨hO, hOc, hOv, hT⟩ := hE.2.1.1 0 (by decide)
  have hl := lv_entry ([.ref a] : List Value) (n := 1) (Nat.le_of_ble_eq_true rfl)
  rw [lg_entry_eq]
  generalize (lg_sl ([.ref a] : List Value) ++ List.replicate (1 - (lg_sl ([.ref a] : List Value)).length) Slot.unset).toArray = ls at hl ⊢
  have hl : lv_has ls 1 [(0, .ref a)] := hl
  refine va_gets hx hb hE.2.2.1 hS hown (hts _ (sw_ok 11 rfl)) (fun _ h => h) (show decode cJ0_isLatin1_aae02 0 = .ok (.getstatic 38, 3) by decide +kernel) ?_
  refine lv_if_eq (tgt := 17) hx hb (show decode cJ0_isLatin1_aae02 3 = .ok (.ifCond .eq 14, 3) by decide +kernel) (by decide) (fun q => absurd q (by decide)) (fun _ => ?_)
  refine lv_aload_n hx hb (show decode cJ0_isLatin1_aae02 6 = .ok (.aload_n 0, 1) by decide +kernel) rfl (lv_at hl 0 rfl) ?_
  refine vk_getf hx hb hOc hS hown (hts _ (sw_ok 12 rfl)) (fun _ h => h) (show decode cJ0_isLatin1_aae02 7 = .ok (.getfield 15, 3) by decide +kernel) ?_
  refine lv_if_ne (tgt := 17) hx hb (show decode cJ0_isLatin1_aae02 10 = .ok (.ifCond .ne 7, 3) by decide +kernel) (by decide) (fun q => absurd rfl q) (fun _ => ?_)
  refine lv_iconst (v := 1) hx hb (show decode cJ0_isLatin1_aae02 13 = .ok (.iconst 1, 1) by decide +kernel) (by decide) ?_
  refine lv_goto (tgt := 18) hx hb (show decode cJ0_isLatin1_aae02 14 = .ok (.goto 4, 3) by decide +kernel) (by decide) ?_
  exact W.zret (ty := .boolean) hx hb hr (by decide) (fun t ht hW => ⟨rfl, ht⟩) (fun q hq => absurd hq List.not_mem_nil) (show decode cJ0_isLatin1_aae02 18 = .ok (.ireturn, 1) by decide +kernel)

set_option maxRecDepth 20000 in
/-- String.coder -/
theorem c_coder  : Met l yJ0_coder_7d493 (sWs (.code yJ0_coder_7d493 cJ0_coder_7d493 1 (some .byte))) (sRm 1) (sPc [.ref a] a v A) (sQc (some (.int 0))) 0 0 (fun _ => False) := by
  refine Met.ofW (cc := cJ0_coder_7d493) (maxL := 1) (ret := (some .byte)) (by decide) rfl ?_
  intro p e s m args below meth c s₁ B hml hv
  obtain ⟨rfl, hE⟩ := hv
  have hx := B.exec
  have hb := B.bytes
  have hr := B.returns
  have hlocks := B.notSynchronized
  have hts : ∀ w0 ∈ jtbl, w0.before ([.ref a] : List Value).toArray s = true := fun w0 hw => atoms_spec (ws := sWs (.code yJ0_coder_7d493 cJ0_coder_7d493 1 (some .byte))) B.pre w0 (List.mem_cons_of_mem _ hw)
  have hown : s.vm.findClass (yJ0_coder_7d493).cls = some m.cls := findClass_of_methodNamed B.named
  have hS : va_S A s.heap s.heap [] := va_S.rf
  obtain ⟨hO, hOc, hOv, hT⟩ := hE.2.1.1 0 (by decide)
  have hl := lv_entry ([.ref a] : List Value) (n := 1) (Nat.le_of_ble_eq_true rfl)
  rw [lg_entry_eq]
  generalize (lg_sl ([.ref a] : List Value) ++ List.replicate (1 - (lg_sl ([.ref a] : List Value)).length) Slot.unset).toArray = ls at hl ⊢
  have hl : lv_has ls 1 [(0, .ref a)] := hl
  refine va_gets hx hb hE.2.2.1 hS hown (hts _ (sw_ok 11 rfl)) (fun _ h => h) (show decode cJ0_coder_7d493 0 = .ok (.getstatic 38, 3) by decide +kernel) ?_
  refine lv_if_eq (tgt := 13) hx hb (show decode cJ0_coder_7d493 3 = .ok (.ifCond .eq 10, 3) by decide +kernel) (by decide) (fun q => absurd q (by decide)) (fun _ => ?_)
  refine lv_aload_n hx hb (show decode cJ0_coder_7d493 6 = .ok (.aload_n 0, 1) by decide +kernel) rfl (lv_at hl 0 rfl) ?_
  refine vk_getf hx hb hOc hS hown (hts _ (sw_ok 12 rfl)) (fun _ h => h) (show decode cJ0_coder_7d493 7 = .ok (.getfield 15, 3) by decide +kernel) ?_
  refine lv_goto (tgt := 14) hx hb (show decode cJ0_coder_7d493 10 = .ok (.goto 4, 3) by decide +kernel) (by decide) ?_
  exact W.zret (ty := .byte) hx hb hr (by decide) (fun t ht hW => ⟨rfl, ht⟩) (fun q hq => absurd hq List.not_mem_nil) (show decode cJ0_coder_7d493 14 = .ok (.ireturn, 1) by decide +kernel)

set_option maxRecDepth 20000 in
/-- String.length -/
theorem c_slen  : Met l yJ0_length_8abf5 (sWs (.code yJ0_length_8abf5 cJ0_length_8abf5 1 (some .int))) (sRm 2) (sPc [.ref a] a v A) (sQc (some (.int (Int32.ofInt 178)))) 0 0 (fun _ => False) := by
  refine Met.ofW (cc := cJ0_length_8abf5) (maxL := 1) (ret := (some .int)) (by decide) rfl ?_
  intro p e s m args below meth c s₁ B hml hv
  obtain ⟨rfl, hE⟩ := hv
  have hx := B.exec
  have hb := B.bytes
  have hr := B.returns
  have hlocks := B.notSynchronized
  have hts : ∀ w0 ∈ jtbl, w0.before ([.ref a] : List Value).toArray s = true := fun w0 hw => atoms_spec (ws := sWs (.code yJ0_length_8abf5 cJ0_length_8abf5 1 (some .int))) B.pre w0 (List.mem_cons_of_mem _ hw)
  have hown : s.vm.findClass (yJ0_length_8abf5).cls = some m.cls := findClass_of_methodNamed B.named
  have hS : va_S A s.heap s.heap [] := va_S.rf
  obtain ⟨hO, hOc, hOv, hT⟩ := hE.2.1.1 0 (by decide)
  have hl := lv_entry ([.ref a] : List Value) (n := 1) (Nat.le_of_ble_eq_true rfl)
  rw [lg_entry_eq]
  generalize (lg_sl ([.ref a] : List Value) ++ List.replicate (1 - (lg_sl ([.ref a] : List Value)).length) Slot.unset).toArray = ls at hl ⊢
  have hl : lv_has ls 1 [(0, .ref a)] := hl
  have hrc : ∃ cell : Cell, s.heap[a]? = some cell ∧ cell.vm.isStatics = false ∧ s.vm.findClass RJ0 = some cell.cls := by
    obtain ⟨cell, q1, q2, q3, -⟩ := hO
    exact ⟨cell, q1, q2, q3⟩
  refine lv_aload_n hx hb (show decode cJ0_length_8abf5 0 = .ok (.aload_n 0, 1) by decide +kernel) rfl (lv_at hl 0 rfl) ?_
  refine vk_getf hx hb hOv hS hown (hts _ (sw_ok 15 rfl)) (fun _ h => h) (show decode cJ0_length_8abf5 1 = .ok (.getfield 9, 3) by decide +kernel) ?_
  refine va_tlen hx hb hT hS (v := 178) rfl (show decode cJ0_length_8abf5 4 = .ok (.arraylength, 1) by decide +kernel) ?_
  refine lv_aload_n hx hb (show decode cJ0_length_8abf5 5 = .ok (.aload_n 0, 1) by decide +kernel) rfl (lv_at hl 0 rfl) ?_
  refine sback (va_runV (C := RJ0) (b := a) (As := []) (rest := [.int 178]) (nL := 1) ⟨hx, hb, hml, hown, hts⟩ (c_coder (a := a) (v := v) (A := A)) ⟨callB_of 0 hts (sgood (sw_ok 13 rfl)) rfl rfl rfl (hts _ (sw_ok 9 rfl)) (hts _ (sw_ok 16 rfl)) ⟨by decide, by decide, by decide +kernel⟩ ⟨Nat.le_of_ble_eq_true rfl, Nat.le_of_ble_eq_true rfl⟩, (hts _ (sw_ok 17 rfl)), (hts _ (sw_ok 18 rfl))⟩ ⟨sblind _ _ _ _, hrc, (fun U hU hW => ⟨rfl, jE.warm hW hE (fun _ _ _ => by rw [hU]) (fun _ h => h)⟩)⟩ rfl rfl hl.1 rfl (lv_room (Nat.le_of_ble_eq_true rfl)) (show decode cJ0_length_8abf5 6 = .ok (.invokevirtual 335, 3) by decide +kernel) ⟨Nat.le_of_ble_eq_true rfl, Nat.le_of_ble_eq_true rfl⟩) ?_
  refine lv_ishr hx hb (show decode cJ0_length_8abf5 9 = .ok (.ishr, 1) by decide +kernel) ?_
  exact W.iret hx hb hr (fun t ht hW => ⟨by decide +kernel, ht⟩) (fun q hq => absurd hq List.not_mem_nil) (show decode cJ0_length_8abf5 10 = .ok (.ireturn, 1) by decide +kernel)

set_option maxRecDepth 20000 in
/-- String.charAt -/
theorem c_schr {i : Int} (h0 : 0 ≤ i) (h1 : i < 178) : Met l yJ0_charAt_5068e (sWs (.code yJ0_charAt_5068e cJ0_charAt_5068e 2 (some .char))) (sRm 4) (sPc [.ref a, .int (Int32.ofInt i)] a v A) (sQc (some (.int (Int32.ofInt (jWords.getD i.toNat 0))))) 0 0 (fun _ => False) := by
  refine Met.ofW (cc := cJ0_charAt_5068e) (maxL := 2) (ret := (some .char)) (by decide) rfl ?_
  intro p e s m args below meth c s₁ B hml hv
  obtain ⟨rfl, hE⟩ := hv
  have hx := B.exec
  have hb := B.bytes
  have hr := B.returns
  have hlocks := B.notSynchronized
  have hts : ∀ w0 ∈ jtbl, w0.before ([.ref a, .int (Int32.ofInt i)] : List Value).toArray s = true := fun w0 hw => atoms_spec (ws := sWs (.code yJ0_charAt_5068e cJ0_charAt_5068e 2 (some .char))) B.pre w0 (List.mem_cons_of_mem _ hw)
  have hown : s.vm.findClass (yJ0_charAt_5068e).cls = some m.cls := findClass_of_methodNamed B.named
  have hS : va_S A s.heap s.heap [] := va_S.rf
  obtain ⟨hO, hOc, hOv, hT⟩ := hE.2.1.1 0 (by decide)
  have hl := lv_entry ([.ref a, .int (Int32.ofInt i)] : List Value) (n := 2) (Nat.le_of_ble_eq_true rfl)
  rw [lg_entry_eq]
  generalize (lg_sl ([.ref a, .int (Int32.ofInt i)] : List Value) ++ List.replicate (2 - (lg_sl ([.ref a, .int (Int32.ofInt i)] : List Value)).length) Slot.unset).toArray = ls at hl ⊢
  have hl : lv_has ls 2 [(0, .ref a), (1, .int (Int32.ofInt i))] := hl
  have hrc : ∃ cell : Cell, s.heap[a]? = some cell ∧ cell.vm.isStatics = false ∧ s.vm.findClass RJ0 = some cell.cls := by
    obtain ⟨cell, q1, q2, q3, -⟩ := hO
    exact ⟨cell, q1, q2, q3⟩
  have hch := jch_ok i.toNat (by omega)
  refine lv_aload_n hx hb (show decode cJ0_charAt_5068e 0 = .ok (.aload_n 0, 1) by decide +kernel) rfl (lv_at hl 0 rfl) ?_
  refine sback (va_runV (C := RJ0) (b := a) (As := []) (rest := []) (nL := 2) ⟨hx, hb, hml, hown, hts⟩ (c_isLat (a := a) (v := v) (A := A)) ⟨callB_of 0 hts (sgood (sw_ok 10 rfl)) rfl rfl rfl (hts _ (sw_ok 9 rfl)) (hts _ (sw_ok 20 rfl)) ⟨by decide, by decide, by decide +kernel⟩ ⟨Nat.le_of_ble_eq_true rfl, Nat.le_of_ble_eq_true rfl⟩, (hts _ (sw_ok 21 rfl)), (hts _ (sw_ok 22 rfl))⟩ ⟨sblind _ _ _ _, hrc, (fun U hU hW => ⟨rfl, jE.warm hW hE (fun _ _ _ => by rw [hU]) (fun _ h => h)⟩)⟩ rfl rfl hl.1 rfl (lv_room (Nat.le_of_ble_eq_true rfl)) (show decode cJ0_charAt_5068e 1 = .ok (.invokevirtual 492, 3) by decide +kernel) ⟨Nat.le_of_ble_eq_true rfl, Nat.le_of_ble_eq_true rfl⟩) ?_
  refine lv_if_eq (tgt := 16) hx hb (show decode cJ0_charAt_5068e 4 = .ok (.ifCond .eq 12, 3) by decide +kernel) (by decide) (fun q => absurd q (by decide)) (fun _ => ?_)
  refine lv_aload_n hx hb (show decode cJ0_charAt_5068e 7 = .ok (.aload_n 0, 1) by decide +kernel) rfl (lv_at hl 0 rfl) ?_
  refine vk_getf hx hb hOv hS hown (hts _ (sw_ok 15 rfl)) (fun _ h => h) (show decode cJ0_charAt_5068e 8 = .ok (.getfield 9, 3) by decide +kernel) ?_
  refine lv_iload_n hx hb (show decode cJ0_charAt_5068e 11 = .ok (.iload_n 1, 1) by decide +kernel) rfl (lv_at hl 1 rfl) ?_
  refine sback (va_runS (As := [.ref v, .int (Int32.ofInt i)]) (rest := []) (nL := 2) ⟨hx, hb, hml, hown, hts⟩ (c_latin (a := a) (v := v) (A := A) h0 h1) ⟨callB_of 2 hts (sgood (sw_ok 6 rfl)) rfl rfl rfl (hts _ (sw_ok 25 rfl)) (hts _ (sw_ok 23 rfl)) ⟨by decide, by decide, by decide +kernel⟩ ⟨Nat.le_of_ble_eq_true rfl, Nat.le_of_ble_eq_true rfl⟩, (hts _ (sw_ok 24 rfl))⟩ ⟨sblind _ _ _ _, (fun U hU hW => ⟨rfl, jE.warm hW hE (fun _ _ _ => by rw [hU]) (fun _ h => h)⟩)⟩ rfl rfl hl.1 rfl (lv_room (Nat.le_of_ble_eq_true rfl)) (show decode cJ0_charAt_5068e 12 = .ok (.invokestatic 495, 3) by decide +kernel) ⟨Nat.le_of_ble_eq_true rfl, Nat.le_of_ble_eq_true rfl⟩) ?_
  exact W.zret (ty := .char) hx hb hr hch.2 (fun t ht hW => ⟨rfl, ht⟩) (fun q hq => absurd hq List.not_mem_nil) (show decode cJ0_charAt_5068e 15 = .ok (.ireturn, 1) by decide +kernel)

end STR
theorem jch32 : ∀ j : Nat, j < 178 → j32 (jWords.getD j 0) := by
  intro j hj
  have h : ∀ j, j < 178 → (0 ≤ jWords.getD j 0 ∧ jWords.getD j 0 ≤ 200) := by decide +kernel
  have := h j hj
  unfold j32
  omega
theorem jok_s {S : jS} {t : Nat} {z : Int} (h : 30 ≤ t) (hz : z ≠ -1) (hz2 : z < 0) : jok S (t, z) := ⟨fun q => by dsimp only at q; omega, fun q => by dsimp only at q; omega, fun _ q => by dsimp only at q; omega, fun _ => ⟨hz, hz2⟩, fun _ => by dsimp only; omega⟩
theorem sLdcS {Γ : jCtx} {own : Nat} {cc : ByteArray} {ce : jC} {rF : Int × jS} (C : jCx Γ own cc) : jSim Γ own cc ce rF hLdcS oLdcS := by
  intro a b t pc loc st S k hc ho hk
  unfold hLdcS at hc
  simp only [Bool.and_eq_true, decide_eq_true_eq] at hc
  obtain ⟨hdg, rfl⟩ := hc
  intro ls H locs ad ⟨hl, hwf, hlo, hst, hn, hP, hD, hS⟩
  have K := hk _ _ _ _ ho ls H locs ad ⟨hl, hwf, hlo, List.forall_mem_cons.mpr ⟨jok_s (by omega) (by omega) (by omega), hst⟩, hn, hP, hD, hS⟩
  rw [List.map_cons, jtr_at (by omega) (by omega), hn.1 (-3) (by omega)] at K
  exact va_ldcS C.1 C.2.1 C.2.2.2.1 C.2.2.2.2.2.2.2.2.1.1 (dc_ok hdg) K

theorem sSLen {Γ : jCtx} {own : Nat} {cc : ByteArray} {ce : jC} {rF : Int × jS} (C : jCx Γ own cc) : jSimM Γ own cc ce rF hSLen oSLen := by
  intro a b t pc loc st S k hc ho hm hk
  unfold hSLen at hc
  simp only [Bool.and_eq_true, decide_eq_true_eq] at hc
  obtain ⟨hdg, rfl, rfl⟩ := hc
  unfold oSLen at ho
  split at ho
  case h_2 => cases ho
  rename_i u r rest
  split at ho
  case isFalse => cases ho
  rename_i hu
  split at ho
  case isFalse => cases ho
  rename_i hr
  subst hr
  split at ho
  case isFalse => cases ho
  rename_i hj
  intro ls H locs ad ⟨hl, hwf, hlo, hst, hn, hP, hD, hS⟩
  have hst := List.forall_mem_cons.mp hst
  have hts : ∀ w ∈ jtbl, w.before (xa Γ) (xs Γ) = true := C.2.2.2.2.1
  obtain ⟨hO, -, -, -⟩ := C.2.2.2.2.2.2.2.2.1.2.1.1 0 (by decide)
  have hrc : ∃ cell : Cell, H[xd Γ (-3)]? = some cell ∧ cell.vm.isStatics = false ∧ (xs Γ).vm.findClass RJ0 = some cell.cls := by
    obtain ⟨cell, q1, q2, q3, q4⟩ := hO
    exact ⟨cell, by rw [hS.2.1 _ (Array.getElem?_eq_some_iff.mp q1).1 q4]; exact q1, q2, q3⟩
  have hrm := C.2.2.2.2.2.2.2.2.2.2
  have K := hk _ _ _ _ ho ls H locs ad ⟨hl, hwf, hlo, List.forall_mem_cons.mpr ⟨jok_i (by unfold j32; omega), hst.2⟩, hn, hP, hD, hS⟩
  rw [List.map_cons, jtr_at (t := u) (by omega) (by omega), hn.1 (-3) (by omega)]
  refine sback (va_runV (C := RJ0) (b := xd Γ (-3)) (As := []) (rest := rest.map (jtr ad)) ⟨C.1, C.2.1, C.2.2.1, C.2.2.2.1, hts⟩ (c_slen (a := xd Γ (-3)) (v := xv Γ) (A := xA Γ)) ⟨callB_of 0 hts (sgood (sw_ok 14 rfl)) rfl rfl rfl (hts _ (sw_ok 9 rfl)) (hts _ (sw_ok 26 rfl)) ⟨by decide, by decide, by decide +kernel⟩ ⟨by show _ + 1 ≤ _; unfold sRm; dsimp only; omega, by unfold sRm; dsimp only; omega⟩, (hts _ (sw_ok 27 rfl)), (hts _ (sw_ok 28 rfl))⟩ ⟨sblind _ _ _ _, hrc, (fun U hU hW => ⟨rfl, jE.warm hW C.2.2.2.2.2.2.2.2.1 (fun q h1 h2 => by rw [hU]; exact hS.2.1 q h1 h2) (fun _ h => h)⟩)⟩ rfl rfl (by rw [hl.1]) rfl (lv_room (by rw [jcat_sum]; exact hj)) (dc_ok hdg) ⟨(hm _ _ _ _ ho).1, (hm _ _ _ _ ho).2⟩) ?_
  exact K
theorem sSChr {Γ : jCtx} {own : Nat} {cc : ByteArray} {ce : jC} {rF : Int × jS} (C : jCx Γ own cc) : jSimM Γ own cc ce rF hSChr oSChr := by
  intro a b t pc loc st S k hc ho hm hk
  unfold hSChr at hc
  simp only [Bool.and_eq_true, decide_eq_true_eq] at hc
  obtain ⟨hdg, rfl, rfl⟩ := hc
  unfold oSChr at ho
  split at ho
  case h_2 => cases ho
  rename_i i u r rest
  split at ho
  case isFalse => cases ho
  rename_i hu
  split at ho
  case isFalse => cases ho
  rename_i hr
  subst hr
  split at ho
  case isFalse => cases ho
  rename_i hi0
  split at ho
  case isFalse => cases ho
  rename_i hi1
  split at ho
  case isFalse => cases ho
  rename_i hj
  intro ls H locs ad ⟨hl, hwf, hlo, hst, hn, hP, hD, hS⟩
  have hst := List.forall_mem_cons.mp hst
  have hsx := List.forall_mem_cons.mp hst.2
  have hts : ∀ w ∈ jtbl, w.before (xa Γ) (xs Γ) = true := C.2.2.2.2.1
  obtain ⟨hO, -, -, -⟩ := C.2.2.2.2.2.2.2.2.1.2.1.1 0 (by decide)
  have hrc : ∃ cell : Cell, H[xd Γ (-3)]? = some cell ∧ cell.vm.isStatics = false ∧ (xs Γ).vm.findClass RJ0 = some cell.cls := by
    obtain ⟨cell, q1, q2, q3, q4⟩ := hO
    exact ⟨cell, by rw [hS.2.1 _ (Array.getElem?_eq_some_iff.mp q1).1 q4]; exact q1, q2, q3⟩
  have hrm := C.2.2.2.2.2.2.2.2.2.2
  have K := hk _ _ _ _ ho ls H locs ad ⟨hl, hwf, hlo, List.forall_mem_cons.mpr ⟨jok_i (jch32 _ (by omega)), hsx.2⟩, hn, hP, hD, hS⟩
  rw [List.map_cons, List.map_cons, jtr_at (t := u) (by omega) (by omega), hn.1 (-3) (by omega)]
  refine sback (va_runV (C := RJ0) (b := xd Γ (-3)) (As := [.int (Int32.ofInt i)]) (rest := rest.map (jtr ad)) ⟨C.1, C.2.1, C.2.2.1, C.2.2.2.1, hts⟩ (c_schr (a := xd Γ (-3)) (v := xv Γ) (A := xA Γ) hi0 hi1) ⟨callB_of 1 hts (sgood (sw_ok 19 rfl)) rfl rfl rfl (hts _ (sw_ok 9 rfl)) (hts _ (sw_ok 29 rfl)) ⟨by decide, by decide, by decide +kernel⟩ ⟨by show _ + 1 ≤ _; unfold sRm; dsimp only; omega, by unfold sRm; dsimp only; omega⟩, (hts _ (sw_ok 30 rfl)), (hts _ (sw_ok 31 rfl))⟩ ⟨sblind _ _ _ _, hrc, (fun U hU hW => ⟨rfl, jE.warm hW C.2.2.2.2.2.2.2.2.1 (fun q h1 h2 => by rw [hU]; exact hS.2.1 q h1 h2) (fun _ h => h)⟩)⟩ rfl rfl (by rw [hl.1]) rfl (lv_room (by rw [jcat_sum]; exact hj)) (dc_ok hdg) ⟨(hm _ _ _ _ ho).1, (hm _ _ _ _ ho).2⟩) ?_
  exact K
end
section
/-! THE LIMIT: no count of steps any more -/
noncomputable def jlim (f : Nat → jR) : jR := @dite jR (∃ F : Nat, ∃ r, f F = some r) (Classical.propDecidable _) (fun h => f (Classical.choose h)) (fun _ => none)
theorem jlim_ex {f : Nat → jR} {r : Int × jS} (h : jlim f = some r) : ∃ F : Nat, f F = some r := by
  unfold jlim at h
  by_cases e : ∃ F : Nat, ∃ r, f F = some r
  · rw [dif_pos e] at h
    exact ⟨_, h⟩
  · rw [dif_neg e] at h
    cases h
theorem jlim_of {f : Nat → jR} {r : Int × jS} {F : Nat} (hm : ∀ F F' : Nat, F ≤ F' → jle (f F) (f F')) (h : f F = some r) : jlim f = some r := by
  unfold jlim
  have e : ∃ F : Nat, ∃ r, f F = some r := ⟨F, r, h⟩
  rw [dif_pos e]
  obtain ⟨r', hr'⟩ := Classical.choose_spec e
  have h1 := hm F (F + Classical.choose e) (by omega) r h
  have h2 := hm (Classical.choose e) (F + Classical.choose e) (by omega) r' hr'
  rw [hr', ← h1, h2]
/-- from some count on -/
def jfin (f : Nat → jR) (r : Int × jS) : Prop := ∃ F : Nat, ∀ F' : Nat, F ≤ F' → f F' = some r
def jCon (o : jF) : Prop := ∀ a b t (ce : jC) (ceF : Nat → jC) pc loc st S (k : jT) (kF : Nat → jT) r, (∀ m a S r, ce m a S = some r → jfin (fun F => ceF F m a S) r) → (∀ pc loc st S r, k pc loc st S = some r → jfin (fun F => kF F pc loc st S) r) → o a b t ce pc loc st S k = some r → jfin (fun F => o a b t (ceF F) pc loc st S (kF F)) r
theorem jfin_c {r : Int × jS} : jfin (fun _ => some r) r := ⟨0, fun _ _ => rfl⟩
theorem jfin_bind {f : Nat → jR} {g : jR} {h : Int × jS → jR} {hF : Nat → Int × jS → jR} {r : Int × jS} (h1 : ∀ q, g = some q → jfin f q) (h2 : ∀ q, h q = some r → jfin (fun F => hF F q) r) (e : g.bind h = some r) : jfin (fun F => (f F).bind (hF F)) r := by
  rw [Option.bind_eq_some_iff] at e
  obtain ⟨q, e1, e2⟩ := e
  obtain ⟨F1, q1⟩ := h1 q e1
  obtain ⟨F2, q2⟩ := h2 q e2
  refine ⟨F1 + F2, fun F' hF' => ?_⟩
  dsimp only
  rw [q1 F' (by omega)]
  exact q2 F' (by omega)
theorem co_oBad  : jCon oBad := by
  intro a b t ce ceF pc loc st S k kF r hc hk h
  unfold oBad at h ⊢
  (repeat' split at h) <;> first | (cases h; done) | (obtain ⟨F, hF⟩ := hk _ _ _ _ _ h; refine ⟨F, fun F' h' => ?_⟩; (try dsimp only); (repeat (first | rw [if_pos (by assumption)] | rw [if_neg (by assumption)])); exact hF F' h') | (refine ⟨0, fun F' h' => ?_⟩; (try dsimp only); (repeat (first | rw [if_pos (by assumption)] | rw [if_neg (by assumption)])); exact h)
theorem co_oPush (t n : Nat) : jCon (oPush t n) := by
  intro a b t ce ceF pc loc st S k kF r hc hk h
  unfold oPush at h ⊢
  (repeat' split at h) <;> first | (cases h; done) | (obtain ⟨F, hF⟩ := hk _ _ _ _ _ h; refine ⟨F, fun F' h' => ?_⟩; (try dsimp only); (repeat (first | rw [if_pos (by assumption)] | rw [if_neg (by assumption)])); exact hF F' h') | (refine ⟨0, fun F' h' => ?_⟩; (try dsimp only); (repeat (first | rw [if_pos (by assumption)] | rw [if_neg (by assumption)])); exact h)
theorem co_oLoad (t n : Nat) : jCon (oLoad t n) := by
  intro a b t ce ceF pc loc st S k kF r hc hk h
  unfold oLoad at h ⊢
  (repeat' split at h) <;> first | (cases h; done) | (obtain ⟨F, hF⟩ := hk _ _ _ _ _ h; refine ⟨F, fun F' h' => ?_⟩; (try dsimp only); (repeat (first | rw [if_pos (by assumption)] | rw [if_neg (by assumption)])); exact hF F' h') | (refine ⟨0, fun F' h' => ?_⟩; (try dsimp only); (repeat (first | rw [if_pos (by assumption)] | rw [if_neg (by assumption)])); exact h)
theorem co_oALoad (n : Nat) : jCon (oALoad n) := by
  intro a b t ce ceF pc loc st S k kF r hc hk h
  unfold oALoad at h ⊢
  (repeat' split at h) <;> first | (cases h; done) | (obtain ⟨F, hF⟩ := hk _ _ _ _ _ h; refine ⟨F, fun F' h' => ?_⟩; (try dsimp only); (repeat (first | rw [if_pos (by assumption)] | rw [if_neg (by assumption)])); exact hF F' h') | (refine ⟨0, fun F' h' => ?_⟩; (try dsimp only); (repeat (first | rw [if_pos (by assumption)] | rw [if_neg (by assumption)])); exact h)
theorem co_oStore (n : Nat) : jCon (oStore n) := by
  intro a b t ce ceF pc loc st S k kF r hc hk h
  unfold oStore at h ⊢
  (repeat' split at h) <;> first | (cases h; done) | (obtain ⟨F, hF⟩ := hk _ _ _ _ _ h; refine ⟨F, fun F' h' => ?_⟩; (try dsimp only); (repeat (first | rw [if_pos (by assumption)] | rw [if_neg (by assumption)])); exact hF F' h') | (refine ⟨0, fun F' h' => ?_⟩; (try dsimp only); (repeat (first | rw [if_pos (by assumption)] | rw [if_neg (by assumption)])); exact h)
theorem co_oLStore (n : Nat) : jCon (oLStore n) := by
  intro a b t ce ceF pc loc st S k kF r hc hk h
  unfold oLStore at h ⊢
  (repeat' split at h) <;> first | (cases h; done) | (obtain ⟨F, hF⟩ := hk _ _ _ _ _ h; refine ⟨F, fun F' h' => ?_⟩; (try dsimp only); (repeat (first | rw [if_pos (by assumption)] | rw [if_neg (by assumption)])); exact hF F' h') | (refine ⟨0, fun F' h' => ?_⟩; (try dsimp only); (repeat (first | rw [if_pos (by assumption)] | rw [if_neg (by assumption)])); exact h)
theorem co_oAStore (n : Nat) : jCon (oAStore n) := by
  intro a b t ce ceF pc loc st S k kF r hc hk h
  unfold oAStore at h ⊢
  (repeat' split at h) <;> first | (cases h; done) | (obtain ⟨F, hF⟩ := hk _ _ _ _ _ h; refine ⟨F, fun F' h' => ?_⟩; (try dsimp only); (repeat (first | rw [if_pos (by assumption)] | rw [if_neg (by assumption)])); exact hF F' h') | (refine ⟨0, fun F' h' => ?_⟩; (try dsimp only); (repeat (first | rw [if_pos (by assumption)] | rw [if_neg (by assumption)])); exact h)
theorem co_oIinc  : jCon oIinc := by
  intro a b t ce ceF pc loc st S k kF r hc hk h
  unfold oIinc at h ⊢
  (repeat' split at h) <;> first | (cases h; done) | (obtain ⟨F, hF⟩ := hk _ _ _ _ _ h; refine ⟨F, fun F' h' => ?_⟩; (try dsimp only); (repeat (first | rw [if_pos (by assumption)] | rw [if_neg (by assumption)])); exact hF F' h') | (refine ⟨0, fun F' h' => ?_⟩; (try dsimp only); (repeat (first | rw [if_pos (by assumption)] | rw [if_neg (by assumption)])); exact h)
theorem co_oBin (f : Int → Int → Int) : jCon (oBin f) := by
  intro a b t ce ceF pc loc st S k kF r hc hk h
  unfold oBin at h ⊢
  (repeat' split at h) <;> first | (cases h; done) | (obtain ⟨F, hF⟩ := hk _ _ _ _ _ h; refine ⟨F, fun F' h' => ?_⟩; (try dsimp only); (repeat (first | rw [if_pos (by assumption)] | rw [if_neg (by assumption)])); exact hF F' h') | (refine ⟨0, fun F' h' => ?_⟩; (try dsimp only); (repeat (first | rw [if_pos (by assumption)] | rw [if_neg (by assumption)])); exact h)
theorem co_oDiv (f : Int → Int → Int) : jCon (oDiv f) := by
  intro a b t ce ceF pc loc st S k kF r hc hk h
  unfold oDiv at h ⊢
  (repeat' split at h) <;> first | (cases h; done) | (obtain ⟨F, hF⟩ := hk _ _ _ _ _ h; refine ⟨F, fun F' h' => ?_⟩; (try dsimp only); (repeat (first | rw [if_pos (by assumption)] | rw [if_neg (by assumption)])); exact hF F' h') | (refine ⟨0, fun F' h' => ?_⟩; (try dsimp only); (repeat (first | rw [if_pos (by assumption)] | rw [if_neg (by assumption)])); exact h)
theorem co_oBinL (f : Int → Int → Int) : jCon (oBinL f) := by
  intro a b t ce ceF pc loc st S k kF r hc hk h
  unfold oBinL at h ⊢
  (repeat' split at h) <;> first | (cases h; done) | (obtain ⟨F, hF⟩ := hk _ _ _ _ _ h; refine ⟨F, fun F' h' => ?_⟩; (try dsimp only); (repeat (first | rw [if_pos (by assumption)] | rw [if_neg (by assumption)])); exact hF F' h') | (refine ⟨0, fun F' h' => ?_⟩; (try dsimp only); (repeat (first | rw [if_pos (by assumption)] | rw [if_neg (by assumption)])); exact h)
theorem co_oDivL (f : Int → Int → Int) : jCon (oDivL f) := by
  intro a b t ce ceF pc loc st S k kF r hc hk h
  unfold oDivL at h ⊢
  (repeat' split at h) <;> first | (cases h; done) | (obtain ⟨F, hF⟩ := hk _ _ _ _ _ h; refine ⟨F, fun F' h' => ?_⟩; (try dsimp only); (repeat (first | rw [if_pos (by assumption)] | rw [if_neg (by assumption)])); exact hF F' h') | (refine ⟨0, fun F' h' => ?_⟩; (try dsimp only); (repeat (first | rw [if_pos (by assumption)] | rw [if_neg (by assumption)])); exact h)
theorem co_oShL (f : Int → Int → Int) : jCon (oShL f) := by
  intro a b t ce ceF pc loc st S k kF r hc hk h
  unfold oShL at h ⊢
  (repeat' split at h) <;> first | (cases h; done) | (obtain ⟨F, hF⟩ := hk _ _ _ _ _ h; refine ⟨F, fun F' h' => ?_⟩; (try dsimp only); (repeat (first | rw [if_pos (by assumption)] | rw [if_neg (by assumption)])); exact hF F' h') | (refine ⟨0, fun F' h' => ?_⟩; (try dsimp only); (repeat (first | rw [if_pos (by assumption)] | rw [if_neg (by assumption)])); exact h)
theorem co_oLcmp  : jCon oLcmp := by
  intro a b t ce ceF pc loc st S k kF r hc hk h
  unfold oLcmp at h ⊢
  (repeat' split at h) <;> first | (cases h; done) | (obtain ⟨F, hF⟩ := hk _ _ _ _ _ h; refine ⟨F, fun F' h' => ?_⟩; (try dsimp only); (repeat (first | rw [if_pos (by assumption)] | rw [if_neg (by assumption)])); exact hF F' h') | (refine ⟨0, fun F' h' => ?_⟩; (try dsimp only); (repeat (first | rw [if_pos (by assumption)] | rw [if_neg (by assumption)])); exact h)
theorem co_oI2l  : jCon oI2l := by
  intro a b t ce ceF pc loc st S k kF r hc hk h
  unfold oI2l at h ⊢
  (repeat' split at h) <;> first | (cases h; done) | (obtain ⟨F, hF⟩ := hk _ _ _ _ _ h; refine ⟨F, fun F' h' => ?_⟩; (try dsimp only); (repeat (first | rw [if_pos (by assumption)] | rw [if_neg (by assumption)])); exact hF F' h') | (refine ⟨0, fun F' h' => ?_⟩; (try dsimp only); (repeat (first | rw [if_pos (by assumption)] | rw [if_neg (by assumption)])); exact h)
theorem co_oL2i  : jCon oL2i := by
  intro a b t ce ceF pc loc st S k kF r hc hk h
  unfold oL2i at h ⊢
  (repeat' split at h) <;> first | (cases h; done) | (obtain ⟨F, hF⟩ := hk _ _ _ _ _ h; refine ⟨F, fun F' h' => ?_⟩; (try dsimp only); (repeat (first | rw [if_pos (by assumption)] | rw [if_neg (by assumption)])); exact hF F' h') | (refine ⟨0, fun F' h' => ?_⟩; (try dsimp only); (repeat (first | rw [if_pos (by assumption)] | rw [if_neg (by assumption)])); exact h)
theorem co_oIneg  : jCon oIneg := by
  intro a b t ce ceF pc loc st S k kF r hc hk h
  unfold oIneg at h ⊢
  (repeat' split at h) <;> first | (cases h; done) | (obtain ⟨F, hF⟩ := hk _ _ _ _ _ h; refine ⟨F, fun F' h' => ?_⟩; (try dsimp only); (repeat (first | rw [if_pos (by assumption)] | rw [if_neg (by assumption)])); exact hF F' h') | (refine ⟨0, fun F' h' => ?_⟩; (try dsimp only); (repeat (first | rw [if_pos (by assumption)] | rw [if_neg (by assumption)])); exact h)
theorem co_oDup  : jCon oDup := by
  intro a b t ce ceF pc loc st S k kF r hc hk h
  unfold oDup at h ⊢
  (repeat' split at h) <;> first | (cases h; done) | (obtain ⟨F, hF⟩ := hk _ _ _ _ _ h; refine ⟨F, fun F' h' => ?_⟩; (try dsimp only); (repeat (first | rw [if_pos (by assumption)] | rw [if_neg (by assumption)])); exact hF F' h') | (refine ⟨0, fun F' h' => ?_⟩; (try dsimp only); (repeat (first | rw [if_pos (by assumption)] | rw [if_neg (by assumption)])); exact h)
theorem co_oDup2  : jCon oDup2 := by
  intro a b t ce ceF pc loc st S k kF r hc hk h
  unfold oDup2 at h ⊢
  (repeat' split at h) <;> first | (cases h; done) | (obtain ⟨F, hF⟩ := hk _ _ _ _ _ h; refine ⟨F, fun F' h' => ?_⟩; (try dsimp only); (repeat (first | rw [if_pos (by assumption)] | rw [if_neg (by assumption)])); exact hF F' h') | (refine ⟨0, fun F' h' => ?_⟩; (try dsimp only); (repeat (first | rw [if_pos (by assumption)] | rw [if_neg (by assumption)])); exact h)
theorem co_oPop  : jCon oPop := by
  intro a b t ce ceF pc loc st S k kF r hc hk h
  unfold oPop at h ⊢
  (repeat' split at h) <;> first | (cases h; done) | (obtain ⟨F, hF⟩ := hk _ _ _ _ _ h; refine ⟨F, fun F' h' => ?_⟩; (try dsimp only); (repeat (first | rw [if_pos (by assumption)] | rw [if_neg (by assumption)])); exact hF F' h') | (refine ⟨0, fun F' h' => ?_⟩; (try dsimp only); (repeat (first | rw [if_pos (by assumption)] | rw [if_neg (by assumption)])); exact h)
theorem co_oIfEq  : jCon oIfEq := by
  intro a b t ce ceF pc loc st S k kF r hc hk h
  unfold oIfEq at h ⊢
  (repeat' split at h) <;> first | (cases h; done) | (obtain ⟨F, hF⟩ := hk _ _ _ _ _ h; refine ⟨F, fun F' h' => ?_⟩; (try dsimp only); (repeat (first | rw [if_pos (by assumption)] | rw [if_neg (by assumption)])); exact hF F' h') | (refine ⟨0, fun F' h' => ?_⟩; (try dsimp only); (repeat (first | rw [if_pos (by assumption)] | rw [if_neg (by assumption)])); exact h)
theorem co_oIfNe  : jCon oIfNe := by
  intro a b t ce ceF pc loc st S k kF r hc hk h
  unfold oIfNe at h ⊢
  (repeat' split at h) <;> first | (cases h; done) | (obtain ⟨F, hF⟩ := hk _ _ _ _ _ h; refine ⟨F, fun F' h' => ?_⟩; (try dsimp only); (repeat (first | rw [if_pos (by assumption)] | rw [if_neg (by assumption)])); exact hF F' h') | (refine ⟨0, fun F' h' => ?_⟩; (try dsimp only); (repeat (first | rw [if_pos (by assumption)] | rw [if_neg (by assumption)])); exact h)
theorem co_oIfLt  : jCon oIfLt := by
  intro a b t ce ceF pc loc st S k kF r hc hk h
  unfold oIfLt at h ⊢
  (repeat' split at h) <;> first | (cases h; done) | (obtain ⟨F, hF⟩ := hk _ _ _ _ _ h; refine ⟨F, fun F' h' => ?_⟩; (try dsimp only); (repeat (first | rw [if_pos (by assumption)] | rw [if_neg (by assumption)])); exact hF F' h') | (refine ⟨0, fun F' h' => ?_⟩; (try dsimp only); (repeat (first | rw [if_pos (by assumption)] | rw [if_neg (by assumption)])); exact h)
theorem co_oIfGe  : jCon oIfGe := by
  intro a b t ce ceF pc loc st S k kF r hc hk h
  unfold oIfGe at h ⊢
  (repeat' split at h) <;> first | (cases h; done) | (obtain ⟨F, hF⟩ := hk _ _ _ _ _ h; refine ⟨F, fun F' h' => ?_⟩; (try dsimp only); (repeat (first | rw [if_pos (by assumption)] | rw [if_neg (by assumption)])); exact hF F' h') | (refine ⟨0, fun F' h' => ?_⟩; (try dsimp only); (repeat (first | rw [if_pos (by assumption)] | rw [if_neg (by assumption)])); exact h)
theorem co_oIfGt  : jCon oIfGt := by
  intro a b t ce ceF pc loc st S k kF r hc hk h
  unfold oIfGt at h ⊢
  (repeat' split at h) <;> first | (cases h; done) | (obtain ⟨F, hF⟩ := hk _ _ _ _ _ h; refine ⟨F, fun F' h' => ?_⟩; (try dsimp only); (repeat (first | rw [if_pos (by assumption)] | rw [if_neg (by assumption)])); exact hF F' h') | (refine ⟨0, fun F' h' => ?_⟩; (try dsimp only); (repeat (first | rw [if_pos (by assumption)] | rw [if_neg (by assumption)])); exact h)
theorem co_oIfLe  : jCon oIfLe := by
  intro a b t ce ceF pc loc st S k kF r hc hk h
  unfold oIfLe at h ⊢
  (repeat' split at h) <;> first | (cases h; done) | (obtain ⟨F, hF⟩ := hk _ _ _ _ _ h; refine ⟨F, fun F' h' => ?_⟩; (try dsimp only); (repeat (first | rw [if_pos (by assumption)] | rw [if_neg (by assumption)])); exact hF F' h') | (refine ⟨0, fun F' h' => ?_⟩; (try dsimp only); (repeat (first | rw [if_pos (by assumption)] | rw [if_neg (by assumption)])); exact h)
theorem co_oIcEq  : jCon oIcEq := by
  intro a b t ce ceF pc loc st S k kF r hc hk h
  unfold oIcEq at h ⊢
  (repeat' split at h) <;> first | (cases h; done) | (obtain ⟨F, hF⟩ := hk _ _ _ _ _ h; refine ⟨F, fun F' h' => ?_⟩; (try dsimp only); (repeat (first | rw [if_pos (by assumption)] | rw [if_neg (by assumption)])); exact hF F' h') | (refine ⟨0, fun F' h' => ?_⟩; (try dsimp only); (repeat (first | rw [if_pos (by assumption)] | rw [if_neg (by assumption)])); exact h)
theorem co_oIcNe  : jCon oIcNe := by
  intro a b t ce ceF pc loc st S k kF r hc hk h
  unfold oIcNe at h ⊢
  (repeat' split at h) <;> first | (cases h; done) | (obtain ⟨F, hF⟩ := hk _ _ _ _ _ h; refine ⟨F, fun F' h' => ?_⟩; (try dsimp only); (repeat (first | rw [if_pos (by assumption)] | rw [if_neg (by assumption)])); exact hF F' h') | (refine ⟨0, fun F' h' => ?_⟩; (try dsimp only); (repeat (first | rw [if_pos (by assumption)] | rw [if_neg (by assumption)])); exact h)
theorem co_oIcLt  : jCon oIcLt := by
  intro a b t ce ceF pc loc st S k kF r hc hk h
  unfold oIcLt at h ⊢
  (repeat' split at h) <;> first | (cases h; done) | (obtain ⟨F, hF⟩ := hk _ _ _ _ _ h; refine ⟨F, fun F' h' => ?_⟩; (try dsimp only); (repeat (first | rw [if_pos (by assumption)] | rw [if_neg (by assumption)])); exact hF F' h') | (refine ⟨0, fun F' h' => ?_⟩; (try dsimp only); (repeat (first | rw [if_pos (by assumption)] | rw [if_neg (by assumption)])); exact h)
theorem co_oIcGe  : jCon oIcGe := by
  intro a b t ce ceF pc loc st S k kF r hc hk h
  unfold oIcGe at h ⊢
  (repeat' split at h) <;> first | (cases h; done) | (obtain ⟨F, hF⟩ := hk _ _ _ _ _ h; refine ⟨F, fun F' h' => ?_⟩; (try dsimp only); (repeat (first | rw [if_pos (by assumption)] | rw [if_neg (by assumption)])); exact hF F' h') | (refine ⟨0, fun F' h' => ?_⟩; (try dsimp only); (repeat (first | rw [if_pos (by assumption)] | rw [if_neg (by assumption)])); exact h)
theorem co_oIcGt  : jCon oIcGt := by
  intro a b t ce ceF pc loc st S k kF r hc hk h
  unfold oIcGt at h ⊢
  (repeat' split at h) <;> first | (cases h; done) | (obtain ⟨F, hF⟩ := hk _ _ _ _ _ h; refine ⟨F, fun F' h' => ?_⟩; (try dsimp only); (repeat (first | rw [if_pos (by assumption)] | rw [if_neg (by assumption)])); exact hF F' h') | (refine ⟨0, fun F' h' => ?_⟩; (try dsimp only); (repeat (first | rw [if_pos (by assumption)] | rw [if_neg (by assumption)])); exact h)
theorem co_oIcLe  : jCon oIcLe := by
  intro a b t ce ceF pc loc st S k kF r hc hk h
  unfold oIcLe at h ⊢
  (repeat' split at h) <;> first | (cases h; done) | (obtain ⟨F, hF⟩ := hk _ _ _ _ _ h; refine ⟨F, fun F' h' => ?_⟩; (try dsimp only); (repeat (first | rw [if_pos (by assumption)] | rw [if_neg (by assumption)])); exact hF F' h') | (refine ⟨0, fun F' h' => ?_⟩; (try dsimp only); (repeat (first | rw [if_pos (by assumption)] | rw [if_neg (by assumption)])); exact h)
theorem co_oGoto  : jCon oGoto := by
  intro a b t ce ceF pc loc st S k kF r hc hk h
  unfold oGoto at h ⊢
  (repeat' split at h) <;> first | (cases h; done) | (obtain ⟨F, hF⟩ := hk _ _ _ _ _ h; refine ⟨F, fun F' h' => ?_⟩; (try dsimp only); (repeat (first | rw [if_pos (by assumption)] | rw [if_neg (by assumption)])); exact hF F' h') | (refine ⟨0, fun F' h' => ?_⟩; (try dsimp only); (repeat (first | rw [if_pos (by assumption)] | rw [if_neg (by assumption)])); exact h)
theorem co_oIfNN  : jCon oIfNN := by
  intro a b t ce ceF pc loc st S k kF r hc hk h
  unfold oIfNN at h ⊢
  (repeat' split at h) <;> first | (cases h; done) | (obtain ⟨F, hF⟩ := hk _ _ _ _ _ h; refine ⟨F, fun F' h' => ?_⟩; (try dsimp only); (repeat (first | rw [if_pos (by assumption)] | rw [if_neg (by assumption)])); exact hF F' h') | (refine ⟨0, fun F' h' => ?_⟩; (try dsimp only); (repeat (first | rw [if_pos (by assumption)] | rw [if_neg (by assumption)])); exact h)
theorem co_oGet  : jCon oGet := by
  intro a b t ce ceF pc loc st S k kF r hc hk h
  unfold oGet at h ⊢
  (repeat' split at h) <;> first | (cases h; done) | (obtain ⟨F, hF⟩ := hk _ _ _ _ _ h; refine ⟨F, fun F' h' => ?_⟩; (try dsimp only); (repeat (first | rw [if_pos (by assumption)] | rw [if_neg (by assumption)])); exact hF F' h') | (refine ⟨0, fun F' h' => ?_⟩; (try dsimp only); (repeat (first | rw [if_pos (by assumption)] | rw [if_neg (by assumption)])); exact h)
theorem co_oGetR  : jCon oGetR := by
  intro a b t ce ceF pc loc st S k kF r hc hk h
  unfold oGetR at h ⊢
  (repeat' split at h) <;> first | (cases h; done) | (obtain ⟨F, hF⟩ := hk _ _ _ _ _ h; refine ⟨F, fun F' h' => ?_⟩; (try dsimp only); (repeat (first | rw [if_pos (by assumption)] | rw [if_neg (by assumption)])); exact hF F' h') | (refine ⟨0, fun F' h' => ?_⟩; (try dsimp only); (repeat (first | rw [if_pos (by assumption)] | rw [if_neg (by assumption)])); exact h)
theorem co_oPut  : jCon oPut := by
  intro a b t ce ceF pc loc st S k kF r hc hk h
  unfold oPut at h ⊢
  (repeat' split at h) <;> first | (cases h; done) | (obtain ⟨F, hF⟩ := hk _ _ _ _ _ h; refine ⟨F, fun F' h' => ?_⟩; (try dsimp only); (repeat (first | rw [if_pos (by assumption)] | rw [if_neg (by assumption)])); exact hF F' h') | (refine ⟨0, fun F' h' => ?_⟩; (try dsimp only); (repeat (first | rw [if_pos (by assumption)] | rw [if_neg (by assumption)])); exact h)
theorem co_oPutZ  : jCon oPutZ := by
  intro a b t ce ceF pc loc st S k kF r hc hk h
  unfold oPutZ at h ⊢
  (repeat' split at h) <;> first | (cases h; done) | (obtain ⟨F, hF⟩ := hk _ _ _ _ _ h; refine ⟨F, fun F' h' => ?_⟩; (try dsimp only); (repeat (first | rw [if_pos (by assumption)] | rw [if_neg (by assumption)])); exact hF F' h') | (refine ⟨0, fun F' h' => ?_⟩; (try dsimp only); (repeat (first | rw [if_pos (by assumption)] | rw [if_neg (by assumption)])); exact h)
theorem co_oPutR  : jCon oPutR := by
  intro a b t ce ceF pc loc st S k kF r hc hk h
  unfold oPutR at h ⊢
  (repeat' split at h) <;> first | (cases h; done) | (obtain ⟨F, hF⟩ := hk _ _ _ _ _ h; refine ⟨F, fun F' h' => ?_⟩; (try dsimp only); (repeat (first | rw [if_pos (by assumption)] | rw [if_neg (by assumption)])); exact hF F' h') | (refine ⟨0, fun F' h' => ?_⟩; (try dsimp only); (repeat (first | rw [if_pos (by assumption)] | rw [if_neg (by assumption)])); exact h)
theorem co_oCst  : jCon oCst := by
  intro a b t ce ceF pc loc st S k kF r hc hk h
  unfold oCst at h ⊢
  (repeat' split at h) <;> first | (cases h; done) | (obtain ⟨F, hF⟩ := hk _ _ _ _ _ h; refine ⟨F, fun F' h' => ?_⟩; (try dsimp only); (repeat (first | rw [if_pos (by assumption)] | rw [if_neg (by assumption)])); exact hF F' h') | (refine ⟨0, fun F' h' => ?_⟩; (try dsimp only); (repeat (first | rw [if_pos (by assumption)] | rw [if_neg (by assumption)])); exact h)
theorem co_oZst  : jCon oZst := by
  intro a b t ce ceF pc loc st S k kF r hc hk h
  unfold oZst at h ⊢
  (repeat' split at h) <;> first | (cases h; done) | (obtain ⟨F, hF⟩ := hk _ _ _ _ _ h; refine ⟨F, fun F' h' => ?_⟩; (try dsimp only); (repeat (first | rw [if_pos (by assumption)] | rw [if_neg (by assumption)])); exact hF F' h') | (refine ⟨0, fun F' h' => ?_⟩; (try dsimp only); (repeat (first | rw [if_pos (by assumption)] | rw [if_neg (by assumption)])); exact h)
theorem co_oAald  : jCon oAald := by
  intro a b t ce ceF pc loc st S k kF r hc hk h
  unfold oAald at h ⊢
  (repeat' split at h) <;> first | (cases h; done) | (obtain ⟨F, hF⟩ := hk _ _ _ _ _ h; refine ⟨F, fun F' h' => ?_⟩; (try dsimp only); (repeat (first | rw [if_pos (by assumption)] | rw [if_neg (by assumption)])); exact hF F' h') | (refine ⟨0, fun F' h' => ?_⟩; (try dsimp only); (repeat (first | rw [if_pos (by assumption)] | rw [if_neg (by assumption)])); exact h)
theorem co_oAast  : jCon oAast := by
  intro a b t ce ceF pc loc st S k kF r hc hk h
  unfold oAast at h ⊢
  (repeat' split at h) <;> first | (cases h; done) | (obtain ⟨F, hF⟩ := hk _ _ _ _ _ h; refine ⟨F, fun F' h' => ?_⟩; (try dsimp only); (repeat (first | rw [if_pos (by assumption)] | rw [if_neg (by assumption)])); exact hF F' h') | (refine ⟨0, fun F' h' => ?_⟩; (try dsimp only); (repeat (first | rw [if_pos (by assumption)] | rw [if_neg (by assumption)])); exact h)
theorem co_oLen  : jCon oLen := by
  intro a b t ce ceF pc loc st S k kF r hc hk h
  unfold oLen at h ⊢
  (repeat' split at h) <;> first | (cases h; done) | (obtain ⟨F, hF⟩ := hk _ _ _ _ _ h; refine ⟨F, fun F' h' => ?_⟩; (try dsimp only); (repeat (first | rw [if_pos (by assumption)] | rw [if_neg (by assumption)])); exact hF F' h') | (refine ⟨0, fun F' h' => ?_⟩; (try dsimp only); (repeat (first | rw [if_pos (by assumption)] | rw [if_neg (by assumption)])); exact h)
theorem co_oNew  : jCon oNew := by
  intro a b t ce ceF pc loc st S k kF r hc hk h
  unfold oNew at h ⊢
  (repeat' split at h) <;> first | (cases h; done) | (obtain ⟨F, hF⟩ := hk _ _ _ _ _ h; refine ⟨F, fun F' h' => ?_⟩; (try dsimp only); (repeat (first | rw [if_pos (by assumption)] | rw [if_neg (by assumption)])); exact hF F' h') | (refine ⟨0, fun F' h' => ?_⟩; (try dsimp only); (repeat (first | rw [if_pos (by assumption)] | rw [if_neg (by assumption)])); exact h)
theorem co_oMulti  : jCon oMulti := by
  intro a b t ce ceF pc loc st S k kF r hc hk h
  unfold oMulti at h ⊢
  (repeat' split at h) <;> first | (cases h; done) | (obtain ⟨F, hF⟩ := hk _ _ _ _ _ h; refine ⟨F, fun F' h' => ?_⟩; (try dsimp only); (repeat (first | rw [if_pos (by assumption)] | rw [if_neg (by assumption)])); exact hF F' h') | (refine ⟨0, fun F' h' => ?_⟩; (try dsimp only); (repeat (first | rw [if_pos (by assumption)] | rw [if_neg (by assumption)])); exact h)
theorem co_oObj  : jCon oObj := by
  intro a b t ce ceF pc loc st S k kF r hc hk h
  unfold oObj at h ⊢
  (repeat' split at h) <;> first | (cases h; done) | (obtain ⟨F, hF⟩ := hk _ _ _ _ _ h; refine ⟨F, fun F' h' => ?_⟩; (try dsimp only); (repeat (first | rw [if_pos (by assumption)] | rw [if_neg (by assumption)])); exact hF F' h') | (refine ⟨0, fun F' h' => ?_⟩; (try dsimp only); (repeat (first | rw [if_pos (by assumption)] | rw [if_neg (by assumption)])); exact h)
theorem co_oRetR  : jCon oRetR := by
  intro a b t ce ceF pc loc st S k kF r hc hk h
  unfold oRetR at h ⊢
  (repeat' split at h) <;> first | (cases h; done) | (obtain ⟨F, hF⟩ := hk _ _ _ _ _ h; refine ⟨F, fun F' h' => ?_⟩; (try dsimp only); (repeat (first | rw [if_pos (by assumption)] | rw [if_neg (by assumption)])); exact hF F' h') | (refine ⟨0, fun F' h' => ?_⟩; (try dsimp only); (repeat (first | rw [if_pos (by assumption)] | rw [if_neg (by assumption)])); exact h)
theorem co_oRetZ  : jCon oRetZ := by
  intro a b t ce ceF pc loc st S k kF r hc hk h
  unfold oRetZ at h ⊢
  (repeat' split at h) <;> first | (cases h; done) | (obtain ⟨F, hF⟩ := hk _ _ _ _ _ h; refine ⟨F, fun F' h' => ?_⟩; (try dsimp only); (repeat (first | rw [if_pos (by assumption)] | rw [if_neg (by assumption)])); exact hF F' h') | (refine ⟨0, fun F' h' => ?_⟩; (try dsimp only); (repeat (first | rw [if_pos (by assumption)] | rw [if_neg (by assumption)])); exact h)
theorem co_oRetV  : jCon oRetV := by
  intro a b t ce ceF pc loc st S k kF r hc hk h
  unfold oRetV at h ⊢
  (repeat' split at h) <;> first | (cases h; done) | (obtain ⟨F, hF⟩ := hk _ _ _ _ _ h; refine ⟨F, fun F' h' => ?_⟩; (try dsimp only); (repeat (first | rw [if_pos (by assumption)] | rw [if_neg (by assumption)])); exact hF F' h') | (refine ⟨0, fun F' h' => ?_⟩; (try dsimp only); (repeat (first | rw [if_pos (by assumption)] | rw [if_neg (by assumption)])); exact h)
theorem co_oCopy  : jCon oCopy := by
  intro a b t ce ceF pc loc st S k kF r hc hk h
  unfold oCopy at h ⊢
  (repeat' split at h) <;> first | (cases h; done) | (obtain ⟨F, hF⟩ := hk _ _ _ _ _ h; refine ⟨F, fun F' h' => ?_⟩; (try dsimp only); (repeat (first | rw [if_pos (by assumption)] | rw [if_neg (by assumption)])); exact hF F' h') | (refine ⟨0, fun F' h' => ?_⟩; (try dsimp only); (repeat (first | rw [if_pos (by assumption)] | rw [if_neg (by assumption)])); exact h)
theorem co_oLdcS  : jCon oLdcS := by
  intro a b t ce ceF pc loc st S k kF r hc hk h
  unfold oLdcS at h ⊢
  (repeat' split at h) <;> first | (cases h; done) | (obtain ⟨F, hF⟩ := hk _ _ _ _ _ h; refine ⟨F, fun F' h' => ?_⟩; (try dsimp only); (repeat (first | rw [if_pos (by assumption)] | rw [if_neg (by assumption)])); exact hF F' h') | (refine ⟨0, fun F' h' => ?_⟩; (try dsimp only); (repeat (first | rw [if_pos (by assumption)] | rw [if_neg (by assumption)])); exact h)
theorem co_oSLen  : jCon oSLen := by
  intro a b t ce ceF pc loc st S k kF r hc hk h
  unfold oSLen at h ⊢
  (repeat' split at h) <;> first | (cases h; done) | (obtain ⟨F, hF⟩ := hk _ _ _ _ _ h; refine ⟨F, fun F' h' => ?_⟩; (try dsimp only); (repeat (first | rw [if_pos (by assumption)] | rw [if_neg (by assumption)])); exact hF F' h') | (refine ⟨0, fun F' h' => ?_⟩; (try dsimp only); (repeat (first | rw [if_pos (by assumption)] | rw [if_neg (by assumption)])); exact h)
theorem co_oSChr  : jCon oSChr := by
  intro a b t ce ceF pc loc st S k kF r hc hk h
  unfold oSChr at h ⊢
  (repeat' split at h) <;> first | (cases h; done) | (obtain ⟨F, hF⟩ := hk _ _ _ _ _ h; refine ⟨F, fun F' h' => ?_⟩; (try dsimp only); (repeat (first | rw [if_pos (by assumption)] | rw [if_neg (by assumption)])); exact hF F' h') | (refine ⟨0, fun F' h' => ?_⟩; (try dsimp only); (repeat (first | rw [if_pos (by assumption)] | rw [if_neg (by assumption)])); exact h)
theorem co_oAld (ta tv : Nat) : jCon (oAld ta tv) := by
  intro a b t ce ceF pc loc st S k kF r hc hk h
  unfold oAld at h ⊢
  (repeat' split at h) <;> first | (cases h; done) | (obtain ⟨F, hF⟩ := hk _ _ _ _ _ h; refine ⟨F, fun F' h' => ?_⟩; (try dsimp only); (repeat (first | rw [if_pos (by assumption)] | rw [if_neg (by assumption)])); exact hF F' h') | (refine ⟨0, fun F' h' => ?_⟩; (try dsimp only); (repeat (first | rw [if_pos (by assumption)] | rw [if_neg (by assumption)])); exact h)
theorem co_oAst (ta tv : Nat) : jCon (oAst ta tv) := by
  intro a b t ce ceF pc loc st S k kF r hc hk h
  unfold oAst at h ⊢
  (repeat' split at h) <;> first | (cases h; done) | (obtain ⟨F, hF⟩ := hk _ _ _ _ _ h; refine ⟨F, fun F' h' => ?_⟩; (try dsimp only); (repeat (first | rw [if_pos (by assumption)] | rw [if_neg (by assumption)])); exact hF F' h') | (refine ⟨0, fun F' h' => ?_⟩; (try dsimp only); (repeat (first | rw [if_pos (by assumption)] | rw [if_neg (by assumption)])); exact h)
theorem co_oNewA (n : Nat) : jCon (oNewA n) := by
  intro a b t ce ceF pc loc st S k kF r hc hk h
  unfold oNewA at h ⊢
  (repeat' split at h) <;> first | (cases h; done) | (obtain ⟨F, hF⟩ := hk _ _ _ _ _ h; refine ⟨F, fun F' h' => ?_⟩; (try dsimp only); (repeat (first | rw [if_pos (by assumption)] | rw [if_neg (by assumption)])); exact hF F' h') | (refine ⟨0, fun F' h' => ?_⟩; (try dsimp only); (repeat (first | rw [if_pos (by assumption)] | rw [if_neg (by assumption)])); exact h)
theorem co_oRet (t : Nat) : jCon (oRet t) := by
  intro a b t ce ceF pc loc st S k kF r hc hk h
  unfold oRet at h ⊢
  (repeat' split at h) <;> first | (cases h; done) | (obtain ⟨F, hF⟩ := hk _ _ _ _ _ h; refine ⟨F, fun F' h' => ?_⟩; (try dsimp only); (repeat (first | rw [if_pos (by assumption)] | rw [if_neg (by assumption)])); exact hF F' h') | (refine ⟨0, fun F' h' => ?_⟩; (try dsimp only); (repeat (first | rw [if_pos (by assumption)] | rw [if_neg (by assumption)])); exact h)
theorem jsw_con {k : Nat → jR} {kF : Nat → Nat → jR} {z d : Int} {r : Int × jS} (hk : ∀ t, k t = some r → jfin (fun F => kF F t) r) : ∀ (l : List Int) (lo : Int), jsw k z d lo l = some r → jfin (fun F => jsw (kF F) z d lo l) r
  | [], _, h => hk _ h
  | t :: l, lo, h => by
    unfold jsw at h ⊢
    split at h
    · rename_i e
      simp only [if_pos e]
      exact hk _ h
    · rename_i e
      simp only [if_neg e]
      exact jsw_con hk l (lo + 1) h
theorem jlk_con {k : Nat → jR} {kF : Nat → Nat → jR} {z d : Int} {r : Int × jS} (hk : ∀ t, k t = some r → jfin (fun F => kF F t) r) : ∀ (l : List Int), jlk k z d l = some r → jfin (fun F => jlk (kF F) z d l) r
  | [], h => hk _ h
  | [_], h => hk _ h
  | x :: t :: l, h => by
    unfold jlk at h ⊢
    split at h
    · rename_i e
      simp only [if_pos e]
      exact hk _ h
    · rename_i e
      simp only [if_neg e]
      exact jlk_con hk l h
theorem co_oTab : jCon oTab := by
  intro a b t ce ceF pc loc st S k kF r hc hk h
  unfold oTab at h ⊢
  split at h
  · exact jsw_con (kF := fun F t => kF F t loc _ S) (fun t h => hk _ _ _ _ _ h) _ _ h
  · cases h
theorem co_oLook : jCon oLook := by
  intro a b t ce ceF pc loc st S k kF r hc hk h
  unfold oLook at h ⊢
  split at h
  · exact jlk_con (kF := fun F t => kF F t loc _ S) (fun t h => hk _ _ _ _ _ h) _ h
  · cases h
theorem co_oCall : jCon oCall := by
  intro a b t ce ceF pc loc st S k kF r hc hk h
  unfold oCall at h ⊢
  split at h
  case isFalse => cases h
  split at h
  case isFalse => cases h
  rename_i h1 h2
  simp only [if_pos h1, if_pos h2]
  exact jfin_bind (fun q e => hc _ _ _ _ e) (fun q e => hk _ _ _ _ _ e) h
theorem co_oCallV : jCon oCallV := by
  intro a b t ce ceF pc loc st S k kF r hc hk h
  unfold oCallV at h ⊢
  split at h
  case h_2 => cases h
  split at h
  case isFalse => cases h
  split at h
  case isFalse => cases h
  rename_i h1 h2
  simp only [if_pos h1, if_pos h2]
  exact co_oCall a b t ce ceF pc loc st S k kF r hc hk h
theorem co_oSld : jCon oSld := by
  intro a b t ce ceF pc loc st S k kF r hc hk h
  unfold oSld at h ⊢
  split at h
  case h_2 => cases h
  split at h
  case isFalse => cases h
  split at h
  case isFalse => cases h
  rename_i h1 h2
  simp only [if_pos h1, if_pos h2]
  exact jfin_bind (fun q e => hc _ _ _ _ e) (fun q e => hk _ _ _ _ _ e) h
theorem co_oSlen : jCon oSlen := by
  intro a b t ce ceF pc loc st S k kF r hc hk h
  unfold oSlen at h ⊢
  split at h
  case h_2 => cases h
  split at h
  case isFalse => cases h
  split at h
  case isFalse => cases h
  rename_i h1 h2
  simp only [if_pos h1, if_pos h2]
  exact jfin_bind (fun q e => hc _ _ _ _ e) (fun q e => hk _ _ _ _ _ e) h
theorem co_all : ∀ n : Nat, jCon (jops.getD n oBad)
  | 0 => co_oBad
  | 1 => co_oPush 0 1
  | 2 => co_oPush 0 2
  | 3 => co_oPush 0 3
  | 4 => co_oPush 0 2
  | 5 => co_oPush 0 3
  | 6 => co_oPush 1 1
  | 7 => co_oPush 1 3
  | 8 => co_oLoad 0 1
  | 9 => co_oLoad 0 2
  | 10 => co_oLoad 1 1
  | 11 => co_oLoad 1 2
  | 12 => co_oALoad 1
  | 13 => co_oALoad 2
  | 14 => co_oStore 1
  | 15 => co_oStore 2
  | 16 => co_oLStore 1
  | 17 => co_oLStore 2
  | 18 => co_oAStore 1
  | 19 => co_oAStore 2
  | 20 => co_oIinc
  | 21 => co_oBin jadd
  | 22 => co_oBin jsub
  | 23 => co_oBin jmul
  | 24 => co_oDiv jdiv
  | 25 => co_oDiv jrem
  | 26 => co_oIneg
  | 27 => co_oBin iShl
  | 28 => co_oBin iShr
  | 29 => co_oBin iUshr
  | 30 => co_oBin iAnd
  | 31 => co_oBin iOr
  | 32 => co_oBin iXor
  | 33 => co_oBinL ladd
  | 34 => co_oBinL lsub
  | 35 => co_oBinL lmul
  | 36 => co_oDivL ldiv
  | 37 => co_oDivL lrem
  | 38 => co_oBinL lAnd
  | 39 => co_oBinL lOr
  | 40 => co_oShL lShl
  | 41 => co_oShL lShr
  | 42 => co_oLcmp
  | 43 => co_oI2l
  | 44 => co_oL2i
  | 45 => co_oDup
  | 46 => co_oDup2
  | 47 => co_oPop
  | 48 => co_oIfEq
  | 49 => co_oIfNe
  | 50 => co_oIfLt
  | 51 => co_oIfGe
  | 52 => co_oIfGt
  | 53 => co_oIfLe
  | 54 => co_oIcEq
  | 55 => co_oIcNe
  | 56 => co_oIcLt
  | 57 => co_oIcGe
  | 58 => co_oIcGt
  | 59 => co_oIcLe
  | 60 => co_oGoto
  | 61 => co_oIfNN
  | 62 => co_oTab
  | 63 => co_oLook
  | 64 => co_oGet
  | 65 => co_oGetR
  | 66 => co_oPut
  | 67 => co_oPutZ
  | 68 => co_oPutR
  | 69 => co_oPutR
  | 70 => co_oAld 24 0
  | 71 => co_oAld 25 1
  | 72 => co_oAld 26 0
  | 73 => co_oAld 23 0
  | 74 => co_oAald
  | 75 => co_oAst 24 0
  | 76 => co_oAst 25 1
  | 77 => co_oZst
  | 78 => co_oCst
  | 79 => co_oAast
  | 80 => co_oLen
  | 81 => co_oNew
  | 82 => co_oNewA 2
  | 83 => co_oNewA 3
  | 84 => co_oMulti
  | 85 => co_oCallV
  | 86 => co_oCallV
  | 87 => co_oCallV
  | 88 => co_oCallV
  | 89 => co_oCall
  | 90 => co_oObj
  | 91 => co_oRet 0
  | 92 => co_oRet 1
  | 93 => co_oRetR
  | 94 => co_oRetZ
  | 95 => co_oRetV
  | 96 => co_oPush 24 1
  | 97 => co_oCopy
  | 98 => co_oLdcS
  | 99 => co_oSLen
  | 100 => co_oSChr
  | 101 => co_oSld
  | 102 => co_oSlen
  | n + 103 => co_oBad
/-- a method, at most d calls deep -/
noncomputable def jD (d : Nat) : jC := fun m args S => jlim (fun F => jeva F d m args S)
/-- .. from a place in its code on -/
noncomputable def jN (d m : Nat) : jT := fun pc loc st S => jlim (fun F => jrun (jeva F d) (jcd m) F pc loc st S)
theorem jD_m (d m : Nat) (args : List jV) (S : jS) : ∀ F F' : Nat, F ≤ F' → jle (jeva F d m args S) (jeva F' d m args S) := fun F F' h => jeva_mono h d d (Nat.le_refl d) m args S
theorem jN_m (d m pc : Nat) (loc st : List jV) (S : jS) : ∀ F F' : Nat, F ≤ F' → jle (jrun (jeva F d) (jcd m) F pc loc st S) (jrun (jeva F' d) (jcd m) F' pc loc st S) := fun F F' h => jrun_mono (jeva_mono h d d (Nat.le_refl d)) F F' h pc loc st S
theorem jD_fin {d m : Nat} {args : List jV} {S : jS} {r : Int × jS} (h : jD d m args S = some r) : jfin (fun F => jeva F d m args S) r := by
  obtain ⟨F, hF⟩ := jlim_ex h
  exact ⟨F, fun F' h' => jD_m d m args S F F' h' r hF⟩
theorem jN_fin {d m pc : Nat} {loc st : List jV} {S : jS} {r : Int × jS} (h : jN d m pc loc st S = some r) : jfin (fun F => jrun (jeva F d) (jcd m) F pc loc st S) r := by
  obtain ⟨F, hF⟩ := jlim_ex h
  exact ⟨F, fun F' h' => jN_m d m pc loc st S F F' h' r hF⟩
theorem jR_ext {a b : jR} (h1 : jle a b) (h2 : jle b a) : a = b := by
  cases a with
  | none =>
    cases b with
    | none => rfl
    | some r => exact (h2 r rfl).symm ▸ rfl
  | some r => exact (h1 r rfl).symm
/-- ONE STEP -/
theorem jN_step (d m pc : Nat) (loc st : List jV) (S : jS) : jN d m pc loc st S = jstep ((jcd m).getD pc (0, 0, 0, [])) (jD d) pc loc st S (jN d m) := by
  apply jR_ext
  · intro r h
    obtain ⟨F, hF⟩ := jlim_ex h
    cases F with
    | zero => cases hF
    | succ F =>
      exact mo_all _ _ _ _ _ _ pc loc st S _ _ (fun m a S r h => jlim_of (jD_m d m a S) h) (fun pc loc st S r h => jlim_of (jN_m d m pc loc st S) (F := F + 1) (jrun_mono (fun _ _ _ _ h => h) F (F + 1) (Nat.le_succ F) pc loc st S r h)) r hF
  · intro r h
    obtain ⟨F, hF⟩ := co_all _ _ _ _ (jD d) (fun F => jeva F d) pc loc st S (jN d m) (fun F => jrun (jeva F d) (jcd m) F) r (fun m a S r h => jD_fin h) (fun pc loc st S r h => jN_fin h) h
    refine jlim_of (jN_m d m pc loc st S) (F := F + 1) ?_
    have h1 := hF F (Nat.le_refl F)
    exact mo_all _ _ _ _ _ _ pc loc st S _ _ (jeva_mono (Nat.le_succ F) d d (Nat.le_refl d)) (jrun_mono (jeva_mono (Nat.le_succ F) d d (Nat.le_refl d)) F F (Nat.le_refl F)) r h1
theorem jD_eq (d m : Nat) (args : List jV) (S : jS) (hf : jfit m args = true) : jD (d + 1) m args S = jN d m 0 (jent args (jml0 m)) [] S := by
  unfold jD jN
  congr 1
  funext F
  show (if jfit m args then _ else none) = _
  rw [if_pos hf]
/-- deeper does no harm -/
theorem jD_deep {d d' m : Nat} {args : List jV} {S : jS} {r : Int × jS} (hd : d ≤ d') (h : jD d m args S = some r) : jD d' m args S = some r := by
  obtain ⟨F, hF⟩ := jlim_ex h
  exact jlim_of (jD_m d' m args S) (jeva_mono (Nat.le_refl F) d d' hd m args S r hF)
/-- a stretch of code: to the places 'stops', at most n steps -/
noncomputable def jgo (stops : List Nat) (d m : Nat) : Nat → jT
  | 0 => jN d m
  | n + 1 => fun pc loc st S => if stops.contains pc then jN d m pc loc st S else jstep ((jcd m).getD pc (0, 0, 0, [])) (jD d) pc loc st S (jgo stops d m n)
theorem jgo_eq (stops : List Nat) (d m : Nat) : ∀ (n pc : Nat) (loc st : List jV) (S : jS), jgo stops d m n pc loc st S = jN d m pc loc st S
  | 0, _, _, _, _ => rfl
  | n + 1, pc, loc, st, S => by
    show (if stops.contains pc then jN d m pc loc st S else jstep _ (jD d) pc loc st S (jgo stops d m n)) = _
    split
    · rfl
    · have e : jgo stops d m n = jN d m := by
        funext pc loc st S
        exact jgo_eq stops d m n pc loc st S
      rw [e]
      exact (jN_step d m pc loc st S).symm
/-- .. the first step is made in any case -/
theorem jgo_1 (stops : List Nat) (n d m pc : Nat) (loc st : List jV) (S : jS) : jN d m pc loc st S = jstep ((jcd m).getD pc (0, 0, 0, [])) (jD d) pc loc st S (jgo stops d m n) := by
  rw [jN_step]
  congr 1
  funext pc loc st S
  exact (jgo_eq stops d m n pc loc st S).symm
end
