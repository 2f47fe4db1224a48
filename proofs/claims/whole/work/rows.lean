section
-- ===== PART A: goes FIRST, ahead of the names: the tables' words, and 'selects' of the private methods out of them =====
/-- a private method of a class that the tables say can be made, by its rows of tables_1 -/
def lw_okq (q : MethodName × Nat) : Prop := (q.1.cls ≠ "java/lang/invoke/MethodHandle" ∧ q.1.cls ≠ "java/lang/invoke/VarHandle") ∧ Cond.instantiable q.1.cls q.2 ∈ tables_1 ∧ Cond.privateMethod q.1 ∈ tables_1 ∧ Cond.instanceMethod q.1 ∈ tables_1
theorem lw_p0 : lw_okq (⟨"CrumbsHome$Roads", "measure", "()V"⟩, 2) := ⟨⟨by decide +kernel, by decide +kernel⟩, List.mem_of_getElem? (i := 32) (by decide +kernel), List.mem_of_getElem? (i := 38) (by decide +kernel), List.mem_of_getElem? (i := 39) (by decide +kernel)⟩
theorem lw_p1 : lw_okq (⟨"CrumbsHome$Roads", "shorten", "(II)V"⟩, 2) := ⟨⟨by decide +kernel, by decide +kernel⟩, List.mem_of_getElem? (i := 32) (by decide +kernel), List.mem_of_getElem? (i := 46) (by decide +kernel), List.mem_of_getElem? (i := 47) (by decide +kernel)⟩
theorem lw_p2 : lw_okq (⟨"CrumbsHome", "error", "(I)I"⟩, 12) := ⟨⟨by decide +kernel, by decide +kernel⟩, List.mem_of_getElem? (i := 18) (by decide +kernel), List.mem_of_getElem? (i := 270) (by decide +kernel), List.mem_of_getElem? (i := 271) (by decide +kernel)⟩
theorem lw_p3 : lw_okq (⟨"CrumbsHome", "isBit", "(I)Z"⟩, 12) := ⟨⟨by decide +kernel, by decide +kernel⟩, List.mem_of_getElem? (i := 18) (by decide +kernel), List.mem_of_getElem? (i := 315) (by decide +kernel), List.mem_of_getElem? (i := 316) (by decide +kernel)⟩
theorem lw_p4 : lw_okq (⟨"CrumbsHome", "stepsOf", "(LCrumbsHome$Harvest;LCrumbsHome$Roads;I)I"⟩, 12) := ⟨⟨by decide +kernel, by decide +kernel⟩, List.mem_of_getElem? (i := 18) (by decide +kernel), List.mem_of_getElem? (i := 319) (by decide +kernel), List.mem_of_getElem? (i := 320) (by decide +kernel)⟩
theorem lw_p5 : lw_okq (⟨"CrumbsHome$Harvest", "hasCompany", "(I)Z"⟩, 8) := ⟨⟨by decide +kernel, by decide +kernel⟩, List.mem_of_getElem? (i := 65) (by decide +kernel), List.mem_of_getElem? (i := 331) (by decide +kernel), List.mem_of_getElem? (i := 332) (by decide +kernel)⟩
theorem lw_p6 : lw_okq (⟨"CrumbsHome$Law", "workedOut", "(III)I"⟩, 5) := ⟨⟨by decide +kernel, by decide +kernel⟩, List.mem_of_getElem? (i := 107) (by decide +kernel), List.mem_of_getElem? (i := 339) (by decide +kernel), List.mem_of_getElem? (i := 340) (by decide +kernel)⟩
theorem lw_p7 : lw_okq (⟨"CrumbsHome", "worthOf", "(LCrumbsHome$Harvest;I)I"⟩, 12) := ⟨⟨by decide +kernel, by decide +kernel⟩, List.mem_of_getElem? (i := 18) (by decide +kernel), List.mem_of_getElem? (i := 350) (by decide +kernel), List.mem_of_getElem? (i := 351) (by decide +kernel)⟩
theorem lw_p8 : lw_okq (⟨"CrumbsHome", "lawOf", "(I)LCrumbsHome$Law;"⟩, 12) := ⟨⟨by decide +kernel, by decide +kernel⟩, List.mem_of_getElem? (i := 18) (by decide +kernel), List.mem_of_getElem? (i := 393) (by decide +kernel), List.mem_of_getElem? (i := 394) (by decide +kernel)⟩
theorem lw_p9 : lw_okq (⟨"CrumbsHome$Reader", "readRank", "(II)V"⟩, 7) := ⟨⟨by decide +kernel, by decide +kernel⟩, List.mem_of_getElem? (i := 177) (by decide +kernel), List.mem_of_getElem? (i := 404) (by decide +kernel), List.mem_of_getElem? (i := 405) (by decide +kernel)⟩
theorem lw_p10 : lw_okq (⟨"CrumbsHome$Reader", "readJoined", "(II)V"⟩, 7) := ⟨⟨by decide +kernel, by decide +kernel⟩, List.mem_of_getElem? (i := 177) (by decide +kernel), List.mem_of_getElem? (i := 408) (by decide +kernel), List.mem_of_getElem? (i := 409) (by decide +kernel)⟩
theorem lw_p11 : lw_okq (⟨"CrumbsHome$Reader", "isNextOf", "(Ljava/lang/String;)Z"⟩, 7) := ⟨⟨by decide +kernel, by decide +kernel⟩, List.mem_of_getElem? (i := 177) (by decide +kernel), List.mem_of_getElem? (i := 420) (by decide +kernel), List.mem_of_getElem? (i := 421) (by decide +kernel)⟩
theorem lw_p12 : lw_okq (⟨"CrumbsHome$Reader", "write", "(I)V"⟩, 7) := ⟨⟨by decide +kernel, by decide +kernel⟩, List.mem_of_getElem? (i := 177) (by decide +kernel), List.mem_of_getElem? (i := 506) (by decide +kernel), List.mem_of_getElem? (i := 507) (by decide +kernel)⟩
theorem lw_p13 : lw_okq (⟨"CrumbsHome$Reader", "readOne", "(I)V"⟩, 7) := ⟨⟨by decide +kernel, by decide +kernel⟩, List.mem_of_getElem? (i := 177) (by decide +kernel), List.mem_of_getElem? (i := 510) (by decide +kernel), List.mem_of_getElem? (i := 511) (by decide +kernel)⟩
theorem lw_p14 : lw_okq (⟨"CrumbsHome$Reader", "readOpened", "(I)V"⟩, 7) := ⟨⟨by decide +kernel, by decide +kernel⟩, List.mem_of_getElem? (i := 177) (by decide +kernel), List.mem_of_getElem? (i := 515) (by decide +kernel), List.mem_of_getElem? (i := 516) (by decide +kernel)⟩
theorem lw_p15 : lw_okq (⟨"CrumbsHome$Reader", "isNextDigit", "()Z"⟩, 7) := ⟨⟨by decide +kernel, by decide +kernel⟩, List.mem_of_getElem? (i := 177) (by decide +kernel), List.mem_of_getElem? (i := 520) (by decide +kernel), List.mem_of_getElem? (i := 521) (by decide +kernel)⟩
def lw_privs_1 : List (MethodName × Nat) := [(⟨"CrumbsHome$Roads", "measure", "()V"⟩, 2), (⟨"CrumbsHome$Roads", "shorten", "(II)V"⟩, 2), (⟨"CrumbsHome", "error", "(I)I"⟩, 12), (⟨"CrumbsHome", "isBit", "(I)Z"⟩, 12), (⟨"CrumbsHome", "stepsOf", "(LCrumbsHome$Harvest;LCrumbsHome$Roads;I)I"⟩, 12), (⟨"CrumbsHome$Harvest", "hasCompany", "(I)Z"⟩, 8), (⟨"CrumbsHome$Law", "workedOut", "(III)I"⟩, 5), (⟨"CrumbsHome", "worthOf", "(LCrumbsHome$Harvest;I)I"⟩, 12), (⟨"CrumbsHome", "lawOf", "(I)LCrumbsHome$Law;"⟩, 12), (⟨"CrumbsHome$Reader", "readRank", "(II)V"⟩, 7), (⟨"CrumbsHome$Reader", "readJoined", "(II)V"⟩, 7), (⟨"CrumbsHome$Reader", "isNextOf", "(Ljava/lang/String;)Z"⟩, 7), (⟨"CrumbsHome$Reader", "write", "(I)V"⟩, 7), (⟨"CrumbsHome$Reader", "readOne", "(I)V"⟩, 7), (⟨"CrumbsHome$Reader", "readOpened", "(I)V"⟩, 7), (⟨"CrumbsHome$Reader", "isNextDigit", "()Z"⟩, 7)]
theorem lw_r1 : ∀ q ∈ lw_privs_1, lw_okq q := List.forall_mem_cons.mpr ⟨lw_p0, List.forall_mem_cons.mpr ⟨lw_p1, List.forall_mem_cons.mpr ⟨lw_p2, List.forall_mem_cons.mpr ⟨lw_p3, List.forall_mem_cons.mpr ⟨lw_p4, List.forall_mem_cons.mpr ⟨lw_p5, List.forall_mem_cons.mpr ⟨lw_p6, List.forall_mem_cons.mpr ⟨lw_p7, List.forall_mem_cons.mpr ⟨lw_p8, List.forall_mem_cons.mpr ⟨lw_p9, List.forall_mem_cons.mpr ⟨lw_p10, List.forall_mem_cons.mpr ⟨lw_p11, List.forall_mem_cons.mpr ⟨lw_p12, List.forall_mem_cons.mpr ⟨lw_p13, List.forall_mem_cons.mpr ⟨lw_p14, List.forall_mem_cons.mpr ⟨lw_p15, fun _ h => absurd h List.not_mem_nil⟩⟩⟩⟩⟩⟩⟩⟩⟩⟩⟩⟩⟩⟩⟩⟩
theorem lw_p16 : lw_okq (⟨"CrumbsHome$Reader", "readNumber", "()V"⟩, 7) := ⟨⟨by decide +kernel, by decide +kernel⟩, List.mem_of_getElem? (i := 177) (by decide +kernel), List.mem_of_getElem? (i := 524) (by decide +kernel), List.mem_of_getElem? (i := 525) (by decide +kernel)⟩
theorem lw_p17 : lw_okq (⟨"CrumbsHome", "passDays", "(LCrumbsHome$Harvest;LCrumbsHome$Roads;I)V"⟩, 12) := ⟨⟨by decide +kernel, by decide +kernel⟩, List.mem_of_getElem? (i := 18) (by decide +kernel), List.mem_of_getElem? (i := 545) (by decide +kernel), List.mem_of_getElem? (i := 546) (by decide +kernel)⟩
theorem lw_p18 : lw_okq (⟨"CrumbsHome", "passDay", "(LCrumbsHome$Harvest;LCrumbsHome$Roads;)Z"⟩, 12) := ⟨⟨by decide +kernel, by decide +kernel⟩, List.mem_of_getElem? (i := 18) (by decide +kernel), List.mem_of_getElem? (i := 549) (by decide +kernel), List.mem_of_getElem? (i := 550) (by decide +kernel)⟩
theorem lw_p19 : lw_okq (⟨"CrumbsHome$Roads", "nextToward", "(II)I"⟩, 2) := ⟨⟨by decide +kernel, by decide +kernel⟩, List.mem_of_getElem? (i := 32) (by decide +kernel), List.mem_of_getElem? (i := 562) (by decide +kernel), List.mem_of_getElem? (i := 563) (by decide +kernel)⟩
theorem lw_p20 : lw_okq (⟨"CrumbsHome$World", "draw", "()I"⟩, 9) := ⟨⟨by decide +kernel, by decide +kernel⟩, List.mem_of_getElem? (i := 26) (by decide +kernel), List.mem_of_getElem? (i := 579) (by decide +kernel), List.mem_of_getElem? (i := 580) (by decide +kernel)⟩
theorem lw_p21 : lw_okq (⟨"CrumbsHome", "think", "(I)V"⟩, 12) := ⟨⟨by decide +kernel, by decide +kernel⟩, List.mem_of_getElem? (i := 18) (by decide +kernel), List.mem_of_getElem? (i := 596) (by decide +kernel), List.mem_of_getElem? (i := 597) (by decide +kernel)⟩
theorem lw_p22 : lw_okq (⟨"CrumbsHome", "worthAtHome", "(LCrumbsHome$Harvest;I)I"⟩, 12) := ⟨⟨by decide +kernel, by decide +kernel⟩, List.mem_of_getElem? (i := 18) (by decide +kernel), List.mem_of_getElem? (i := 613) (by decide +kernel), List.mem_of_getElem? (i := 614) (by decide +kernel)⟩
theorem lw_p23 : lw_okq (⟨"CrumbsHome", "getsWith", "(III)I"⟩, 12) := ⟨⟨by decide +kernel, by decide +kernel⟩, List.mem_of_getElem? (i := 18) (by decide +kernel), List.mem_of_getElem? (i := 625) (by decide +kernel), List.mem_of_getElem? (i := 626) (by decide +kernel)⟩
theorem lw_p24 : lw_okq (⟨"CrumbsHome", "homeWithWay", "(III)I"⟩, 12) := ⟨⟨by decide +kernel, by decide +kernel⟩, List.mem_of_getElem? (i := 18) (by decide +kernel), List.mem_of_getElem? (i := 639) (by decide +kernel), List.mem_of_getElem? (i := 640) (by decide +kernel)⟩
theorem lw_p25 : lw_okq (⟨"CrumbsHome", "wouldWarmSo", "(III)Z"⟩, 12) := ⟨⟨by decide +kernel, by decide +kernel⟩, List.mem_of_getElem? (i := 18) (by decide +kernel), List.mem_of_getElem? (i := 667) (by decide +kernel), List.mem_of_getElem? (i := 668) (by decide +kernel)⟩
theorem lw_p26 : lw_okq (⟨"CrumbsHome", "say", "(IIIII)I"⟩, 12) := ⟨⟨by decide +kernel, by decide +kernel⟩, List.mem_of_getElem? (i := 18) (by decide +kernel), List.mem_of_getElem? (i := 679) (by decide +kernel), List.mem_of_getElem? (i := 680) (by decide +kernel)⟩
theorem lw_p27 : lw_okq (⟨"CrumbsHome", "sayBody", "(IIIII)I"⟩, 12) := ⟨⟨by decide +kernel, by decide +kernel⟩, List.mem_of_getElem? (i := 18) (by decide +kernel), List.mem_of_getElem? (i := 685) (by decide +kernel), List.mem_of_getElem? (i := 686) (by decide +kernel)⟩
theorem lw_p28 : lw_okq (⟨"CrumbsHome", "partsOf", "(II)I"⟩, 12) := ⟨⟨by decide +kernel, by decide +kernel⟩, List.mem_of_getElem? (i := 18) (by decide +kernel), List.mem_of_getElem? (i := 689) (by decide +kernel), List.mem_of_getElem? (i := 690) (by decide +kernel)⟩
theorem lw_p29 : lw_okq (⟨"CrumbsHomeModel", "error", "(I)I"⟩, 23) := ⟨⟨by decide +kernel, by decide +kernel⟩, List.mem_of_getElem? (i := 766) (by decide +kernel), List.mem_of_getElem? (i := 853) (by decide +kernel), List.mem_of_getElem? (i := 854) (by decide +kernel)⟩
theorem lw_p30 : lw_okq (⟨"CrumbsHomeModel", "opensFrom", "(III)V"⟩, 23) := ⟨⟨by decide +kernel, by decide +kernel⟩, List.mem_of_getElem? (i := 766) (by decide +kernel), List.mem_of_getElem? (i := 858) (by decide +kernel), List.mem_of_getElem? (i := 859) (by decide +kernel)⟩
theorem lw_p31 : lw_okq (⟨"CrumbsHomeModel", "becomes", "(II)I"⟩, 23) := ⟨⟨by decide +kernel, by decide +kernel⟩, List.mem_of_getElem? (i := 766) (by decide +kernel), List.mem_of_getElem? (i := 869) (by decide +kernel), List.mem_of_getElem? (i := 870) (by decide +kernel)⟩
def lw_privs_2 : List (MethodName × Nat) := [(⟨"CrumbsHome$Reader", "readNumber", "()V"⟩, 7), (⟨"CrumbsHome", "passDays", "(LCrumbsHome$Harvest;LCrumbsHome$Roads;I)V"⟩, 12), (⟨"CrumbsHome", "passDay", "(LCrumbsHome$Harvest;LCrumbsHome$Roads;)Z"⟩, 12), (⟨"CrumbsHome$Roads", "nextToward", "(II)I"⟩, 2), (⟨"CrumbsHome$World", "draw", "()I"⟩, 9), (⟨"CrumbsHome", "think", "(I)V"⟩, 12), (⟨"CrumbsHome", "worthAtHome", "(LCrumbsHome$Harvest;I)I"⟩, 12), (⟨"CrumbsHome", "getsWith", "(III)I"⟩, 12), (⟨"CrumbsHome", "homeWithWay", "(III)I"⟩, 12), (⟨"CrumbsHome", "wouldWarmSo", "(III)Z"⟩, 12), (⟨"CrumbsHome", "say", "(IIIII)I"⟩, 12), (⟨"CrumbsHome", "sayBody", "(IIIII)I"⟩, 12), (⟨"CrumbsHome", "partsOf", "(II)I"⟩, 12), (⟨"CrumbsHomeModel", "error", "(I)I"⟩, 23), (⟨"CrumbsHomeModel", "opensFrom", "(III)V"⟩, 23), (⟨"CrumbsHomeModel", "becomes", "(II)I"⟩, 23)]
theorem lw_r2 : ∀ q ∈ lw_privs_2, lw_okq q := List.forall_mem_cons.mpr ⟨lw_p16, List.forall_mem_cons.mpr ⟨lw_p17, List.forall_mem_cons.mpr ⟨lw_p18, List.forall_mem_cons.mpr ⟨lw_p19, List.forall_mem_cons.mpr ⟨lw_p20, List.forall_mem_cons.mpr ⟨lw_p21, List.forall_mem_cons.mpr ⟨lw_p22, List.forall_mem_cons.mpr ⟨lw_p23, List.forall_mem_cons.mpr ⟨lw_p24, List.forall_mem_cons.mpr ⟨lw_p25, List.forall_mem_cons.mpr ⟨lw_p26, List.forall_mem_cons.mpr ⟨lw_p27, List.forall_mem_cons.mpr ⟨lw_p28, List.forall_mem_cons.mpr ⟨lw_p29, List.forall_mem_cons.mpr ⟨lw_p30, List.forall_mem_cons.mpr ⟨lw_p31, fun _ h => absurd h List.not_mem_nil⟩⟩⟩⟩⟩⟩⟩⟩⟩⟩⟩⟩⟩⟩⟩⟩
theorem lw_p32 : lw_okq (⟨"CrumbsHomeModel", "farBy", "(II)I"⟩, 23) := ⟨⟨by decide +kernel, by decide +kernel⟩, List.mem_of_getElem? (i := 766) (by decide +kernel), List.mem_of_getElem? (i := 877) (by decide +kernel), List.mem_of_getElem? (i := 878) (by decide +kernel)⟩
theorem lw_p33 : lw_okq (⟨"CrumbsHomeModel", "findFrom", "(I)V"⟩, 23) := ⟨⟨by decide +kernel, by decide +kernel⟩, List.mem_of_getElem? (i := 766) (by decide +kernel), List.mem_of_getElem? (i := 881) (by decide +kernel), List.mem_of_getElem? (i := 882) (by decide +kernel)⟩
theorem lw_p34 : lw_okq (⟨"CrumbsHomeModel", "lets", "(III)V"⟩, 23) := ⟨⟨by decide +kernel, by decide +kernel⟩, List.mem_of_getElem? (i := 766) (by decide +kernel), List.mem_of_getElem? (i := 894) (by decide +kernel), List.mem_of_getElem? (i := 895) (by decide +kernel)⟩
theorem lw_p35 : lw_okq (⟨"CrumbsHomeModel", "isBit", "(I)Z"⟩, 23) := ⟨⟨by decide +kernel, by decide +kernel⟩, List.mem_of_getElem? (i := 766) (by decide +kernel), List.mem_of_getElem? (i := 902) (by decide +kernel), List.mem_of_getElem? (i := 903) (by decide +kernel)⟩
theorem lw_p36 : lw_okq (⟨"CrumbsHomeModel", "of", "(II)I"⟩, 23) := ⟨⟨by decide +kernel, by decide +kernel⟩, List.mem_of_getElem? (i := 766) (by decide +kernel), List.mem_of_getElem? (i := 906) (by decide +kernel), List.mem_of_getElem? (i := 907) (by decide +kernel)⟩
theorem lw_p37 : lw_okq (⟨"CrumbsHomeModel", "stepsOf", "(I)I"⟩, 23) := ⟨⟨by decide +kernel, by decide +kernel⟩, List.mem_of_getElem? (i := 766) (by decide +kernel), List.mem_of_getElem? (i := 910) (by decide +kernel), List.mem_of_getElem? (i := 911) (by decide +kernel)⟩
theorem lw_p38 : lw_okq (⟨"CrumbsHomeModel", "farHome", "(I)I"⟩, 23) := ⟨⟨by decide +kernel, by decide +kernel⟩, List.mem_of_getElem? (i := 766) (by decide +kernel), List.mem_of_getElem? (i := 914) (by decide +kernel), List.mem_of_getElem? (i := 915) (by decide +kernel)⟩
theorem lw_p39 : lw_okq (⟨"CrumbsHomeModel", "homeOf", "(I)I"⟩, 23) := ⟨⟨by decide +kernel, by decide +kernel⟩, List.mem_of_getElem? (i := 766) (by decide +kernel), List.mem_of_getElem? (i := 918) (by decide +kernel), List.mem_of_getElem? (i := 919) (by decide +kernel)⟩
theorem lw_p40 : lw_okq (⟨"CrumbsHomeModel", "walksBy", "(I)I"⟩, 23) := ⟨⟨by decide +kernel, by decide +kernel⟩, List.mem_of_getElem? (i := 766) (by decide +kernel), List.mem_of_getElem? (i := 922) (by decide +kernel), List.mem_of_getElem? (i := 923) (by decide +kernel)⟩
theorem lw_p41 : lw_okq (⟨"CrumbsHomeModel", "isTogether", "(I)Z"⟩, 23) := ⟨⟨by decide +kernel, by decide +kernel⟩, List.mem_of_getElem? (i := 766) (by decide +kernel), List.mem_of_getElem? (i := 926) (by decide +kernel), List.mem_of_getElem? (i := 927) (by decide +kernel)⟩
theorem lw_p42 : lw_okq (⟨"CrumbsHomeModel", "gives", "(IIII)I"⟩, 23) := ⟨⟨by decide +kernel, by decide +kernel⟩, List.mem_of_getElem? (i := 766) (by decide +kernel), List.mem_of_getElem? (i := 930) (by decide +kernel), List.mem_of_getElem? (i := 931) (by decide +kernel)⟩
theorem lw_p43 : lw_okq (⟨"CrumbsHomeModel", "works", "(I)I"⟩, 23) := ⟨⟨by decide +kernel, by decide +kernel⟩, List.mem_of_getElem? (i := 766) (by decide +kernel), List.mem_of_getElem? (i := 934) (by decide +kernel), List.mem_of_getElem? (i := 935) (by decide +kernel)⟩
theorem lw_p44 : lw_okq (⟨"CrumbsHomeModel", "worthOf", "(I)I"⟩, 23) := ⟨⟨by decide +kernel, by decide +kernel⟩, List.mem_of_getElem? (i := 766) (by decide +kernel), List.mem_of_getElem? (i := 944) (by decide +kernel), List.mem_of_getElem? (i := 945) (by decide +kernel)⟩
theorem lw_p45 : lw_okq (⟨"CrumbsHomeModel", "weighsOf", "(I)I"⟩, 23) := ⟨⟨by decide +kernel, by decide +kernel⟩, List.mem_of_getElem? (i := 766) (by decide +kernel), List.mem_of_getElem? (i := 948) (by decide +kernel), List.mem_of_getElem? (i := 949) (by decide +kernel)⟩
theorem lw_p46 : lw_okq (⟨"CrumbsHomeModel", "warmth", "(I)I"⟩, 23) := ⟨⟨by decide +kernel, by decide +kernel⟩, List.mem_of_getElem? (i := 766) (by decide +kernel), List.mem_of_getElem? (i := 952) (by decide +kernel), List.mem_of_getElem? (i := 953) (by decide +kernel)⟩
theorem lw_p47 : lw_okq (⟨"CrumbsHomeModel", "any", "()V"⟩, 23) := ⟨⟨by decide +kernel, by decide +kernel⟩, List.mem_of_getElem? (i := 766) (by decide +kernel), List.mem_of_getElem? (i := 982) (by decide +kernel), List.mem_of_getElem? (i := 983) (by decide +kernel)⟩
def lw_privs_3 : List (MethodName × Nat) := [(⟨"CrumbsHomeModel", "farBy", "(II)I"⟩, 23), (⟨"CrumbsHomeModel", "findFrom", "(I)V"⟩, 23), (⟨"CrumbsHomeModel", "lets", "(III)V"⟩, 23), (⟨"CrumbsHomeModel", "isBit", "(I)Z"⟩, 23), (⟨"CrumbsHomeModel", "of", "(II)I"⟩, 23), (⟨"CrumbsHomeModel", "stepsOf", "(I)I"⟩, 23), (⟨"CrumbsHomeModel", "farHome", "(I)I"⟩, 23), (⟨"CrumbsHomeModel", "homeOf", "(I)I"⟩, 23), (⟨"CrumbsHomeModel", "walksBy", "(I)I"⟩, 23), (⟨"CrumbsHomeModel", "isTogether", "(I)Z"⟩, 23), (⟨"CrumbsHomeModel", "gives", "(IIII)I"⟩, 23), (⟨"CrumbsHomeModel", "works", "(I)I"⟩, 23), (⟨"CrumbsHomeModel", "worthOf", "(I)I"⟩, 23), (⟨"CrumbsHomeModel", "weighsOf", "(I)I"⟩, 23), (⟨"CrumbsHomeModel", "warmth", "(I)I"⟩, 23), (⟨"CrumbsHomeModel", "any", "()V"⟩, 23)]
theorem lw_r3 : ∀ q ∈ lw_privs_3, lw_okq q := List.forall_mem_cons.mpr ⟨lw_p32, List.forall_mem_cons.mpr ⟨lw_p33, List.forall_mem_cons.mpr ⟨lw_p34, List.forall_mem_cons.mpr ⟨lw_p35, List.forall_mem_cons.mpr ⟨lw_p36, List.forall_mem_cons.mpr ⟨lw_p37, List.forall_mem_cons.mpr ⟨lw_p38, List.forall_mem_cons.mpr ⟨lw_p39, List.forall_mem_cons.mpr ⟨lw_p40, List.forall_mem_cons.mpr ⟨lw_p41, List.forall_mem_cons.mpr ⟨lw_p42, List.forall_mem_cons.mpr ⟨lw_p43, List.forall_mem_cons.mpr ⟨lw_p44, List.forall_mem_cons.mpr ⟨lw_p45, List.forall_mem_cons.mpr ⟨lw_p46, List.forall_mem_cons.mpr ⟨lw_p47, fun _ h => absurd h List.not_mem_nil⟩⟩⟩⟩⟩⟩⟩⟩⟩⟩⟩⟩⟩⟩⟩⟩
theorem lw_p48 : lw_okq (⟨"CrumbsHomeModel", "all", "()V"⟩, 23) := ⟨⟨by decide +kernel, by decide +kernel⟩, List.mem_of_getElem? (i := 766) (by decide +kernel), List.mem_of_getElem? (i := 986) (by decide +kernel), List.mem_of_getElem? (i := 987) (by decide +kernel)⟩
theorem lw_p49 : lw_okq (⟨"CrumbsHomeModel", "compares", "()V"⟩, 23) := ⟨⟨by decide +kernel, by decide +kernel⟩, List.mem_of_getElem? (i := 766) (by decide +kernel), List.mem_of_getElem? (i := 990) (by decide +kernel), List.mem_of_getElem? (i := 991) (by decide +kernel)⟩
theorem lw_p50 : lw_okq (⟨"CrumbsHomeModel", "sum", "()V"⟩, 23) := ⟨⟨by decide +kernel, by decide +kernel⟩, List.mem_of_getElem? (i := 766) (by decide +kernel), List.mem_of_getElem? (i := 994) (by decide +kernel), List.mem_of_getElem? (i := 995) (by decide +kernel)⟩
theorem lw_p51 : lw_okq (⟨"CrumbsHomeModel", "times", "()V"⟩, 23) := ⟨⟨by decide +kernel, by decide +kernel⟩, List.mem_of_getElem? (i := 766) (by decide +kernel), List.mem_of_getElem? (i := 998) (by decide +kernel), List.mem_of_getElem? (i := 999) (by decide +kernel)⟩
theorem lw_p52 : lw_okq (⟨"CrumbsHomeModel", "one", "()V"⟩, 23) := ⟨⟨by decide +kernel, by decide +kernel⟩, List.mem_of_getElem? (i := 766) (by decide +kernel), List.mem_of_getElem? (i := 1002) (by decide +kernel), List.mem_of_getElem? (i := 1003) (by decide +kernel)⟩
theorem lw_p53 : lw_okq (⟨"CrumbsHomeModel", "look", "()I"⟩, 23) := ⟨⟨by decide +kernel, by decide +kernel⟩, List.mem_of_getElem? (i := 766) (by decide +kernel), List.mem_of_getElem? (i := 1006) (by decide +kernel), List.mem_of_getElem? (i := 1007) (by decide +kernel)⟩
theorem lw_p54 : lw_okq (⟨"CrumbsHomeModel", "nameOf", "(I)I"⟩, 23) := ⟨⟨by decide +kernel, by decide +kernel⟩, List.mem_of_getElem? (i := 766) (by decide +kernel), List.mem_of_getElem? (i := 1010) (by decide +kernel), List.mem_of_getElem? (i := 1011) (by decide +kernel)⟩
theorem lw_p55 : lw_okq (⟨"CrumbsHomeModel", "laysBy", "(II)V"⟩, 23) := ⟨⟨by decide +kernel, by decide +kernel⟩, List.mem_of_getElem? (i := 766) (by decide +kernel), List.mem_of_getElem? (i := 1014) (by decide +kernel), List.mem_of_getElem? (i := 1015) (by decide +kernel)⟩
theorem lw_p56 : lw_okq (⟨"CrumbsHomeModel", "opensBy", "(I)V"⟩, 23) := ⟨⟨by decide +kernel, by decide +kernel⟩, List.mem_of_getElem? (i := 766) (by decide +kernel), List.mem_of_getElem? (i := 1018) (by decide +kernel), List.mem_of_getElem? (i := 1019) (by decide +kernel)⟩
theorem lw_p57 : lw_okq (⟨"CrumbsHomeModel", "number", "()V"⟩, 23) := ⟨⟨by decide +kernel, by decide +kernel⟩, List.mem_of_getElem? (i := 766) (by decide +kernel), List.mem_of_getElem? (i := 1022) (by decide +kernel), List.mem_of_getElem? (i := 1023) (by decide +kernel)⟩
theorem lw_p58 : lw_okq (⟨"CrumbsHomeModel", "goesFor", "(I)V"⟩, 23) := ⟨⟨by decide +kernel, by decide +kernel⟩, List.mem_of_getElem? (i := 766) (by decide +kernel), List.mem_of_getElem? (i := 1039) (by decide +kernel), List.mem_of_getElem? (i := 1040) (by decide +kernel)⟩
theorem lw_p59 : lw_okq (⟨"CrumbsHomeModel", "goes", "()V"⟩, 23) := ⟨⟨by decide +kernel, by decide +kernel⟩, List.mem_of_getElem? (i := 766) (by decide +kernel), List.mem_of_getElem? (i := 1043) (by decide +kernel), List.mem_of_getElem? (i := 1044) (by decide +kernel)⟩
theorem lw_p60 : lw_okq (⟨"CrumbsHomeModel", "isHome", "(I)Z"⟩, 23) := ⟨⟨by decide +kernel, by decide +kernel⟩, List.mem_of_getElem? (i := 766) (by decide +kernel), List.mem_of_getElem? (i := 1047) (by decide +kernel), List.mem_of_getElem? (i := 1048) (by decide +kernel)⟩
theorem lw_p61 : lw_okq (⟨"CrumbsHomeModel", "nextOf", "(II)I"⟩, 23) := ⟨⟨by decide +kernel, by decide +kernel⟩, List.mem_of_getElem? (i := 766) (by decide +kernel), List.mem_of_getElem? (i := 1051) (by decide +kernel), List.mem_of_getElem? (i := 1052) (by decide +kernel)⟩
theorem lw_p62 : lw_okq (⟨"CrumbsHomeModel", "homes", "()I"⟩, 23) := ⟨⟨by decide +kernel, by decide +kernel⟩, List.mem_of_getElem? (i := 766) (by decide +kernel), List.mem_of_getElem? (i := 1055) (by decide +kernel), List.mem_of_getElem? (i := 1056) (by decide +kernel)⟩
theorem lw_p63 : lw_okq (⟨"CrumbsHomeModel", "drawn", "()V"⟩, 23) := ⟨⟨by decide +kernel, by decide +kernel⟩, List.mem_of_getElem? (i := 766) (by decide +kernel), List.mem_of_getElem? (i := 1063) (by decide +kernel), List.mem_of_getElem? (i := 1064) (by decide +kernel)⟩
def lw_privs_4 : List (MethodName × Nat) := [(⟨"CrumbsHomeModel", "all", "()V"⟩, 23), (⟨"CrumbsHomeModel", "compares", "()V"⟩, 23), (⟨"CrumbsHomeModel", "sum", "()V"⟩, 23), (⟨"CrumbsHomeModel", "times", "()V"⟩, 23), (⟨"CrumbsHomeModel", "one", "()V"⟩, 23), (⟨"CrumbsHomeModel", "look", "()I"⟩, 23), (⟨"CrumbsHomeModel", "nameOf", "(I)I"⟩, 23), (⟨"CrumbsHomeModel", "laysBy", "(II)V"⟩, 23), (⟨"CrumbsHomeModel", "opensBy", "(I)V"⟩, 23), (⟨"CrumbsHomeModel", "number", "()V"⟩, 23), (⟨"CrumbsHomeModel", "goesFor", "(I)V"⟩, 23), (⟨"CrumbsHomeModel", "goes", "()V"⟩, 23), (⟨"CrumbsHomeModel", "isHome", "(I)Z"⟩, 23), (⟨"CrumbsHomeModel", "nextOf", "(II)I"⟩, 23), (⟨"CrumbsHomeModel", "homes", "()I"⟩, 23), (⟨"CrumbsHomeModel", "drawn", "()V"⟩, 23)]
theorem lw_r4 : ∀ q ∈ lw_privs_4, lw_okq q := List.forall_mem_cons.mpr ⟨lw_p48, List.forall_mem_cons.mpr ⟨lw_p49, List.forall_mem_cons.mpr ⟨lw_p50, List.forall_mem_cons.mpr ⟨lw_p51, List.forall_mem_cons.mpr ⟨lw_p52, List.forall_mem_cons.mpr ⟨lw_p53, List.forall_mem_cons.mpr ⟨lw_p54, List.forall_mem_cons.mpr ⟨lw_p55, List.forall_mem_cons.mpr ⟨lw_p56, List.forall_mem_cons.mpr ⟨lw_p57, List.forall_mem_cons.mpr ⟨lw_p58, List.forall_mem_cons.mpr ⟨lw_p59, List.forall_mem_cons.mpr ⟨lw_p60, List.forall_mem_cons.mpr ⟨lw_p61, List.forall_mem_cons.mpr ⟨lw_p62, List.forall_mem_cons.mpr ⟨lw_p63, fun _ h => absurd h List.not_mem_nil⟩⟩⟩⟩⟩⟩⟩⟩⟩⟩⟩⟩⟩⟩⟩⟩
theorem lw_p64 : lw_okq (⟨"CrumbsHomeModel", "draw", "()I"⟩, 23) := ⟨⟨by decide +kernel, by decide +kernel⟩, List.mem_of_getElem? (i := 766) (by decide +kernel), List.mem_of_getElem? (i := 1067) (by decide +kernel), List.mem_of_getElem? (i := 1068) (by decide +kernel)⟩
theorem lw_p65 : lw_okq (⟨"CrumbsHomeModel", "thinks", "()V"⟩, 23) := ⟨⟨by decide +kernel, by decide +kernel⟩, List.mem_of_getElem? (i := 766) (by decide +kernel), List.mem_of_getElem? (i := 1084) (by decide +kernel), List.mem_of_getElem? (i := 1085) (by decide +kernel)⟩
theorem lw_p66 : lw_okq (⟨"CrumbsHomeModel", "putsBack", "()V"⟩, 23) := ⟨⟨by decide +kernel, by decide +kernel⟩, List.mem_of_getElem? (i := 766) (by decide +kernel), List.mem_of_getElem? (i := 1091) (by decide +kernel), List.mem_of_getElem? (i := 1092) (by decide +kernel)⟩
theorem lw_p67 : lw_okq (⟨"CrumbsHomeModel", "gotBy", "(I)I"⟩, 23) := ⟨⟨by decide +kernel, by decide +kernel⟩, List.mem_of_getElem? (i := 766) (by decide +kernel), List.mem_of_getElem? (i := 1103) (by decide +kernel), List.mem_of_getElem? (i := 1104) (by decide +kernel)⟩
theorem lw_p68 : lw_okq (⟨"CrumbsHomeModel", "isEnough", "(IIII)Z"⟩, 23) := ⟨⟨by decide +kernel, by decide +kernel⟩, List.mem_of_getElem? (i := 766) (by decide +kernel), List.mem_of_getElem? (i := 1114) (by decide +kernel), List.mem_of_getElem? (i := 1115) (by decide +kernel)⟩
theorem lw_p69 : lw_okq (⟨"CrumbsHomeModel", "isSo", "(II)Z"⟩, 23) := ⟨⟨by decide +kernel, by decide +kernel⟩, List.mem_of_getElem? (i := 766) (by decide +kernel), List.mem_of_getElem? (i := 1133) (by decide +kernel), List.mem_of_getElem? (i := 1134) (by decide +kernel)⟩
theorem lw_p70 : lw_okq (⟨"CrumbsHomeModel", "walks", "(II)I"⟩, 23) := ⟨⟨by decide +kernel, by decide +kernel⟩, List.mem_of_getElem? (i := 766) (by decide +kernel), List.mem_of_getElem? (i := 1141) (by decide +kernel), List.mem_of_getElem? (i := 1142) (by decide +kernel)⟩
theorem lw_p71 : lw_okq (⟨"CrumbsHomeModel", "crustWalks", "(II)I"⟩, 23) := ⟨⟨by decide +kernel, by decide +kernel⟩, List.mem_of_getElem? (i := 766) (by decide +kernel), List.mem_of_getElem? (i := 1145) (by decide +kernel), List.mem_of_getElem? (i := 1146) (by decide +kernel)⟩
theorem lw_p72 : lw_okq (⟨"CrumbsHomeModel", "begins", "(I)V"⟩, 23) := ⟨⟨by decide +kernel, by decide +kernel⟩, List.mem_of_getElem? (i := 766) (by decide +kernel), List.mem_of_getElem? (i := 1149) (by decide +kernel), List.mem_of_getElem? (i := 1150) (by decide +kernel)⟩
theorem lw_p73 : lw_okq (⟨"CrumbsHomeModel", "plainWalks", "(II)I"⟩, 23) := ⟨⟨by decide +kernel, by decide +kernel⟩, List.mem_of_getElem? (i := 766) (by decide +kernel), List.mem_of_getElem? (i := 1153) (by decide +kernel), List.mem_of_getElem? (i := 1154) (by decide +kernel)⟩
theorem lw_p74 : lw_okq (⟨"CrumbsHomeModel", "warms", "(II)I"⟩, 23) := ⟨⟨by decide +kernel, by decide +kernel⟩, List.mem_of_getElem? (i := 766) (by decide +kernel), List.mem_of_getElem? (i := 1157) (by decide +kernel), List.mem_of_getElem? (i := 1158) (by decide +kernel)⟩
theorem lw_p75 : lw_okq (⟨"CrumbsHomeModel", "officeWarms", "(II)I"⟩, 23) := ⟨⟨by decide +kernel, by decide +kernel⟩, List.mem_of_getElem? (i := 766) (by decide +kernel), List.mem_of_getElem? (i := 1161) (by decide +kernel), List.mem_of_getElem? (i := 1162) (by decide +kernel)⟩
theorem lw_p76 : lw_okq (⟨"CrumbsHomeModel", "plainWarms", "(II)I"⟩, 23) := ⟨⟨by decide +kernel, by decide +kernel⟩, List.mem_of_getElem? (i := 766) (by decide +kernel), List.mem_of_getElem? (i := 1165) (by decide +kernel), List.mem_of_getElem? (i := 1166) (by decide +kernel)⟩
theorem lw_p77 : lw_okq (⟨"CrumbsHomeModel", "sprouts", "(II)I"⟩, 23) := ⟨⟨by decide +kernel, by decide +kernel⟩, List.mem_of_getElem? (i := 766) (by decide +kernel), List.mem_of_getElem? (i := 1169) (by decide +kernel), List.mem_of_getElem? (i := 1170) (by decide +kernel)⟩
theorem lw_p78 : lw_okq (⟨"CrumbsHomeModel", "plainSprouts", "(II)I"⟩, 23) := ⟨⟨by decide +kernel, by decide +kernel⟩, List.mem_of_getElem? (i := 766) (by decide +kernel), List.mem_of_getElem? (i := 1173) (by decide +kernel), List.mem_of_getElem? (i := 1174) (by decide +kernel)⟩
theorem lw_p79 : lw_okq (⟨"CrumbsHomeModel", "partsBy", "(II)I"⟩, 23) := ⟨⟨by decide +kernel, by decide +kernel⟩, List.mem_of_getElem? (i := 766) (by decide +kernel), List.mem_of_getElem? (i := 1177) (by decide +kernel), List.mem_of_getElem? (i := 1178) (by decide +kernel)⟩
def lw_privs_5 : List (MethodName × Nat) := [(⟨"CrumbsHomeModel", "draw", "()I"⟩, 23), (⟨"CrumbsHomeModel", "thinks", "()V"⟩, 23), (⟨"CrumbsHomeModel", "putsBack", "()V"⟩, 23), (⟨"CrumbsHomeModel", "gotBy", "(I)I"⟩, 23), (⟨"CrumbsHomeModel", "isEnough", "(IIII)Z"⟩, 23), (⟨"CrumbsHomeModel", "isSo", "(II)Z"⟩, 23), (⟨"CrumbsHomeModel", "walks", "(II)I"⟩, 23), (⟨"CrumbsHomeModel", "crustWalks", "(II)I"⟩, 23), (⟨"CrumbsHomeModel", "begins", "(I)V"⟩, 23), (⟨"CrumbsHomeModel", "plainWalks", "(II)I"⟩, 23), (⟨"CrumbsHomeModel", "warms", "(II)I"⟩, 23), (⟨"CrumbsHomeModel", "officeWarms", "(II)I"⟩, 23), (⟨"CrumbsHomeModel", "plainWarms", "(II)I"⟩, 23), (⟨"CrumbsHomeModel", "sprouts", "(II)I"⟩, 23), (⟨"CrumbsHomeModel", "plainSprouts", "(II)I"⟩, 23), (⟨"CrumbsHomeModel", "partsBy", "(II)I"⟩, 23)]
theorem lw_r5 : ∀ q ∈ lw_privs_5, lw_okq q := List.forall_mem_cons.mpr ⟨lw_p64, List.forall_mem_cons.mpr ⟨lw_p65, List.forall_mem_cons.mpr ⟨lw_p66, List.forall_mem_cons.mpr ⟨lw_p67, List.forall_mem_cons.mpr ⟨lw_p68, List.forall_mem_cons.mpr ⟨lw_p69, List.forall_mem_cons.mpr ⟨lw_p70, List.forall_mem_cons.mpr ⟨lw_p71, List.forall_mem_cons.mpr ⟨lw_p72, List.forall_mem_cons.mpr ⟨lw_p73, List.forall_mem_cons.mpr ⟨lw_p74, List.forall_mem_cons.mpr ⟨lw_p75, List.forall_mem_cons.mpr ⟨lw_p76, List.forall_mem_cons.mpr ⟨lw_p77, List.forall_mem_cons.mpr ⟨lw_p78, List.forall_mem_cons.mpr ⟨lw_p79, fun _ h => absurd h List.not_mem_nil⟩⟩⟩⟩⟩⟩⟩⟩⟩⟩⟩⟩⟩⟩⟩⟩
theorem lw_p80 : lw_okq (⟨"CrumbsHomeModel", "plainParts", "(II)I"⟩, 23) := ⟨⟨by decide +kernel, by decide +kernel⟩, List.mem_of_getElem? (i := 766) (by decide +kernel), List.mem_of_getElem? (i := 1181) (by decide +kernel), List.mem_of_getElem? (i := 1182) (by decide +kernel)⟩
theorem lw_p81 : lw_okq (⟨"CrumbsHomeModel", "notThere", "(I)I"⟩, 23) := ⟨⟨by decide +kernel, by decide +kernel⟩, List.mem_of_getElem? (i := 766) (by decide +kernel), List.mem_of_getElem? (i := 1198) (by decide +kernel), List.mem_of_getElem? (i := 1199) (by decide +kernel)⟩
theorem lw_p82 : lw_okq (⟨"CrumbsHomeModel", "notMoved", "(IIIII)I"⟩, 23) := ⟨⟨by decide +kernel, by decide +kernel⟩, List.mem_of_getElem? (i := 766) (by decide +kernel), List.mem_of_getElem? (i := 1206) (by decide +kernel), List.mem_of_getElem? (i := 1207) (by decide +kernel)⟩
def lw_privs_6 : List (MethodName × Nat) := [(⟨"CrumbsHomeModel", "plainParts", "(II)I"⟩, 23), (⟨"CrumbsHomeModel", "notThere", "(I)I"⟩, 23), (⟨"CrumbsHomeModel", "notMoved", "(IIIII)I"⟩, 23)]
theorem lw_r6 : ∀ q ∈ lw_privs_6, lw_okq q := List.forall_mem_cons.mpr ⟨lw_p80, List.forall_mem_cons.mpr ⟨lw_p81, List.forall_mem_cons.mpr ⟨lw_p82, fun _ h => absurd h List.not_mem_nil⟩⟩⟩
def lw_privs : List (MethodName × Nat) := lw_privs_1 ++ (lw_privs_2 ++ (lw_privs_3 ++ (lw_privs_4 ++ (lw_privs_5 ++ (lw_privs_6)))))
def lw_tbl : List Cond := k2_sels lw_privs ++ tables_1
theorem lw_privs_ok : ∀ q ∈ lw_privs, lw_okq q := by
  show ∀ q ∈ lw_privs_1 ++ (lw_privs_2 ++ (lw_privs_3 ++ (lw_privs_4 ++ (lw_privs_5 ++ (lw_privs_6))))), lw_okq q
  exact List.forall_mem_append.mpr ⟨lw_r1, List.forall_mem_append.mpr ⟨lw_r2, List.forall_mem_append.mpr ⟨lw_r3, List.forall_mem_append.mpr ⟨lw_r4, List.forall_mem_append.mpr ⟨lw_r5, lw_r6⟩⟩⟩⟩⟩
end
section
def RX0 : String := "CrumbsHome$Harvest"
def TX0 : u_T := fun k => match k with
  | 0 => ("CrumbsHome$Harvest", "size", "I", false)
  | 1 => ("CrumbsHome$Harvest", "day", "I", false)
  | 2 => ("CrumbsHome$Harvest", "kind", "[I", true)
  | 3 => ("CrumbsHome$Harvest", "m", "[I", true)
  | 4 => ("CrumbsHome$Harvest", "of", "[I", true)
  | 5 => ("CrumbsHome$Harvest", "at", "[I", true)
  | 6 => ("CrumbsHome$Harvest", "heard", "[I", true)
  | _ => ("CrumbsHome$Harvest", "fieldAt", "[I", true)
def tyX0 : Nat → FieldType := fun k => match k with
  | 0 => .int
  | 1 => .int
  | 2 => .array .int
  | 3 => .array .int
  | 4 => .array .int
  | 5 => .array .int
  | 6 => .array .int
  | _ => .array .int
theorem nmX0 : ∀ a, a < 8 → ∀ b, b < 8 → a ≠ b → (TX0 a).2.1 ≠ (TX0 b).2.1 := by decide +kernel
theorem tyX0_ok : ∀ k, k < 8 → parseFieldDescriptor (TX0 k).2.2.1 = some (tyX0 k) := by decide +kernel
abbrev cX0_init : ByteArray := prog_2_method_1_code
def yX0_init : MethodName := ⟨RX0, "<init>", "()V"⟩
abbrev cX0_copy : ByteArray := prog_2_method_2_code
def yX0_copy : MethodName := ⟨RX0, "copy", "(LCrumbsHome$Harvest;)V"⟩
abbrev cX0_grow : ByteArray := prog_2_method_3_code
def yX0_grow : MethodName := ⟨RX0, "grow", "(III)I"⟩
abbrev cX0_goal : ByteArray := prog_2_method_4_code
def yX0_goal : MethodName := ⟨RX0, "goal", "(I)I"⟩
abbrev cX0_isHome : ByteArray := prog_2_method_5_code
def yX0_isHome : MethodName := ⟨RX0, "isHome", "(I)Z"⟩
abbrev cX0_homeSet : ByteArray := prog_2_method_6_code
def yX0_homeSet : MethodName := ⟨RX0, "homeSet", "()I"⟩
abbrev cX0_awaySet : ByteArray := prog_2_method_7_code
def yX0_awaySet : MethodName := ⟨RX0, "awaySet", "(I)I"⟩
abbrev cX0_hasCompany : ByteArray := prog_2_method_8_code
def yX0_hasCompany : MethodName := ⟨RX0, "hasCompany", "(I)Z"⟩
abbrev cX0_walks : ByteArray := prog_2_method_9_code
def yX0_walks : MethodName := ⟨RX0, "walks", "(I)I"⟩
abbrev cX0_weighs : ByteArray := prog_2_method_10_code
def yX0_weighs : MethodName := ⟨RX0, "weighs", "(I)I"⟩
def RX1 : String := "CrumbsHome$Law"
def TX1 : u_T := fun k => match k with
  | 0 => ("CrumbsHome$Law", "names", "Ljava/lang/String;", true)
  | 1 => ("CrumbsHome$Law", "most", "I", true)
  | 2 => ("CrumbsHome$Law", "code", "[I", true)
  | 3 => ("CrumbsHome$Law", "stack", "[I", true)
  | _ => ("CrumbsHome$Law", "length", "I", false)
def tyX1 : Nat → FieldType := fun k => match k with
  | 0 => .object "java/lang/String"
  | 1 => .int
  | 2 => .array .int
  | 3 => .array .int
  | _ => .int
theorem nmX1 : ∀ a, a < 5 → ∀ b, b < 5 → a ≠ b → (TX1 a).2.1 ≠ (TX1 b).2.1 := by decide +kernel
theorem tyX1_ok : ∀ k, k < 5 → parseFieldDescriptor (TX1 k).2.2.1 = some (tyX1 k) := by decide +kernel
abbrev cX1_init : ByteArray := prog_3_method_1_code
def yX1_init : MethodName := ⟨RX1, "<init>", "(Ljava/lang/String;I)V"⟩
abbrev cX1_take : ByteArray := prog_3_method_2_code
def yX1_take : MethodName := ⟨RX1, "take", "([II)V"⟩
abbrev cX1_gives : ByteArray := prog_3_method_3_code
def yX1_gives : MethodName := ⟨RX1, "gives", "(III)I"⟩
abbrev cX1_workedOut : ByteArray := prog_3_method_4_code
def yX1_workedOut : MethodName := ⟨RX1, "workedOut", "(III)I"⟩
abbrev cX1_joined : ByteArray := prog_3_method_5_code
def yX1_joined : MethodName := ⟨RX1, "joined", "(III)I"⟩
def RX2 : String := "CrumbsHome$Reader"
def TX2 : u_T := fun k => match k with
  | 0 => ("CrumbsHome$Reader", "code", "[I", true)
  | 1 => ("CrumbsHome$Reader", "written", "I", false)
  | 2 => ("CrumbsHome$Reader", "tape", "[I", true)
  | 3 => ("CrumbsHome$Reader", "length", "I", false)
  | 4 => ("CrumbsHome$Reader", "names", "Ljava/lang/String;", false)
  | 5 => ("CrumbsHome$Reader", "place", "I", false)
  | _ => ("CrumbsHome$Reader", "faulty", "Z", false)
def tyX2 : Nat → FieldType := fun k => match k with
  | 0 => .array .int
  | 1 => .int
  | 2 => .array .int
  | 3 => .int
  | 4 => .object "java/lang/String"
  | 5 => .int
  | _ => .boolean
theorem nmX2 : ∀ a, a < 7 → ∀ b, b < 7 → a ≠ b → (TX2 a).2.1 ≠ (TX2 b).2.1 := by decide +kernel
theorem tyX2_ok : ∀ k, k < 7 → parseFieldDescriptor (TX2 k).2.2.1 = some (tyX2 k) := by decide +kernel
abbrev cX2_init : ByteArray := prog_4_method_1_code
def yX2_init : MethodName := ⟨RX2, "<init>", "()V"⟩
abbrev cX2_reads : ByteArray := prog_4_method_2_code
def yX2_reads : MethodName := ⟨RX2, "reads", "([IILjava/lang/String;)I"⟩
abbrev cX2_signsOf : ByteArray := prog_4_method_3_code
def yX2_signsOf : MethodName := ⟨RX2, "signsOf", "(I)Ljava/lang/String;"⟩
abbrev cX2_readRank : ByteArray := prog_4_method_4_code
def yX2_readRank : MethodName := ⟨RX2, "readRank", "(II)V"⟩
abbrev cX2_readJoined : ByteArray := prog_4_method_5_code
def yX2_readJoined : MethodName := ⟨RX2, "readJoined", "(II)V"⟩
abbrev cX2_readOne : ByteArray := prog_4_method_6_code
def yX2_readOne : MethodName := ⟨RX2, "readOne", "(I)V"⟩
abbrev cX2_readOpened : ByteArray := prog_4_method_7_code
def yX2_readOpened : MethodName := ⟨RX2, "readOpened", "(I)V"⟩
abbrev cX2_readNumber : ByteArray := prog_4_method_8_code
def yX2_readNumber : MethodName := ⟨RX2, "readNumber", "()V"⟩
abbrev cX2_isNextDigit : ByteArray := prog_4_method_9_code
def yX2_isNextDigit : MethodName := ⟨RX2, "isNextDigit", "()Z"⟩
abbrev cX2_isNextOf : ByteArray := prog_4_method_10_code
def yX2_isNextOf : MethodName := ⟨RX2, "isNextOf", "(Ljava/lang/String;)Z"⟩
abbrev cX2_write : ByteArray := prog_4_method_11_code
def yX2_write : MethodName := ⟨RX2, "write", "(I)V"⟩
def RX3 : String := "CrumbsHome$Roads"
def TX3 : u_T := fun k => match k with
  | 0 => ("CrumbsHome$Roads", "ways", "[I", true)
  | _ => ("CrumbsHome$Roads", "far", "[I", true)
def tyX3 : Nat → FieldType := fun k => match k with
  | 0 => .array .int
  | _ => .array .int
theorem nmX3 : ∀ a, a < 2 → ∀ b, b < 2 → a ≠ b → (TX3 a).2.1 ≠ (TX3 b).2.1 := by decide +kernel
theorem tyX3_ok : ∀ k, k < 2 → parseFieldDescriptor (TX3 k).2.2.1 = some (tyX3 k) := by decide +kernel
abbrev cX3_init : ByteArray := prog_5_method_1_code
def yX3_init : MethodName := ⟨RX3, "<init>", "()V"⟩
abbrev cX3_copy : ByteArray := prog_5_method_2_code
def yX3_copy : MethodName := ⟨RX3, "copy", "(LCrumbsHome$Roads;)V"⟩
abbrev cX3_isOpen : ByteArray := prog_5_method_3_code
def yX3_isOpen : MethodName := ⟨RX3, "isOpen", "(II)Z"⟩
abbrev cX3_leads : ByteArray := prog_5_method_4_code
def yX3_leads : MethodName := ⟨RX3, "leads", "(II)Z"⟩
abbrev cX3_between : ByteArray := prog_5_method_5_code
def yX3_between : MethodName := ⟨RX3, "between", "(II)I"⟩
abbrev cX3_join : ByteArray := prog_5_method_6_code
def yX3_join : MethodName := ⟨RX3, "join", "(II)V"⟩
abbrev cX3_shut : ByteArray := prog_5_method_7_code
def yX3_shut : MethodName := ⟨RX3, "shut", "(II)V"⟩
abbrev cX3_measure : ByteArray := prog_5_method_8_code
def yX3_measure : MethodName := ⟨RX3, "measure", "()V"⟩
abbrev cX3_shorten : ByteArray := prog_5_method_9_code
def yX3_shorten : MethodName := ⟨RX3, "shorten", "(II)V"⟩
abbrev cX3_walked : ByteArray := prog_5_method_10_code
def yX3_walked : MethodName := ⟨RX3, "walked", "(III)I"⟩
abbrev cX3_nextToward : ByteArray := prog_5_method_11_code
def yX3_nextToward : MethodName := ⟨RX3, "nextToward", "(II)I"⟩
def RX4 : String := "CrumbsHome$Sheets"
def TX4 : u_T := fun k => match k with
  | 0 => ("CrumbsHome$Sheets", "bits", "[I", true)
  | 1 => ("CrumbsHome$Sheets", "length", "[I", true)
  | _ => ("CrumbsHome$Sheets", "numbers", "[I", true)
def tyX4 : Nat → FieldType := fun k => match k with
  | 0 => .array .int
  | 1 => .array .int
  | _ => .array .int
theorem nmX4 : ∀ a, a < 3 → ∀ b, b < 3 → a ≠ b → (TX4 a).2.1 ≠ (TX4 b).2.1 := by decide +kernel
theorem tyX4_ok : ∀ k, k < 3 → parseFieldDescriptor (TX4 k).2.2.1 = some (tyX4 k) := by decide +kernel
abbrev cX4_init : ByteArray := prog_6_method_1_code
def yX4_init : MethodName := ⟨RX4, "<init>", "()V"⟩
abbrev cX4_isMissing : ByteArray := prog_6_method_2_code
def yX4_isMissing : MethodName := ⟨RX4, "isMissing", "(I)Z"⟩
abbrev cX4_make : ByteArray := prog_6_method_3_code
def yX4_make : MethodName := ⟨RX4, "make", "(III)V"⟩
abbrev cX4_number : ByteArray := prog_6_method_4_code
def yX4_number : MethodName := ⟨RX4, "number", "(II)I"⟩
abbrev cX4_write : ByteArray := prog_6_method_5_code
def yX4_write : MethodName := ⟨RX4, "write", "(III)V"⟩
abbrev cX4_stands : ByteArray := prog_6_method_6_code
def yX4_stands : MethodName := ⟨RX4, "stands", "(III)Z"⟩
abbrev cX4_shift : ByteArray := prog_6_method_7_code
def yX4_shift : MethodName := ⟨RX4, "shift", "(IIIII)V"⟩
def RX5 : String := "CrumbsHome$World"
def TX5 : u_T := fun k => match k with
  | 0 => ("CrumbsHome$World", "roads", "LCrumbsHome$Roads;", true)
  | 1 => ("CrumbsHome$World", "harvest", "LCrumbsHome$Harvest;", true)
  | 2 => ("CrumbsHome$World", "steps", "LCrumbsHome$Law;", true)
  | 3 => ("CrumbsHome$World", "worth", "LCrumbsHome$Law;", true)
  | 4 => ("CrumbsHome$World", "tape", "[I", true)
  | 5 => ("CrumbsHome$World", "tapeLength", "I", false)
  | 6 => ("CrumbsHome$World", "waiting", "[I", true)
  | 7 => ("CrumbsHome$World", "waits", "I", false)
  | _ => ("CrumbsHome$World", "z", "I", false)
def tyX5 : Nat → FieldType := fun k => match k with
  | 0 => .object "CrumbsHome$Roads"
  | 1 => .object "CrumbsHome$Harvest"
  | 2 => .object "CrumbsHome$Law"
  | 3 => .object "CrumbsHome$Law"
  | 4 => .array .int
  | 5 => .int
  | 6 => .array .int
  | 7 => .int
  | _ => .int
theorem nmX5 : ∀ a, a < 9 → ∀ b, b < 9 → a ≠ b → (TX5 a).2.1 ≠ (TX5 b).2.1 := by decide +kernel
theorem tyX5_ok : ∀ k, k < 9 → parseFieldDescriptor (TX5 k).2.2.1 = some (tyX5 k) := by decide +kernel
abbrev cX5_init : ByteArray := prog_7_method_1_code
def yX5_init : MethodName := ⟨RX5, "<init>", "()V"⟩
abbrev cX5_copy : ByteArray := prog_7_method_2_code
def yX5_copy : MethodName := ⟨RX5, "copy", "(LCrumbsHome$World;)V"⟩
abbrev cX5_draw : ByteArray := prog_7_method_3_code
def yX5_draw : MethodName := ⟨RX5, "draw", "()I"⟩
abbrev cX5_stir : ByteArray := prog_7_method_4_code
def yX5_stir : MethodName := ⟨RX5, "stir", "()V"⟩
def RX6 : String := "CrumbsHome"
def TX6 : u_T := fun k => match k with
  | 0 => ("CrumbsHome", "now", "LCrumbsHome$World;", true)
  | 1 => ("CrumbsHome", "kept", "LCrumbsHome$World;", true)
  | 2 => ("CrumbsHome", "images", "I", false)
  | 3 => ("CrumbsHome", "thought", "LCrumbsHome$Harvest;", true)
  | 4 => ("CrumbsHome", "trial", "LCrumbsHome$Roads;", true)
  | 5 => ("CrumbsHome", "paces", "[I", true)
  | 6 => ("CrumbsHome", "reader", "LCrumbsHome$Reader;", true)
  | 7 => ("CrumbsHome", "sheets", "LCrumbsHome$Sheets;", true)
  | 8 => ("CrumbsHome", "errors", "[I", true)
  | 9 => ("CrumbsHome", "trace", "[I", true)
  | 10 => ("CrumbsHome", "traced", "I", false)
  | _ => ("CrumbsHome", "parted", "Z", false)
def tyX6 : Nat → FieldType := fun k => match k with
  | 0 => .object "CrumbsHome$World"
  | 1 => .object "CrumbsHome$World"
  | 2 => .int
  | 3 => .object "CrumbsHome$Harvest"
  | 4 => .object "CrumbsHome$Roads"
  | 5 => .array .int
  | 6 => .object "CrumbsHome$Reader"
  | 7 => .object "CrumbsHome$Sheets"
  | 8 => .array .int
  | 9 => .array .int
  | 10 => .int
  | _ => .boolean
theorem nmX6 : ∀ a, a < 12 → ∀ b, b < 12 → a ≠ b → (TX6 a).2.1 ≠ (TX6 b).2.1 := by decide +kernel
theorem tyX6_ok : ∀ k, k < 12 → parseFieldDescriptor (TX6 k).2.2.1 = some (tyX6 k) := by decide +kernel
abbrev cX6_init : ByteArray := prog_1_method_1_code
def yX6_init : MethodName := ⟨RX6, "<init>", "()V"⟩
abbrev cX6_opens : ByteArray := prog_1_method_2_code
def yX6_opens : MethodName := ⟨RX6, "opens", "(III)I"⟩
abbrev cX6_field : ByteArray := prog_1_method_3_code
def yX6_field : MethodName := ⟨RX6, "field", "(II)I"⟩
abbrev cX6_far : ByteArray := prog_1_method_4_code
def yX6_far : MethodName := ⟨RX6, "far", "(II)I"⟩
abbrev cX6_bit : ByteArray := prog_1_method_5_code
def yX6_bit : MethodName := ⟨RX6, "bit", "(III)I"⟩
abbrev cX6_bitIs : ByteArray := prog_1_method_6_code
def yX6_bitIs : MethodName := ⟨RX6, "bitIs", "(II)I"⟩
abbrev cX6_become : ByteArray := prog_1_method_7_code
def yX6_become : MethodName := ⟨RX6, "become", "(II)I"⟩
abbrev cX6_as : ByteArray := prog_1_method_8_code
def yX6_as : MethodName := ⟨RX6, "as", "(II)I"⟩
abbrev cX6_hears : ByteArray := prog_1_method_9_code
def yX6_hears : MethodName := ⟨RX6, "hears", "(II)I"⟩
abbrev cX6_lay : ByteArray := prog_1_method_10_code
def yX6_lay : MethodName := ⟨RX6, "lay", "(II)I"⟩
abbrev cX6_feed : ByteArray := prog_1_method_11_code
def yX6_feed : MethodName := ⟨RX6, "feed", "(JI)I"⟩
abbrev cX6_text : ByteArray := prog_1_method_12_code
def yX6_text : MethodName := ⟨RX6, "text", "(I)I"⟩
abbrev cX6_untell : ByteArray := prog_1_method_13_code
def yX6_untell : MethodName := ⟨RX6, "untell", "(I)I"⟩
abbrev cX6_law : ByteArray := prog_1_method_14_code
def yX6_law : MethodName := ⟨RX6, "law", "(IIII)I"⟩
abbrev cX6_days : ByteArray := prog_1_method_15_code
def yX6_days : MethodName := ⟨RX6, "days", "(I)I"⟩
abbrev cX6_loose : ByteArray := prog_1_method_16_code
def yX6_loose : MethodName := ⟨RX6, "loose", "(I)I"⟩
abbrev cX6_day : ByteArray := prog_1_method_17_code
def yX6_day : MethodName := ⟨RX6, "day", "(I)I"⟩
abbrev cX6_seed : ByteArray := prog_1_method_18_code
def yX6_seed : MethodName := ⟨RX6, "seed", "(I)I"⟩
abbrev cX6_then : ByteArray := prog_1_method_19_code
def yX6_then : MethodName := ⟨RX6, "then", "(II)I"⟩
abbrev cX6_soonest : ByteArray := prog_1_method_20_code
def yX6_soonest : MethodName := ⟨RX6, "soonest", "(I)I"⟩
abbrev cX6_gets : ByteArray := prog_1_method_21_code
def yX6_gets : MethodName := ⟨RX6, "gets", "(II)I"⟩
abbrev cX6_carry : ByteArray := prog_1_method_22_code
def yX6_carry : MethodName := ⟨RX6, "carry", "(III)I"⟩
abbrev cX6_way : ByteArray := prog_1_method_23_code
def yX6_way : MethodName := ⟨RX6, "way", "(II)I"⟩
abbrev cX6_odds : ByteArray := prog_1_method_24_code
def yX6_odds : MethodName := ⟨RX6, "odds", "(II)I"⟩
abbrev cX6_whose : ByteArray := prog_1_method_25_code
def yX6_whose : MethodName := ⟨RX6, "whose", "(III)I"⟩
abbrev cX6_voice : ByteArray := prog_1_method_26_code
def yX6_voice : MethodName := ⟨RX6, "voice", "(III)I"⟩
abbrev cX6_body : ByteArray := prog_1_method_27_code
def yX6_body : MethodName := ⟨RX6, "body", "(I)I"⟩
abbrev cX6_sheet : ByteArray := prog_1_method_28_code
def yX6_sheet : MethodName := ⟨RX6, "sheet", "(III)I"⟩
abbrev cX6_put : ByteArray := prog_1_method_29_code
def yX6_put : MethodName := ⟨RX6, "put", "(III)I"⟩
abbrev cX6_move : ByteArray := prog_1_method_30_code
def yX6_move : MethodName := ⟨RX6, "move", "(IIIII)I"⟩
abbrev cX6_lays : ByteArray := prog_1_method_31_code
def yX6_lays : MethodName := ⟨RX6, "lays", "(I)I"⟩
abbrev cX6_judge : ByteArray := prog_1_method_32_code
def yX6_judge : MethodName := ⟨RX6, "judge", "(I)I"⟩
abbrev cX6_image : ByteArray := prog_1_method_33_code
def yX6_image : MethodName := ⟨RX6, "image", "()I"⟩
abbrev cX6_restore : ByteArray := prog_1_method_34_code
def yX6_restore : MethodName := ⟨RX6, "restore", "()I"⟩
abbrev cX6_tell : ByteArray := prog_1_method_35_code
def yX6_tell : MethodName := ⟨RX6, "tell", "(I)I"⟩
abbrev cX6_check : ByteArray := prog_1_method_36_code
def yX6_check : MethodName := ⟨RX6, "check", "()I"⟩
abbrev cX6_count : ByteArray := prog_1_method_37_code
def yX6_count : MethodName := ⟨RX6, "count", "(I)I"⟩
abbrev cX6_told : ByteArray := prog_1_method_38_code
def yX6_told : MethodName := ⟨RX6, "told", "(I)I"⟩
abbrev cX6_error : ByteArray := prog_1_method_39_code
def yX6_error : MethodName := ⟨RX6, "error", "(I)I"⟩
abbrev cX6_isPlace : ByteArray := prog_1_method_40_code
def yX6_isPlace : MethodName := ⟨RX6, "isPlace", "(I)Z"⟩
abbrev cX6_isField : ByteArray := prog_1_method_41_code
def yX6_isField : MethodName := ⟨RX6, "isField", "(I)Z"⟩
abbrev cX6_isBit : ByteArray := prog_1_method_42_code
def yX6_isBit : MethodName := ⟨RX6, "isBit", "(I)Z"⟩
abbrev cX6_isKindAndM : ByteArray := prog_1_method_43_code
def yX6_isKindAndM : MethodName := ⟨RX6, "isKindAndM", "(I)Z"⟩
abbrev cX6_isUse : ByteArray := prog_1_method_44_code
def yX6_isUse : MethodName := ⟨RX6, "isUse", "(I)Z"⟩
abbrev cX6_isSheet : ByteArray := prog_1_method_45_code
def yX6_isSheet : MethodName := ⟨RX6, "isSheet", "(I)Z"⟩
abbrev cX6_isOrIsUnder : ByteArray := prog_1_method_46_code
def yX6_isOrIsUnder : MethodName := ⟨RX6, "isOrIsUnder", "(II)Z"⟩
abbrev cX6_greatestDivisor : ByteArray := prog_1_method_47_code
def yX6_greatestDivisor : MethodName := ⟨RX6, "greatestDivisor", "(II)I"⟩
abbrev cX6_lawOf : ByteArray := prog_1_method_48_code
def yX6_lawOf : MethodName := ⟨RX6, "lawOf", "(I)LCrumbsHome$Law;"⟩
abbrev cX6_stepsOf : ByteArray := prog_1_method_49_code
def yX6_stepsOf : MethodName := ⟨RX6, "stepsOf", "(LCrumbsHome$Harvest;LCrumbsHome$Roads;I)I"⟩
abbrev cX6_worthOf : ByteArray := prog_1_method_50_code
def yX6_worthOf : MethodName := ⟨RX6, "worthOf", "(LCrumbsHome$Harvest;I)I"⟩
abbrev cX6_warmthOf : ByteArray := prog_1_method_51_code
def yX6_warmthOf : MethodName := ⟨RX6, "warmthOf", "(LCrumbsHome$Harvest;LCrumbsHome$Roads;I)I"⟩
abbrev cX6_passDay : ByteArray := prog_1_method_52_code
def yX6_passDay : MethodName := ⟨RX6, "passDay", "(LCrumbsHome$Harvest;LCrumbsHome$Roads;)Z"⟩
abbrev cX6_passDays : ByteArray := prog_1_method_53_code
def yX6_passDays : MethodName := ⟨RX6, "passDays", "(LCrumbsHome$Harvest;LCrumbsHome$Roads;I)V"⟩
abbrev cX6_think : ByteArray := prog_1_method_54_code
def yX6_think : MethodName := ⟨RX6, "think", "(I)V"⟩
abbrev cX6_worthAtHome : ByteArray := prog_1_method_55_code
def yX6_worthAtHome : MethodName := ⟨RX6, "worthAtHome", "(LCrumbsHome$Harvest;I)I"⟩
abbrev cX6_getsWith : ByteArray := prog_1_method_56_code
def yX6_getsWith : MethodName := ⟨RX6, "getsWith", "(III)I"⟩
abbrev cX6_homeWithWay : ByteArray := prog_1_method_57_code
def yX6_homeWithWay : MethodName := ⟨RX6, "homeWithWay", "(III)I"⟩
abbrev cX6_wouldWarmSo : ByteArray := prog_1_method_58_code
def yX6_wouldWarmSo : MethodName := ⟨RX6, "wouldWarmSo", "(III)Z"⟩
abbrev cX6_say : ByteArray := prog_1_method_59_code
def yX6_say : MethodName := ⟨RX6, "say", "(IIIII)I"⟩
abbrev cX6_sayBody : ByteArray := prog_1_method_60_code
def yX6_sayBody : MethodName := ⟨RX6, "sayBody", "(IIIII)I"⟩
abbrev cX6_partsOf : ByteArray := prog_1_method_61_code
def yX6_partsOf : MethodName := ⟨RX6, "partsOf", "(II)I"⟩
def RX7 : String := "CrumbsHomeModel"
def TX7 : u_T := fun k => match k with
  | 0 => ("CrumbsHomeModel", "row", "[I", true)
  | 1 => ("CrumbsHomeModel", "kept", "[I", true)
  | 2 => ("CrumbsHomeModel", "before", "[I", true)
  | 3 => ("CrumbsHomeModel", "images", "I", false)
  | 4 => ("CrumbsHomeModel", "errors", "[I", true)
  | 5 => ("CrumbsHomeModel", "bitsOf", "[I", true)
  | 6 => ("CrumbsHomeModel", "sizeOf", "[I", true)
  | 7 => ("CrumbsHomeModel", "cells", "[I", true)
  | 8 => ("CrumbsHomeModel", "steps", "[I", true)
  | 9 => ("CrumbsHomeModel", "isKnown", "Z", false)
  | 10 => ("CrumbsHomeModel", "act", "[I", true)
  | 11 => ("CrumbsHomeModel", "with", "[I", true)
  | 12 => ("CrumbsHomeModel", "facts", "[I", true)
  | 13 => ("CrumbsHomeModel", "pile", "[I", true)
  | 14 => ("CrumbsHomeModel", "laid", "I", false)
  | 15 => ("CrumbsHomeModel", "here", "I", false)
  | 16 => ("CrumbsHomeModel", "opened", "I", false)
  | 17 => ("CrumbsHomeModel", "bad", "Z", false)
  | 18 => ("CrumbsHomeModel", "using", "I", false)
  | 19 => ("CrumbsHomeModel", "goesBy", "[I", true)
  | 20 => ("CrumbsHomeModel", "trace", "[I", true)
  | 21 => ("CrumbsHomeModel", "traced", "I", false)
  | _ => ("CrumbsHomeModel", "isParted", "Z", false)
def tyX7 : Nat → FieldType := fun k => match k with
  | 0 => .array .int
  | 1 => .array .int
  | 2 => .array .int
  | 3 => .int
  | 4 => .array .int
  | 5 => .array .int
  | 6 => .array .int
  | 7 => .array .int
  | 8 => .array .int
  | 9 => .boolean
  | 10 => .array .int
  | 11 => .array .int
  | 12 => .array .int
  | 13 => .array .int
  | 14 => .int
  | 15 => .int
  | 16 => .int
  | 17 => .boolean
  | 18 => .int
  | 19 => .array .int
  | 20 => .array .int
  | 21 => .int
  | _ => .boolean
theorem nmX7 : ∀ a, a < 23 → ∀ b, b < 23 → a ≠ b → (TX7 a).2.1 ≠ (TX7 b).2.1 := by decide +kernel
theorem tyX7_ok : ∀ k, k < 23 → parseFieldDescriptor (TX7 k).2.2.1 = some (tyX7 k) := by decide +kernel
abbrev cX7_init : ByteArray := prog_9_method_1_code
def yX7_init : MethodName := ⟨RX7, "<init>", "()V"⟩
abbrev cX7_error : ByteArray := prog_9_method_2_code
def yX7_error : MethodName := ⟨RX7, "error", "(I)I"⟩
abbrev cX7_in : ByteArray := prog_9_method_3_code
def yX7_in : MethodName := ⟨RX7, "in", "(III)Z"⟩
abbrev cX7_held : ByteArray := prog_9_method_4_code
def yX7_held : MethodName := ⟨RX7, "held", "(III)I"⟩
abbrev cX7_copyAll : ByteArray := prog_9_method_5_code
def yX7_copyAll : MethodName := ⟨RX7, "copyAll", "([I[I)V"⟩
abbrev cX7_thinks : ByteArray := prog_9_method_6_code
def yX7_thinks : MethodName := ⟨RX7, "thinks", "()V"⟩
abbrev cX7_putsBack : ByteArray := prog_9_method_7_code
def yX7_putsBack : MethodName := ⟨RX7, "putsBack", "()V"⟩
abbrev cX7_bits : ByteArray := prog_9_method_8_code
def yX7_bits : MethodName := ⟨RX7, "bits", "(I)I"⟩
abbrev cX7_isBit : ByteArray := prog_9_method_9_code
def yX7_isBit : MethodName := ⟨RX7, "isBit", "(I)Z"⟩
abbrev cX7_isPlace : ByteArray := prog_9_method_10_code
def yX7_isPlace : MethodName := ⟨RX7, "isPlace", "(I)Z"⟩
abbrev cX7_isField : ByteArray := prog_9_method_11_code
def yX7_isField : MethodName := ⟨RX7, "isField", "(I)Z"⟩
abbrev cX7_becomes : ByteArray := prog_9_method_12_code
def yX7_becomes : MethodName := ⟨RX7, "becomes", "(II)I"⟩
abbrev cX7_of : ByteArray := prog_9_method_13_code
def yX7_of : MethodName := ⟨RX7, "of", "(II)I"⟩
abbrev cX7_lets : ByteArray := prog_9_method_14_code
def yX7_lets : MethodName := ⟨RX7, "lets", "(III)V"⟩
abbrev cX7_homeOf : ByteArray := prog_9_method_15_code
def yX7_homeOf : MethodName := ⟨RX7, "homeOf", "(I)I"⟩
abbrev cX7_isHome : ByteArray := prog_9_method_16_code
def yX7_isHome : MethodName := ⟨RX7, "isHome", "(I)Z"⟩
abbrev cX7_homes : ByteArray := prog_9_method_17_code
def yX7_homes : MethodName := ⟨RX7, "homes", "()I"⟩
abbrev cX7_findFrom : ByteArray := prog_9_method_18_code
def yX7_findFrom : MethodName := ⟨RX7, "findFrom", "(I)V"⟩
abbrev cX7_farBy : ByteArray := prog_9_method_19_code
def yX7_farBy : MethodName := ⟨RX7, "farBy", "(II)I"⟩
abbrev cX7_farHome : ByteArray := prog_9_method_20_code
def yX7_farHome : MethodName := ⟨RX7, "farHome", "(I)I"⟩
abbrev cX7_warmth : ByteArray := prog_9_method_21_code
def yX7_warmth : MethodName := ⟨RX7, "warmth", "(I)I"⟩
abbrev cX7_isTogether : ByteArray := prog_9_method_22_code
def yX7_isTogether : MethodName := ⟨RX7, "isTogether", "(I)Z"⟩
abbrev cX7_walksBy : ByteArray := prog_9_method_23_code
def yX7_walksBy : MethodName := ⟨RX7, "walksBy", "(I)I"⟩
abbrev cX7_weighsOf : ByteArray := prog_9_method_24_code
def yX7_weighsOf : MethodName := ⟨RX7, "weighsOf", "(I)I"⟩
abbrev cX7_stepsOf : ByteArray := prog_9_method_25_code
def yX7_stepsOf : MethodName := ⟨RX7, "stepsOf", "(I)I"⟩
abbrev cX7_worthOf : ByteArray := prog_9_method_26_code
def yX7_worthOf : MethodName := ⟨RX7, "worthOf", "(I)I"⟩
abbrev cX7_opensFrom : ByteArray := prog_9_method_27_code
def yX7_opensFrom : MethodName := ⟨RX7, "opensFrom", "(III)V"⟩
abbrev cX7_opens : ByteArray := prog_9_method_28_code
def yX7_opens : MethodName := ⟨RX7, "opens", "(III)I"⟩
abbrev cX7_field : ByteArray := prog_9_method_29_code
def yX7_field : MethodName := ⟨RX7, "field", "(II)I"⟩
abbrev cX7_far : ByteArray := prog_9_method_30_code
def yX7_far : MethodName := ⟨RX7, "far", "(II)I"⟩
abbrev cX7_isKm : ByteArray := prog_9_method_31_code
def yX7_isKm : MethodName := ⟨RX7, "isKm", "(I)Z"⟩
abbrev cX7_bit : ByteArray := prog_9_method_32_code
def yX7_bit : MethodName := ⟨RX7, "bit", "(III)I"⟩
abbrev cX7_bitIs : ByteArray := prog_9_method_33_code
def yX7_bitIs : MethodName := ⟨RX7, "bitIs", "(II)I"⟩
abbrev cX7_become : ByteArray := prog_9_method_34_code
def yX7_become : MethodName := ⟨RX7, "become", "(II)I"⟩
abbrev cX7_as : ByteArray := prog_9_method_35_code
def yX7_as : MethodName := ⟨RX7, "as", "(II)I"⟩
abbrev cX7_hears : ByteArray := prog_9_method_36_code
def yX7_hears : MethodName := ⟨RX7, "hears", "(II)I"⟩
abbrev cX7_lay : ByteArray := prog_9_method_37_code
def yX7_lay : MethodName := ⟨RX7, "lay", "(II)I"⟩
abbrev cX7_feed : ByteArray := prog_9_method_38_code
def yX7_feed : MethodName := ⟨RX7, "feed", "(JI)I"⟩
abbrev cX7_look : ByteArray := prog_9_method_39_code
def yX7_look : MethodName := ⟨RX7, "look", "()I"⟩
abbrev cX7_laysBy : ByteArray := prog_9_method_40_code
def yX7_laysBy : MethodName := ⟨RX7, "laysBy", "(II)V"⟩
abbrev cX7_nameOf : ByteArray := prog_9_method_41_code
def yX7_nameOf : MethodName := ⟨RX7, "nameOf", "(I)I"⟩
abbrev cX7_number : ByteArray := prog_9_method_42_code
def yX7_number : MethodName := ⟨RX7, "number", "()V"⟩
abbrev cX7_opensBy : ByteArray := prog_9_method_43_code
def yX7_opensBy : MethodName := ⟨RX7, "opensBy", "(I)V"⟩
abbrev cX7_one : ByteArray := prog_9_method_44_code
def yX7_one : MethodName := ⟨RX7, "one", "()V"⟩
abbrev cX7_times : ByteArray := prog_9_method_45_code
def yX7_times : MethodName := ⟨RX7, "times", "()V"⟩
abbrev cX7_sum : ByteArray := prog_9_method_46_code
def yX7_sum : MethodName := ⟨RX7, "sum", "()V"⟩
abbrev cX7_compares : ByteArray := prog_9_method_47_code
def yX7_compares : MethodName := ⟨RX7, "compares", "()V"⟩
abbrev cX7_all : ByteArray := prog_9_method_48_code
def yX7_all : MethodName := ⟨RX7, "all", "()V"⟩
abbrev cX7_any : ByteArray := prog_9_method_49_code
def yX7_any : MethodName := ⟨RX7, "any", "()V"⟩
abbrev cX7_text : ByteArray := prog_9_method_50_code
def yX7_text : MethodName := ⟨RX7, "text", "(I)I"⟩
abbrev cX7_untell : ByteArray := prog_9_method_51_code
def yX7_untell : MethodName := ⟨RX7, "untell", "(I)I"⟩
abbrev cX7_twoOf : ByteArray := prog_9_method_52_code
def yX7_twoOf : MethodName := ⟨RX7, "twoOf", "(III)I"⟩
abbrev cX7_works : ByteArray := prog_9_method_53_code
def yX7_works : MethodName := ⟨RX7, "works", "(I)I"⟩
abbrev cX7_gives : ByteArray := prog_9_method_54_code
def yX7_gives : MethodName := ⟨RX7, "gives", "(IIII)I"⟩
abbrev cX7_law : ByteArray := prog_9_method_55_code
def yX7_law : MethodName := ⟨RX7, "law", "(IIII)I"⟩
abbrev cX7_nextOf : ByteArray := prog_9_method_56_code
def yX7_nextOf : MethodName := ⟨RX7, "nextOf", "(II)I"⟩
abbrev cX7_goes : ByteArray := prog_9_method_57_code
def yX7_goes : MethodName := ⟨RX7, "goes", "()V"⟩
abbrev cX7_goesFor : ByteArray := prog_9_method_58_code
def yX7_goesFor : MethodName := ⟨RX7, "goesFor", "(I)V"⟩
abbrev cX7_days : ByteArray := prog_9_method_59_code
def yX7_days : MethodName := ⟨RX7, "days", "(I)I"⟩
abbrev cX7_draw : ByteArray := prog_9_method_60_code
def yX7_draw : MethodName := ⟨RX7, "draw", "()I"⟩
abbrev cX7_drawn : ByteArray := prog_9_method_61_code
def yX7_drawn : MethodName := ⟨RX7, "drawn", "()V"⟩
abbrev cX7_loose : ByteArray := prog_9_method_62_code
def yX7_loose : MethodName := ⟨RX7, "loose", "(I)I"⟩
abbrev cX7_day : ByteArray := prog_9_method_63_code
def yX7_day : MethodName := ⟨RX7, "day", "(I)I"⟩
abbrev cX7_seed : ByteArray := prog_9_method_64_code
def yX7_seed : MethodName := ⟨RX7, "seed", "(I)I"⟩
abbrev cX7_then : ByteArray := prog_9_method_65_code
def yX7_then : MethodName := ⟨RX7, "then", "(II)I"⟩
abbrev cX7_soonest : ByteArray := prog_9_method_66_code
def yX7_soonest : MethodName := ⟨RX7, "soonest", "(I)I"⟩
abbrev cX7_gotBy : ByteArray := prog_9_method_67_code
def yX7_gotBy : MethodName := ⟨RX7, "gotBy", "(I)I"⟩
abbrev cX7_gets : ByteArray := prog_9_method_68_code
def yX7_gets : MethodName := ⟨RX7, "gets", "(II)I"⟩
abbrev cX7_isEnough : ByteArray := prog_9_method_69_code
def yX7_isEnough : MethodName := ⟨RX7, "isEnough", "(IIII)Z"⟩
abbrev cX7_carry : ByteArray := prog_9_method_70_code
def yX7_carry : MethodName := ⟨RX7, "carry", "(III)I"⟩
abbrev cX7_way : ByteArray := prog_9_method_71_code
def yX7_way : MethodName := ⟨RX7, "way", "(II)I"⟩
abbrev cX7_odds : ByteArray := prog_9_method_72_code
def yX7_odds : MethodName := ⟨RX7, "odds", "(II)I"⟩
abbrev cX7_isSo : ByteArray := prog_9_method_73_code
def yX7_isSo : MethodName := ⟨RX7, "isSo", "(II)Z"⟩
abbrev cX7_whose : ByteArray := prog_9_method_74_code
def yX7_whose : MethodName := ⟨RX7, "whose", "(III)I"⟩
abbrev cX7_begins : ByteArray := prog_9_method_75_code
def yX7_begins : MethodName := ⟨RX7, "begins", "(I)V"⟩
abbrev cX7_plainWalks : ByteArray := prog_9_method_76_code
def yX7_plainWalks : MethodName := ⟨RX7, "plainWalks", "(II)I"⟩
abbrev cX7_crustWalks : ByteArray := prog_9_method_77_code
def yX7_crustWalks : MethodName := ⟨RX7, "crustWalks", "(II)I"⟩
abbrev cX7_walks : ByteArray := prog_9_method_78_code
def yX7_walks : MethodName := ⟨RX7, "walks", "(II)I"⟩
abbrev cX7_plainWarms : ByteArray := prog_9_method_79_code
def yX7_plainWarms : MethodName := ⟨RX7, "plainWarms", "(II)I"⟩
abbrev cX7_officeWarms : ByteArray := prog_9_method_80_code
def yX7_officeWarms : MethodName := ⟨RX7, "officeWarms", "(II)I"⟩
abbrev cX7_warms : ByteArray := prog_9_method_81_code
def yX7_warms : MethodName := ⟨RX7, "warms", "(II)I"⟩
abbrev cX7_plainSprouts : ByteArray := prog_9_method_82_code
def yX7_plainSprouts : MethodName := ⟨RX7, "plainSprouts", "(II)I"⟩
abbrev cX7_sprouts : ByteArray := prog_9_method_83_code
def yX7_sprouts : MethodName := ⟨RX7, "sprouts", "(II)I"⟩
abbrev cX7_plainParts : ByteArray := prog_9_method_84_code
def yX7_plainParts : MethodName := ⟨RX7, "plainParts", "(II)I"⟩
abbrev cX7_partsBy : ByteArray := prog_9_method_85_code
def yX7_partsBy : MethodName := ⟨RX7, "partsBy", "(II)I"⟩
abbrev cX7_voice : ByteArray := prog_9_method_86_code
def yX7_voice : MethodName := ⟨RX7, "voice", "(III)I"⟩
abbrev cX7_body : ByteArray := prog_9_method_87_code
def yX7_body : MethodName := ⟨RX7, "body", "(I)I"⟩
abbrev cX7_isSheet : ByteArray := prog_9_method_88_code
def yX7_isSheet : MethodName := ⟨RX7, "isSheet", "(I)Z"⟩
abbrev cX7_sheet : ByteArray := prog_9_method_89_code
def yX7_sheet : MethodName := ⟨RX7, "sheet", "(III)I"⟩
abbrev cX7_notThere : ByteArray := prog_9_method_90_code
def yX7_notThere : MethodName := ⟨RX7, "notThere", "(I)I"⟩
abbrev cX7_put : ByteArray := prog_9_method_91_code
def yX7_put : MethodName := ⟨RX7, "put", "(III)I"⟩
abbrev cX7_notMoved : ByteArray := prog_9_method_92_code
def yX7_notMoved : MethodName := ⟨RX7, "notMoved", "(IIIII)I"⟩
abbrev cX7_move : ByteArray := prog_9_method_93_code
def yX7_move : MethodName := ⟨RX7, "move", "(IIIII)I"⟩
abbrev cX7_lays : ByteArray := prog_9_method_94_code
def yX7_lays : MethodName := ⟨RX7, "lays", "(I)I"⟩
abbrev cX7_judge : ByteArray := prog_9_method_95_code
def yX7_judge : MethodName := ⟨RX7, "judge", "(I)I"⟩
abbrev cX7_image : ByteArray := prog_9_method_96_code
def yX7_image : MethodName := ⟨RX7, "image", "()I"⟩
abbrev cX7_restore : ByteArray := prog_9_method_97_code
def yX7_restore : MethodName := ⟨RX7, "restore", "()I"⟩
abbrev cX7_tell : ByteArray := prog_9_method_98_code
def yX7_tell : MethodName := ⟨RX7, "tell", "(I)I"⟩
abbrev cX7_check : ByteArray := prog_9_method_99_code
def yX7_check : MethodName := ⟨RX7, "check", "()I"⟩
abbrev cX7_count : ByteArray := prog_9_method_100_code
def yX7_count : MethodName := ⟨RX7, "count", "(I)I"⟩
abbrev cX7_told : ByteArray := prog_9_method_101_code
def yX7_told : MethodName := ⟨RX7, "told", "(I)I"⟩
def RJ11 : String := "java/lang/Character"
abbrev cJ11_isValidCodePoint_9a6ad : ByteArray := prog_10_method_11_code
def yJ11_isValidCodePoint_9a6ad : MethodName := ⟨RJ11, "isValidCodePoint", "(I)Z"⟩
abbrev cJ11_highSurrogate_5068e : ByteArray := prog_10_method_28_code
def yJ11_highSurrogate_5068e : MethodName := ⟨RJ11, "highSurrogate", "(I)C"⟩
abbrev cJ11_lowSurrogate_5068e : ByteArray := prog_10_method_29_code
def yJ11_lowSurrogate_5068e : MethodName := ⟨RJ11, "lowSurrogate", "(I)C"⟩
def RJ6 : String := "java/lang/Integer"
abbrev cJ6_bitCount_0f7a4 : ByteArray := prog_11_method_49_code
def yJ6_bitCount_0f7a4 : MethodName := ⟨RJ6, "bitCount", "(I)I"⟩
def RJ9 : String := "java/lang/Math"
abbrev cJ9_max_7cf53 : ByteArray := prog_12_method_65_code
def yJ9_max_7cf53 : MethodName := ⟨RJ9, "max", "(II)I"⟩
abbrev cJ9_min_7cf53 : ByteArray := prog_12_method_69_code
def yJ9_min_7cf53 : MethodName := ⟨RJ9, "min", "(II)I"⟩
def RJ0 : String := "java/lang/String"
abbrev cJ0_length_8abf5 : ByteArray := prog_13_method_54_code
def yJ0_length_8abf5 : MethodName := ⟨RJ0, "length", "()I"⟩
abbrev cJ0_indexOf_0f7a4 : ByteArray := prog_13_method_79_code
def yJ0_indexOf_0f7a4 : MethodName := ⟨RJ0, "indexOf", "(I)I"⟩
abbrev cJ0_indexOf_7cf53 : ByteArray := prog_13_method_80_code
def yJ0_indexOf_7cf53 : MethodName := ⟨RJ0, "indexOf", "(II)I"⟩
abbrev cJ0_coder_7d493 : ByteArray := prog_13_method_152_code
def yJ0_coder_7d493 : MethodName := ⟨RJ0, "coder", "()B"⟩
abbrev cJ0_isLatin1_aae02 : ByteArray := prog_13_method_154_code
def yJ0_isLatin1_aae02 : MethodName := ⟨RJ0, "isLatin1", "()Z"⟩
abbrev cJ0_checkBoundsBeginEnd_23922 : ByteArray := prog_13_method_158_code
def yJ0_checkBoundsBeginEnd_23922 : MethodName := ⟨RJ0, "checkBoundsBeginEnd", "(III)V"⟩
def RJ1 : String := "java/lang/StringLatin1"
abbrev cJ1_canEncode_9a6ad : ByteArray := prog_14_method_4_code
def yJ1_canEncode_9a6ad : MethodName := ⟨RJ1, "canEncode", "(I)Z"⟩
abbrev cJ1_indexOf_4cfef : ByteArray := prog_14_method_22_code
def yJ1_indexOf_4cfef : MethodName := ⟨RJ1, "indexOf", "([BIII)I"⟩
abbrev cJ1_indexOfChar_4cfef : ByteArray := prog_14_method_23_code
def yJ1_indexOfChar_4cfef : MethodName := ⟨RJ1, "indexOfChar", "([BIII)I"⟩
def RJ2 : String := "java/lang/StringUTF16"
abbrev cJ2_getChar_3b067 : ByteArray := prog_15_method_5_code
def yJ2_getChar_3b067 : MethodName := ⟨RJ2, "getChar", "([BI)C"⟩
abbrev cJ2_length_9d52b : ByteArray := prog_15_method_6_code
def yJ2_length_9d52b : MethodName := ⟨RJ2, "length", "([B)I"⟩
abbrev cJ2_indexOf_4cfef : ByteArray := prog_15_method_40_code
def yJ2_indexOf_4cfef : MethodName := ⟨RJ2, "indexOf", "([BIII)I"⟩
abbrev cJ2_indexOfChar_4cfef : ByteArray := prog_15_method_47_code
def yJ2_indexOfChar_4cfef : MethodName := ⟨RJ2, "indexOfChar", "([BIII)I"⟩
abbrev cJ2_indexOfCharUnsafe_4cfef : ByteArray := prog_15_method_48_code
def yJ2_indexOfCharUnsafe_4cfef : MethodName := ⟨RJ2, "indexOfCharUnsafe", "([BIII)I"⟩
abbrev cJ2_indexOfSupplementary_4cfef : ByteArray := prog_15_method_49_code
def yJ2_indexOfSupplementary_4cfef : MethodName := ⟨RJ2, "indexOfSupplementary", "([BIII)I"⟩
abbrev cJ2_checkBoundsBeginEnd_d044e : ByteArray := prog_15_method_93_code
def yJ2_checkBoundsBeginEnd_d044e : MethodName := ⟨RJ2, "checkBoundsBeginEnd", "(II[B)V"⟩
def RJ10 : String := "java/lang/System"
def RJ3 : String := "jdk/internal/util/Preconditions"
abbrev cJ3_checkFromToIndex_8c36e : ByteArray := prog_17_method_12_code
def yJ3_checkFromToIndex_8c36e : MethodName := ⟨RJ3, "checkFromToIndex", "(IIILjava/util/function/BiFunction;)I"⟩
def RL : String := "CrumbsHomeLaw"
abbrev cL_law : ByteArray := code
def yL_law : MethodName := ⟨RL, "law", "([I)Z"⟩
abbrev vwCl : List vw_C := [(RX0, TX0, 8), (RX1, TX1, 5), (RX2, TX2, 7), (RX3, TX3, 2), (RX4, TX4, 3), (RX5, TX5, 9), (RX6, TX6, 12), (RX7, TX7, 23)]
end
section
/-! the words of the tables that calls may carry, one row each: written by wip/whole/gen/words.py out of the Statement -/
def lw_gd : List Cond := lw_tbl.filter goodWord
theorem gd_of {w : Cond} (h : w ∈ lw_tbl) (hg : goodWord w = true) : w ∈ lw_gd := List.mem_filter.mpr ⟨h, hg⟩
theorem gd_in : ∀ w ∈ lw_gd, w ∈ lw_tbl := fun _ h => (List.mem_filter.mp h).1
theorem gd_good : GoodIn lw_gd lw_gd := fun _ h => ⟨h, good_of_word (List.mem_filter.mp h).2⟩
theorem gd_t {w : Cond} (h : w ∈ tables_1) : w ∈ lw_tbl := List.mem_append_right _ h
theorem gd_1 {w : Cond} (h : w ∈ tables_1_1) (hg : goodWord w = true) : w ∈ lw_gd := gd_of (gd_t (List.mem_append_left _ h)) hg
theorem gd_2 {w : Cond} (h : w ∈ tables_1_2) (hg : goodWord w = true) : w ∈ lw_gd := gd_of (gd_t (List.mem_append_right _ (List.mem_append_left _ h))) hg
theorem gd_3 {w : Cond} (h : w ∈ tables_1_3) (hg : goodWord w = true) : w ∈ lw_gd := gd_of (gd_t (List.mem_append_right _ (List.mem_append_right _ (List.mem_append_left _ h)))) hg
theorem gd_4 {w : Cond} (h : w ∈ tables_1_4) (hg : goodWord w = true) : w ∈ lw_gd := gd_of (gd_t (List.mem_append_right _ (List.mem_append_right _ (List.mem_append_right _ (List.mem_append_left _ h))))) hg
theorem gd_5 {w : Cond} (h : w ∈ tables_1_5) (hg : goodWord w = true) : w ∈ lw_gd := gd_of (gd_t (List.mem_append_right _ (List.mem_append_right _ (List.mem_append_right _ (List.mem_append_right _ (List.mem_append_left _ h)))))) hg
theorem gd_6 {w : Cond} (h : w ∈ tables_1_6) (hg : goodWord w = true) : w ∈ lw_gd := gd_of (gd_t (List.mem_append_right _ (List.mem_append_right _ (List.mem_append_right _ (List.mem_append_right _ (List.mem_append_right _ (h))))))) hg
theorem ww_1_0 : (Jvm.Cond.initialized "CrumbsHomeLaw") ∈ lw_gd := gd_1 (List.mem_of_getElem? (i := 0) rfl) rfl
theorem ww_1_1 : (Jvm.Cond.initialized "CrumbsHome") ∈ lw_gd := gd_1 (List.mem_of_getElem? (i := 1) rfl) rfl
theorem ww_1_2 : (Jvm.Cond.initialized "CrumbsHome$World") ∈ lw_gd := gd_1 (List.mem_of_getElem? (i := 2) rfl) rfl
theorem ww_1_3 : (Jvm.Cond.initialized "CrumbsHome$Roads") ∈ lw_gd := gd_1 (List.mem_of_getElem? (i := 3) rfl) rfl
theorem ww_1_4 : (Jvm.Cond.initialized "java/lang/Math") ∈ lw_gd := gd_1 (List.mem_of_getElem? (i := 4) rfl) rfl
theorem ww_1_5 : (Jvm.Cond.initialized "CrumbsHome$Harvest") ∈ lw_gd := gd_1 (List.mem_of_getElem? (i := 5) rfl) rfl
theorem ww_1_6 : (Jvm.Cond.initialized "CrumbsHome$Law") ∈ lw_gd := gd_1 (List.mem_of_getElem? (i := 6) rfl) rfl
theorem ww_1_7 : (Jvm.Cond.initialized "CrumbsHome$Reader") ∈ lw_gd := gd_1 (List.mem_of_getElem? (i := 7) rfl) rfl
theorem ww_1_8 : (Jvm.Cond.initialized "CrumbsHome$Sheets") ∈ lw_gd := gd_1 (List.mem_of_getElem? (i := 8) rfl) rfl
theorem ww_1_9 : (Jvm.Cond.initialized "CrumbsHomeModel") ∈ lw_gd := gd_1 (List.mem_of_getElem? (i := 9) rfl) rfl
theorem ww_1_10 : (Jvm.Cond.initialized "java/lang/System") ∈ lw_gd := gd_1 (List.mem_of_getElem? (i := 10) rfl) rfl
theorem ww_1_11 : (Jvm.Cond.initialized "java/lang/String") ∈ lw_gd := gd_1 (List.mem_of_getElem? (i := 11) rfl) rfl
theorem ww_1_12 : (Jvm.Cond.initialized "java/lang/StringLatin1") ∈ lw_gd := gd_1 (List.mem_of_getElem? (i := 12) rfl) rfl
theorem ww_1_13 : (Jvm.Cond.initialized "java/lang/StringUTF16") ∈ lw_gd := gd_1 (List.mem_of_getElem? (i := 13) rfl) rfl
theorem ww_1_14 : (Jvm.Cond.initialized "jdk/internal/util/Preconditions") ∈ lw_gd := gd_1 (List.mem_of_getElem? (i := 14) rfl) rfl
theorem ww_1_15 : (Jvm.Cond.initialized "java/lang/Character") ∈ lw_gd := gd_1 (List.mem_of_getElem? (i := 15) rfl) rfl
theorem ww_1_16 : (Jvm.Cond.initialized "java/lang/Integer") ∈ lw_gd := gd_1 (List.mem_of_getElem? (i := 16) rfl) rfl
theorem ww_1_17 : (Jvm.Cond.classLink "CrumbsHomeLaw" (7 : Nat) "CrumbsHome") ∈ lw_gd := gd_1 (List.mem_of_getElem? (i := 17) rfl) rfl
theorem ww_1_18 : (Jvm.Cond.instantiable "CrumbsHome" (12 : Nat)) ∈ lw_gd := gd_1 (List.mem_of_getElem? (i := 18) rfl) rfl
theorem ww_1_19 : (Jvm.Cond.methodLink "CrumbsHomeLaw" (9 : Nat) ({ cls := "CrumbsHome", name := "<init>", desc := "()V" } : Jvm.MethodName)) ∈ lw_gd := gd_1 (List.mem_of_getElem? (i := 19) rfl) rfl
theorem ww_1_20 : (Jvm.Cond.instanceMethod ({ cls := "CrumbsHome", name := "<init>", desc := "()V" } : Jvm.MethodName)) ∈ lw_gd := gd_1 (List.mem_of_getElem? (i := 20) rfl) rfl
theorem ww_1_21 : (Jvm.Cond.code ({ cls := "CrumbsHome", name := "<init>", desc := "()V" } : Jvm.MethodName) prog_1_method_1_code (1 : Nat) (Option.none : Option Jvm.ClassFile.FieldType)) ∈ lw_gd := gd_1 (List.mem_of_getElem? (i := 21) rfl) rfl
theorem ww_1_22 : (Jvm.Cond.methodLink "CrumbsHome" (1 : Nat) ({ cls := "java/lang/Object", name := "<init>", desc := "()V" } : Jvm.MethodName)) ∈ lw_gd := gd_1 (List.mem_of_getElem? (i := 22) rfl) rfl
theorem ww_1_23 : (Jvm.Cond.instanceMethod ({ cls := "java/lang/Object", name := "<init>", desc := "()V" } : Jvm.MethodName)) ∈ lw_gd := gd_1 (List.mem_of_getElem? (i := 23) rfl) rfl
theorem ww_1_24 : (Jvm.Cond.code ({ cls := "java/lang/Object", name := "<init>", desc := "()V" } : Jvm.MethodName) object_method_1_code (1 : Nat) (Option.none : Option Jvm.ClassFile.FieldType)) ∈ lw_gd := gd_1 (List.mem_of_getElem? (i := 24) rfl) rfl
theorem ww_1_25 : (Jvm.Cond.classLink "CrumbsHome" (7 : Nat) "CrumbsHome$World") ∈ lw_gd := gd_1 (List.mem_of_getElem? (i := 25) rfl) rfl
theorem ww_1_26 : (Jvm.Cond.instantiable "CrumbsHome$World" (9 : Nat)) ∈ lw_gd := gd_1 (List.mem_of_getElem? (i := 26) rfl) rfl
theorem ww_1_28 : (Jvm.Cond.instanceMethod ({ cls := "CrumbsHome$World", name := "<init>", desc := "()V" } : Jvm.MethodName)) ∈ lw_gd := gd_1 (List.mem_of_getElem? (i := 28) rfl) rfl
theorem ww_1_29 : (Jvm.Cond.code ({ cls := "CrumbsHome$World", name := "<init>", desc := "()V" } : Jvm.MethodName) prog_7_method_1_code (1 : Nat) (Option.none : Option Jvm.ClassFile.FieldType)) ∈ lw_gd := gd_1 (List.mem_of_getElem? (i := 29) rfl) rfl
theorem ww_1_30 : (Jvm.Cond.methodLink "CrumbsHome$World" (3 : Nat) ({ cls := "java/lang/Object", name := "<init>", desc := "()V" } : Jvm.MethodName)) ∈ lw_gd := gd_1 (List.mem_of_getElem? (i := 30) rfl) rfl
theorem ww_1_31 : (Jvm.Cond.classLink "CrumbsHome$World" (9 : Nat) "CrumbsHome$Roads") ∈ lw_gd := gd_1 (List.mem_of_getElem? (i := 31) rfl) rfl
theorem ww_1_32 : (Jvm.Cond.instantiable "CrumbsHome$Roads" (2 : Nat)) ∈ lw_gd := gd_1 (List.mem_of_getElem? (i := 32) rfl) rfl
theorem ww_1_33 : (Jvm.Cond.methodLink "CrumbsHome$World" (11 : Nat) ({ cls := "CrumbsHome$Roads", name := "<init>", desc := "()V" } : Jvm.MethodName)) ∈ lw_gd := gd_1 (List.mem_of_getElem? (i := 33) rfl) rfl
theorem ww_1_34 : (Jvm.Cond.instanceMethod ({ cls := "CrumbsHome$Roads", name := "<init>", desc := "()V" } : Jvm.MethodName)) ∈ lw_gd := gd_1 (List.mem_of_getElem? (i := 34) rfl) rfl
theorem ww_1_35 : (Jvm.Cond.code ({ cls := "CrumbsHome$Roads", name := "<init>", desc := "()V" } : Jvm.MethodName) prog_5_method_1_code (1 : Nat) (Option.none : Option Jvm.ClassFile.FieldType)) ∈ lw_gd := gd_1 (List.mem_of_getElem? (i := 35) rfl) rfl
theorem ww_1_36 : (Jvm.Cond.methodLink "CrumbsHome$Roads" (3 : Nat) ({ cls := "java/lang/Object", name := "<init>", desc := "()V" } : Jvm.MethodName)) ∈ lw_gd := gd_1 (List.mem_of_getElem? (i := 36) rfl) rfl
theorem ww_1_37 : (Jvm.Cond.methodLink "CrumbsHome$Roads" (18 : Nat) ({ cls := "CrumbsHome$Roads", name := "measure", desc := "()V" } : Jvm.MethodName)) ∈ lw_gd := gd_1 (List.mem_of_getElem? (i := 37) rfl) rfl
theorem ww_1_39 : (Jvm.Cond.instanceMethod ({ cls := "CrumbsHome$Roads", name := "measure", desc := "()V" } : Jvm.MethodName)) ∈ lw_gd := gd_1 (List.mem_of_getElem? (i := 39) rfl) rfl
theorem ww_1_40 : (Jvm.Cond.code ({ cls := "CrumbsHome$Roads", name := "measure", desc := "()V" } : Jvm.MethodName) prog_5_method_8_code (3 : Nat) (Option.none : Option Jvm.ClassFile.FieldType)) ∈ lw_gd := gd_1 (List.mem_of_getElem? (i := 40) rfl) rfl
theorem ww_1_41 : (Jvm.Cond.methodLink "CrumbsHome$Roads" (31 : Nat) ({ cls := "CrumbsHome$Roads", name := "isOpen", desc := "(II)Z" } : Jvm.MethodName)) ∈ lw_gd := gd_1 (List.mem_of_getElem? (i := 41) rfl) rfl
theorem ww_1_42 : (Jvm.Cond.instanceMethod ({ cls := "CrumbsHome$Roads", name := "isOpen", desc := "(II)Z" } : Jvm.MethodName)) ∈ lw_gd := gd_1 (List.mem_of_getElem? (i := 42) rfl) rfl
theorem ww_1_43 : (Jvm.Cond.selects "CrumbsHome$Roads" ({ cls := "CrumbsHome$Roads", name := "isOpen", desc := "(II)Z" } : Jvm.MethodName) ({ cls := "CrumbsHome$Roads", name := "isOpen", desc := "(II)Z" } : Jvm.MethodName)) ∈ lw_gd := gd_1 (List.mem_of_getElem? (i := 43) rfl) rfl
theorem ww_1_44 : (Jvm.Cond.code ({ cls := "CrumbsHome$Roads", name := "isOpen", desc := "(II)Z" } : Jvm.MethodName) prog_5_method_3_code (3 : Nat) (Option.some Jvm.ClassFile.FieldType.boolean)) ∈ lw_gd := gd_1 (List.mem_of_getElem? (i := 44) rfl) rfl
theorem ww_1_45 : (Jvm.Cond.methodLink "CrumbsHome$Roads" (27 : Nat) ({ cls := "CrumbsHome$Roads", name := "shorten", desc := "(II)V" } : Jvm.MethodName)) ∈ lw_gd := gd_1 (List.mem_of_getElem? (i := 45) rfl) rfl
theorem ww_1_47 : (Jvm.Cond.instanceMethod ({ cls := "CrumbsHome$Roads", name := "shorten", desc := "(II)V" } : Jvm.MethodName)) ∈ lw_gd := gd_1 (List.mem_of_getElem? (i := 47) rfl) rfl
theorem ww_1_48 : (Jvm.Cond.code ({ cls := "CrumbsHome$Roads", name := "shorten", desc := "(II)V" } : Jvm.MethodName) prog_5_method_9_code (7 : Nat) (Option.none : Option Jvm.ClassFile.FieldType)) ∈ lw_gd := gd_1 (List.mem_of_getElem? (i := 48) rfl) rfl
theorem ww_1_49 : (Jvm.Cond.methodLink "CrumbsHome$Roads" (35 : Nat) ({ cls := "CrumbsHome$Roads", name := "between", desc := "(II)I" } : Jvm.MethodName)) ∈ lw_gd := gd_1 (List.mem_of_getElem? (i := 49) rfl) rfl
theorem ww_1_50 : (Jvm.Cond.instanceMethod ({ cls := "CrumbsHome$Roads", name := "between", desc := "(II)I" } : Jvm.MethodName)) ∈ lw_gd := gd_1 (List.mem_of_getElem? (i := 50) rfl) rfl
theorem ww_1_51 : (Jvm.Cond.selects "CrumbsHome$Roads" ({ cls := "CrumbsHome$Roads", name := "between", desc := "(II)I" } : Jvm.MethodName) ({ cls := "CrumbsHome$Roads", name := "between", desc := "(II)I" } : Jvm.MethodName)) ∈ lw_gd := gd_1 (List.mem_of_getElem? (i := 51) rfl) rfl
theorem ww_1_52 : (Jvm.Cond.code ({ cls := "CrumbsHome$Roads", name := "between", desc := "(II)I" } : Jvm.MethodName) prog_5_method_5_code (3 : Nat) (Option.some Jvm.ClassFile.FieldType.int)) ∈ lw_gd := gd_1 (List.mem_of_getElem? (i := 52) rfl) rfl
theorem ww_1_53 : (Jvm.Cond.methodLink "CrumbsHome$Roads" (39 : Nat) ({ cls := "java/lang/Math", name := "min", desc := "(II)I" } : Jvm.MethodName)) ∈ lw_gd := gd_1 (List.mem_of_getElem? (i := 53) rfl) rfl
theorem ww_1_54 : (Jvm.Cond.static ({ cls := "java/lang/Math", name := "min", desc := "(II)I" } : Jvm.MethodName)) ∈ lw_gd := gd_1 (List.mem_of_getElem? (i := 54) rfl) rfl
theorem ww_1_55 : (Jvm.Cond.code ({ cls := "java/lang/Math", name := "min", desc := "(II)I" } : Jvm.MethodName) prog_12_method_69_code (2 : Nat) (Option.some Jvm.ClassFile.FieldType.int)) ∈ lw_gd := gd_1 (List.mem_of_getElem? (i := 55) rfl) rfl
theorem ww_1_56 : (Jvm.Cond.fieldLink "CrumbsHome$Roads" (9 : Nat) "CrumbsHome$Roads" "ways" "[I") ∈ lw_gd := gd_1 (List.mem_of_getElem? (i := 56) rfl) rfl
theorem ww_1_57 : (Jvm.Cond.fieldLink "CrumbsHome$Roads" (15 : Nat) "CrumbsHome$Roads" "far" "[I") ∈ lw_gd := gd_1 (List.mem_of_getElem? (i := 57) rfl) rfl
theorem ww_1_63 : (Jvm.Cond.arrayClass Jvm.ClassFile.FieldType.int) ∈ lw_gd := gd_1 (List.mem_of_getElem? (i := 63) rfl) rfl
theorem ww_1_64 : (Jvm.Cond.classLink "CrumbsHome$World" (18 : Nat) "CrumbsHome$Harvest") ∈ lw_gd := gd_1 (List.mem_of_getElem? (i := 64) rfl) rfl
theorem ww_1_65 : (Jvm.Cond.instantiable "CrumbsHome$Harvest" (8 : Nat)) ∈ lw_gd := gd_1 (List.mem_of_getElem? (i := 65) rfl) rfl
theorem ww_1_66 : (Jvm.Cond.methodLink "CrumbsHome$World" (20 : Nat) ({ cls := "CrumbsHome$Harvest", name := "<init>", desc := "()V" } : Jvm.MethodName)) ∈ lw_gd := gd_1 (List.mem_of_getElem? (i := 66) rfl) rfl
theorem ww_1_67 : (Jvm.Cond.instanceMethod ({ cls := "CrumbsHome$Harvest", name := "<init>", desc := "()V" } : Jvm.MethodName)) ∈ lw_gd := gd_1 (List.mem_of_getElem? (i := 67) rfl) rfl
theorem ww_1_68 : (Jvm.Cond.code ({ cls := "CrumbsHome$Harvest", name := "<init>", desc := "()V" } : Jvm.MethodName) prog_2_method_1_code (2 : Nat) (Option.none : Option Jvm.ClassFile.FieldType)) ∈ lw_gd := gd_1 (List.mem_of_getElem? (i := 68) rfl) rfl
theorem ww_1_69 : (Jvm.Cond.methodLink "CrumbsHome$Harvest" (3 : Nat) ({ cls := "java/lang/Object", name := "<init>", desc := "()V" } : Jvm.MethodName)) ∈ lw_gd := gd_1 (List.mem_of_getElem? (i := 69) rfl) rfl
theorem ww_1_70 : (Jvm.Cond.fieldLink "CrumbsHome$Harvest" (9 : Nat) "CrumbsHome$Harvest" "size" "I") ∈ lw_gd := gd_1 (List.mem_of_getElem? (i := 70) rfl) rfl
theorem ww_1_73 : (Jvm.Cond.fieldLink "CrumbsHome$Harvest" (15 : Nat) "CrumbsHome$Harvest" "day" "I") ∈ lw_gd := gd_1 (List.mem_of_getElem? (i := 73) rfl) rfl
theorem ww_1_75 : (Jvm.Cond.fieldLink "CrumbsHome$Harvest" (18 : Nat) "CrumbsHome$Harvest" "kind" "[I") ∈ lw_gd := gd_1 (List.mem_of_getElem? (i := 75) rfl) rfl
theorem ww_1_77 : (Jvm.Cond.fieldLink "CrumbsHome$Harvest" (22 : Nat) "CrumbsHome$Harvest" "m" "[I") ∈ lw_gd := gd_1 (List.mem_of_getElem? (i := 77) rfl) rfl
theorem ww_1_79 : (Jvm.Cond.fieldLink "CrumbsHome$Harvest" (25 : Nat) "CrumbsHome$Harvest" "of" "[I") ∈ lw_gd := gd_1 (List.mem_of_getElem? (i := 79) rfl) rfl
theorem ww_1_81 : (Jvm.Cond.fieldLink "CrumbsHome$Harvest" (28 : Nat) "CrumbsHome$Harvest" "at" "[I") ∈ lw_gd := gd_1 (List.mem_of_getElem? (i := 81) rfl) rfl
theorem ww_1_84 : (Jvm.Cond.fieldLink "CrumbsHome$Harvest" (31 : Nat) "CrumbsHome$Harvest" "heard" "[I") ∈ lw_gd := gd_1 (List.mem_of_getElem? (i := 84) rfl) rfl
theorem ww_1_87 : (Jvm.Cond.fieldLink "CrumbsHome$Harvest" (34 : Nat) "CrumbsHome$Harvest" "fieldAt" "[I") ∈ lw_gd := gd_1 (List.mem_of_getElem? (i := 87) rfl) rfl
theorem ww_1_106 : (Jvm.Cond.classLink "CrumbsHome$World" (25 : Nat) "CrumbsHome$Law") ∈ lw_gd := gd_1 (List.mem_of_getElem? (i := 106) rfl) rfl
theorem ww_1_107 : (Jvm.Cond.instantiable "CrumbsHome$Law" (5 : Nat)) ∈ lw_gd := gd_1 (List.mem_of_getElem? (i := 107) rfl) rfl
theorem ww_1_109 : (Jvm.Cond.methodLink "CrumbsHome$World" (29 : Nat) ({ cls := "CrumbsHome$Law", name := "<init>", desc := "(Ljava/lang/String;I)V" } : Jvm.MethodName)) ∈ lw_gd := gd_1 (List.mem_of_getElem? (i := 109) rfl) rfl
theorem ww_1_110 : (Jvm.Cond.instanceMethod ({ cls := "CrumbsHome$Law", name := "<init>", desc := "(Ljava/lang/String;I)V" } : Jvm.MethodName)) ∈ lw_gd := gd_1 (List.mem_of_getElem? (i := 110) rfl) rfl
theorem ww_1_111 : (Jvm.Cond.code ({ cls := "CrumbsHome$Law", name := "<init>", desc := "(Ljava/lang/String;I)V" } : Jvm.MethodName) prog_3_method_1_code (3 : Nat) (Option.none : Option Jvm.ClassFile.FieldType)) ∈ lw_gd := gd_1 (List.mem_of_getElem? (i := 111) rfl) rfl
theorem ww_1_112 : (Jvm.Cond.methodLink "CrumbsHome$Law" (3 : Nat) ({ cls := "java/lang/Object", name := "<init>", desc := "()V" } : Jvm.MethodName)) ∈ lw_gd := gd_1 (List.mem_of_getElem? (i := 112) rfl) rfl
theorem ww_1_113 : (Jvm.Cond.fieldLink "CrumbsHome$Law" (22 : Nat) "CrumbsHome$Law" "names" "Ljava/lang/String;") ∈ lw_gd := gd_1 (List.mem_of_getElem? (i := 113) rfl) rfl
theorem ww_1_115 : (Jvm.Cond.fieldLink "CrumbsHome$Law" (26 : Nat) "CrumbsHome$Law" "most" "I") ∈ lw_gd := gd_1 (List.mem_of_getElem? (i := 115) rfl) rfl
theorem ww_1_116 : (Jvm.Cond.fieldLink "CrumbsHome$Law" (9 : Nat) "CrumbsHome$Law" "code" "[I") ∈ lw_gd := gd_1 (List.mem_of_getElem? (i := 116) rfl) rfl
theorem ww_1_118 : (Jvm.Cond.fieldLink "CrumbsHome$Law" (15 : Nat) "CrumbsHome$Law" "stack" "[I") ∈ lw_gd := gd_1 (List.mem_of_getElem? (i := 118) rfl) rfl
theorem ww_1_119 : (Jvm.Cond.fieldLink "CrumbsHome$Law" (18 : Nat) "CrumbsHome$Law" "length" "I") ∈ lw_gd := gd_1 (List.mem_of_getElem? (i := 119) rfl) rfl
theorem ww_1_133 : (Jvm.Cond.arrayClass Jvm.ClassFile.FieldType.byte) ∈ lw_gd := gd_1 (List.mem_of_getElem? (i := 133) rfl) rfl
theorem ww_1_135 : (Jvm.Cond.fieldLink "CrumbsHome$World" (12 : Nat) "CrumbsHome$World" "roads" "LCrumbsHome$Roads;") ∈ lw_gd := gd_1 (List.mem_of_getElem? (i := 135) rfl) rfl
theorem ww_1_137 : (Jvm.Cond.fieldLink "CrumbsHome$World" (21 : Nat) "CrumbsHome$World" "harvest" "LCrumbsHome$Harvest;") ∈ lw_gd := gd_1 (List.mem_of_getElem? (i := 137) rfl) rfl
theorem ww_1_139 : (Jvm.Cond.fieldLink "CrumbsHome$World" (32 : Nat) "CrumbsHome$World" "steps" "LCrumbsHome$Law;") ∈ lw_gd := gd_1 (List.mem_of_getElem? (i := 139) rfl) rfl
theorem ww_1_141 : (Jvm.Cond.fieldLink "CrumbsHome$World" (38 : Nat) "CrumbsHome$World" "worth" "LCrumbsHome$Law;") ∈ lw_gd := gd_1 (List.mem_of_getElem? (i := 141) rfl) rfl
theorem ww_1_143 : (Jvm.Cond.fieldLink "CrumbsHome$World" (41 : Nat) "CrumbsHome$World" "tape" "[I") ∈ lw_gd := gd_1 (List.mem_of_getElem? (i := 143) rfl) rfl
theorem ww_1_145 : (Jvm.Cond.fieldLink "CrumbsHome$World" (45 : Nat) "CrumbsHome$World" "tapeLength" "I") ∈ lw_gd := gd_1 (List.mem_of_getElem? (i := 145) rfl) rfl
theorem ww_1_147 : (Jvm.Cond.fieldLink "CrumbsHome$World" (49 : Nat) "CrumbsHome$World" "waiting" "[I") ∈ lw_gd := gd_1 (List.mem_of_getElem? (i := 147) rfl) rfl
theorem ww_1_149 : (Jvm.Cond.fieldLink "CrumbsHome$World" (52 : Nat) "CrumbsHome$World" "waits" "I") ∈ lw_gd := gd_1 (List.mem_of_getElem? (i := 149) rfl) rfl
theorem ww_1_151 : (Jvm.Cond.fieldLink "CrumbsHome$World" (55 : Nat) "CrumbsHome$World" "z" "I") ∈ lw_gd := gd_1 (List.mem_of_getElem? (i := 151) rfl) rfl
theorem ww_1_172 : (Jvm.Cond.classLink "CrumbsHome" (23 : Nat) "CrumbsHome$Harvest") ∈ lw_gd := gd_1 (List.mem_of_getElem? (i := 172) rfl) rfl
theorem ww_1_173 : (Jvm.Cond.methodLink "CrumbsHome" (25 : Nat) ({ cls := "CrumbsHome$Harvest", name := "<init>", desc := "()V" } : Jvm.MethodName)) ∈ lw_gd := gd_1 (List.mem_of_getElem? (i := 173) rfl) rfl
theorem ww_1_174 : (Jvm.Cond.classLink "CrumbsHome" (30 : Nat) "CrumbsHome$Roads") ∈ lw_gd := gd_1 (List.mem_of_getElem? (i := 174) rfl) rfl
theorem ww_1_175 : (Jvm.Cond.methodLink "CrumbsHome" (32 : Nat) ({ cls := "CrumbsHome$Roads", name := "<init>", desc := "()V" } : Jvm.MethodName)) ∈ lw_gd := gd_1 (List.mem_of_getElem? (i := 175) rfl) rfl
theorem ww_1_176 : (Jvm.Cond.classLink "CrumbsHome" (41 : Nat) "CrumbsHome$Reader") ∈ lw_gd := gd_1 (List.mem_of_getElem? (i := 176) rfl) rfl
theorem ww_1_177 : (Jvm.Cond.instantiable "CrumbsHome$Reader" (7 : Nat)) ∈ lw_gd := gd_1 (List.mem_of_getElem? (i := 177) rfl) rfl
theorem ww_1_179 : (Jvm.Cond.instanceMethod ({ cls := "CrumbsHome$Reader", name := "<init>", desc := "()V" } : Jvm.MethodName)) ∈ lw_gd := gd_1 (List.mem_of_getElem? (i := 179) rfl) rfl
theorem ww_1_180 : (Jvm.Cond.code ({ cls := "CrumbsHome$Reader", name := "<init>", desc := "()V" } : Jvm.MethodName) prog_4_method_1_code (1 : Nat) (Option.none : Option Jvm.ClassFile.FieldType)) ∈ lw_gd := gd_1 (List.mem_of_getElem? (i := 180) rfl) rfl
theorem ww_1_181 : (Jvm.Cond.methodLink "CrumbsHome$Reader" (3 : Nat) ({ cls := "java/lang/Object", name := "<init>", desc := "()V" } : Jvm.MethodName)) ∈ lw_gd := gd_1 (List.mem_of_getElem? (i := 181) rfl) rfl
theorem ww_1_183 : (Jvm.Cond.fieldLink "CrumbsHome$Reader" (9 : Nat) "CrumbsHome$Reader" "code" "[I") ∈ lw_gd := gd_1 (List.mem_of_getElem? (i := 183) rfl) rfl
theorem ww_1_185 : (Jvm.Cond.fieldLink "CrumbsHome$Reader" (15 : Nat) "CrumbsHome$Reader" "written" "I") ∈ lw_gd := gd_1 (List.mem_of_getElem? (i := 185) rfl) rfl
theorem ww_1_187 : (Jvm.Cond.fieldLink "CrumbsHome$Reader" (19 : Nat) "CrumbsHome$Reader" "tape" "[I") ∈ lw_gd := gd_1 (List.mem_of_getElem? (i := 187) rfl) rfl
theorem ww_1_188 : (Jvm.Cond.fieldLink "CrumbsHome$Reader" (22 : Nat) "CrumbsHome$Reader" "length" "I") ∈ lw_gd := gd_1 (List.mem_of_getElem? (i := 188) rfl) rfl
theorem ww_1_189 : (Jvm.Cond.fieldLink "CrumbsHome$Reader" (27 : Nat) "CrumbsHome$Reader" "names" "Ljava/lang/String;") ∈ lw_gd := gd_1 (List.mem_of_getElem? (i := 189) rfl) rfl
theorem ww_1_190 : (Jvm.Cond.fieldLink "CrumbsHome$Reader" (31 : Nat) "CrumbsHome$Reader" "place" "I") ∈ lw_gd := gd_1 (List.mem_of_getElem? (i := 190) rfl) rfl
theorem ww_1_191 : (Jvm.Cond.fieldLink "CrumbsHome$Reader" (34 : Nat) "CrumbsHome$Reader" "faulty" "Z") ∈ lw_gd := gd_1 (List.mem_of_getElem? (i := 191) rfl) rfl
theorem ww_1_207 : (Jvm.Cond.classLink "CrumbsHome" (48 : Nat) "CrumbsHome$Sheets") ∈ lw_gd := gd_1 (List.mem_of_getElem? (i := 207) rfl) rfl
theorem ww_1_208 : (Jvm.Cond.instantiable "CrumbsHome$Sheets" (3 : Nat)) ∈ lw_gd := gd_1 (List.mem_of_getElem? (i := 208) rfl) rfl
theorem ww_1_210 : (Jvm.Cond.instanceMethod ({ cls := "CrumbsHome$Sheets", name := "<init>", desc := "()V" } : Jvm.MethodName)) ∈ lw_gd := gd_1 (List.mem_of_getElem? (i := 210) rfl) rfl
theorem ww_1_211 : (Jvm.Cond.code ({ cls := "CrumbsHome$Sheets", name := "<init>", desc := "()V" } : Jvm.MethodName) prog_6_method_1_code (1 : Nat) (Option.none : Option Jvm.ClassFile.FieldType)) ∈ lw_gd := gd_1 (List.mem_of_getElem? (i := 211) rfl) rfl
theorem ww_1_212 : (Jvm.Cond.methodLink "CrumbsHome$Sheets" (1 : Nat) ({ cls := "java/lang/Object", name := "<init>", desc := "()V" } : Jvm.MethodName)) ∈ lw_gd := gd_1 (List.mem_of_getElem? (i := 212) rfl) rfl
theorem ww_1_213 : (Jvm.Cond.fieldLink "CrumbsHome$Sheets" (9 : Nat) "CrumbsHome$Sheets" "bits" "[I") ∈ lw_gd := gd_1 (List.mem_of_getElem? (i := 213) rfl) rfl
theorem ww_1_215 : (Jvm.Cond.fieldLink "CrumbsHome$Sheets" (13 : Nat) "CrumbsHome$Sheets" "length" "[I") ∈ lw_gd := gd_1 (List.mem_of_getElem? (i := 215) rfl) rfl
theorem ww_1_217 : (Jvm.Cond.fieldLink "CrumbsHome$Sheets" (16 : Nat) "CrumbsHome$Sheets" "numbers" "[I") ∈ lw_gd := gd_1 (List.mem_of_getElem? (i := 217) rfl) rfl
theorem ww_1_225 : (Jvm.Cond.fieldLink "CrumbsHome" (10 : Nat) "CrumbsHome" "now" "LCrumbsHome$World;") ∈ lw_gd := gd_1 (List.mem_of_getElem? (i := 225) rfl) rfl
theorem ww_1_226 : (Jvm.Cond.fieldLink "CrumbsHome" (16 : Nat) "CrumbsHome" "kept" "LCrumbsHome$World;") ∈ lw_gd := gd_1 (List.mem_of_getElem? (i := 226) rfl) rfl
theorem ww_1_227 : (Jvm.Cond.fieldLink "CrumbsHome" (19 : Nat) "CrumbsHome" "images" "I") ∈ lw_gd := gd_1 (List.mem_of_getElem? (i := 227) rfl) rfl
theorem ww_1_228 : (Jvm.Cond.fieldLink "CrumbsHome" (26 : Nat) "CrumbsHome" "thought" "LCrumbsHome$Harvest;") ∈ lw_gd := gd_1 (List.mem_of_getElem? (i := 228) rfl) rfl
theorem ww_1_229 : (Jvm.Cond.fieldLink "CrumbsHome" (33 : Nat) "CrumbsHome" "trial" "LCrumbsHome$Roads;") ∈ lw_gd := gd_1 (List.mem_of_getElem? (i := 229) rfl) rfl
theorem ww_1_230 : (Jvm.Cond.fieldLink "CrumbsHome" (37 : Nat) "CrumbsHome" "paces" "[I") ∈ lw_gd := gd_1 (List.mem_of_getElem? (i := 230) rfl) rfl
theorem ww_1_231 : (Jvm.Cond.fieldLink "CrumbsHome" (44 : Nat) "CrumbsHome" "reader" "LCrumbsHome$Reader;") ∈ lw_gd := gd_1 (List.mem_of_getElem? (i := 231) rfl) rfl
theorem ww_1_232 : (Jvm.Cond.fieldLink "CrumbsHome" (51 : Nat) "CrumbsHome" "sheets" "LCrumbsHome$Sheets;") ∈ lw_gd := gd_1 (List.mem_of_getElem? (i := 232) rfl) rfl
theorem ww_1_233 : (Jvm.Cond.fieldLink "CrumbsHome" (55 : Nat) "CrumbsHome" "errors" "[I") ∈ lw_gd := gd_1 (List.mem_of_getElem? (i := 233) rfl) rfl
theorem ww_1_234 : (Jvm.Cond.fieldLink "CrumbsHome" (58 : Nat) "CrumbsHome" "trace" "[I") ∈ lw_gd := gd_1 (List.mem_of_getElem? (i := 234) rfl) rfl
theorem ww_1_235 : (Jvm.Cond.fieldLink "CrumbsHome" (61 : Nat) "CrumbsHome" "traced" "I") ∈ lw_gd := gd_1 (List.mem_of_getElem? (i := 235) rfl) rfl
theorem ww_1_236 : (Jvm.Cond.fieldLink "CrumbsHome" (64 : Nat) "CrumbsHome" "parted" "Z") ∈ lw_gd := gd_1 (List.mem_of_getElem? (i := 236) rfl) rfl
theorem ww_2_22 : (Jvm.Cond.methodLink "CrumbsHomeLaw" (13 : Nat) ({ cls := "CrumbsHome", name := "opens", desc := "(III)I" } : Jvm.MethodName)) ∈ lw_gd := gd_2 (List.mem_of_getElem? (i := 22) rfl) rfl
theorem ww_2_23 : (Jvm.Cond.instanceMethod ({ cls := "CrumbsHome", name := "opens", desc := "(III)I" } : Jvm.MethodName)) ∈ lw_gd := gd_2 (List.mem_of_getElem? (i := 23) rfl) rfl
theorem ww_2_24 : (Jvm.Cond.selects "CrumbsHome" ({ cls := "CrumbsHome", name := "opens", desc := "(III)I" } : Jvm.MethodName) ({ cls := "CrumbsHome", name := "opens", desc := "(III)I" } : Jvm.MethodName)) ∈ lw_gd := gd_2 (List.mem_of_getElem? (i := 24) rfl) rfl
theorem ww_2_25 : (Jvm.Cond.code ({ cls := "CrumbsHome", name := "opens", desc := "(III)I" } : Jvm.MethodName) prog_1_method_2_code (5 : Nat) (Option.some Jvm.ClassFile.FieldType.int)) ∈ lw_gd := gd_2 (List.mem_of_getElem? (i := 25) rfl) rfl
theorem ww_2_26 : (Jvm.Cond.methodLink "CrumbsHome" (68 : Nat) ({ cls := "CrumbsHome", name := "isPlace", desc := "(I)Z" } : Jvm.MethodName)) ∈ lw_gd := gd_2 (List.mem_of_getElem? (i := 26) rfl) rfl
theorem ww_2_27 : (Jvm.Cond.static ({ cls := "CrumbsHome", name := "isPlace", desc := "(I)Z" } : Jvm.MethodName)) ∈ lw_gd := gd_2 (List.mem_of_getElem? (i := 27) rfl) rfl
theorem ww_2_28 : (Jvm.Cond.code ({ cls := "CrumbsHome", name := "isPlace", desc := "(I)Z" } : Jvm.MethodName) prog_1_method_40_code (1 : Nat) (Option.some Jvm.ClassFile.FieldType.boolean)) ∈ lw_gd := gd_2 (List.mem_of_getElem? (i := 28) rfl) rfl
theorem ww_2_29 : (Jvm.Cond.methodLink "CrumbsHome" (72 : Nat) ({ cls := "CrumbsHome", name := "error", desc := "(I)I" } : Jvm.MethodName)) ∈ lw_gd := gd_2 (List.mem_of_getElem? (i := 29) rfl) rfl
theorem ww_2_31 : (Jvm.Cond.instanceMethod ({ cls := "CrumbsHome", name := "error", desc := "(I)I" } : Jvm.MethodName)) ∈ lw_gd := gd_2 (List.mem_of_getElem? (i := 31) rfl) rfl
theorem ww_2_32 : (Jvm.Cond.code ({ cls := "CrumbsHome", name := "error", desc := "(I)I" } : Jvm.MethodName) prog_1_method_39_code (2 : Nat) (Option.some Jvm.ClassFile.FieldType.int)) ∈ lw_gd := gd_2 (List.mem_of_getElem? (i := 32) rfl) rfl
theorem ww_2_33 : (Jvm.Cond.constant "CrumbsHome" (284 : Nat) (-1000000000 : Int32)) ∈ lw_gd := gd_2 (List.mem_of_getElem? (i := 33) rfl) rfl
theorem ww_2_34 : (Jvm.Cond.methodLink "CrumbsHome" (79 : Nat) ({ cls := "CrumbsHome$Roads", name := "isOpen", desc := "(II)Z" } : Jvm.MethodName)) ∈ lw_gd := gd_2 (List.mem_of_getElem? (i := 34) rfl) rfl
theorem ww_2_35 : (Jvm.Cond.methodLink "CrumbsHome" (83 : Nat) ({ cls := "CrumbsHome$Roads", name := "join", desc := "(II)V" } : Jvm.MethodName)) ∈ lw_gd := gd_2 (List.mem_of_getElem? (i := 35) rfl) rfl
theorem ww_2_36 : (Jvm.Cond.instanceMethod ({ cls := "CrumbsHome$Roads", name := "join", desc := "(II)V" } : Jvm.MethodName)) ∈ lw_gd := gd_2 (List.mem_of_getElem? (i := 36) rfl) rfl
theorem ww_2_37 : (Jvm.Cond.selects "CrumbsHome$Roads" ({ cls := "CrumbsHome$Roads", name := "join", desc := "(II)V" } : Jvm.MethodName) ({ cls := "CrumbsHome$Roads", name := "join", desc := "(II)V" } : Jvm.MethodName)) ∈ lw_gd := gd_2 (List.mem_of_getElem? (i := 37) rfl) rfl
theorem ww_2_38 : (Jvm.Cond.code ({ cls := "CrumbsHome$Roads", name := "join", desc := "(II)V" } : Jvm.MethodName) prog_5_method_6_code (3 : Nat) (Option.none : Option Jvm.ClassFile.FieldType)) ∈ lw_gd := gd_2 (List.mem_of_getElem? (i := 38) rfl) rfl
theorem ww_2_39 : (Jvm.Cond.methodLink "CrumbsHome" (87 : Nat) ({ cls := "CrumbsHome$Roads", name := "shut", desc := "(II)V" } : Jvm.MethodName)) ∈ lw_gd := gd_2 (List.mem_of_getElem? (i := 39) rfl) rfl
theorem ww_2_40 : (Jvm.Cond.instanceMethod ({ cls := "CrumbsHome$Roads", name := "shut", desc := "(II)V" } : Jvm.MethodName)) ∈ lw_gd := gd_2 (List.mem_of_getElem? (i := 40) rfl) rfl
theorem ww_2_41 : (Jvm.Cond.selects "CrumbsHome$Roads" ({ cls := "CrumbsHome$Roads", name := "shut", desc := "(II)V" } : Jvm.MethodName) ({ cls := "CrumbsHome$Roads", name := "shut", desc := "(II)V" } : Jvm.MethodName)) ∈ lw_gd := gd_2 (List.mem_of_getElem? (i := 41) rfl) rfl
theorem ww_2_42 : (Jvm.Cond.code ({ cls := "CrumbsHome$Roads", name := "shut", desc := "(II)V" } : Jvm.MethodName) prog_5_method_7_code (3 : Nat) (Option.none : Option Jvm.ClassFile.FieldType)) ∈ lw_gd := gd_2 (List.mem_of_getElem? (i := 42) rfl) rfl
theorem ww_2_43 : (Jvm.Cond.methodLink "CrumbsHomeLaw" (18 : Nat) ({ cls := "CrumbsHome", name := "field", desc := "(II)I" } : Jvm.MethodName)) ∈ lw_gd := gd_2 (List.mem_of_getElem? (i := 43) rfl) rfl
theorem ww_2_44 : (Jvm.Cond.instanceMethod ({ cls := "CrumbsHome", name := "field", desc := "(II)I" } : Jvm.MethodName)) ∈ lw_gd := gd_2 (List.mem_of_getElem? (i := 44) rfl) rfl
theorem ww_2_45 : (Jvm.Cond.selects "CrumbsHome" ({ cls := "CrumbsHome", name := "field", desc := "(II)I" } : Jvm.MethodName) ({ cls := "CrumbsHome", name := "field", desc := "(II)I" } : Jvm.MethodName)) ∈ lw_gd := gd_2 (List.mem_of_getElem? (i := 45) rfl) rfl
theorem ww_2_46 : (Jvm.Cond.code ({ cls := "CrumbsHome", name := "field", desc := "(II)I" } : Jvm.MethodName) prog_1_method_3_code (4 : Nat) (Option.some Jvm.ClassFile.FieldType.int)) ∈ lw_gd := gd_2 (List.mem_of_getElem? (i := 46) rfl) rfl
theorem ww_2_47 : (Jvm.Cond.methodLink "CrumbsHome" (90 : Nat) ({ cls := "CrumbsHome", name := "isField", desc := "(I)Z" } : Jvm.MethodName)) ∈ lw_gd := gd_2 (List.mem_of_getElem? (i := 47) rfl) rfl
theorem ww_2_48 : (Jvm.Cond.static ({ cls := "CrumbsHome", name := "isField", desc := "(I)Z" } : Jvm.MethodName)) ∈ lw_gd := gd_2 (List.mem_of_getElem? (i := 48) rfl) rfl
theorem ww_2_49 : (Jvm.Cond.code ({ cls := "CrumbsHome", name := "isField", desc := "(I)Z" } : Jvm.MethodName) prog_1_method_41_code (1 : Nat) (Option.some Jvm.ClassFile.FieldType.boolean)) ∈ lw_gd := gd_2 (List.mem_of_getElem? (i := 49) rfl) rfl
theorem ww_2_50 : (Jvm.Cond.methodLink "CrumbsHomeLaw" (23 : Nat) ({ cls := "CrumbsHome", name := "far", desc := "(II)I" } : Jvm.MethodName)) ∈ lw_gd := gd_2 (List.mem_of_getElem? (i := 50) rfl) rfl
theorem ww_2_51 : (Jvm.Cond.instanceMethod ({ cls := "CrumbsHome", name := "far", desc := "(II)I" } : Jvm.MethodName)) ∈ lw_gd := gd_2 (List.mem_of_getElem? (i := 51) rfl) rfl
theorem ww_2_52 : (Jvm.Cond.selects "CrumbsHome" ({ cls := "CrumbsHome", name := "far", desc := "(II)I" } : Jvm.MethodName) ({ cls := "CrumbsHome", name := "far", desc := "(II)I" } : Jvm.MethodName)) ∈ lw_gd := gd_2 (List.mem_of_getElem? (i := 52) rfl) rfl
theorem ww_2_53 : (Jvm.Cond.code ({ cls := "CrumbsHome", name := "far", desc := "(II)I" } : Jvm.MethodName) prog_1_method_4_code (3 : Nat) (Option.some Jvm.ClassFile.FieldType.int)) ∈ lw_gd := gd_2 (List.mem_of_getElem? (i := 53) rfl) rfl
theorem ww_2_54 : (Jvm.Cond.methodLink "CrumbsHome" (99 : Nat) ({ cls := "CrumbsHome$Roads", name := "leads", desc := "(II)Z" } : Jvm.MethodName)) ∈ lw_gd := gd_2 (List.mem_of_getElem? (i := 54) rfl) rfl
theorem ww_2_55 : (Jvm.Cond.instanceMethod ({ cls := "CrumbsHome$Roads", name := "leads", desc := "(II)Z" } : Jvm.MethodName)) ∈ lw_gd := gd_2 (List.mem_of_getElem? (i := 55) rfl) rfl
theorem ww_2_56 : (Jvm.Cond.selects "CrumbsHome$Roads" ({ cls := "CrumbsHome$Roads", name := "leads", desc := "(II)Z" } : Jvm.MethodName) ({ cls := "CrumbsHome$Roads", name := "leads", desc := "(II)Z" } : Jvm.MethodName)) ∈ lw_gd := gd_2 (List.mem_of_getElem? (i := 56) rfl) rfl
theorem ww_2_57 : (Jvm.Cond.code ({ cls := "CrumbsHome$Roads", name := "leads", desc := "(II)Z" } : Jvm.MethodName) prog_5_method_4_code (3 : Nat) (Option.some Jvm.ClassFile.FieldType.boolean)) ∈ lw_gd := gd_2 (List.mem_of_getElem? (i := 57) rfl) rfl
theorem ww_2_58 : (Jvm.Cond.methodLink "CrumbsHome" (102 : Nat) ({ cls := "CrumbsHome$Roads", name := "between", desc := "(II)I" } : Jvm.MethodName)) ∈ lw_gd := gd_2 (List.mem_of_getElem? (i := 58) rfl) rfl
theorem ww_2_59 : (Jvm.Cond.methodLink "CrumbsHomeLaw" (27 : Nat) ({ cls := "CrumbsHome", name := "bit", desc := "(III)I" } : Jvm.MethodName)) ∈ lw_gd := gd_2 (List.mem_of_getElem? (i := 59) rfl) rfl
theorem ww_2_60 : (Jvm.Cond.instanceMethod ({ cls := "CrumbsHome", name := "bit", desc := "(III)I" } : Jvm.MethodName)) ∈ lw_gd := gd_2 (List.mem_of_getElem? (i := 60) rfl) rfl
theorem ww_2_61 : (Jvm.Cond.selects "CrumbsHome" ({ cls := "CrumbsHome", name := "bit", desc := "(III)I" } : Jvm.MethodName) ({ cls := "CrumbsHome", name := "bit", desc := "(III)I" } : Jvm.MethodName)) ∈ lw_gd := gd_2 (List.mem_of_getElem? (i := 61) rfl) rfl
theorem ww_2_62 : (Jvm.Cond.code ({ cls := "CrumbsHome", name := "bit", desc := "(III)I" } : Jvm.MethodName) prog_1_method_5_code (4 : Nat) (Option.some Jvm.ClassFile.FieldType.int)) ∈ lw_gd := gd_2 (List.mem_of_getElem? (i := 62) rfl) rfl
theorem ww_2_63 : (Jvm.Cond.methodLink "CrumbsHome" (106 : Nat) ({ cls := "CrumbsHome", name := "isKindAndM", desc := "(I)Z" } : Jvm.MethodName)) ∈ lw_gd := gd_2 (List.mem_of_getElem? (i := 63) rfl) rfl
theorem ww_2_64 : (Jvm.Cond.static ({ cls := "CrumbsHome", name := "isKindAndM", desc := "(I)Z" } : Jvm.MethodName)) ∈ lw_gd := gd_2 (List.mem_of_getElem? (i := 64) rfl) rfl
theorem ww_2_65 : (Jvm.Cond.code ({ cls := "CrumbsHome", name := "isKindAndM", desc := "(I)Z" } : Jvm.MethodName) prog_1_method_43_code (1 : Nat) (Option.some Jvm.ClassFile.FieldType.boolean)) ∈ lw_gd := gd_2 (List.mem_of_getElem? (i := 65) rfl) rfl
theorem ww_2_66 : (Jvm.Cond.methodLink "CrumbsHome" (112 : Nat) ({ cls := "CrumbsHome$Harvest", name := "grow", desc := "(III)I" } : Jvm.MethodName)) ∈ lw_gd := gd_2 (List.mem_of_getElem? (i := 66) rfl) rfl
theorem ww_2_67 : (Jvm.Cond.instanceMethod ({ cls := "CrumbsHome$Harvest", name := "grow", desc := "(III)I" } : Jvm.MethodName)) ∈ lw_gd := gd_2 (List.mem_of_getElem? (i := 67) rfl) rfl
theorem ww_2_68 : (Jvm.Cond.selects "CrumbsHome$Harvest" ({ cls := "CrumbsHome$Harvest", name := "grow", desc := "(III)I" } : Jvm.MethodName) ({ cls := "CrumbsHome$Harvest", name := "grow", desc := "(III)I" } : Jvm.MethodName)) ∈ lw_gd := gd_2 (List.mem_of_getElem? (i := 68) rfl) rfl
theorem ww_2_69 : (Jvm.Cond.code ({ cls := "CrumbsHome$Harvest", name := "grow", desc := "(III)I" } : Jvm.MethodName) prog_2_method_3_code (5 : Nat) (Option.some Jvm.ClassFile.FieldType.int)) ∈ lw_gd := gd_2 (List.mem_of_getElem? (i := 69) rfl) rfl
theorem ww_2_70 : (Jvm.Cond.methodLink "CrumbsHomeLaw" (31 : Nat) ({ cls := "CrumbsHome", name := "bitIs", desc := "(II)I" } : Jvm.MethodName)) ∈ lw_gd := gd_2 (List.mem_of_getElem? (i := 70) rfl) rfl
theorem ww_2_71 : (Jvm.Cond.instanceMethod ({ cls := "CrumbsHome", name := "bitIs", desc := "(II)I" } : Jvm.MethodName)) ∈ lw_gd := gd_2 (List.mem_of_getElem? (i := 71) rfl) rfl
theorem ww_2_72 : (Jvm.Cond.selects "CrumbsHome" ({ cls := "CrumbsHome", name := "bitIs", desc := "(II)I" } : Jvm.MethodName) ({ cls := "CrumbsHome", name := "bitIs", desc := "(II)I" } : Jvm.MethodName)) ∈ lw_gd := gd_2 (List.mem_of_getElem? (i := 72) rfl) rfl
theorem ww_2_73 : (Jvm.Cond.code ({ cls := "CrumbsHome", name := "bitIs", desc := "(II)I" } : Jvm.MethodName) prog_1_method_6_code (4 : Nat) (Option.some Jvm.ClassFile.FieldType.int)) ∈ lw_gd := gd_2 (List.mem_of_getElem? (i := 73) rfl) rfl
theorem ww_2_74 : (Jvm.Cond.methodLink "CrumbsHome" (116 : Nat) ({ cls := "CrumbsHome", name := "isBit", desc := "(I)Z" } : Jvm.MethodName)) ∈ lw_gd := gd_2 (List.mem_of_getElem? (i := 74) rfl) rfl
theorem ww_2_76 : (Jvm.Cond.instanceMethod ({ cls := "CrumbsHome", name := "isBit", desc := "(I)Z" } : Jvm.MethodName)) ∈ lw_gd := gd_2 (List.mem_of_getElem? (i := 76) rfl) rfl
theorem ww_2_77 : (Jvm.Cond.code ({ cls := "CrumbsHome", name := "isBit", desc := "(I)Z" } : Jvm.MethodName) prog_1_method_42_code (2 : Nat) (Option.some Jvm.ClassFile.FieldType.boolean)) ∈ lw_gd := gd_2 (List.mem_of_getElem? (i := 77) rfl) rfl
theorem ww_2_78 : (Jvm.Cond.methodLink "CrumbsHome" (134 : Nat) ({ cls := "CrumbsHome", name := "stepsOf", desc := "(LCrumbsHome$Harvest;LCrumbsHome$Roads;I)I" } : Jvm.MethodName)) ∈ lw_gd := gd_2 (List.mem_of_getElem? (i := 78) rfl) rfl
theorem ww_2_80 : (Jvm.Cond.instanceMethod ({ cls := "CrumbsHome", name := "stepsOf", desc := "(LCrumbsHome$Harvest;LCrumbsHome$Roads;I)I" } : Jvm.MethodName)) ∈ lw_gd := gd_2 (List.mem_of_getElem? (i := 80) rfl) rfl
theorem ww_2_81 : (Jvm.Cond.code ({ cls := "CrumbsHome", name := "stepsOf", desc := "(LCrumbsHome$Harvest;LCrumbsHome$Roads;I)I" } : Jvm.MethodName) prog_1_method_49_code (6 : Nat) (Option.some Jvm.ClassFile.FieldType.int)) ∈ lw_gd := gd_2 (List.mem_of_getElem? (i := 81) rfl) rfl
theorem ww_2_82 : (Jvm.Cond.methodLink "CrumbsHome" (300 : Nat) ({ cls := "CrumbsHome$Harvest", name := "goal", desc := "(I)I" } : Jvm.MethodName)) ∈ lw_gd := gd_2 (List.mem_of_getElem? (i := 82) rfl) rfl
theorem ww_2_83 : (Jvm.Cond.instanceMethod ({ cls := "CrumbsHome$Harvest", name := "goal", desc := "(I)I" } : Jvm.MethodName)) ∈ lw_gd := gd_2 (List.mem_of_getElem? (i := 83) rfl) rfl
theorem ww_2_84 : (Jvm.Cond.selects "CrumbsHome$Harvest" ({ cls := "CrumbsHome$Harvest", name := "goal", desc := "(I)I" } : Jvm.MethodName) ({ cls := "CrumbsHome$Harvest", name := "goal", desc := "(I)I" } : Jvm.MethodName)) ∈ lw_gd := gd_2 (List.mem_of_getElem? (i := 84) rfl) rfl
theorem ww_2_85 : (Jvm.Cond.code ({ cls := "CrumbsHome$Harvest", name := "goal", desc := "(I)I" } : Jvm.MethodName) prog_2_method_4_code (2 : Nat) (Option.some Jvm.ClassFile.FieldType.int)) ∈ lw_gd := gd_2 (List.mem_of_getElem? (i := 85) rfl) rfl
theorem ww_2_86 : (Jvm.Cond.methodLink "CrumbsHome" (303 : Nat) ({ cls := "CrumbsHome$Harvest", name := "walks", desc := "(I)I" } : Jvm.MethodName)) ∈ lw_gd := gd_2 (List.mem_of_getElem? (i := 86) rfl) rfl
theorem ww_2_87 : (Jvm.Cond.instanceMethod ({ cls := "CrumbsHome$Harvest", name := "walks", desc := "(I)I" } : Jvm.MethodName)) ∈ lw_gd := gd_2 (List.mem_of_getElem? (i := 87) rfl) rfl
theorem ww_2_88 : (Jvm.Cond.selects "CrumbsHome$Harvest" ({ cls := "CrumbsHome$Harvest", name := "walks", desc := "(I)I" } : Jvm.MethodName) ({ cls := "CrumbsHome$Harvest", name := "walks", desc := "(I)I" } : Jvm.MethodName)) ∈ lw_gd := gd_2 (List.mem_of_getElem? (i := 88) rfl) rfl
theorem ww_2_89 : (Jvm.Cond.code ({ cls := "CrumbsHome$Harvest", name := "walks", desc := "(I)I" } : Jvm.MethodName) prog_2_method_9_code (4 : Nat) (Option.some Jvm.ClassFile.FieldType.int)) ∈ lw_gd := gd_2 (List.mem_of_getElem? (i := 89) rfl) rfl
theorem ww_2_90 : (Jvm.Cond.methodLink "CrumbsHome$Harvest" (51 : Nat) ({ cls := "CrumbsHome$Harvest", name := "hasCompany", desc := "(I)Z" } : Jvm.MethodName)) ∈ lw_gd := gd_2 (List.mem_of_getElem? (i := 90) rfl) rfl
theorem ww_2_92 : (Jvm.Cond.instanceMethod ({ cls := "CrumbsHome$Harvest", name := "hasCompany", desc := "(I)Z" } : Jvm.MethodName)) ∈ lw_gd := gd_2 (List.mem_of_getElem? (i := 92) rfl) rfl
theorem ww_2_93 : (Jvm.Cond.code ({ cls := "CrumbsHome$Harvest", name := "hasCompany", desc := "(I)Z" } : Jvm.MethodName) prog_2_method_8_code (3 : Nat) (Option.some Jvm.ClassFile.FieldType.boolean)) ∈ lw_gd := gd_2 (List.mem_of_getElem? (i := 93) rfl) rfl
theorem ww_2_94 : (Jvm.Cond.methodLink "CrumbsHome" (184 : Nat) ({ cls := "CrumbsHome$Law", name := "gives", desc := "(III)I" } : Jvm.MethodName)) ∈ lw_gd := gd_2 (List.mem_of_getElem? (i := 94) rfl) rfl
theorem ww_2_95 : (Jvm.Cond.instanceMethod ({ cls := "CrumbsHome$Law", name := "gives", desc := "(III)I" } : Jvm.MethodName)) ∈ lw_gd := gd_2 (List.mem_of_getElem? (i := 95) rfl) rfl
theorem ww_2_96 : (Jvm.Cond.selects "CrumbsHome$Law" ({ cls := "CrumbsHome$Law", name := "gives", desc := "(III)I" } : Jvm.MethodName) ({ cls := "CrumbsHome$Law", name := "gives", desc := "(III)I" } : Jvm.MethodName)) ∈ lw_gd := gd_2 (List.mem_of_getElem? (i := 96) rfl) rfl
theorem ww_2_97 : (Jvm.Cond.code ({ cls := "CrumbsHome$Law", name := "gives", desc := "(III)I" } : Jvm.MethodName) prog_3_method_3_code (5 : Nat) (Option.some Jvm.ClassFile.FieldType.int)) ∈ lw_gd := gd_2 (List.mem_of_getElem? (i := 97) rfl) rfl
theorem ww_2_98 : (Jvm.Cond.methodLink "CrumbsHome$Law" (35 : Nat) ({ cls := "CrumbsHome$Law", name := "workedOut", desc := "(III)I" } : Jvm.MethodName)) ∈ lw_gd := gd_2 (List.mem_of_getElem? (i := 98) rfl) rfl
theorem ww_2_100 : (Jvm.Cond.instanceMethod ({ cls := "CrumbsHome$Law", name := "workedOut", desc := "(III)I" } : Jvm.MethodName)) ∈ lw_gd := gd_2 (List.mem_of_getElem? (i := 100) rfl) rfl
theorem ww_2_101 : (Jvm.Cond.code ({ cls := "CrumbsHome$Law", name := "workedOut", desc := "(III)I" } : Jvm.MethodName) prog_3_method_4_code (7 : Nat) (Option.some Jvm.ClassFile.FieldType.int)) ∈ lw_gd := gd_2 (List.mem_of_getElem? (i := 101) rfl) rfl
theorem ww_2_102 : (Jvm.Cond.methodLink "CrumbsHome$Law" (48 : Nat) ({ cls := "CrumbsHome$Law", name := "joined", desc := "(III)I" } : Jvm.MethodName)) ∈ lw_gd := gd_2 (List.mem_of_getElem? (i := 102) rfl) rfl
theorem ww_2_103 : (Jvm.Cond.static ({ cls := "CrumbsHome$Law", name := "joined", desc := "(III)I" } : Jvm.MethodName)) ∈ lw_gd := gd_2 (List.mem_of_getElem? (i := 103) rfl) rfl
theorem ww_2_104 : (Jvm.Cond.code ({ cls := "CrumbsHome$Law", name := "joined", desc := "(III)I" } : Jvm.MethodName) prog_3_method_5_code (3 : Nat) (Option.some Jvm.ClassFile.FieldType.int)) ∈ lw_gd := gd_2 (List.mem_of_getElem? (i := 104) rfl) rfl
theorem ww_2_105 : (Jvm.Cond.methodLink "CrumbsHome$Law" (39 : Nat) ({ cls := "java/lang/Math", name := "min", desc := "(II)I" } : Jvm.MethodName)) ∈ lw_gd := gd_2 (List.mem_of_getElem? (i := 105) rfl) rfl
theorem ww_2_106 : (Jvm.Cond.methodLink "CrumbsHome$Law" (45 : Nat) ({ cls := "java/lang/Math", name := "max", desc := "(II)I" } : Jvm.MethodName)) ∈ lw_gd := gd_2 (List.mem_of_getElem? (i := 106) rfl) rfl
theorem ww_2_107 : (Jvm.Cond.static ({ cls := "java/lang/Math", name := "max", desc := "(II)I" } : Jvm.MethodName)) ∈ lw_gd := gd_2 (List.mem_of_getElem? (i := 107) rfl) rfl
theorem ww_2_108 : (Jvm.Cond.code ({ cls := "java/lang/Math", name := "max", desc := "(II)I" } : Jvm.MethodName) prog_12_method_65_code (2 : Nat) (Option.some Jvm.ClassFile.FieldType.int)) ∈ lw_gd := gd_2 (List.mem_of_getElem? (i := 108) rfl) rfl
theorem ww_2_109 : (Jvm.Cond.methodLink "CrumbsHome" (138 : Nat) ({ cls := "CrumbsHome", name := "worthOf", desc := "(LCrumbsHome$Harvest;I)I" } : Jvm.MethodName)) ∈ lw_gd := gd_2 (List.mem_of_getElem? (i := 109) rfl) rfl
theorem ww_2_111 : (Jvm.Cond.instanceMethod ({ cls := "CrumbsHome", name := "worthOf", desc := "(LCrumbsHome$Harvest;I)I" } : Jvm.MethodName)) ∈ lw_gd := gd_2 (List.mem_of_getElem? (i := 111) rfl) rfl
theorem ww_2_112 : (Jvm.Cond.code ({ cls := "CrumbsHome", name := "worthOf", desc := "(LCrumbsHome$Harvest;I)I" } : Jvm.MethodName) prog_1_method_50_code (3 : Nat) (Option.some Jvm.ClassFile.FieldType.int)) ∈ lw_gd := gd_2 (List.mem_of_getElem? (i := 112) rfl) rfl
theorem ww_2_113 : (Jvm.Cond.methodLink "CrumbsHome" (306 : Nat) ({ cls := "CrumbsHome$Harvest", name := "weighs", desc := "(I)I" } : Jvm.MethodName)) ∈ lw_gd := gd_2 (List.mem_of_getElem? (i := 113) rfl) rfl
theorem ww_2_114 : (Jvm.Cond.instanceMethod ({ cls := "CrumbsHome$Harvest", name := "weighs", desc := "(I)I" } : Jvm.MethodName)) ∈ lw_gd := gd_2 (List.mem_of_getElem? (i := 114) rfl) rfl
theorem ww_2_115 : (Jvm.Cond.selects "CrumbsHome$Harvest" ({ cls := "CrumbsHome$Harvest", name := "weighs", desc := "(I)I" } : Jvm.MethodName) ({ cls := "CrumbsHome$Harvest", name := "weighs", desc := "(I)I" } : Jvm.MethodName)) ∈ lw_gd := gd_2 (List.mem_of_getElem? (i := 115) rfl) rfl
theorem ww_2_116 : (Jvm.Cond.code ({ cls := "CrumbsHome$Harvest", name := "weighs", desc := "(I)I" } : Jvm.MethodName) prog_2_method_10_code (5 : Nat) (Option.some Jvm.ClassFile.FieldType.int)) ∈ lw_gd := gd_2 (List.mem_of_getElem? (i := 116) rfl) rfl
theorem ww_2_117 : (Jvm.Cond.methodLink "CrumbsHome" (142 : Nat) ({ cls := "CrumbsHome", name := "warmthOf", desc := "(LCrumbsHome$Harvest;LCrumbsHome$Roads;I)I" } : Jvm.MethodName)) ∈ lw_gd := gd_2 (List.mem_of_getElem? (i := 117) rfl) rfl
theorem ww_2_118 : (Jvm.Cond.static ({ cls := "CrumbsHome", name := "warmthOf", desc := "(LCrumbsHome$Harvest;LCrumbsHome$Roads;I)I" } : Jvm.MethodName)) ∈ lw_gd := gd_2 (List.mem_of_getElem? (i := 118) rfl) rfl
theorem ww_2_119 : (Jvm.Cond.code ({ cls := "CrumbsHome", name := "warmthOf", desc := "(LCrumbsHome$Harvest;LCrumbsHome$Roads;I)I" } : Jvm.MethodName) prog_1_method_51_code (4 : Nat) (Option.some Jvm.ClassFile.FieldType.int)) ∈ lw_gd := gd_2 (List.mem_of_getElem? (i := 119) rfl) rfl
theorem ww_2_120 : (Jvm.Cond.methodLink "CrumbsHomeLaw" (35 : Nat) ({ cls := "CrumbsHome", name := "become", desc := "(II)I" } : Jvm.MethodName)) ∈ lw_gd := gd_2 (List.mem_of_getElem? (i := 120) rfl) rfl
theorem ww_2_121 : (Jvm.Cond.instanceMethod ({ cls := "CrumbsHome", name := "become", desc := "(II)I" } : Jvm.MethodName)) ∈ lw_gd := gd_2 (List.mem_of_getElem? (i := 121) rfl) rfl
theorem ww_2_122 : (Jvm.Cond.selects "CrumbsHome" ({ cls := "CrumbsHome", name := "become", desc := "(II)I" } : Jvm.MethodName) ({ cls := "CrumbsHome", name := "become", desc := "(II)I" } : Jvm.MethodName)) ∈ lw_gd := gd_2 (List.mem_of_getElem? (i := 122) rfl) rfl
theorem ww_2_123 : (Jvm.Cond.code ({ cls := "CrumbsHome", name := "become", desc := "(II)I" } : Jvm.MethodName) prog_1_method_7_code (4 : Nat) (Option.some Jvm.ClassFile.FieldType.int)) ∈ lw_gd := gd_2 (List.mem_of_getElem? (i := 123) rfl) rfl
theorem ww_2_124 : (Jvm.Cond.methodLink "CrumbsHomeLaw" (39 : Nat) ({ cls := "CrumbsHome", name := "as", desc := "(II)I" } : Jvm.MethodName)) ∈ lw_gd := gd_2 (List.mem_of_getElem? (i := 124) rfl) rfl
theorem ww_2_125 : (Jvm.Cond.instanceMethod ({ cls := "CrumbsHome", name := "as", desc := "(II)I" } : Jvm.MethodName)) ∈ lw_gd := gd_2 (List.mem_of_getElem? (i := 125) rfl) rfl
theorem ww_2_126 : (Jvm.Cond.selects "CrumbsHome" ({ cls := "CrumbsHome", name := "as", desc := "(II)I" } : Jvm.MethodName) ({ cls := "CrumbsHome", name := "as", desc := "(II)I" } : Jvm.MethodName)) ∈ lw_gd := gd_2 (List.mem_of_getElem? (i := 126) rfl) rfl
theorem ww_2_127 : (Jvm.Cond.code ({ cls := "CrumbsHome", name := "as", desc := "(II)I" } : Jvm.MethodName) prog_1_method_8_code (3 : Nat) (Option.some Jvm.ClassFile.FieldType.int)) ∈ lw_gd := gd_2 (List.mem_of_getElem? (i := 127) rfl) rfl
theorem ww_2_128 : (Jvm.Cond.methodLink "CrumbsHome" (145 : Nat) ({ cls := "CrumbsHome", name := "isOrIsUnder", desc := "(II)Z" } : Jvm.MethodName)) ∈ lw_gd := gd_2 (List.mem_of_getElem? (i := 128) rfl) rfl
theorem ww_2_129 : (Jvm.Cond.static ({ cls := "CrumbsHome", name := "isOrIsUnder", desc := "(II)Z" } : Jvm.MethodName)) ∈ lw_gd := gd_2 (List.mem_of_getElem? (i := 129) rfl) rfl
theorem ww_2_130 : (Jvm.Cond.code ({ cls := "CrumbsHome", name := "isOrIsUnder", desc := "(II)Z" } : Jvm.MethodName) prog_1_method_46_code (4 : Nat) (Option.some Jvm.ClassFile.FieldType.boolean)) ∈ lw_gd := gd_2 (List.mem_of_getElem? (i := 130) rfl) rfl
theorem ww_2_131 : (Jvm.Cond.fieldLink "CrumbsHome" (285 : Nat) "CrumbsHome" "ABOVE" "[I") ∈ lw_gd := gd_2 (List.mem_of_getElem? (i := 131) rfl) rfl
theorem ww_2_133 : (Jvm.Cond.methodLink "CrumbsHomeLaw" (43 : Nat) ({ cls := "CrumbsHome", name := "hears", desc := "(II)I" } : Jvm.MethodName)) ∈ lw_gd := gd_2 (List.mem_of_getElem? (i := 133) rfl) rfl
theorem ww_2_134 : (Jvm.Cond.instanceMethod ({ cls := "CrumbsHome", name := "hears", desc := "(II)I" } : Jvm.MethodName)) ∈ lw_gd := gd_2 (List.mem_of_getElem? (i := 134) rfl) rfl
theorem ww_2_135 : (Jvm.Cond.selects "CrumbsHome" ({ cls := "CrumbsHome", name := "hears", desc := "(II)I" } : Jvm.MethodName) ({ cls := "CrumbsHome", name := "hears", desc := "(II)I" } : Jvm.MethodName)) ∈ lw_gd := gd_2 (List.mem_of_getElem? (i := 135) rfl) rfl
theorem ww_2_136 : (Jvm.Cond.code ({ cls := "CrumbsHome", name := "hears", desc := "(II)I" } : Jvm.MethodName) prog_1_method_9_code (4 : Nat) (Option.some Jvm.ClassFile.FieldType.int)) ∈ lw_gd := gd_2 (List.mem_of_getElem? (i := 136) rfl) rfl
theorem ww_2_137 : (Jvm.Cond.methodLink "CrumbsHomeLaw" (47 : Nat) ({ cls := "CrumbsHome", name := "lay", desc := "(II)I" } : Jvm.MethodName)) ∈ lw_gd := gd_2 (List.mem_of_getElem? (i := 137) rfl) rfl
theorem ww_2_138 : (Jvm.Cond.instanceMethod ({ cls := "CrumbsHome", name := "lay", desc := "(II)I" } : Jvm.MethodName)) ∈ lw_gd := gd_2 (List.mem_of_getElem? (i := 138) rfl) rfl
theorem ww_2_139 : (Jvm.Cond.selects "CrumbsHome" ({ cls := "CrumbsHome", name := "lay", desc := "(II)I" } : Jvm.MethodName) ({ cls := "CrumbsHome", name := "lay", desc := "(II)I" } : Jvm.MethodName)) ∈ lw_gd := gd_2 (List.mem_of_getElem? (i := 139) rfl) rfl
theorem ww_2_140 : (Jvm.Cond.code ({ cls := "CrumbsHome", name := "lay", desc := "(II)I" } : Jvm.MethodName) prog_1_method_10_code (4 : Nat) (Option.some Jvm.ClassFile.FieldType.int)) ∈ lw_gd := gd_2 (List.mem_of_getElem? (i := 140) rfl) rfl
theorem ww_2_141 : (Jvm.Cond.methodLink "CrumbsHomeLaw" (53 : Nat) ({ cls := "CrumbsHome", name := "feed", desc := "(JI)I" } : Jvm.MethodName)) ∈ lw_gd := gd_2 (List.mem_of_getElem? (i := 141) rfl) rfl
theorem ww_2_142 : (Jvm.Cond.instanceMethod ({ cls := "CrumbsHome", name := "feed", desc := "(JI)I" } : Jvm.MethodName)) ∈ lw_gd := gd_2 (List.mem_of_getElem? (i := 142) rfl) rfl
theorem ww_2_143 : (Jvm.Cond.selects "CrumbsHome" ({ cls := "CrumbsHome", name := "feed", desc := "(JI)I" } : Jvm.MethodName) ({ cls := "CrumbsHome", name := "feed", desc := "(JI)I" } : Jvm.MethodName)) ∈ lw_gd := gd_2 (List.mem_of_getElem? (i := 143) rfl) rfl
theorem ww_2_144 : (Jvm.Cond.code ({ cls := "CrumbsHome", name := "feed", desc := "(JI)I" } : Jvm.MethodName) prog_1_method_11_code (5 : Nat) (Option.some Jvm.ClassFile.FieldType.int)) ∈ lw_gd := gd_2 (List.mem_of_getElem? (i := 144) rfl) rfl
theorem ww_2_145 : (Jvm.Cond.methodLink "CrumbsHomeLaw" (58 : Nat) ({ cls := "CrumbsHome", name := "text", desc := "(I)I" } : Jvm.MethodName)) ∈ lw_gd := gd_2 (List.mem_of_getElem? (i := 145) rfl) rfl
theorem ww_2_146 : (Jvm.Cond.instanceMethod ({ cls := "CrumbsHome", name := "text", desc := "(I)I" } : Jvm.MethodName)) ∈ lw_gd := gd_2 (List.mem_of_getElem? (i := 146) rfl) rfl
theorem ww_2_147 : (Jvm.Cond.selects "CrumbsHome" ({ cls := "CrumbsHome", name := "text", desc := "(I)I" } : Jvm.MethodName) ({ cls := "CrumbsHome", name := "text", desc := "(I)I" } : Jvm.MethodName)) ∈ lw_gd := gd_2 (List.mem_of_getElem? (i := 147) rfl) rfl
theorem ww_2_148 : (Jvm.Cond.code ({ cls := "CrumbsHome", name := "text", desc := "(I)I" } : Jvm.MethodName) prog_1_method_12_code (4 : Nat) (Option.some Jvm.ClassFile.FieldType.int)) ∈ lw_gd := gd_2 (List.mem_of_getElem? (i := 148) rfl) rfl
theorem ww_2_149 : (Jvm.Cond.methodLink "CrumbsHome" (154 : Nat) ({ cls := "CrumbsHome", name := "isUse", desc := "(I)Z" } : Jvm.MethodName)) ∈ lw_gd := gd_2 (List.mem_of_getElem? (i := 149) rfl) rfl
theorem ww_2_150 : (Jvm.Cond.static ({ cls := "CrumbsHome", name := "isUse", desc := "(I)Z" } : Jvm.MethodName)) ∈ lw_gd := gd_2 (List.mem_of_getElem? (i := 150) rfl) rfl
theorem ww_2_151 : (Jvm.Cond.code ({ cls := "CrumbsHome", name := "isUse", desc := "(I)Z" } : Jvm.MethodName) prog_1_method_44_code (1 : Nat) (Option.some Jvm.ClassFile.FieldType.boolean)) ∈ lw_gd := gd_2 (List.mem_of_getElem? (i := 151) rfl) rfl
theorem ww_2_152 : (Jvm.Cond.methodLink "CrumbsHome" (157 : Nat) ({ cls := "CrumbsHome", name := "lawOf", desc := "(I)LCrumbsHome$Law;" } : Jvm.MethodName)) ∈ lw_gd := gd_2 (List.mem_of_getElem? (i := 152) rfl) rfl
theorem ww_2_154 : (Jvm.Cond.instanceMethod ({ cls := "CrumbsHome", name := "lawOf", desc := "(I)LCrumbsHome$Law;" } : Jvm.MethodName)) ∈ lw_gd := gd_2 (List.mem_of_getElem? (i := 154) rfl) rfl
theorem ww_2_155 : (Jvm.Cond.code ({ cls := "CrumbsHome", name := "lawOf", desc := "(I)LCrumbsHome$Law;" } : Jvm.MethodName) prog_1_method_48_code (2 : Nat) (Option.some (Jvm.ClassFile.FieldType.object "CrumbsHome$Law"))) ∈ lw_gd := gd_2 (List.mem_of_getElem? (i := 155) rfl) rfl
theorem ww_2_156 : (Jvm.Cond.methodLink "CrumbsHome" (167 : Nat) ({ cls := "CrumbsHome$Reader", name := "reads", desc := "([IILjava/lang/String;)I" } : Jvm.MethodName)) ∈ lw_gd := gd_2 (List.mem_of_getElem? (i := 156) rfl) rfl
theorem ww_2_157 : (Jvm.Cond.instanceMethod ({ cls := "CrumbsHome$Reader", name := "reads", desc := "([IILjava/lang/String;)I" } : Jvm.MethodName)) ∈ lw_gd := gd_2 (List.mem_of_getElem? (i := 157) rfl) rfl
theorem ww_2_158 : (Jvm.Cond.selects "CrumbsHome$Reader" ({ cls := "CrumbsHome$Reader", name := "reads", desc := "([IILjava/lang/String;)I" } : Jvm.MethodName) ({ cls := "CrumbsHome$Reader", name := "reads", desc := "([IILjava/lang/String;)I" } : Jvm.MethodName)) ∈ lw_gd := gd_2 (List.mem_of_getElem? (i := 158) rfl) rfl
theorem ww_2_159 : (Jvm.Cond.code ({ cls := "CrumbsHome$Reader", name := "reads", desc := "([IILjava/lang/String;)I" } : Jvm.MethodName) prog_4_method_2_code (4 : Nat) (Option.some Jvm.ClassFile.FieldType.int)) ∈ lw_gd := gd_2 (List.mem_of_getElem? (i := 159) rfl) rfl
theorem ww_2_160 : (Jvm.Cond.methodLink "CrumbsHome$Reader" (38 : Nat) ({ cls := "java/lang/System", name := "arraycopy", desc := "(Ljava/lang/Object;ILjava/lang/Object;II)V" } : Jvm.MethodName)) ∈ lw_gd := gd_2 (List.mem_of_getElem? (i := 160) rfl) rfl
theorem ww_2_161 : (Jvm.Cond.static ({ cls := "java/lang/System", name := "arraycopy", desc := "(Ljava/lang/Object;ILjava/lang/Object;II)V" } : Jvm.MethodName)) ∈ lw_gd := gd_2 (List.mem_of_getElem? (i := 161) rfl) rfl
theorem ww_2_162 : (Jvm.Cond.native ({ cls := "java/lang/System", name := "arraycopy", desc := "(Ljava/lang/Object;ILjava/lang/Object;II)V" } : Jvm.MethodName)) ∈ lw_gd := gd_2 (List.mem_of_getElem? (i := 162) rfl) rfl
theorem ww_2_163 : (Jvm.Cond.methodLink "CrumbsHome$Reader" (44 : Nat) ({ cls := "CrumbsHome$Reader", name := "readRank", desc := "(II)V" } : Jvm.MethodName)) ∈ lw_gd := gd_2 (List.mem_of_getElem? (i := 163) rfl) rfl
theorem ww_2_165 : (Jvm.Cond.instanceMethod ({ cls := "CrumbsHome$Reader", name := "readRank", desc := "(II)V" } : Jvm.MethodName)) ∈ lw_gd := gd_2 (List.mem_of_getElem? (i := 165) rfl) rfl
theorem ww_2_166 : (Jvm.Cond.code ({ cls := "CrumbsHome$Reader", name := "readRank", desc := "(II)V" } : Jvm.MethodName) prog_4_method_4_code (3 : Nat) (Option.none : Option Jvm.ClassFile.FieldType)) ∈ lw_gd := gd_2 (List.mem_of_getElem? (i := 166) rfl) rfl
theorem ww_2_167 : (Jvm.Cond.methodLink "CrumbsHome$Reader" (58 : Nat) ({ cls := "CrumbsHome$Reader", name := "readJoined", desc := "(II)V" } : Jvm.MethodName)) ∈ lw_gd := gd_2 (List.mem_of_getElem? (i := 167) rfl) rfl
theorem ww_2_169 : (Jvm.Cond.instanceMethod ({ cls := "CrumbsHome$Reader", name := "readJoined", desc := "(II)V" } : Jvm.MethodName)) ∈ lw_gd := gd_2 (List.mem_of_getElem? (i := 169) rfl) rfl
theorem ww_2_170 : (Jvm.Cond.code ({ cls := "CrumbsHome$Reader", name := "readJoined", desc := "(II)V" } : Jvm.MethodName) prog_4_method_5_code (7 : Nat) (Option.none : Option Jvm.ClassFile.FieldType)) ∈ lw_gd := gd_2 (List.mem_of_getElem? (i := 170) rfl) rfl
theorem ww_2_171 : (Jvm.Cond.methodLink "CrumbsHome$Reader" (65 : Nat) ({ cls := "CrumbsHome$Reader", name := "signsOf", desc := "(I)Ljava/lang/String;" } : Jvm.MethodName)) ∈ lw_gd := gd_2 (List.mem_of_getElem? (i := 171) rfl) rfl
theorem ww_2_172 : (Jvm.Cond.static ({ cls := "CrumbsHome$Reader", name := "signsOf", desc := "(I)Ljava/lang/String;" } : Jvm.MethodName)) ∈ lw_gd := gd_2 (List.mem_of_getElem? (i := 172) rfl) rfl
theorem ww_2_173 : (Jvm.Cond.code ({ cls := "CrumbsHome$Reader", name := "signsOf", desc := "(I)Ljava/lang/String;" } : Jvm.MethodName) prog_4_method_3_code (1 : Nat) (Option.some (Jvm.ClassFile.FieldType.object "java/lang/String"))) ∈ lw_gd := gd_2 (List.mem_of_getElem? (i := 173) rfl) rfl
theorem ww_2_179 : (Jvm.Cond.methodLink "CrumbsHome$Reader" (69 : Nat) ({ cls := "CrumbsHome$Reader", name := "isNextOf", desc := "(Ljava/lang/String;)Z" } : Jvm.MethodName)) ∈ lw_gd := gd_2 (List.mem_of_getElem? (i := 179) rfl) rfl
theorem ww_2_181 : (Jvm.Cond.instanceMethod ({ cls := "CrumbsHome$Reader", name := "isNextOf", desc := "(Ljava/lang/String;)Z" } : Jvm.MethodName)) ∈ lw_gd := gd_2 (List.mem_of_getElem? (i := 181) rfl) rfl
theorem ww_2_182 : (Jvm.Cond.code ({ cls := "CrumbsHome$Reader", name := "isNextOf", desc := "(Ljava/lang/String;)Z" } : Jvm.MethodName) prog_4_method_10_code (2 : Nat) (Option.some Jvm.ClassFile.FieldType.boolean)) ∈ lw_gd := gd_2 (List.mem_of_getElem? (i := 182) rfl) rfl
theorem ww_2_183 : (Jvm.Cond.methodLink "CrumbsHome$Reader" (83 : Nat) ({ cls := "java/lang/String", name := "indexOf", desc := "(I)I" } : Jvm.MethodName)) ∈ lw_gd := gd_2 (List.mem_of_getElem? (i := 183) rfl) rfl
theorem ww_2_184 : (Jvm.Cond.instanceMethod ({ cls := "java/lang/String", name := "indexOf", desc := "(I)I" } : Jvm.MethodName)) ∈ lw_gd := gd_2 (List.mem_of_getElem? (i := 184) rfl) rfl
theorem ww_2_185 : (Jvm.Cond.selects "java/lang/String" ({ cls := "java/lang/String", name := "indexOf", desc := "(I)I" } : Jvm.MethodName) ({ cls := "java/lang/String", name := "indexOf", desc := "(I)I" } : Jvm.MethodName)) ∈ lw_gd := gd_2 (List.mem_of_getElem? (i := 185) rfl) rfl
theorem ww_2_186 : (Jvm.Cond.code ({ cls := "java/lang/String", name := "indexOf", desc := "(I)I" } : Jvm.MethodName) prog_13_method_79_code (2 : Nat) (Option.some Jvm.ClassFile.FieldType.int)) ∈ lw_gd := gd_2 (List.mem_of_getElem? (i := 186) rfl) rfl
theorem ww_2_187 : (Jvm.Cond.methodLink "java/lang/String" (633 : Nat) ({ cls := "java/lang/String", name := "indexOf", desc := "(II)I" } : Jvm.MethodName)) ∈ lw_gd := gd_2 (List.mem_of_getElem? (i := 187) rfl) rfl
theorem ww_2_188 : (Jvm.Cond.instanceMethod ({ cls := "java/lang/String", name := "indexOf", desc := "(II)I" } : Jvm.MethodName)) ∈ lw_gd := gd_2 (List.mem_of_getElem? (i := 188) rfl) rfl
theorem ww_2_189 : (Jvm.Cond.selects "java/lang/String" ({ cls := "java/lang/String", name := "indexOf", desc := "(II)I" } : Jvm.MethodName) ({ cls := "java/lang/String", name := "indexOf", desc := "(II)I" } : Jvm.MethodName)) ∈ lw_gd := gd_2 (List.mem_of_getElem? (i := 189) rfl) rfl
theorem ww_2_190 : (Jvm.Cond.code ({ cls := "java/lang/String", name := "indexOf", desc := "(II)I" } : Jvm.MethodName) prog_13_method_80_code (3 : Nat) (Option.some Jvm.ClassFile.FieldType.int)) ∈ lw_gd := gd_2 (List.mem_of_getElem? (i := 190) rfl) rfl
theorem ww_2_191 : (Jvm.Cond.methodLink "java/lang/String" (492 : Nat) ({ cls := "java/lang/String", name := "isLatin1", desc := "()Z" } : Jvm.MethodName)) ∈ lw_gd := gd_2 (List.mem_of_getElem? (i := 191) rfl) rfl
theorem ww_2_192 : (Jvm.Cond.instanceMethod ({ cls := "java/lang/String", name := "isLatin1", desc := "()Z" } : Jvm.MethodName)) ∈ lw_gd := gd_2 (List.mem_of_getElem? (i := 192) rfl) rfl
theorem ww_2_193 : (Jvm.Cond.selects "java/lang/String" ({ cls := "java/lang/String", name := "isLatin1", desc := "()Z" } : Jvm.MethodName) ({ cls := "java/lang/String", name := "isLatin1", desc := "()Z" } : Jvm.MethodName)) ∈ lw_gd := gd_2 (List.mem_of_getElem? (i := 193) rfl) rfl
theorem ww_2_194 : (Jvm.Cond.code ({ cls := "java/lang/String", name := "isLatin1", desc := "()Z" } : Jvm.MethodName) prog_13_method_154_code (1 : Nat) (Option.some Jvm.ClassFile.FieldType.boolean)) ∈ lw_gd := gd_2 (List.mem_of_getElem? (i := 194) rfl) rfl
theorem ww_2_195 : (Jvm.Cond.fieldLink "java/lang/String" (38 : Nat) "java/lang/String" "COMPACT_STRINGS" "Z") ∈ lw_gd := gd_2 (List.mem_of_getElem? (i := 195) rfl) rfl
theorem ww_2_197 : (Jvm.Cond.methodLink "java/lang/String" (505 : Nat) ({ cls := "java/lang/String", name := "length", desc := "()I" } : Jvm.MethodName)) ∈ lw_gd := gd_2 (List.mem_of_getElem? (i := 197) rfl) rfl
theorem ww_2_198 : (Jvm.Cond.instanceMethod ({ cls := "java/lang/String", name := "length", desc := "()I" } : Jvm.MethodName)) ∈ lw_gd := gd_2 (List.mem_of_getElem? (i := 198) rfl) rfl
theorem ww_2_199 : (Jvm.Cond.selects "java/lang/String" ({ cls := "java/lang/String", name := "length", desc := "()I" } : Jvm.MethodName) ({ cls := "java/lang/String", name := "length", desc := "()I" } : Jvm.MethodName)) ∈ lw_gd := gd_2 (List.mem_of_getElem? (i := 199) rfl) rfl
theorem ww_2_200 : (Jvm.Cond.code ({ cls := "java/lang/String", name := "length", desc := "()I" } : Jvm.MethodName) prog_13_method_54_code (1 : Nat) (Option.some Jvm.ClassFile.FieldType.int)) ∈ lw_gd := gd_2 (List.mem_of_getElem? (i := 200) rfl) rfl
theorem ww_2_201 : (Jvm.Cond.methodLink "java/lang/String" (335 : Nat) ({ cls := "java/lang/String", name := "coder", desc := "()B" } : Jvm.MethodName)) ∈ lw_gd := gd_2 (List.mem_of_getElem? (i := 201) rfl) rfl
theorem ww_2_202 : (Jvm.Cond.instanceMethod ({ cls := "java/lang/String", name := "coder", desc := "()B" } : Jvm.MethodName)) ∈ lw_gd := gd_2 (List.mem_of_getElem? (i := 202) rfl) rfl
theorem ww_2_203 : (Jvm.Cond.selects "java/lang/String" ({ cls := "java/lang/String", name := "coder", desc := "()B" } : Jvm.MethodName) ({ cls := "java/lang/String", name := "coder", desc := "()B" } : Jvm.MethodName)) ∈ lw_gd := gd_2 (List.mem_of_getElem? (i := 203) rfl) rfl
theorem ww_2_204 : (Jvm.Cond.code ({ cls := "java/lang/String", name := "coder", desc := "()B" } : Jvm.MethodName) prog_13_method_152_code (1 : Nat) (Option.some Jvm.ClassFile.FieldType.byte)) ∈ lw_gd := gd_2 (List.mem_of_getElem? (i := 204) rfl) rfl
theorem ww_2_205 : (Jvm.Cond.methodLink "java/lang/String" (637 : Nat) ({ cls := "java/lang/StringLatin1", name := "indexOf", desc := "([BIII)I" } : Jvm.MethodName)) ∈ lw_gd := gd_2 (List.mem_of_getElem? (i := 205) rfl) rfl
theorem ww_2_206 : (Jvm.Cond.static ({ cls := "java/lang/StringLatin1", name := "indexOf", desc := "([BIII)I" } : Jvm.MethodName)) ∈ lw_gd := gd_2 (List.mem_of_getElem? (i := 206) rfl) rfl
theorem ww_2_207 : (Jvm.Cond.code ({ cls := "java/lang/StringLatin1", name := "indexOf", desc := "([BIII)I" } : Jvm.MethodName) prog_14_method_22_code (4 : Nat) (Option.some Jvm.ClassFile.FieldType.int)) ∈ lw_gd := gd_2 (List.mem_of_getElem? (i := 207) rfl) rfl
theorem ww_2_208 : (Jvm.Cond.methodLink "java/lang/StringLatin1" (88 : Nat) ({ cls := "java/lang/StringLatin1", name := "canEncode", desc := "(I)Z" } : Jvm.MethodName)) ∈ lw_gd := gd_2 (List.mem_of_getElem? (i := 208) rfl) rfl
theorem ww_2_209 : (Jvm.Cond.static ({ cls := "java/lang/StringLatin1", name := "canEncode", desc := "(I)Z" } : Jvm.MethodName)) ∈ lw_gd := gd_2 (List.mem_of_getElem? (i := 209) rfl) rfl
theorem ww_2_210 : (Jvm.Cond.code ({ cls := "java/lang/StringLatin1", name := "canEncode", desc := "(I)Z" } : Jvm.MethodName) prog_14_method_4_code (1 : Nat) (Option.some Jvm.ClassFile.FieldType.boolean)) ∈ lw_gd := gd_2 (List.mem_of_getElem? (i := 210) rfl) rfl
theorem ww_2_211 : (Jvm.Cond.methodLink "java/lang/StringLatin1" (92 : Nat) ({ cls := "java/lang/Math", name := "max", desc := "(II)I" } : Jvm.MethodName)) ∈ lw_gd := gd_2 (List.mem_of_getElem? (i := 211) rfl) rfl
theorem ww_2_212 : (Jvm.Cond.methodLink "java/lang/StringLatin1" (38 : Nat) ({ cls := "java/lang/Math", name := "min", desc := "(II)I" } : Jvm.MethodName)) ∈ lw_gd := gd_2 (List.mem_of_getElem? (i := 212) rfl) rfl
theorem ww_2_213 : (Jvm.Cond.methodLink "java/lang/StringLatin1" (95 : Nat) ({ cls := "java/lang/StringLatin1", name := "indexOfChar", desc := "([BIII)I" } : Jvm.MethodName)) ∈ lw_gd := gd_2 (List.mem_of_getElem? (i := 213) rfl) rfl
theorem ww_2_214 : (Jvm.Cond.static ({ cls := "java/lang/StringLatin1", name := "indexOfChar", desc := "([BIII)I" } : Jvm.MethodName)) ∈ lw_gd := gd_2 (List.mem_of_getElem? (i := 214) rfl) rfl
theorem ww_2_215 : (Jvm.Cond.code ({ cls := "java/lang/StringLatin1", name := "indexOfChar", desc := "([BIII)I" } : Jvm.MethodName) prog_14_method_23_code (6 : Nat) (Option.some Jvm.ClassFile.FieldType.int)) ∈ lw_gd := gd_2 (List.mem_of_getElem? (i := 215) rfl) rfl
theorem ww_2_216 : (Jvm.Cond.methodLink "java/lang/String" (640 : Nat) ({ cls := "java/lang/StringUTF16", name := "indexOf", desc := "([BIII)I" } : Jvm.MethodName)) ∈ lw_gd := gd_2 (List.mem_of_getElem? (i := 216) rfl) rfl
theorem ww_2_217 : (Jvm.Cond.static ({ cls := "java/lang/StringUTF16", name := "indexOf", desc := "([BIII)I" } : Jvm.MethodName)) ∈ lw_gd := gd_2 (List.mem_of_getElem? (i := 217) rfl) rfl
theorem ww_2_218 : (Jvm.Cond.code ({ cls := "java/lang/StringUTF16", name := "indexOf", desc := "([BIII)I" } : Jvm.MethodName) prog_15_method_40_code (4 : Nat) (Option.some Jvm.ClassFile.FieldType.int)) ∈ lw_gd := gd_2 (List.mem_of_getElem? (i := 218) rfl) rfl
theorem ww_2_219 : (Jvm.Cond.methodLink "java/lang/StringUTF16" (224 : Nat) ({ cls := "java/lang/Math", name := "max", desc := "(II)I" } : Jvm.MethodName)) ∈ lw_gd := gd_2 (List.mem_of_getElem? (i := 219) rfl) rfl
theorem ww_2_220 : (Jvm.Cond.methodLink "java/lang/StringUTF16" (183 : Nat) ({ cls := "java/lang/Math", name := "min", desc := "(II)I" } : Jvm.MethodName)) ∈ lw_gd := gd_2 (List.mem_of_getElem? (i := 220) rfl) rfl
theorem ww_2_221 : (Jvm.Cond.constant "java/lang/StringUTF16" (227 : Nat) (65536 : Int32)) ∈ lw_gd := gd_2 (List.mem_of_getElem? (i := 221) rfl) rfl
theorem ww_2_222 : (Jvm.Cond.methodLink "java/lang/StringUTF16" (228 : Nat) ({ cls := "java/lang/StringUTF16", name := "indexOfChar", desc := "([BIII)I" } : Jvm.MethodName)) ∈ lw_gd := gd_2 (List.mem_of_getElem? (i := 222) rfl) rfl
theorem ww_2_223 : (Jvm.Cond.static ({ cls := "java/lang/StringUTF16", name := "indexOfChar", desc := "([BIII)I" } : Jvm.MethodName)) ∈ lw_gd := gd_2 (List.mem_of_getElem? (i := 223) rfl) rfl
theorem ww_2_224 : (Jvm.Cond.code ({ cls := "java/lang/StringUTF16", name := "indexOfChar", desc := "([BIII)I" } : Jvm.MethodName) prog_15_method_47_code (4 : Nat) (Option.some Jvm.ClassFile.FieldType.int)) ∈ lw_gd := gd_2 (List.mem_of_getElem? (i := 224) rfl) rfl
theorem ww_2_225 : (Jvm.Cond.methodLink "java/lang/StringUTF16" (96 : Nat) ({ cls := "java/lang/StringUTF16", name := "checkBoundsBeginEnd", desc := "(II[B)V" } : Jvm.MethodName)) ∈ lw_gd := gd_2 (List.mem_of_getElem? (i := 225) rfl) rfl
theorem ww_2_226 : (Jvm.Cond.static ({ cls := "java/lang/StringUTF16", name := "checkBoundsBeginEnd", desc := "(II[B)V" } : Jvm.MethodName)) ∈ lw_gd := gd_2 (List.mem_of_getElem? (i := 226) rfl) rfl
theorem ww_2_227 : (Jvm.Cond.code ({ cls := "java/lang/StringUTF16", name := "checkBoundsBeginEnd", desc := "(II[B)V" } : Jvm.MethodName) prog_15_method_93_code (3 : Nat) (Option.none : Option Jvm.ClassFile.FieldType)) ∈ lw_gd := gd_2 (List.mem_of_getElem? (i := 227) rfl) rfl
theorem ww_2_228 : (Jvm.Cond.methodLink "java/lang/StringUTF16" (48 : Nat) ({ cls := "java/lang/StringUTF16", name := "length", desc := "([B)I" } : Jvm.MethodName)) ∈ lw_gd := gd_2 (List.mem_of_getElem? (i := 228) rfl) rfl
theorem ww_2_229 : (Jvm.Cond.static ({ cls := "java/lang/StringUTF16", name := "length", desc := "([B)I" } : Jvm.MethodName)) ∈ lw_gd := gd_2 (List.mem_of_getElem? (i := 229) rfl) rfl
theorem ww_2_230 : (Jvm.Cond.code ({ cls := "java/lang/StringUTF16", name := "length", desc := "([B)I" } : Jvm.MethodName) prog_15_method_6_code (1 : Nat) (Option.some Jvm.ClassFile.FieldType.int)) ∈ lw_gd := gd_2 (List.mem_of_getElem? (i := 230) rfl) rfl
theorem ww_2_231 : (Jvm.Cond.methodLink "java/lang/StringUTF16" (241 : Nat) ({ cls := "java/lang/String", name := "checkBoundsBeginEnd", desc := "(III)V" } : Jvm.MethodName)) ∈ lw_gd := gd_2 (List.mem_of_getElem? (i := 231) rfl) rfl
theorem ww_2_232 : (Jvm.Cond.static ({ cls := "java/lang/String", name := "checkBoundsBeginEnd", desc := "(III)V" } : Jvm.MethodName)) ∈ lw_gd := gd_2 (List.mem_of_getElem? (i := 232) rfl) rfl
theorem ww_2_233 : (Jvm.Cond.code ({ cls := "java/lang/String", name := "checkBoundsBeginEnd", desc := "(III)V" } : Jvm.MethodName) prog_13_method_158_code (3 : Nat) (Option.none : Option Jvm.ClassFile.FieldType)) ∈ lw_gd := gd_2 (List.mem_of_getElem? (i := 233) rfl) rfl
theorem ww_2_234 : (Jvm.Cond.fieldLink "java/lang/String" (1053 : Nat) "jdk/internal/util/Preconditions" "SIOOBE_FORMATTER" "Ljava/util/function/BiFunction;") ∈ lw_gd := gd_2 (List.mem_of_getElem? (i := 234) rfl) rfl
theorem ww_2_236 : (Jvm.Cond.methodLink "java/lang/String" (1062 : Nat) ({ cls := "jdk/internal/util/Preconditions", name := "checkFromToIndex", desc := "(IIILjava/util/function/BiFunction;)I" } : Jvm.MethodName)) ∈ lw_gd := gd_2 (List.mem_of_getElem? (i := 236) rfl) rfl
theorem ww_2_237 : (Jvm.Cond.static ({ cls := "jdk/internal/util/Preconditions", name := "checkFromToIndex", desc := "(IIILjava/util/function/BiFunction;)I" } : Jvm.MethodName)) ∈ lw_gd := gd_2 (List.mem_of_getElem? (i := 237) rfl) rfl
theorem ww_2_238 : (Jvm.Cond.code ({ cls := "jdk/internal/util/Preconditions", name := "checkFromToIndex", desc := "(IIILjava/util/function/BiFunction;)I" } : Jvm.MethodName) prog_17_method_12_code (4 : Nat) (Option.some Jvm.ClassFile.FieldType.int)) ∈ lw_gd := gd_2 (List.mem_of_getElem? (i := 238) rfl) rfl
theorem ww_2_239 : (Jvm.Cond.methodLink "java/lang/StringUTF16" (244 : Nat) ({ cls := "java/lang/StringUTF16", name := "indexOfCharUnsafe", desc := "([BIII)I" } : Jvm.MethodName)) ∈ lw_gd := gd_2 (List.mem_of_getElem? (i := 239) rfl) rfl
theorem ww_3_0 : (Jvm.Cond.static ({ cls := "java/lang/StringUTF16", name := "indexOfCharUnsafe", desc := "([BIII)I" } : Jvm.MethodName)) ∈ lw_gd := gd_3 (List.mem_of_getElem? (i := 0) rfl) rfl
theorem ww_3_1 : (Jvm.Cond.code ({ cls := "java/lang/StringUTF16", name := "indexOfCharUnsafe", desc := "([BIII)I" } : Jvm.MethodName) prog_15_method_48_code (5 : Nat) (Option.some Jvm.ClassFile.FieldType.int)) ∈ lw_gd := gd_3 (List.mem_of_getElem? (i := 1) rfl) rfl
theorem ww_3_2 : (Jvm.Cond.methodLink "java/lang/StringUTF16" (71 : Nat) ({ cls := "java/lang/StringUTF16", name := "getChar", desc := "([BI)C" } : Jvm.MethodName)) ∈ lw_gd := gd_3 (List.mem_of_getElem? (i := 2) rfl) rfl
theorem ww_3_3 : (Jvm.Cond.static ({ cls := "java/lang/StringUTF16", name := "getChar", desc := "([BI)C" } : Jvm.MethodName)) ∈ lw_gd := gd_3 (List.mem_of_getElem? (i := 3) rfl) rfl
theorem ww_3_4 : (Jvm.Cond.code ({ cls := "java/lang/StringUTF16", name := "getChar", desc := "([BI)C" } : Jvm.MethodName) prog_15_method_5_code (2 : Nat) (Option.some Jvm.ClassFile.FieldType.char)) ∈ lw_gd := gd_3 (List.mem_of_getElem? (i := 4) rfl) rfl
theorem ww_3_5 : (Jvm.Cond.fieldLink "java/lang/StringUTF16" (44 : Nat) "java/lang/StringUTF16" "$assertionsDisabled" "Z") ∈ lw_gd := gd_3 (List.mem_of_getElem? (i := 5) rfl) rfl
theorem ww_3_7 : (Jvm.Cond.fieldLink "java/lang/StringUTF16" (59 : Nat) "java/lang/StringUTF16" "HI_BYTE_SHIFT" "I") ∈ lw_gd := gd_3 (List.mem_of_getElem? (i := 7) rfl) rfl
theorem ww_3_9 : (Jvm.Cond.fieldLink "java/lang/StringUTF16" (63 : Nat) "java/lang/StringUTF16" "LO_BYTE_SHIFT" "I") ∈ lw_gd := gd_3 (List.mem_of_getElem? (i := 9) rfl) rfl
theorem ww_3_11 : (Jvm.Cond.methodLink "java/lang/StringUTF16" (232 : Nat) ({ cls := "java/lang/StringUTF16", name := "indexOfSupplementary", desc := "([BIII)I" } : Jvm.MethodName)) ∈ lw_gd := gd_3 (List.mem_of_getElem? (i := 11) rfl) rfl
theorem ww_3_12 : (Jvm.Cond.static ({ cls := "java/lang/StringUTF16", name := "indexOfSupplementary", desc := "([BIII)I" } : Jvm.MethodName)) ∈ lw_gd := gd_3 (List.mem_of_getElem? (i := 12) rfl) rfl
theorem ww_3_13 : (Jvm.Cond.code ({ cls := "java/lang/StringUTF16", name := "indexOfSupplementary", desc := "([BIII)I" } : Jvm.MethodName) prog_15_method_49_code (7 : Nat) (Option.some Jvm.ClassFile.FieldType.int)) ∈ lw_gd := gd_3 (List.mem_of_getElem? (i := 13) rfl) rfl
theorem ww_3_14 : (Jvm.Cond.methodLink "java/lang/StringUTF16" (164 : Nat) ({ cls := "java/lang/Character", name := "isValidCodePoint", desc := "(I)Z" } : Jvm.MethodName)) ∈ lw_gd := gd_3 (List.mem_of_getElem? (i := 14) rfl) rfl
theorem ww_3_15 : (Jvm.Cond.static ({ cls := "java/lang/Character", name := "isValidCodePoint", desc := "(I)Z" } : Jvm.MethodName)) ∈ lw_gd := gd_3 (List.mem_of_getElem? (i := 15) rfl) rfl
theorem ww_3_16 : (Jvm.Cond.code ({ cls := "java/lang/Character", name := "isValidCodePoint", desc := "(I)Z" } : Jvm.MethodName) prog_10_method_11_code (2 : Nat) (Option.some Jvm.ClassFile.FieldType.boolean)) ∈ lw_gd := gd_3 (List.mem_of_getElem? (i := 16) rfl) rfl
theorem ww_3_17 : (Jvm.Cond.methodLink "java/lang/StringUTF16" (157 : Nat) ({ cls := "java/lang/Character", name := "highSurrogate", desc := "(I)C" } : Jvm.MethodName)) ∈ lw_gd := gd_3 (List.mem_of_getElem? (i := 17) rfl) rfl
theorem ww_3_18 : (Jvm.Cond.static ({ cls := "java/lang/Character", name := "highSurrogate", desc := "(I)C" } : Jvm.MethodName)) ∈ lw_gd := gd_3 (List.mem_of_getElem? (i := 18) rfl) rfl
theorem ww_3_19 : (Jvm.Cond.code ({ cls := "java/lang/Character", name := "highSurrogate", desc := "(I)C" } : Jvm.MethodName) prog_10_method_28_code (1 : Nat) (Option.some Jvm.ClassFile.FieldType.char)) ∈ lw_gd := gd_3 (List.mem_of_getElem? (i := 19) rfl) rfl
theorem ww_3_20 : (Jvm.Cond.constant "java/lang/Character" (110 : Nat) (55232 : Int32)) ∈ lw_gd := gd_3 (List.mem_of_getElem? (i := 20) rfl) rfl
theorem ww_3_21 : (Jvm.Cond.methodLink "java/lang/StringUTF16" (161 : Nat) ({ cls := "java/lang/Character", name := "lowSurrogate", desc := "(I)C" } : Jvm.MethodName)) ∈ lw_gd := gd_3 (List.mem_of_getElem? (i := 21) rfl) rfl
theorem ww_3_22 : (Jvm.Cond.static ({ cls := "java/lang/Character", name := "lowSurrogate", desc := "(I)C" } : Jvm.MethodName)) ∈ lw_gd := gd_3 (List.mem_of_getElem? (i := 22) rfl) rfl
theorem ww_3_23 : (Jvm.Cond.code ({ cls := "java/lang/Character", name := "lowSurrogate", desc := "(I)C" } : Jvm.MethodName) prog_10_method_29_code (1 : Nat) (Option.some Jvm.ClassFile.FieldType.char)) ∈ lw_gd := gd_3 (List.mem_of_getElem? (i := 23) rfl) rfl
theorem ww_3_24 : (Jvm.Cond.constant "java/lang/Character" (76 : Nat) (56320 : Int32)) ∈ lw_gd := gd_3 (List.mem_of_getElem? (i := 24) rfl) rfl
theorem ww_3_25 : (Jvm.Cond.methodLink "CrumbsHome$Reader" (75 : Nat) ({ cls := "CrumbsHome$Reader", name := "write", desc := "(I)V" } : Jvm.MethodName)) ∈ lw_gd := gd_3 (List.mem_of_getElem? (i := 25) rfl) rfl
theorem ww_3_27 : (Jvm.Cond.instanceMethod ({ cls := "CrumbsHome$Reader", name := "write", desc := "(I)V" } : Jvm.MethodName)) ∈ lw_gd := gd_3 (List.mem_of_getElem? (i := 27) rfl) rfl
theorem ww_3_28 : (Jvm.Cond.code ({ cls := "CrumbsHome$Reader", name := "write", desc := "(I)V" } : Jvm.MethodName) prog_4_method_11_code (2 : Nat) (Option.none : Option Jvm.ClassFile.FieldType)) ∈ lw_gd := gd_3 (List.mem_of_getElem? (i := 28) rfl) rfl
theorem ww_3_29 : (Jvm.Cond.methodLink "CrumbsHome$Reader" (61 : Nat) ({ cls := "CrumbsHome$Reader", name := "readOne", desc := "(I)V" } : Jvm.MethodName)) ∈ lw_gd := gd_3 (List.mem_of_getElem? (i := 29) rfl) rfl
theorem ww_3_31 : (Jvm.Cond.instanceMethod ({ cls := "CrumbsHome$Reader", name := "readOne", desc := "(I)V" } : Jvm.MethodName)) ∈ lw_gd := gd_3 (List.mem_of_getElem? (i := 31) rfl) rfl
theorem ww_3_32 : (Jvm.Cond.code ({ cls := "CrumbsHome$Reader", name := "readOne", desc := "(I)V" } : Jvm.MethodName) prog_4_method_6_code (2 : Nat) (Option.none : Option Jvm.ClassFile.FieldType)) ∈ lw_gd := gd_3 (List.mem_of_getElem? (i := 32) rfl) rfl
theorem ww_3_34 : (Jvm.Cond.methodLink "CrumbsHome$Reader" (80 : Nat) ({ cls := "CrumbsHome$Reader", name := "readOpened", desc := "(I)V" } : Jvm.MethodName)) ∈ lw_gd := gd_3 (List.mem_of_getElem? (i := 34) rfl) rfl
theorem ww_3_36 : (Jvm.Cond.instanceMethod ({ cls := "CrumbsHome$Reader", name := "readOpened", desc := "(I)V" } : Jvm.MethodName)) ∈ lw_gd := gd_3 (List.mem_of_getElem? (i := 36) rfl) rfl
theorem ww_3_37 : (Jvm.Cond.code ({ cls := "CrumbsHome$Reader", name := "readOpened", desc := "(I)V" } : Jvm.MethodName) prog_4_method_7_code (3 : Nat) (Option.none : Option Jvm.ClassFile.FieldType)) ∈ lw_gd := gd_3 (List.mem_of_getElem? (i := 37) rfl) rfl
theorem ww_3_39 : (Jvm.Cond.methodLink "CrumbsHome$Reader" (89 : Nat) ({ cls := "CrumbsHome$Reader", name := "isNextDigit", desc := "()Z" } : Jvm.MethodName)) ∈ lw_gd := gd_3 (List.mem_of_getElem? (i := 39) rfl) rfl
theorem ww_3_41 : (Jvm.Cond.instanceMethod ({ cls := "CrumbsHome$Reader", name := "isNextDigit", desc := "()Z" } : Jvm.MethodName)) ∈ lw_gd := gd_3 (List.mem_of_getElem? (i := 41) rfl) rfl
theorem ww_3_42 : (Jvm.Cond.code ({ cls := "CrumbsHome$Reader", name := "isNextDigit", desc := "()Z" } : Jvm.MethodName) prog_4_method_9_code (1 : Nat) (Option.some Jvm.ClassFile.FieldType.boolean)) ∈ lw_gd := gd_3 (List.mem_of_getElem? (i := 42) rfl) rfl
theorem ww_3_43 : (Jvm.Cond.methodLink "CrumbsHome$Reader" (93 : Nat) ({ cls := "CrumbsHome$Reader", name := "readNumber", desc := "()V" } : Jvm.MethodName)) ∈ lw_gd := gd_3 (List.mem_of_getElem? (i := 43) rfl) rfl
theorem ww_3_45 : (Jvm.Cond.instanceMethod ({ cls := "CrumbsHome$Reader", name := "readNumber", desc := "()V" } : Jvm.MethodName)) ∈ lw_gd := gd_3 (List.mem_of_getElem? (i := 45) rfl) rfl
theorem ww_3_46 : (Jvm.Cond.code ({ cls := "CrumbsHome$Reader", name := "readNumber", desc := "()V" } : Jvm.MethodName) prog_4_method_8_code (3 : Nat) (Option.none : Option Jvm.ClassFile.FieldType)) ∈ lw_gd := gd_3 (List.mem_of_getElem? (i := 46) rfl) rfl
theorem ww_3_47 : (Jvm.Cond.methodLink "CrumbsHome" (177 : Nat) ({ cls := "CrumbsHome$Law", name := "take", desc := "([II)V" } : Jvm.MethodName)) ∈ lw_gd := gd_3 (List.mem_of_getElem? (i := 47) rfl) rfl
theorem ww_3_48 : (Jvm.Cond.instanceMethod ({ cls := "CrumbsHome$Law", name := "take", desc := "([II)V" } : Jvm.MethodName)) ∈ lw_gd := gd_3 (List.mem_of_getElem? (i := 48) rfl) rfl
theorem ww_3_49 : (Jvm.Cond.selects "CrumbsHome$Law" ({ cls := "CrumbsHome$Law", name := "take", desc := "([II)V" } : Jvm.MethodName) ({ cls := "CrumbsHome$Law", name := "take", desc := "([II)V" } : Jvm.MethodName)) ∈ lw_gd := gd_3 (List.mem_of_getElem? (i := 49) rfl) rfl
theorem ww_3_50 : (Jvm.Cond.code ({ cls := "CrumbsHome$Law", name := "take", desc := "([II)V" } : Jvm.MethodName) prog_3_method_2_code (3 : Nat) (Option.none : Option Jvm.ClassFile.FieldType)) ∈ lw_gd := gd_3 (List.mem_of_getElem? (i := 50) rfl) rfl
theorem ww_3_51 : (Jvm.Cond.methodLink "CrumbsHome$Law" (29 : Nat) ({ cls := "java/lang/System", name := "arraycopy", desc := "(Ljava/lang/Object;ILjava/lang/Object;II)V" } : Jvm.MethodName)) ∈ lw_gd := gd_3 (List.mem_of_getElem? (i := 51) rfl) rfl
theorem ww_3_52 : (Jvm.Cond.methodLink "CrumbsHomeLaw" (63 : Nat) ({ cls := "CrumbsHome", name := "untell", desc := "(I)I" } : Jvm.MethodName)) ∈ lw_gd := gd_3 (List.mem_of_getElem? (i := 52) rfl) rfl
theorem ww_3_53 : (Jvm.Cond.instanceMethod ({ cls := "CrumbsHome", name := "untell", desc := "(I)I" } : Jvm.MethodName)) ∈ lw_gd := gd_3 (List.mem_of_getElem? (i := 53) rfl) rfl
theorem ww_3_54 : (Jvm.Cond.selects "CrumbsHome" ({ cls := "CrumbsHome", name := "untell", desc := "(I)I" } : Jvm.MethodName) ({ cls := "CrumbsHome", name := "untell", desc := "(I)I" } : Jvm.MethodName)) ∈ lw_gd := gd_3 (List.mem_of_getElem? (i := 54) rfl) rfl
theorem ww_3_55 : (Jvm.Cond.code ({ cls := "CrumbsHome", name := "untell", desc := "(I)I" } : Jvm.MethodName) prog_1_method_13_code (4 : Nat) (Option.some Jvm.ClassFile.FieldType.int)) ∈ lw_gd := gd_3 (List.mem_of_getElem? (i := 55) rfl) rfl
theorem ww_3_56 : (Jvm.Cond.methodLink "CrumbsHomeLaw" (67 : Nat) ({ cls := "CrumbsHome", name := "law", desc := "(IIII)I" } : Jvm.MethodName)) ∈ lw_gd := gd_3 (List.mem_of_getElem? (i := 56) rfl) rfl
theorem ww_3_57 : (Jvm.Cond.instanceMethod ({ cls := "CrumbsHome", name := "law", desc := "(IIII)I" } : Jvm.MethodName)) ∈ lw_gd := gd_3 (List.mem_of_getElem? (i := 57) rfl) rfl
theorem ww_3_58 : (Jvm.Cond.selects "CrumbsHome" ({ cls := "CrumbsHome", name := "law", desc := "(IIII)I" } : Jvm.MethodName) ({ cls := "CrumbsHome", name := "law", desc := "(IIII)I" } : Jvm.MethodName)) ∈ lw_gd := gd_3 (List.mem_of_getElem? (i := 58) rfl) rfl
theorem ww_3_59 : (Jvm.Cond.code ({ cls := "CrumbsHome", name := "law", desc := "(IIII)I" } : Jvm.MethodName) prog_1_method_14_code (5 : Nat) (Option.some Jvm.ClassFile.FieldType.int)) ∈ lw_gd := gd_3 (List.mem_of_getElem? (i := 59) rfl) rfl
theorem ww_3_60 : (Jvm.Cond.methodLink "CrumbsHomeLaw" (72 : Nat) ({ cls := "CrumbsHome", name := "days", desc := "(I)I" } : Jvm.MethodName)) ∈ lw_gd := gd_3 (List.mem_of_getElem? (i := 60) rfl) rfl
theorem ww_3_61 : (Jvm.Cond.instanceMethod ({ cls := "CrumbsHome", name := "days", desc := "(I)I" } : Jvm.MethodName)) ∈ lw_gd := gd_3 (List.mem_of_getElem? (i := 61) rfl) rfl
theorem ww_3_62 : (Jvm.Cond.selects "CrumbsHome" ({ cls := "CrumbsHome", name := "days", desc := "(I)I" } : Jvm.MethodName) ({ cls := "CrumbsHome", name := "days", desc := "(I)I" } : Jvm.MethodName)) ∈ lw_gd := gd_3 (List.mem_of_getElem? (i := 62) rfl) rfl
theorem ww_3_63 : (Jvm.Cond.code ({ cls := "CrumbsHome", name := "days", desc := "(I)I" } : Jvm.MethodName) prog_1_method_15_code (2 : Nat) (Option.some Jvm.ClassFile.FieldType.int)) ∈ lw_gd := gd_3 (List.mem_of_getElem? (i := 63) rfl) rfl
theorem ww_3_64 : (Jvm.Cond.methodLink "CrumbsHome" (190 : Nat) ({ cls := "CrumbsHome", name := "passDays", desc := "(LCrumbsHome$Harvest;LCrumbsHome$Roads;I)V" } : Jvm.MethodName)) ∈ lw_gd := gd_3 (List.mem_of_getElem? (i := 64) rfl) rfl
theorem ww_3_66 : (Jvm.Cond.instanceMethod ({ cls := "CrumbsHome", name := "passDays", desc := "(LCrumbsHome$Harvest;LCrumbsHome$Roads;I)V" } : Jvm.MethodName)) ∈ lw_gd := gd_3 (List.mem_of_getElem? (i := 66) rfl) rfl
theorem ww_3_67 : (Jvm.Cond.code ({ cls := "CrumbsHome", name := "passDays", desc := "(LCrumbsHome$Harvest;LCrumbsHome$Roads;I)V" } : Jvm.MethodName) prog_1_method_53_code (6 : Nat) (Option.none : Option Jvm.ClassFile.FieldType)) ∈ lw_gd := gd_3 (List.mem_of_getElem? (i := 67) rfl) rfl
theorem ww_3_68 : (Jvm.Cond.methodLink "CrumbsHome" (201 : Nat) ({ cls := "CrumbsHome", name := "passDay", desc := "(LCrumbsHome$Harvest;LCrumbsHome$Roads;)Z" } : Jvm.MethodName)) ∈ lw_gd := gd_3 (List.mem_of_getElem? (i := 68) rfl) rfl
theorem ww_3_70 : (Jvm.Cond.instanceMethod ({ cls := "CrumbsHome", name := "passDay", desc := "(LCrumbsHome$Harvest;LCrumbsHome$Roads;)Z" } : Jvm.MethodName)) ∈ lw_gd := gd_3 (List.mem_of_getElem? (i := 70) rfl) rfl
theorem ww_3_71 : (Jvm.Cond.code ({ cls := "CrumbsHome", name := "passDay", desc := "(LCrumbsHome$Harvest;LCrumbsHome$Roads;)Z" } : Jvm.MethodName) prog_1_method_52_code (6 : Nat) (Option.some Jvm.ClassFile.FieldType.boolean)) ∈ lw_gd := gd_3 (List.mem_of_getElem? (i := 71) rfl) rfl
theorem ww_3_72 : (Jvm.Cond.methodLink "CrumbsHome" (216 : Nat) ({ cls := "CrumbsHome$Harvest", name := "isHome", desc := "(I)Z" } : Jvm.MethodName)) ∈ lw_gd := gd_3 (List.mem_of_getElem? (i := 72) rfl) rfl
theorem ww_3_73 : (Jvm.Cond.instanceMethod ({ cls := "CrumbsHome$Harvest", name := "isHome", desc := "(I)Z" } : Jvm.MethodName)) ∈ lw_gd := gd_3 (List.mem_of_getElem? (i := 73) rfl) rfl
theorem ww_3_74 : (Jvm.Cond.selects "CrumbsHome$Harvest" ({ cls := "CrumbsHome$Harvest", name := "isHome", desc := "(I)Z" } : Jvm.MethodName) ({ cls := "CrumbsHome$Harvest", name := "isHome", desc := "(I)Z" } : Jvm.MethodName)) ∈ lw_gd := gd_3 (List.mem_of_getElem? (i := 74) rfl) rfl
theorem ww_3_75 : (Jvm.Cond.code ({ cls := "CrumbsHome$Harvest", name := "isHome", desc := "(I)Z" } : Jvm.MethodName) prog_2_method_5_code (2 : Nat) (Option.some Jvm.ClassFile.FieldType.boolean)) ∈ lw_gd := gd_3 (List.mem_of_getElem? (i := 75) rfl) rfl
theorem ww_3_76 : (Jvm.Cond.methodLink "CrumbsHome$Harvest" (43 : Nat) ({ cls := "CrumbsHome$Harvest", name := "goal", desc := "(I)I" } : Jvm.MethodName)) ∈ lw_gd := gd_3 (List.mem_of_getElem? (i := 76) rfl) rfl
theorem ww_3_77 : (Jvm.Cond.methodLink "CrumbsHome" (309 : Nat) ({ cls := "CrumbsHome$Roads", name := "walked", desc := "(III)I" } : Jvm.MethodName)) ∈ lw_gd := gd_3 (List.mem_of_getElem? (i := 77) rfl) rfl
theorem ww_3_78 : (Jvm.Cond.instanceMethod ({ cls := "CrumbsHome$Roads", name := "walked", desc := "(III)I" } : Jvm.MethodName)) ∈ lw_gd := gd_3 (List.mem_of_getElem? (i := 78) rfl) rfl
theorem ww_3_79 : (Jvm.Cond.selects "CrumbsHome$Roads" ({ cls := "CrumbsHome$Roads", name := "walked", desc := "(III)I" } : Jvm.MethodName) ({ cls := "CrumbsHome$Roads", name := "walked", desc := "(III)I" } : Jvm.MethodName)) ∈ lw_gd := gd_3 (List.mem_of_getElem? (i := 79) rfl) rfl
theorem ww_3_80 : (Jvm.Cond.code ({ cls := "CrumbsHome$Roads", name := "walked", desc := "(III)I" } : Jvm.MethodName) prog_5_method_10_code (6 : Nat) (Option.some Jvm.ClassFile.FieldType.int)) ∈ lw_gd := gd_3 (List.mem_of_getElem? (i := 80) rfl) rfl
theorem ww_3_81 : (Jvm.Cond.methodLink "CrumbsHome$Roads" (44 : Nat) ({ cls := "CrumbsHome$Roads", name := "nextToward", desc := "(II)I" } : Jvm.MethodName)) ∈ lw_gd := gd_3 (List.mem_of_getElem? (i := 81) rfl) rfl
theorem ww_3_83 : (Jvm.Cond.instanceMethod ({ cls := "CrumbsHome$Roads", name := "nextToward", desc := "(II)I" } : Jvm.MethodName)) ∈ lw_gd := gd_3 (List.mem_of_getElem? (i := 83) rfl) rfl
theorem ww_3_84 : (Jvm.Cond.code ({ cls := "CrumbsHome$Roads", name := "nextToward", desc := "(II)I" } : Jvm.MethodName) prog_5_method_11_code (4 : Nat) (Option.some Jvm.ClassFile.FieldType.int)) ∈ lw_gd := gd_3 (List.mem_of_getElem? (i := 84) rfl) rfl
theorem ww_3_85 : (Jvm.Cond.methodLink "CrumbsHome" (194 : Nat) ({ cls := "CrumbsHome$Harvest", name := "homeSet", desc := "()I" } : Jvm.MethodName)) ∈ lw_gd := gd_3 (List.mem_of_getElem? (i := 85) rfl) rfl
theorem ww_3_86 : (Jvm.Cond.instanceMethod ({ cls := "CrumbsHome$Harvest", name := "homeSet", desc := "()I" } : Jvm.MethodName)) ∈ lw_gd := gd_3 (List.mem_of_getElem? (i := 86) rfl) rfl
theorem ww_3_87 : (Jvm.Cond.selects "CrumbsHome$Harvest" ({ cls := "CrumbsHome$Harvest", name := "homeSet", desc := "()I" } : Jvm.MethodName) ({ cls := "CrumbsHome$Harvest", name := "homeSet", desc := "()I" } : Jvm.MethodName)) ∈ lw_gd := gd_3 (List.mem_of_getElem? (i := 87) rfl) rfl
theorem ww_3_88 : (Jvm.Cond.code ({ cls := "CrumbsHome$Harvest", name := "homeSet", desc := "()I" } : Jvm.MethodName) prog_2_method_6_code (3 : Nat) (Option.some Jvm.ClassFile.FieldType.int)) ∈ lw_gd := gd_3 (List.mem_of_getElem? (i := 88) rfl) rfl
theorem ww_3_89 : (Jvm.Cond.methodLink "CrumbsHome$Harvest" (47 : Nat) ({ cls := "CrumbsHome$Harvest", name := "isHome", desc := "(I)Z" } : Jvm.MethodName)) ∈ lw_gd := gd_3 (List.mem_of_getElem? (i := 89) rfl) rfl
theorem ww_3_90 : (Jvm.Cond.methodLink "CrumbsHomeLaw" (76 : Nat) ({ cls := "CrumbsHome", name := "loose", desc := "(I)I" } : Jvm.MethodName)) ∈ lw_gd := gd_3 (List.mem_of_getElem? (i := 90) rfl) rfl
theorem ww_3_91 : (Jvm.Cond.instanceMethod ({ cls := "CrumbsHome", name := "loose", desc := "(I)I" } : Jvm.MethodName)) ∈ lw_gd := gd_3 (List.mem_of_getElem? (i := 91) rfl) rfl
theorem ww_3_92 : (Jvm.Cond.selects "CrumbsHome" ({ cls := "CrumbsHome", name := "loose", desc := "(I)I" } : Jvm.MethodName) ({ cls := "CrumbsHome", name := "loose", desc := "(I)I" } : Jvm.MethodName)) ∈ lw_gd := gd_3 (List.mem_of_getElem? (i := 92) rfl) rfl
theorem ww_3_93 : (Jvm.Cond.code ({ cls := "CrumbsHome", name := "loose", desc := "(I)I" } : Jvm.MethodName) prog_1_method_16_code (3 : Nat) (Option.some Jvm.ClassFile.FieldType.int)) ∈ lw_gd := gd_3 (List.mem_of_getElem? (i := 93) rfl) rfl
theorem ww_3_94 : (Jvm.Cond.methodLink "CrumbsHome" (198 : Nat) ({ cls := "CrumbsHome$World", name := "stir", desc := "()V" } : Jvm.MethodName)) ∈ lw_gd := gd_3 (List.mem_of_getElem? (i := 94) rfl) rfl
theorem ww_3_95 : (Jvm.Cond.instanceMethod ({ cls := "CrumbsHome$World", name := "stir", desc := "()V" } : Jvm.MethodName)) ∈ lw_gd := gd_3 (List.mem_of_getElem? (i := 95) rfl) rfl
theorem ww_3_96 : (Jvm.Cond.selects "CrumbsHome$World" ({ cls := "CrumbsHome$World", name := "stir", desc := "()V" } : Jvm.MethodName) ({ cls := "CrumbsHome$World", name := "stir", desc := "()V" } : Jvm.MethodName)) ∈ lw_gd := gd_3 (List.mem_of_getElem? (i := 96) rfl) rfl
theorem ww_3_97 : (Jvm.Cond.code ({ cls := "CrumbsHome$World", name := "stir", desc := "()V" } : Jvm.MethodName) prog_7_method_4_code (2 : Nat) (Option.none : Option Jvm.ClassFile.FieldType)) ∈ lw_gd := gd_3 (List.mem_of_getElem? (i := 97) rfl) rfl
theorem ww_3_98 : (Jvm.Cond.methodLink "CrumbsHome$World" (85 : Nat) ({ cls := "CrumbsHome$World", name := "draw", desc := "()I" } : Jvm.MethodName)) ∈ lw_gd := gd_3 (List.mem_of_getElem? (i := 98) rfl) rfl
theorem ww_3_100 : (Jvm.Cond.instanceMethod ({ cls := "CrumbsHome$World", name := "draw", desc := "()I" } : Jvm.MethodName)) ∈ lw_gd := gd_3 (List.mem_of_getElem? (i := 100) rfl) rfl
theorem ww_3_101 : (Jvm.Cond.code ({ cls := "CrumbsHome$World", name := "draw", desc := "()I" } : Jvm.MethodName) prog_7_method_3_code (1 : Nat) (Option.some Jvm.ClassFile.FieldType.int)) ∈ lw_gd := gd_3 (List.mem_of_getElem? (i := 101) rfl) rfl
theorem ww_3_102 : (Jvm.Cond.constant "CrumbsHome$World" (81 : Nat) (1103515245 : Int32)) ∈ lw_gd := gd_3 (List.mem_of_getElem? (i := 102) rfl) rfl
theorem ww_3_103 : (Jvm.Cond.methodLink "CrumbsHomeLaw" (80 : Nat) ({ cls := "CrumbsHome", name := "day", desc := "(I)I" } : Jvm.MethodName)) ∈ lw_gd := gd_3 (List.mem_of_getElem? (i := 103) rfl) rfl
theorem ww_3_104 : (Jvm.Cond.instanceMethod ({ cls := "CrumbsHome", name := "day", desc := "(I)I" } : Jvm.MethodName)) ∈ lw_gd := gd_3 (List.mem_of_getElem? (i := 104) rfl) rfl
theorem ww_3_105 : (Jvm.Cond.selects "CrumbsHome" ({ cls := "CrumbsHome", name := "day", desc := "(I)I" } : Jvm.MethodName) ({ cls := "CrumbsHome", name := "day", desc := "(I)I" } : Jvm.MethodName)) ∈ lw_gd := gd_3 (List.mem_of_getElem? (i := 105) rfl) rfl
theorem ww_3_106 : (Jvm.Cond.code ({ cls := "CrumbsHome", name := "day", desc := "(I)I" } : Jvm.MethodName) prog_1_method_17_code (3 : Nat) (Option.some Jvm.ClassFile.FieldType.int)) ∈ lw_gd := gd_3 (List.mem_of_getElem? (i := 106) rfl) rfl
theorem ww_3_107 : (Jvm.Cond.methodLink "CrumbsHomeLaw" (84 : Nat) ({ cls := "CrumbsHome", name := "seed", desc := "(I)I" } : Jvm.MethodName)) ∈ lw_gd := gd_3 (List.mem_of_getElem? (i := 107) rfl) rfl
theorem ww_3_108 : (Jvm.Cond.instanceMethod ({ cls := "CrumbsHome", name := "seed", desc := "(I)I" } : Jvm.MethodName)) ∈ lw_gd := gd_3 (List.mem_of_getElem? (i := 108) rfl) rfl
theorem ww_3_109 : (Jvm.Cond.selects "CrumbsHome" ({ cls := "CrumbsHome", name := "seed", desc := "(I)I" } : Jvm.MethodName) ({ cls := "CrumbsHome", name := "seed", desc := "(I)I" } : Jvm.MethodName)) ∈ lw_gd := gd_3 (List.mem_of_getElem? (i := 109) rfl) rfl
theorem ww_3_110 : (Jvm.Cond.code ({ cls := "CrumbsHome", name := "seed", desc := "(I)I" } : Jvm.MethodName) prog_1_method_18_code (3 : Nat) (Option.some Jvm.ClassFile.FieldType.int)) ∈ lw_gd := gd_3 (List.mem_of_getElem? (i := 110) rfl) rfl
theorem ww_3_111 : (Jvm.Cond.methodLink "CrumbsHomeLaw" (88 : Nat) ({ cls := "CrumbsHome", name := "then", desc := "(II)I" } : Jvm.MethodName)) ∈ lw_gd := gd_3 (List.mem_of_getElem? (i := 111) rfl) rfl
theorem ww_3_112 : (Jvm.Cond.instanceMethod ({ cls := "CrumbsHome", name := "then", desc := "(II)I" } : Jvm.MethodName)) ∈ lw_gd := gd_3 (List.mem_of_getElem? (i := 112) rfl) rfl
theorem ww_3_113 : (Jvm.Cond.selects "CrumbsHome" ({ cls := "CrumbsHome", name := "then", desc := "(II)I" } : Jvm.MethodName) ({ cls := "CrumbsHome", name := "then", desc := "(II)I" } : Jvm.MethodName)) ∈ lw_gd := gd_3 (List.mem_of_getElem? (i := 113) rfl) rfl
theorem ww_3_114 : (Jvm.Cond.code ({ cls := "CrumbsHome", name := "then", desc := "(II)I" } : Jvm.MethodName) prog_1_method_19_code (3 : Nat) (Option.some Jvm.ClassFile.FieldType.int)) ∈ lw_gd := gd_3 (List.mem_of_getElem? (i := 114) rfl) rfl
theorem ww_3_115 : (Jvm.Cond.methodLink "CrumbsHome" (208 : Nat) ({ cls := "CrumbsHome", name := "think", desc := "(I)V" } : Jvm.MethodName)) ∈ lw_gd := gd_3 (List.mem_of_getElem? (i := 115) rfl) rfl
theorem ww_3_117 : (Jvm.Cond.instanceMethod ({ cls := "CrumbsHome", name := "think", desc := "(I)V" } : Jvm.MethodName)) ∈ lw_gd := gd_3 (List.mem_of_getElem? (i := 117) rfl) rfl
theorem ww_3_118 : (Jvm.Cond.code ({ cls := "CrumbsHome", name := "think", desc := "(I)V" } : Jvm.MethodName) prog_1_method_54_code (2 : Nat) (Option.none : Option Jvm.ClassFile.FieldType)) ∈ lw_gd := gd_3 (List.mem_of_getElem? (i := 118) rfl) rfl
theorem ww_3_119 : (Jvm.Cond.methodLink "CrumbsHome" (212 : Nat) ({ cls := "CrumbsHome$Harvest", name := "copy", desc := "(LCrumbsHome$Harvest;)V" } : Jvm.MethodName)) ∈ lw_gd := gd_3 (List.mem_of_getElem? (i := 119) rfl) rfl
theorem ww_3_120 : (Jvm.Cond.instanceMethod ({ cls := "CrumbsHome$Harvest", name := "copy", desc := "(LCrumbsHome$Harvest;)V" } : Jvm.MethodName)) ∈ lw_gd := gd_3 (List.mem_of_getElem? (i := 120) rfl) rfl
theorem ww_3_121 : (Jvm.Cond.selects "CrumbsHome$Harvest" ({ cls := "CrumbsHome$Harvest", name := "copy", desc := "(LCrumbsHome$Harvest;)V" } : Jvm.MethodName) ({ cls := "CrumbsHome$Harvest", name := "copy", desc := "(LCrumbsHome$Harvest;)V" } : Jvm.MethodName)) ∈ lw_gd := gd_3 (List.mem_of_getElem? (i := 121) rfl) rfl
theorem ww_3_122 : (Jvm.Cond.code ({ cls := "CrumbsHome$Harvest", name := "copy", desc := "(LCrumbsHome$Harvest;)V" } : Jvm.MethodName) prog_2_method_2_code (2 : Nat) (Option.none : Option Jvm.ClassFile.FieldType)) ∈ lw_gd := gd_3 (List.mem_of_getElem? (i := 122) rfl) rfl
theorem ww_3_123 : (Jvm.Cond.methodLink "CrumbsHome$Harvest" (37 : Nat) ({ cls := "java/lang/System", name := "arraycopy", desc := "(Ljava/lang/Object;ILjava/lang/Object;II)V" } : Jvm.MethodName)) ∈ lw_gd := gd_3 (List.mem_of_getElem? (i := 123) rfl) rfl
theorem ww_3_124 : (Jvm.Cond.methodLink "CrumbsHomeLaw" (92 : Nat) ({ cls := "CrumbsHome", name := "soonest", desc := "(I)I" } : Jvm.MethodName)) ∈ lw_gd := gd_3 (List.mem_of_getElem? (i := 124) rfl) rfl
theorem ww_3_125 : (Jvm.Cond.instanceMethod ({ cls := "CrumbsHome", name := "soonest", desc := "(I)I" } : Jvm.MethodName)) ∈ lw_gd := gd_3 (List.mem_of_getElem? (i := 125) rfl) rfl
theorem ww_3_126 : (Jvm.Cond.selects "CrumbsHome" ({ cls := "CrumbsHome", name := "soonest", desc := "(I)I" } : Jvm.MethodName) ({ cls := "CrumbsHome", name := "soonest", desc := "(I)I" } : Jvm.MethodName)) ∈ lw_gd := gd_3 (List.mem_of_getElem? (i := 126) rfl) rfl
theorem ww_3_127 : (Jvm.Cond.code ({ cls := "CrumbsHome", name := "soonest", desc := "(I)I" } : Jvm.MethodName) prog_1_method_20_code (3 : Nat) (Option.some Jvm.ClassFile.FieldType.int)) ∈ lw_gd := gd_3 (List.mem_of_getElem? (i := 127) rfl) rfl
theorem ww_3_128 : (Jvm.Cond.methodLink "CrumbsHomeLaw" (96 : Nat) ({ cls := "CrumbsHome", name := "gets", desc := "(II)I" } : Jvm.MethodName)) ∈ lw_gd := gd_3 (List.mem_of_getElem? (i := 128) rfl) rfl
theorem ww_3_129 : (Jvm.Cond.instanceMethod ({ cls := "CrumbsHome", name := "gets", desc := "(II)I" } : Jvm.MethodName)) ∈ lw_gd := gd_3 (List.mem_of_getElem? (i := 129) rfl) rfl
theorem ww_3_130 : (Jvm.Cond.selects "CrumbsHome" ({ cls := "CrumbsHome", name := "gets", desc := "(II)I" } : Jvm.MethodName) ({ cls := "CrumbsHome", name := "gets", desc := "(II)I" } : Jvm.MethodName)) ∈ lw_gd := gd_3 (List.mem_of_getElem? (i := 130) rfl) rfl
theorem ww_3_131 : (Jvm.Cond.code ({ cls := "CrumbsHome", name := "gets", desc := "(II)I" } : Jvm.MethodName) prog_1_method_21_code (3 : Nat) (Option.some Jvm.ClassFile.FieldType.int)) ∈ lw_gd := gd_3 (List.mem_of_getElem? (i := 131) rfl) rfl
theorem ww_3_132 : (Jvm.Cond.methodLink "CrumbsHome" (219 : Nat) ({ cls := "CrumbsHome", name := "worthAtHome", desc := "(LCrumbsHome$Harvest;I)I" } : Jvm.MethodName)) ∈ lw_gd := gd_3 (List.mem_of_getElem? (i := 132) rfl) rfl
theorem ww_3_134 : (Jvm.Cond.instanceMethod ({ cls := "CrumbsHome", name := "worthAtHome", desc := "(LCrumbsHome$Harvest;I)I" } : Jvm.MethodName)) ∈ lw_gd := gd_3 (List.mem_of_getElem? (i := 134) rfl) rfl
theorem ww_3_135 : (Jvm.Cond.code ({ cls := "CrumbsHome", name := "worthAtHome", desc := "(LCrumbsHome$Harvest;I)I" } : Jvm.MethodName) prog_1_method_55_code (5 : Nat) (Option.some Jvm.ClassFile.FieldType.int)) ∈ lw_gd := gd_3 (List.mem_of_getElem? (i := 135) rfl) rfl
theorem ww_3_136 : (Jvm.Cond.methodLink "CrumbsHomeLaw" (100 : Nat) ({ cls := "CrumbsHome", name := "carry", desc := "(III)I" } : Jvm.MethodName)) ∈ lw_gd := gd_3 (List.mem_of_getElem? (i := 136) rfl) rfl
theorem ww_3_137 : (Jvm.Cond.instanceMethod ({ cls := "CrumbsHome", name := "carry", desc := "(III)I" } : Jvm.MethodName)) ∈ lw_gd := gd_3 (List.mem_of_getElem? (i := 137) rfl) rfl
theorem ww_3_138 : (Jvm.Cond.selects "CrumbsHome" ({ cls := "CrumbsHome", name := "carry", desc := "(III)I" } : Jvm.MethodName) ({ cls := "CrumbsHome", name := "carry", desc := "(III)I" } : Jvm.MethodName)) ∈ lw_gd := gd_3 (List.mem_of_getElem? (i := 138) rfl) rfl
theorem ww_3_139 : (Jvm.Cond.code ({ cls := "CrumbsHome", name := "carry", desc := "(III)I" } : Jvm.MethodName) prog_1_method_22_code (8 : Nat) (Option.some Jvm.ClassFile.FieldType.int)) ∈ lw_gd := gd_3 (List.mem_of_getElem? (i := 139) rfl) rfl
theorem ww_3_140 : (Jvm.Cond.methodLink "CrumbsHome" (222 : Nat) ({ cls := "CrumbsHome$Harvest", name := "awaySet", desc := "(I)I" } : Jvm.MethodName)) ∈ lw_gd := gd_3 (List.mem_of_getElem? (i := 140) rfl) rfl
theorem ww_3_141 : (Jvm.Cond.instanceMethod ({ cls := "CrumbsHome$Harvest", name := "awaySet", desc := "(I)I" } : Jvm.MethodName)) ∈ lw_gd := gd_3 (List.mem_of_getElem? (i := 141) rfl) rfl
theorem ww_3_142 : (Jvm.Cond.selects "CrumbsHome$Harvest" ({ cls := "CrumbsHome$Harvest", name := "awaySet", desc := "(I)I" } : Jvm.MethodName) ({ cls := "CrumbsHome$Harvest", name := "awaySet", desc := "(I)I" } : Jvm.MethodName)) ∈ lw_gd := gd_3 (List.mem_of_getElem? (i := 142) rfl) rfl
theorem ww_3_143 : (Jvm.Cond.code ({ cls := "CrumbsHome$Harvest", name := "awaySet", desc := "(I)I" } : Jvm.MethodName) prog_2_method_7_code (4 : Nat) (Option.some Jvm.ClassFile.FieldType.int)) ∈ lw_gd := gd_3 (List.mem_of_getElem? (i := 143) rfl) rfl
theorem ww_3_144 : (Jvm.Cond.methodLink "CrumbsHome" (225 : Nat) ({ cls := "CrumbsHome", name := "getsWith", desc := "(III)I" } : Jvm.MethodName)) ∈ lw_gd := gd_3 (List.mem_of_getElem? (i := 144) rfl) rfl
theorem ww_3_146 : (Jvm.Cond.instanceMethod ({ cls := "CrumbsHome", name := "getsWith", desc := "(III)I" } : Jvm.MethodName)) ∈ lw_gd := gd_3 (List.mem_of_getElem? (i := 146) rfl) rfl
theorem ww_3_147 : (Jvm.Cond.code ({ cls := "CrumbsHome", name := "getsWith", desc := "(III)I" } : Jvm.MethodName) prog_1_method_56_code (5 : Nat) (Option.some Jvm.ClassFile.FieldType.int)) ∈ lw_gd := gd_3 (List.mem_of_getElem? (i := 147) rfl) rfl
theorem ww_3_148 : (Jvm.Cond.methodLink "CrumbsHome" (228 : Nat) ({ cls := "java/lang/Integer", name := "bitCount", desc := "(I)I" } : Jvm.MethodName)) ∈ lw_gd := gd_3 (List.mem_of_getElem? (i := 148) rfl) rfl
theorem ww_3_149 : (Jvm.Cond.static ({ cls := "java/lang/Integer", name := "bitCount", desc := "(I)I" } : Jvm.MethodName)) ∈ lw_gd := gd_3 (List.mem_of_getElem? (i := 149) rfl) rfl
theorem ww_3_150 : (Jvm.Cond.code ({ cls := "java/lang/Integer", name := "bitCount", desc := "(I)I" } : Jvm.MethodName) prog_11_method_49_code (1 : Nat) (Option.some Jvm.ClassFile.FieldType.int)) ∈ lw_gd := gd_3 (List.mem_of_getElem? (i := 150) rfl) rfl
theorem ww_3_151 : (Jvm.Cond.constant "java/lang/Integer" (265 : Nat) (1431655765 : Int32)) ∈ lw_gd := gd_3 (List.mem_of_getElem? (i := 151) rfl) rfl
theorem ww_3_152 : (Jvm.Cond.constant "java/lang/Integer" (266 : Nat) (858993459 : Int32)) ∈ lw_gd := gd_3 (List.mem_of_getElem? (i := 152) rfl) rfl
theorem ww_3_153 : (Jvm.Cond.constant "java/lang/Integer" (267 : Nat) (252645135 : Int32)) ∈ lw_gd := gd_3 (List.mem_of_getElem? (i := 153) rfl) rfl
theorem ww_3_154 : (Jvm.Cond.methodLink "CrumbsHomeLaw" (104 : Nat) ({ cls := "CrumbsHome", name := "way", desc := "(II)I" } : Jvm.MethodName)) ∈ lw_gd := gd_3 (List.mem_of_getElem? (i := 154) rfl) rfl
theorem ww_3_155 : (Jvm.Cond.instanceMethod ({ cls := "CrumbsHome", name := "way", desc := "(II)I" } : Jvm.MethodName)) ∈ lw_gd := gd_3 (List.mem_of_getElem? (i := 155) rfl) rfl
theorem ww_3_156 : (Jvm.Cond.selects "CrumbsHome" ({ cls := "CrumbsHome", name := "way", desc := "(II)I" } : Jvm.MethodName) ({ cls := "CrumbsHome", name := "way", desc := "(II)I" } : Jvm.MethodName)) ∈ lw_gd := gd_3 (List.mem_of_getElem? (i := 156) rfl) rfl
theorem ww_3_157 : (Jvm.Cond.code ({ cls := "CrumbsHome", name := "way", desc := "(II)I" } : Jvm.MethodName) prog_1_method_23_code (8 : Nat) (Option.some Jvm.ClassFile.FieldType.int)) ∈ lw_gd := gd_3 (List.mem_of_getElem? (i := 157) rfl) rfl
theorem ww_3_158 : (Jvm.Cond.methodLink "CrumbsHome" (233 : Nat) ({ cls := "CrumbsHome", name := "homeWithWay", desc := "(III)I" } : Jvm.MethodName)) ∈ lw_gd := gd_3 (List.mem_of_getElem? (i := 158) rfl) rfl
theorem ww_3_160 : (Jvm.Cond.instanceMethod ({ cls := "CrumbsHome", name := "homeWithWay", desc := "(III)I" } : Jvm.MethodName)) ∈ lw_gd := gd_3 (List.mem_of_getElem? (i := 160) rfl) rfl
theorem ww_3_161 : (Jvm.Cond.code ({ cls := "CrumbsHome", name := "homeWithWay", desc := "(III)I" } : Jvm.MethodName) prog_1_method_57_code (4 : Nat) (Option.some Jvm.ClassFile.FieldType.int)) ∈ lw_gd := gd_3 (List.mem_of_getElem? (i := 161) rfl) rfl
theorem ww_3_162 : (Jvm.Cond.methodLink "CrumbsHome" (312 : Nat) ({ cls := "CrumbsHome$Roads", name := "copy", desc := "(LCrumbsHome$Roads;)V" } : Jvm.MethodName)) ∈ lw_gd := gd_3 (List.mem_of_getElem? (i := 162) rfl) rfl
theorem ww_3_163 : (Jvm.Cond.instanceMethod ({ cls := "CrumbsHome$Roads", name := "copy", desc := "(LCrumbsHome$Roads;)V" } : Jvm.MethodName)) ∈ lw_gd := gd_3 (List.mem_of_getElem? (i := 163) rfl) rfl
theorem ww_3_164 : (Jvm.Cond.selects "CrumbsHome$Roads" ({ cls := "CrumbsHome$Roads", name := "copy", desc := "(LCrumbsHome$Roads;)V" } : Jvm.MethodName) ({ cls := "CrumbsHome$Roads", name := "copy", desc := "(LCrumbsHome$Roads;)V" } : Jvm.MethodName)) ∈ lw_gd := gd_3 (List.mem_of_getElem? (i := 164) rfl) rfl
theorem ww_3_165 : (Jvm.Cond.code ({ cls := "CrumbsHome$Roads", name := "copy", desc := "(LCrumbsHome$Roads;)V" } : Jvm.MethodName) prog_5_method_2_code (2 : Nat) (Option.none : Option Jvm.ClassFile.FieldType)) ∈ lw_gd := gd_3 (List.mem_of_getElem? (i := 165) rfl) rfl
theorem ww_3_166 : (Jvm.Cond.methodLink "CrumbsHome$Roads" (21 : Nat) ({ cls := "java/lang/System", name := "arraycopy", desc := "(Ljava/lang/Object;ILjava/lang/Object;II)V" } : Jvm.MethodName)) ∈ lw_gd := gd_3 (List.mem_of_getElem? (i := 166) rfl) rfl
theorem ww_3_167 : (Jvm.Cond.methodLink "CrumbsHomeLaw" (108 : Nat) ({ cls := "CrumbsHome", name := "odds", desc := "(II)I" } : Jvm.MethodName)) ∈ lw_gd := gd_3 (List.mem_of_getElem? (i := 167) rfl) rfl
theorem ww_3_168 : (Jvm.Cond.instanceMethod ({ cls := "CrumbsHome", name := "odds", desc := "(II)I" } : Jvm.MethodName)) ∈ lw_gd := gd_3 (List.mem_of_getElem? (i := 168) rfl) rfl
theorem ww_3_169 : (Jvm.Cond.selects "CrumbsHome" ({ cls := "CrumbsHome", name := "odds", desc := "(II)I" } : Jvm.MethodName) ({ cls := "CrumbsHome", name := "odds", desc := "(II)I" } : Jvm.MethodName)) ∈ lw_gd := gd_3 (List.mem_of_getElem? (i := 169) rfl) rfl
theorem ww_3_170 : (Jvm.Cond.code ({ cls := "CrumbsHome", name := "odds", desc := "(II)I" } : Jvm.MethodName) prog_1_method_24_code (6 : Nat) (Option.some Jvm.ClassFile.FieldType.int)) ∈ lw_gd := gd_3 (List.mem_of_getElem? (i := 170) rfl) rfl
theorem ww_3_171 : (Jvm.Cond.methodLink "CrumbsHome" (236 : Nat) ({ cls := "CrumbsHome", name := "greatestDivisor", desc := "(II)I" } : Jvm.MethodName)) ∈ lw_gd := gd_3 (List.mem_of_getElem? (i := 171) rfl) rfl
theorem ww_3_172 : (Jvm.Cond.static ({ cls := "CrumbsHome", name := "greatestDivisor", desc := "(II)I" } : Jvm.MethodName)) ∈ lw_gd := gd_3 (List.mem_of_getElem? (i := 172) rfl) rfl
theorem ww_3_173 : (Jvm.Cond.code ({ cls := "CrumbsHome", name := "greatestDivisor", desc := "(II)I" } : Jvm.MethodName) prog_1_method_47_code (3 : Nat) (Option.some Jvm.ClassFile.FieldType.int)) ∈ lw_gd := gd_3 (List.mem_of_getElem? (i := 173) rfl) rfl
theorem ww_3_174 : (Jvm.Cond.methodLink "CrumbsHome" (288 : Nat) ({ cls := "java/lang/Math", name := "max", desc := "(II)I" } : Jvm.MethodName)) ∈ lw_gd := gd_3 (List.mem_of_getElem? (i := 174) rfl) rfl
theorem ww_3_175 : (Jvm.Cond.methodLink "CrumbsHomeLaw" (112 : Nat) ({ cls := "CrumbsHome", name := "whose", desc := "(III)I" } : Jvm.MethodName)) ∈ lw_gd := gd_3 (List.mem_of_getElem? (i := 175) rfl) rfl
theorem ww_3_176 : (Jvm.Cond.instanceMethod ({ cls := "CrumbsHome", name := "whose", desc := "(III)I" } : Jvm.MethodName)) ∈ lw_gd := gd_3 (List.mem_of_getElem? (i := 176) rfl) rfl
theorem ww_3_177 : (Jvm.Cond.selects "CrumbsHome" ({ cls := "CrumbsHome", name := "whose", desc := "(III)I" } : Jvm.MethodName) ({ cls := "CrumbsHome", name := "whose", desc := "(III)I" } : Jvm.MethodName)) ∈ lw_gd := gd_3 (List.mem_of_getElem? (i := 177) rfl) rfl
theorem ww_3_178 : (Jvm.Cond.code ({ cls := "CrumbsHome", name := "whose", desc := "(III)I" } : Jvm.MethodName) prog_1_method_25_code (6 : Nat) (Option.some Jvm.ClassFile.FieldType.int)) ∈ lw_gd := gd_3 (List.mem_of_getElem? (i := 178) rfl) rfl
theorem ww_3_179 : (Jvm.Cond.methodLink "CrumbsHome" (239 : Nat) ({ cls := "CrumbsHome", name := "isSheet", desc := "(I)Z" } : Jvm.MethodName)) ∈ lw_gd := gd_3 (List.mem_of_getElem? (i := 179) rfl) rfl
theorem ww_3_180 : (Jvm.Cond.static ({ cls := "CrumbsHome", name := "isSheet", desc := "(I)Z" } : Jvm.MethodName)) ∈ lw_gd := gd_3 (List.mem_of_getElem? (i := 180) rfl) rfl
theorem ww_3_181 : (Jvm.Cond.code ({ cls := "CrumbsHome", name := "isSheet", desc := "(I)Z" } : Jvm.MethodName) prog_1_method_45_code (1 : Nat) (Option.some Jvm.ClassFile.FieldType.boolean)) ∈ lw_gd := gd_3 (List.mem_of_getElem? (i := 181) rfl) rfl
theorem ww_3_182 : (Jvm.Cond.methodLink "CrumbsHome" (242 : Nat) ({ cls := "CrumbsHome$Sheets", name := "isMissing", desc := "(I)Z" } : Jvm.MethodName)) ∈ lw_gd := gd_3 (List.mem_of_getElem? (i := 182) rfl) rfl
theorem ww_3_183 : (Jvm.Cond.instanceMethod ({ cls := "CrumbsHome$Sheets", name := "isMissing", desc := "(I)Z" } : Jvm.MethodName)) ∈ lw_gd := gd_3 (List.mem_of_getElem? (i := 183) rfl) rfl
theorem ww_3_184 : (Jvm.Cond.selects "CrumbsHome$Sheets" ({ cls := "CrumbsHome$Sheets", name := "isMissing", desc := "(I)Z" } : Jvm.MethodName) ({ cls := "CrumbsHome$Sheets", name := "isMissing", desc := "(I)Z" } : Jvm.MethodName)) ∈ lw_gd := gd_3 (List.mem_of_getElem? (i := 184) rfl) rfl
theorem ww_3_185 : (Jvm.Cond.code ({ cls := "CrumbsHome$Sheets", name := "isMissing", desc := "(I)Z" } : Jvm.MethodName) prog_6_method_2_code (2 : Nat) (Option.some Jvm.ClassFile.FieldType.boolean)) ∈ lw_gd := gd_3 (List.mem_of_getElem? (i := 185) rfl) rfl
theorem ww_3_186 : (Jvm.Cond.methodLink "CrumbsHome" (245 : Nat) ({ cls := "CrumbsHome", name := "wouldWarmSo", desc := "(III)Z" } : Jvm.MethodName)) ∈ lw_gd := gd_3 (List.mem_of_getElem? (i := 186) rfl) rfl
theorem ww_3_188 : (Jvm.Cond.instanceMethod ({ cls := "CrumbsHome", name := "wouldWarmSo", desc := "(III)Z" } : Jvm.MethodName)) ∈ lw_gd := gd_3 (List.mem_of_getElem? (i := 188) rfl) rfl
theorem ww_3_189 : (Jvm.Cond.code ({ cls := "CrumbsHome", name := "wouldWarmSo", desc := "(III)Z" } : Jvm.MethodName) prog_1_method_58_code (5 : Nat) (Option.some Jvm.ClassFile.FieldType.boolean)) ∈ lw_gd := gd_3 (List.mem_of_getElem? (i := 189) rfl) rfl
theorem ww_3_190 : (Jvm.Cond.methodLink "CrumbsHome" (272 : Nat) ({ cls := "CrumbsHome$Sheets", name := "number", desc := "(II)I" } : Jvm.MethodName)) ∈ lw_gd := gd_3 (List.mem_of_getElem? (i := 190) rfl) rfl
theorem ww_3_191 : (Jvm.Cond.instanceMethod ({ cls := "CrumbsHome$Sheets", name := "number", desc := "(II)I" } : Jvm.MethodName)) ∈ lw_gd := gd_3 (List.mem_of_getElem? (i := 191) rfl) rfl
theorem ww_3_192 : (Jvm.Cond.selects "CrumbsHome$Sheets" ({ cls := "CrumbsHome$Sheets", name := "number", desc := "(II)I" } : Jvm.MethodName) ({ cls := "CrumbsHome$Sheets", name := "number", desc := "(II)I" } : Jvm.MethodName)) ∈ lw_gd := gd_3 (List.mem_of_getElem? (i := 192) rfl) rfl
theorem ww_3_193 : (Jvm.Cond.code ({ cls := "CrumbsHome$Sheets", name := "number", desc := "(II)I" } : Jvm.MethodName) prog_6_method_4_code (3 : Nat) (Option.some Jvm.ClassFile.FieldType.int)) ∈ lw_gd := gd_3 (List.mem_of_getElem? (i := 193) rfl) rfl
theorem ww_3_194 : (Jvm.Cond.methodLink "CrumbsHomeLaw" (116 : Nat) ({ cls := "CrumbsHome", name := "voice", desc := "(III)I" } : Jvm.MethodName)) ∈ lw_gd := gd_3 (List.mem_of_getElem? (i := 194) rfl) rfl
theorem ww_3_195 : (Jvm.Cond.instanceMethod ({ cls := "CrumbsHome", name := "voice", desc := "(III)I" } : Jvm.MethodName)) ∈ lw_gd := gd_3 (List.mem_of_getElem? (i := 195) rfl) rfl
theorem ww_3_196 : (Jvm.Cond.selects "CrumbsHome" ({ cls := "CrumbsHome", name := "voice", desc := "(III)I" } : Jvm.MethodName) ({ cls := "CrumbsHome", name := "voice", desc := "(III)I" } : Jvm.MethodName)) ∈ lw_gd := gd_3 (List.mem_of_getElem? (i := 196) rfl) rfl
theorem ww_3_197 : (Jvm.Cond.code ({ cls := "CrumbsHome", name := "voice", desc := "(III)I" } : Jvm.MethodName) prog_1_method_26_code (5 : Nat) (Option.some Jvm.ClassFile.FieldType.int)) ∈ lw_gd := gd_3 (List.mem_of_getElem? (i := 197) rfl) rfl
theorem ww_3_198 : (Jvm.Cond.methodLink "CrumbsHome" (249 : Nat) ({ cls := "CrumbsHome", name := "say", desc := "(IIIII)I" } : Jvm.MethodName)) ∈ lw_gd := gd_3 (List.mem_of_getElem? (i := 198) rfl) rfl
theorem ww_3_200 : (Jvm.Cond.instanceMethod ({ cls := "CrumbsHome", name := "say", desc := "(IIIII)I" } : Jvm.MethodName)) ∈ lw_gd := gd_3 (List.mem_of_getElem? (i := 200) rfl) rfl
theorem ww_3_201 : (Jvm.Cond.code ({ cls := "CrumbsHome", name := "say", desc := "(IIIII)I" } : Jvm.MethodName) prog_1_method_59_code (8 : Nat) (Option.some Jvm.ClassFile.FieldType.int)) ∈ lw_gd := gd_3 (List.mem_of_getElem? (i := 201) rfl) rfl
theorem ww_3_202 : (Jvm.Cond.fieldLink "CrumbsHome" (315 : Nat) "CrumbsHome" "BODIES" "[I") ∈ lw_gd := gd_3 (List.mem_of_getElem? (i := 202) rfl) rfl
theorem ww_3_204 : (Jvm.Cond.methodLink "CrumbsHome" (318 : Nat) ({ cls := "CrumbsHome", name := "sayBody", desc := "(IIIII)I" } : Jvm.MethodName)) ∈ lw_gd := gd_3 (List.mem_of_getElem? (i := 204) rfl) rfl
theorem ww_3_206 : (Jvm.Cond.instanceMethod ({ cls := "CrumbsHome", name := "sayBody", desc := "(IIIII)I" } : Jvm.MethodName)) ∈ lw_gd := gd_3 (List.mem_of_getElem? (i := 206) rfl) rfl
theorem ww_3_207 : (Jvm.Cond.code ({ cls := "CrumbsHome", name := "sayBody", desc := "(IIIII)I" } : Jvm.MethodName) prog_1_method_60_code (8 : Nat) (Option.some Jvm.ClassFile.FieldType.int)) ∈ lw_gd := gd_3 (List.mem_of_getElem? (i := 207) rfl) rfl
theorem ww_3_208 : (Jvm.Cond.methodLink "CrumbsHome" (321 : Nat) ({ cls := "CrumbsHome", name := "partsOf", desc := "(II)I" } : Jvm.MethodName)) ∈ lw_gd := gd_3 (List.mem_of_getElem? (i := 208) rfl) rfl
theorem ww_3_210 : (Jvm.Cond.instanceMethod ({ cls := "CrumbsHome", name := "partsOf", desc := "(II)I" } : Jvm.MethodName)) ∈ lw_gd := gd_3 (List.mem_of_getElem? (i := 210) rfl) rfl
theorem ww_3_211 : (Jvm.Cond.code ({ cls := "CrumbsHome", name := "partsOf", desc := "(II)I" } : Jvm.MethodName) prog_1_method_61_code (3 : Nat) (Option.some Jvm.ClassFile.FieldType.int)) ∈ lw_gd := gd_3 (List.mem_of_getElem? (i := 211) rfl) rfl
theorem ww_3_212 : (Jvm.Cond.methodLink "CrumbsHomeLaw" (120 : Nat) ({ cls := "CrumbsHome", name := "body", desc := "(I)I" } : Jvm.MethodName)) ∈ lw_gd := gd_3 (List.mem_of_getElem? (i := 212) rfl) rfl
theorem ww_3_213 : (Jvm.Cond.instanceMethod ({ cls := "CrumbsHome", name := "body", desc := "(I)I" } : Jvm.MethodName)) ∈ lw_gd := gd_3 (List.mem_of_getElem? (i := 213) rfl) rfl
theorem ww_3_214 : (Jvm.Cond.selects "CrumbsHome" ({ cls := "CrumbsHome", name := "body", desc := "(I)I" } : Jvm.MethodName) ({ cls := "CrumbsHome", name := "body", desc := "(I)I" } : Jvm.MethodName)) ∈ lw_gd := gd_3 (List.mem_of_getElem? (i := 214) rfl) rfl
theorem ww_3_215 : (Jvm.Cond.code ({ cls := "CrumbsHome", name := "body", desc := "(I)I" } : Jvm.MethodName) prog_1_method_27_code (2 : Nat) (Option.some Jvm.ClassFile.FieldType.int)) ∈ lw_gd := gd_3 (List.mem_of_getElem? (i := 215) rfl) rfl
theorem ww_3_216 : (Jvm.Cond.methodLink "CrumbsHomeLaw" (124 : Nat) ({ cls := "CrumbsHome", name := "sheet", desc := "(III)I" } : Jvm.MethodName)) ∈ lw_gd := gd_3 (List.mem_of_getElem? (i := 216) rfl) rfl
theorem ww_3_217 : (Jvm.Cond.instanceMethod ({ cls := "CrumbsHome", name := "sheet", desc := "(III)I" } : Jvm.MethodName)) ∈ lw_gd := gd_3 (List.mem_of_getElem? (i := 217) rfl) rfl
theorem ww_3_218 : (Jvm.Cond.selects "CrumbsHome" ({ cls := "CrumbsHome", name := "sheet", desc := "(III)I" } : Jvm.MethodName) ({ cls := "CrumbsHome", name := "sheet", desc := "(III)I" } : Jvm.MethodName)) ∈ lw_gd := gd_3 (List.mem_of_getElem? (i := 218) rfl) rfl
theorem ww_3_219 : (Jvm.Cond.code ({ cls := "CrumbsHome", name := "sheet", desc := "(III)I" } : Jvm.MethodName) prog_1_method_28_code (5 : Nat) (Option.some Jvm.ClassFile.FieldType.int)) ∈ lw_gd := gd_3 (List.mem_of_getElem? (i := 219) rfl) rfl
theorem ww_3_220 : (Jvm.Cond.methodLink "CrumbsHome" (253 : Nat) ({ cls := "CrumbsHome$Sheets", name := "make", desc := "(III)V" } : Jvm.MethodName)) ∈ lw_gd := gd_3 (List.mem_of_getElem? (i := 220) rfl) rfl
theorem ww_3_221 : (Jvm.Cond.instanceMethod ({ cls := "CrumbsHome$Sheets", name := "make", desc := "(III)V" } : Jvm.MethodName)) ∈ lw_gd := gd_3 (List.mem_of_getElem? (i := 221) rfl) rfl
theorem ww_3_222 : (Jvm.Cond.selects "CrumbsHome$Sheets" ({ cls := "CrumbsHome$Sheets", name := "make", desc := "(III)V" } : Jvm.MethodName) ({ cls := "CrumbsHome$Sheets", name := "make", desc := "(III)V" } : Jvm.MethodName)) ∈ lw_gd := gd_3 (List.mem_of_getElem? (i := 222) rfl) rfl
theorem ww_3_223 : (Jvm.Cond.code ({ cls := "CrumbsHome$Sheets", name := "make", desc := "(III)V" } : Jvm.MethodName) prog_6_method_3_code (5 : Nat) (Option.none : Option Jvm.ClassFile.FieldType)) ∈ lw_gd := gd_3 (List.mem_of_getElem? (i := 223) rfl) rfl
theorem ww_3_224 : (Jvm.Cond.methodLink "CrumbsHomeLaw" (128 : Nat) ({ cls := "CrumbsHome", name := "put", desc := "(III)I" } : Jvm.MethodName)) ∈ lw_gd := gd_3 (List.mem_of_getElem? (i := 224) rfl) rfl
theorem ww_3_225 : (Jvm.Cond.instanceMethod ({ cls := "CrumbsHome", name := "put", desc := "(III)I" } : Jvm.MethodName)) ∈ lw_gd := gd_3 (List.mem_of_getElem? (i := 225) rfl) rfl
theorem ww_3_226 : (Jvm.Cond.selects "CrumbsHome" ({ cls := "CrumbsHome", name := "put", desc := "(III)I" } : Jvm.MethodName) ({ cls := "CrumbsHome", name := "put", desc := "(III)I" } : Jvm.MethodName)) ∈ lw_gd := gd_3 (List.mem_of_getElem? (i := 226) rfl) rfl
theorem ww_3_227 : (Jvm.Cond.code ({ cls := "CrumbsHome", name := "put", desc := "(III)I" } : Jvm.MethodName) prog_1_method_29_code (4 : Nat) (Option.some Jvm.ClassFile.FieldType.int)) ∈ lw_gd := gd_3 (List.mem_of_getElem? (i := 227) rfl) rfl
theorem ww_3_228 : (Jvm.Cond.methodLink "CrumbsHome" (259 : Nat) ({ cls := "CrumbsHome$Sheets", name := "write", desc := "(III)V" } : Jvm.MethodName)) ∈ lw_gd := gd_3 (List.mem_of_getElem? (i := 228) rfl) rfl
theorem ww_3_229 : (Jvm.Cond.instanceMethod ({ cls := "CrumbsHome$Sheets", name := "write", desc := "(III)V" } : Jvm.MethodName)) ∈ lw_gd := gd_3 (List.mem_of_getElem? (i := 229) rfl) rfl
theorem ww_3_230 : (Jvm.Cond.selects "CrumbsHome$Sheets" ({ cls := "CrumbsHome$Sheets", name := "write", desc := "(III)V" } : Jvm.MethodName) ({ cls := "CrumbsHome$Sheets", name := "write", desc := "(III)V" } : Jvm.MethodName)) ∈ lw_gd := gd_3 (List.mem_of_getElem? (i := 230) rfl) rfl
theorem ww_3_231 : (Jvm.Cond.code ({ cls := "CrumbsHome$Sheets", name := "write", desc := "(III)V" } : Jvm.MethodName) prog_6_method_5_code (5 : Nat) (Option.none : Option Jvm.ClassFile.FieldType)) ∈ lw_gd := gd_3 (List.mem_of_getElem? (i := 231) rfl) rfl
theorem ww_3_232 : (Jvm.Cond.methodLink "CrumbsHomeLaw" (132 : Nat) ({ cls := "CrumbsHome", name := "move", desc := "(IIIII)I" } : Jvm.MethodName)) ∈ lw_gd := gd_3 (List.mem_of_getElem? (i := 232) rfl) rfl
theorem ww_3_233 : (Jvm.Cond.instanceMethod ({ cls := "CrumbsHome", name := "move", desc := "(IIIII)I" } : Jvm.MethodName)) ∈ lw_gd := gd_3 (List.mem_of_getElem? (i := 233) rfl) rfl
theorem ww_3_234 : (Jvm.Cond.selects "CrumbsHome" ({ cls := "CrumbsHome", name := "move", desc := "(IIIII)I" } : Jvm.MethodName) ({ cls := "CrumbsHome", name := "move", desc := "(IIIII)I" } : Jvm.MethodName)) ∈ lw_gd := gd_3 (List.mem_of_getElem? (i := 234) rfl) rfl
theorem ww_3_235 : (Jvm.Cond.code ({ cls := "CrumbsHome", name := "move", desc := "(IIIII)I" } : Jvm.MethodName) prog_1_method_30_code (6 : Nat) (Option.some Jvm.ClassFile.FieldType.int)) ∈ lw_gd := gd_3 (List.mem_of_getElem? (i := 235) rfl) rfl
theorem ww_3_236 : (Jvm.Cond.methodLink "CrumbsHome" (265 : Nat) ({ cls := "CrumbsHome$Sheets", name := "stands", desc := "(III)Z" } : Jvm.MethodName)) ∈ lw_gd := gd_3 (List.mem_of_getElem? (i := 236) rfl) rfl
theorem ww_3_237 : (Jvm.Cond.instanceMethod ({ cls := "CrumbsHome$Sheets", name := "stands", desc := "(III)Z" } : Jvm.MethodName)) ∈ lw_gd := gd_3 (List.mem_of_getElem? (i := 237) rfl) rfl
theorem ww_3_238 : (Jvm.Cond.selects "CrumbsHome$Sheets" ({ cls := "CrumbsHome$Sheets", name := "stands", desc := "(III)Z" } : Jvm.MethodName) ({ cls := "CrumbsHome$Sheets", name := "stands", desc := "(III)Z" } : Jvm.MethodName)) ∈ lw_gd := gd_3 (List.mem_of_getElem? (i := 238) rfl) rfl
theorem ww_3_239 : (Jvm.Cond.code ({ cls := "CrumbsHome$Sheets", name := "stands", desc := "(III)Z" } : Jvm.MethodName) prog_6_method_6_code (4 : Nat) (Option.some Jvm.ClassFile.FieldType.boolean)) ∈ lw_gd := gd_3 (List.mem_of_getElem? (i := 239) rfl) rfl
theorem ww_4_0 : (Jvm.Cond.methodLink "CrumbsHome" (268 : Nat) ({ cls := "CrumbsHome$Sheets", name := "shift", desc := "(IIIII)V" } : Jvm.MethodName)) ∈ lw_gd := gd_4 (List.mem_of_getElem? (i := 0) rfl) rfl
theorem ww_4_1 : (Jvm.Cond.instanceMethod ({ cls := "CrumbsHome$Sheets", name := "shift", desc := "(IIIII)V" } : Jvm.MethodName)) ∈ lw_gd := gd_4 (List.mem_of_getElem? (i := 1) rfl) rfl
theorem ww_4_2 : (Jvm.Cond.selects "CrumbsHome$Sheets" ({ cls := "CrumbsHome$Sheets", name := "shift", desc := "(IIIII)V" } : Jvm.MethodName) ({ cls := "CrumbsHome$Sheets", name := "shift", desc := "(IIIII)V" } : Jvm.MethodName)) ∈ lw_gd := gd_4 (List.mem_of_getElem? (i := 2) rfl) rfl
theorem ww_4_3 : (Jvm.Cond.code ({ cls := "CrumbsHome$Sheets", name := "shift", desc := "(IIIII)V" } : Jvm.MethodName) prog_6_method_7_code (6 : Nat) (Option.none : Option Jvm.ClassFile.FieldType)) ∈ lw_gd := gd_4 (List.mem_of_getElem? (i := 3) rfl) rfl
theorem ww_4_4 : (Jvm.Cond.methodLink "CrumbsHome$Sheets" (19 : Nat) ({ cls := "java/lang/System", name := "arraycopy", desc := "(Ljava/lang/Object;ILjava/lang/Object;II)V" } : Jvm.MethodName)) ∈ lw_gd := gd_4 (List.mem_of_getElem? (i := 4) rfl) rfl
theorem ww_4_5 : (Jvm.Cond.methodLink "CrumbsHomeLaw" (137 : Nat) ({ cls := "CrumbsHome", name := "lays", desc := "(I)I" } : Jvm.MethodName)) ∈ lw_gd := gd_4 (List.mem_of_getElem? (i := 5) rfl) rfl
theorem ww_4_6 : (Jvm.Cond.instanceMethod ({ cls := "CrumbsHome", name := "lays", desc := "(I)I" } : Jvm.MethodName)) ∈ lw_gd := gd_4 (List.mem_of_getElem? (i := 6) rfl) rfl
theorem ww_4_7 : (Jvm.Cond.selects "CrumbsHome" ({ cls := "CrumbsHome", name := "lays", desc := "(I)I" } : Jvm.MethodName) ({ cls := "CrumbsHome", name := "lays", desc := "(I)I" } : Jvm.MethodName)) ∈ lw_gd := gd_4 (List.mem_of_getElem? (i := 7) rfl) rfl
theorem ww_4_8 : (Jvm.Cond.code ({ cls := "CrumbsHome", name := "lays", desc := "(I)I" } : Jvm.MethodName) prog_1_method_31_code (3 : Nat) (Option.some Jvm.ClassFile.FieldType.int)) ∈ lw_gd := gd_4 (List.mem_of_getElem? (i := 8) rfl) rfl
theorem ww_4_9 : (Jvm.Cond.methodLink "CrumbsHomeLaw" (141 : Nat) ({ cls := "CrumbsHome", name := "judge", desc := "(I)I" } : Jvm.MethodName)) ∈ lw_gd := gd_4 (List.mem_of_getElem? (i := 9) rfl) rfl
theorem ww_4_10 : (Jvm.Cond.instanceMethod ({ cls := "CrumbsHome", name := "judge", desc := "(I)I" } : Jvm.MethodName)) ∈ lw_gd := gd_4 (List.mem_of_getElem? (i := 10) rfl) rfl
theorem ww_4_11 : (Jvm.Cond.selects "CrumbsHome" ({ cls := "CrumbsHome", name := "judge", desc := "(I)I" } : Jvm.MethodName) ({ cls := "CrumbsHome", name := "judge", desc := "(I)I" } : Jvm.MethodName)) ∈ lw_gd := gd_4 (List.mem_of_getElem? (i := 11) rfl) rfl
theorem ww_4_12 : (Jvm.Cond.code ({ cls := "CrumbsHome", name := "judge", desc := "(I)I" } : Jvm.MethodName) prog_1_method_32_code (3 : Nat) (Option.some Jvm.ClassFile.FieldType.int)) ∈ lw_gd := gd_4 (List.mem_of_getElem? (i := 12) rfl) rfl
theorem ww_4_13 : (Jvm.Cond.methodLink "CrumbsHomeLaw" (145 : Nat) ({ cls := "CrumbsHome", name := "image", desc := "()I" } : Jvm.MethodName)) ∈ lw_gd := gd_4 (List.mem_of_getElem? (i := 13) rfl) rfl
theorem ww_4_14 : (Jvm.Cond.instanceMethod ({ cls := "CrumbsHome", name := "image", desc := "()I" } : Jvm.MethodName)) ∈ lw_gd := gd_4 (List.mem_of_getElem? (i := 14) rfl) rfl
theorem ww_4_15 : (Jvm.Cond.selects "CrumbsHome" ({ cls := "CrumbsHome", name := "image", desc := "()I" } : Jvm.MethodName) ({ cls := "CrumbsHome", name := "image", desc := "()I" } : Jvm.MethodName)) ∈ lw_gd := gd_4 (List.mem_of_getElem? (i := 15) rfl) rfl
theorem ww_4_16 : (Jvm.Cond.code ({ cls := "CrumbsHome", name := "image", desc := "()I" } : Jvm.MethodName) prog_1_method_33_code (1 : Nat) (Option.some Jvm.ClassFile.FieldType.int)) ∈ lw_gd := gd_4 (List.mem_of_getElem? (i := 16) rfl) rfl
theorem ww_4_17 : (Jvm.Cond.methodLink "CrumbsHome" (275 : Nat) ({ cls := "CrumbsHome$World", name := "copy", desc := "(LCrumbsHome$World;)V" } : Jvm.MethodName)) ∈ lw_gd := gd_4 (List.mem_of_getElem? (i := 17) rfl) rfl
theorem ww_4_18 : (Jvm.Cond.instanceMethod ({ cls := "CrumbsHome$World", name := "copy", desc := "(LCrumbsHome$World;)V" } : Jvm.MethodName)) ∈ lw_gd := gd_4 (List.mem_of_getElem? (i := 18) rfl) rfl
theorem ww_4_19 : (Jvm.Cond.selects "CrumbsHome$World" ({ cls := "CrumbsHome$World", name := "copy", desc := "(LCrumbsHome$World;)V" } : Jvm.MethodName) ({ cls := "CrumbsHome$World", name := "copy", desc := "(LCrumbsHome$World;)V" } : Jvm.MethodName)) ∈ lw_gd := gd_4 (List.mem_of_getElem? (i := 19) rfl) rfl
theorem ww_4_20 : (Jvm.Cond.code ({ cls := "CrumbsHome$World", name := "copy", desc := "(LCrumbsHome$World;)V" } : Jvm.MethodName) prog_7_method_2_code (2 : Nat) (Option.none : Option Jvm.ClassFile.FieldType)) ∈ lw_gd := gd_4 (List.mem_of_getElem? (i := 20) rfl) rfl
theorem ww_4_21 : (Jvm.Cond.methodLink "CrumbsHome$World" (58 : Nat) ({ cls := "CrumbsHome$Roads", name := "copy", desc := "(LCrumbsHome$Roads;)V" } : Jvm.MethodName)) ∈ lw_gd := gd_4 (List.mem_of_getElem? (i := 21) rfl) rfl
theorem ww_4_22 : (Jvm.Cond.methodLink "CrumbsHome$World" (62 : Nat) ({ cls := "CrumbsHome$Harvest", name := "copy", desc := "(LCrumbsHome$Harvest;)V" } : Jvm.MethodName)) ∈ lw_gd := gd_4 (List.mem_of_getElem? (i := 22) rfl) rfl
theorem ww_4_23 : (Jvm.Cond.methodLink "CrumbsHome$World" (71 : Nat) ({ cls := "CrumbsHome$Law", name := "take", desc := "([II)V" } : Jvm.MethodName)) ∈ lw_gd := gd_4 (List.mem_of_getElem? (i := 23) rfl) rfl
theorem ww_4_24 : (Jvm.Cond.methodLink "CrumbsHome$World" (75 : Nat) ({ cls := "java/lang/System", name := "arraycopy", desc := "(Ljava/lang/Object;ILjava/lang/Object;II)V" } : Jvm.MethodName)) ∈ lw_gd := gd_4 (List.mem_of_getElem? (i := 24) rfl) rfl
theorem ww_4_25 : (Jvm.Cond.methodLink "CrumbsHomeLaw" (150 : Nat) ({ cls := "CrumbsHome", name := "restore", desc := "()I" } : Jvm.MethodName)) ∈ lw_gd := gd_4 (List.mem_of_getElem? (i := 25) rfl) rfl
theorem ww_4_26 : (Jvm.Cond.instanceMethod ({ cls := "CrumbsHome", name := "restore", desc := "()I" } : Jvm.MethodName)) ∈ lw_gd := gd_4 (List.mem_of_getElem? (i := 26) rfl) rfl
theorem ww_4_27 : (Jvm.Cond.selects "CrumbsHome" ({ cls := "CrumbsHome", name := "restore", desc := "()I" } : Jvm.MethodName) ({ cls := "CrumbsHome", name := "restore", desc := "()I" } : Jvm.MethodName)) ∈ lw_gd := gd_4 (List.mem_of_getElem? (i := 27) rfl) rfl
theorem ww_4_28 : (Jvm.Cond.code ({ cls := "CrumbsHome", name := "restore", desc := "()I" } : Jvm.MethodName) prog_1_method_34_code (1 : Nat) (Option.some Jvm.ClassFile.FieldType.int)) ∈ lw_gd := gd_4 (List.mem_of_getElem? (i := 28) rfl) rfl
theorem ww_4_29 : (Jvm.Cond.methodLink "CrumbsHomeLaw" (154 : Nat) ({ cls := "CrumbsHome", name := "tell", desc := "(I)I" } : Jvm.MethodName)) ∈ lw_gd := gd_4 (List.mem_of_getElem? (i := 29) rfl) rfl
theorem ww_4_30 : (Jvm.Cond.instanceMethod ({ cls := "CrumbsHome", name := "tell", desc := "(I)I" } : Jvm.MethodName)) ∈ lw_gd := gd_4 (List.mem_of_getElem? (i := 30) rfl) rfl
theorem ww_4_31 : (Jvm.Cond.selects "CrumbsHome" ({ cls := "CrumbsHome", name := "tell", desc := "(I)I" } : Jvm.MethodName) ({ cls := "CrumbsHome", name := "tell", desc := "(I)I" } : Jvm.MethodName)) ∈ lw_gd := gd_4 (List.mem_of_getElem? (i := 31) rfl) rfl
theorem ww_4_32 : (Jvm.Cond.code ({ cls := "CrumbsHome", name := "tell", desc := "(I)I" } : Jvm.MethodName) prog_1_method_35_code (2 : Nat) (Option.some Jvm.ClassFile.FieldType.int)) ∈ lw_gd := gd_4 (List.mem_of_getElem? (i := 32) rfl) rfl
theorem ww_4_33 : (Jvm.Cond.methodLink "CrumbsHomeLaw" (158 : Nat) ({ cls := "CrumbsHome", name := "check", desc := "()I" } : Jvm.MethodName)) ∈ lw_gd := gd_4 (List.mem_of_getElem? (i := 33) rfl) rfl
theorem ww_4_34 : (Jvm.Cond.instanceMethod ({ cls := "CrumbsHome", name := "check", desc := "()I" } : Jvm.MethodName)) ∈ lw_gd := gd_4 (List.mem_of_getElem? (i := 34) rfl) rfl
theorem ww_4_35 : (Jvm.Cond.selects "CrumbsHome" ({ cls := "CrumbsHome", name := "check", desc := "()I" } : Jvm.MethodName) ({ cls := "CrumbsHome", name := "check", desc := "()I" } : Jvm.MethodName)) ∈ lw_gd := gd_4 (List.mem_of_getElem? (i := 35) rfl) rfl
theorem ww_4_36 : (Jvm.Cond.code ({ cls := "CrumbsHome", name := "check", desc := "()I" } : Jvm.MethodName) prog_1_method_36_code (3 : Nat) (Option.some Jvm.ClassFile.FieldType.int)) ∈ lw_gd := gd_4 (List.mem_of_getElem? (i := 36) rfl) rfl
theorem ww_4_37 : (Jvm.Cond.methodLink "CrumbsHomeLaw" (162 : Nat) ({ cls := "CrumbsHome", name := "count", desc := "(I)I" } : Jvm.MethodName)) ∈ lw_gd := gd_4 (List.mem_of_getElem? (i := 37) rfl) rfl
theorem ww_4_38 : (Jvm.Cond.instanceMethod ({ cls := "CrumbsHome", name := "count", desc := "(I)I" } : Jvm.MethodName)) ∈ lw_gd := gd_4 (List.mem_of_getElem? (i := 38) rfl) rfl
theorem ww_4_39 : (Jvm.Cond.selects "CrumbsHome" ({ cls := "CrumbsHome", name := "count", desc := "(I)I" } : Jvm.MethodName) ({ cls := "CrumbsHome", name := "count", desc := "(I)I" } : Jvm.MethodName)) ∈ lw_gd := gd_4 (List.mem_of_getElem? (i := 39) rfl) rfl
theorem ww_4_40 : (Jvm.Cond.code ({ cls := "CrumbsHome", name := "count", desc := "(I)I" } : Jvm.MethodName) prog_1_method_37_code (2 : Nat) (Option.some Jvm.ClassFile.FieldType.int)) ∈ lw_gd := gd_4 (List.mem_of_getElem? (i := 40) rfl) rfl
theorem ww_4_41 : (Jvm.Cond.methodLink "CrumbsHomeLaw" (166 : Nat) ({ cls := "CrumbsHome", name := "told", desc := "(I)I" } : Jvm.MethodName)) ∈ lw_gd := gd_4 (List.mem_of_getElem? (i := 41) rfl) rfl
theorem ww_4_42 : (Jvm.Cond.instanceMethod ({ cls := "CrumbsHome", name := "told", desc := "(I)I" } : Jvm.MethodName)) ∈ lw_gd := gd_4 (List.mem_of_getElem? (i := 42) rfl) rfl
theorem ww_4_43 : (Jvm.Cond.selects "CrumbsHome" ({ cls := "CrumbsHome", name := "told", desc := "(I)I" } : Jvm.MethodName) ({ cls := "CrumbsHome", name := "told", desc := "(I)I" } : Jvm.MethodName)) ∈ lw_gd := gd_4 (List.mem_of_getElem? (i := 43) rfl) rfl
theorem ww_4_44 : (Jvm.Cond.code ({ cls := "CrumbsHome", name := "told", desc := "(I)I" } : Jvm.MethodName) prog_1_method_38_code (2 : Nat) (Option.some Jvm.ClassFile.FieldType.int)) ∈ lw_gd := gd_4 (List.mem_of_getElem? (i := 44) rfl) rfl
theorem ww_4_45 : (Jvm.Cond.classLink "CrumbsHomeLaw" (10 : Nat) "CrumbsHomeModel") ∈ lw_gd := gd_4 (List.mem_of_getElem? (i := 45) rfl) rfl
theorem ww_4_46 : (Jvm.Cond.instantiable "CrumbsHomeModel" (23 : Nat)) ∈ lw_gd := gd_4 (List.mem_of_getElem? (i := 46) rfl) rfl
theorem ww_4_47 : (Jvm.Cond.methodLink "CrumbsHomeLaw" (12 : Nat) ({ cls := "CrumbsHomeModel", name := "<init>", desc := "()V" } : Jvm.MethodName)) ∈ lw_gd := gd_4 (List.mem_of_getElem? (i := 47) rfl) rfl
theorem ww_4_48 : (Jvm.Cond.instanceMethod ({ cls := "CrumbsHomeModel", name := "<init>", desc := "()V" } : Jvm.MethodName)) ∈ lw_gd := gd_4 (List.mem_of_getElem? (i := 48) rfl) rfl
theorem ww_4_49 : (Jvm.Cond.code ({ cls := "CrumbsHomeModel", name := "<init>", desc := "()V" } : Jvm.MethodName) prog_9_method_1_code (2 : Nat) (Option.none : Option Jvm.ClassFile.FieldType)) ∈ lw_gd := gd_4 (List.mem_of_getElem? (i := 49) rfl) rfl
theorem ww_4_50 : (Jvm.Cond.methodLink "CrumbsHomeModel" (3 : Nat) ({ cls := "java/lang/Object", name := "<init>", desc := "()V" } : Jvm.MethodName)) ∈ lw_gd := gd_4 (List.mem_of_getElem? (i := 50) rfl) rfl
theorem ww_4_51 : (Jvm.Cond.fieldLink "CrumbsHomeModel" (9 : Nat) "CrumbsHomeModel" "row" "[I") ∈ lw_gd := gd_4 (List.mem_of_getElem? (i := 51) rfl) rfl
theorem ww_4_52 : (Jvm.Cond.fieldLink "CrumbsHomeModel" (13 : Nat) "CrumbsHomeModel" "kept" "[I") ∈ lw_gd := gd_4 (List.mem_of_getElem? (i := 52) rfl) rfl
theorem ww_4_53 : (Jvm.Cond.fieldLink "CrumbsHomeModel" (16 : Nat) "CrumbsHomeModel" "before" "[I") ∈ lw_gd := gd_4 (List.mem_of_getElem? (i := 53) rfl) rfl
theorem ww_4_54 : (Jvm.Cond.fieldLink "CrumbsHomeModel" (291 : Nat) "CrumbsHomeModel" "images" "I") ∈ lw_gd := gd_4 (List.mem_of_getElem? (i := 54) rfl) rfl
theorem ww_4_55 : (Jvm.Cond.fieldLink "CrumbsHomeModel" (19 : Nat) "CrumbsHomeModel" "errors" "[I") ∈ lw_gd := gd_4 (List.mem_of_getElem? (i := 55) rfl) rfl
theorem ww_4_56 : (Jvm.Cond.fieldLink "CrumbsHomeModel" (22 : Nat) "CrumbsHomeModel" "bitsOf" "[I") ∈ lw_gd := gd_4 (List.mem_of_getElem? (i := 56) rfl) rfl
theorem ww_4_57 : (Jvm.Cond.fieldLink "CrumbsHomeModel" (25 : Nat) "CrumbsHomeModel" "sizeOf" "[I") ∈ lw_gd := gd_4 (List.mem_of_getElem? (i := 57) rfl) rfl
theorem ww_4_58 : (Jvm.Cond.fieldLink "CrumbsHomeModel" (28 : Nat) "CrumbsHomeModel" "cells" "[I") ∈ lw_gd := gd_4 (List.mem_of_getElem? (i := 58) rfl) rfl
theorem ww_4_59 : (Jvm.Cond.fieldLink "CrumbsHomeModel" (31 : Nat) "CrumbsHomeModel" "steps" "[I") ∈ lw_gd := gd_4 (List.mem_of_getElem? (i := 59) rfl) rfl
theorem ww_4_60 : (Jvm.Cond.fieldLink "CrumbsHomeModel" (73 : Nat) "CrumbsHomeModel" "isKnown" "Z") ∈ lw_gd := gd_4 (List.mem_of_getElem? (i := 60) rfl) rfl
theorem ww_4_61 : (Jvm.Cond.fieldLink "CrumbsHomeModel" (34 : Nat) "CrumbsHomeModel" "act" "[I") ∈ lw_gd := gd_4 (List.mem_of_getElem? (i := 61) rfl) rfl
theorem ww_4_62 : (Jvm.Cond.fieldLink "CrumbsHomeModel" (37 : Nat) "CrumbsHomeModel" "with" "[I") ∈ lw_gd := gd_4 (List.mem_of_getElem? (i := 62) rfl) rfl
theorem ww_4_63 : (Jvm.Cond.fieldLink "CrumbsHomeModel" (40 : Nat) "CrumbsHomeModel" "facts" "[I") ∈ lw_gd := gd_4 (List.mem_of_getElem? (i := 63) rfl) rfl
theorem ww_4_64 : (Jvm.Cond.fieldLink "CrumbsHomeModel" (43 : Nat) "CrumbsHomeModel" "pile" "[I") ∈ lw_gd := gd_4 (List.mem_of_getElem? (i := 64) rfl) rfl
theorem ww_4_65 : (Jvm.Cond.fieldLink "CrumbsHomeModel" (144 : Nat) "CrumbsHomeModel" "laid" "I") ∈ lw_gd := gd_4 (List.mem_of_getElem? (i := 65) rfl) rfl
theorem ww_4_66 : (Jvm.Cond.fieldLink "CrumbsHomeModel" (140 : Nat) "CrumbsHomeModel" "here" "I") ∈ lw_gd := gd_4 (List.mem_of_getElem? (i := 66) rfl) rfl
theorem ww_4_67 : (Jvm.Cond.fieldLink "CrumbsHomeModel" (161 : Nat) "CrumbsHomeModel" "opened" "I") ∈ lw_gd := gd_4 (List.mem_of_getElem? (i := 67) rfl) rfl
theorem ww_4_68 : (Jvm.Cond.fieldLink "CrumbsHomeModel" (154 : Nat) "CrumbsHomeModel" "bad" "Z") ∈ lw_gd := gd_4 (List.mem_of_getElem? (i := 68) rfl) rfl
theorem ww_4_69 : (Jvm.Cond.fieldLink "CrumbsHomeModel" (147 : Nat) "CrumbsHomeModel" "using" "I") ∈ lw_gd := gd_4 (List.mem_of_getElem? (i := 69) rfl) rfl
theorem ww_4_70 : (Jvm.Cond.fieldLink "CrumbsHomeModel" (46 : Nat) "CrumbsHomeModel" "goesBy" "[I") ∈ lw_gd := gd_4 (List.mem_of_getElem? (i := 70) rfl) rfl
theorem ww_4_71 : (Jvm.Cond.fieldLink "CrumbsHomeModel" (49 : Nat) "CrumbsHomeModel" "trace" "[I") ∈ lw_gd := gd_4 (List.mem_of_getElem? (i := 71) rfl) rfl
theorem ww_4_72 : (Jvm.Cond.fieldLink "CrumbsHomeModel" (244 : Nat) "CrumbsHomeModel" "traced" "I") ∈ lw_gd := gd_4 (List.mem_of_getElem? (i := 72) rfl) rfl
theorem ww_4_73 : (Jvm.Cond.fieldLink "CrumbsHomeModel" (271 : Nat) "CrumbsHomeModel" "isParted" "Z") ∈ lw_gd := gd_4 (List.mem_of_getElem? (i := 73) rfl) rfl
theorem ww_4_121 : (Jvm.Cond.methodLink "CrumbsHomeLaw" (17 : Nat) ({ cls := "CrumbsHomeModel", name := "opens", desc := "(III)I" } : Jvm.MethodName)) ∈ lw_gd := gd_4 (List.mem_of_getElem? (i := 121) rfl) rfl
theorem ww_4_122 : (Jvm.Cond.instanceMethod ({ cls := "CrumbsHomeModel", name := "opens", desc := "(III)I" } : Jvm.MethodName)) ∈ lw_gd := gd_4 (List.mem_of_getElem? (i := 122) rfl) rfl
theorem ww_4_123 : (Jvm.Cond.selects "CrumbsHomeModel" ({ cls := "CrumbsHomeModel", name := "opens", desc := "(III)I" } : Jvm.MethodName) ({ cls := "CrumbsHomeModel", name := "opens", desc := "(III)I" } : Jvm.MethodName)) ∈ lw_gd := gd_4 (List.mem_of_getElem? (i := 123) rfl) rfl
theorem ww_4_124 : (Jvm.Cond.code ({ cls := "CrumbsHomeModel", name := "opens", desc := "(III)I" } : Jvm.MethodName) prog_9_method_28_code (5 : Nat) (Option.some Jvm.ClassFile.FieldType.int)) ∈ lw_gd := gd_4 (List.mem_of_getElem? (i := 124) rfl) rfl
theorem ww_4_125 : (Jvm.Cond.methodLink "CrumbsHomeModel" (100 : Nat) ({ cls := "CrumbsHomeModel", name := "isPlace", desc := "(I)Z" } : Jvm.MethodName)) ∈ lw_gd := gd_4 (List.mem_of_getElem? (i := 125) rfl) rfl
theorem ww_4_126 : (Jvm.Cond.static ({ cls := "CrumbsHomeModel", name := "isPlace", desc := "(I)Z" } : Jvm.MethodName)) ∈ lw_gd := gd_4 (List.mem_of_getElem? (i := 126) rfl) rfl
theorem ww_4_127 : (Jvm.Cond.code ({ cls := "CrumbsHomeModel", name := "isPlace", desc := "(I)Z" } : Jvm.MethodName) prog_9_method_10_code (1 : Nat) (Option.some Jvm.ClassFile.FieldType.boolean)) ∈ lw_gd := gd_4 (List.mem_of_getElem? (i := 127) rfl) rfl
theorem ww_4_128 : (Jvm.Cond.methodLink "CrumbsHomeModel" (57 : Nat) ({ cls := "CrumbsHomeModel", name := "in", desc := "(III)Z" } : Jvm.MethodName)) ∈ lw_gd := gd_4 (List.mem_of_getElem? (i := 128) rfl) rfl
theorem ww_4_129 : (Jvm.Cond.static ({ cls := "CrumbsHomeModel", name := "in", desc := "(III)Z" } : Jvm.MethodName)) ∈ lw_gd := gd_4 (List.mem_of_getElem? (i := 129) rfl) rfl
theorem ww_4_130 : (Jvm.Cond.code ({ cls := "CrumbsHomeModel", name := "in", desc := "(III)Z" } : Jvm.MethodName) prog_9_method_3_code (3 : Nat) (Option.some Jvm.ClassFile.FieldType.boolean)) ∈ lw_gd := gd_4 (List.mem_of_getElem? (i := 130) rfl) rfl
theorem ww_4_131 : (Jvm.Cond.constant "CrumbsHomeModel" (103 : Nat) (-1000000001 : Int32)) ∈ lw_gd := gd_4 (List.mem_of_getElem? (i := 131) rfl) rfl
theorem ww_4_132 : (Jvm.Cond.methodLink "CrumbsHomeModel" (104 : Nat) ({ cls := "CrumbsHomeModel", name := "error", desc := "(I)I" } : Jvm.MethodName)) ∈ lw_gd := gd_4 (List.mem_of_getElem? (i := 132) rfl) rfl
theorem ww_4_134 : (Jvm.Cond.instanceMethod ({ cls := "CrumbsHomeModel", name := "error", desc := "(I)I" } : Jvm.MethodName)) ∈ lw_gd := gd_4 (List.mem_of_getElem? (i := 134) rfl) rfl
theorem ww_4_135 : (Jvm.Cond.code ({ cls := "CrumbsHomeModel", name := "error", desc := "(I)I" } : Jvm.MethodName) prog_9_method_2_code (2 : Nat) (Option.some Jvm.ClassFile.FieldType.int)) ∈ lw_gd := gd_4 (List.mem_of_getElem? (i := 135) rfl) rfl
theorem ww_4_136 : (Jvm.Cond.constant "CrumbsHomeModel" (52 : Nat) (-1000000000 : Int32)) ∈ lw_gd := gd_4 (List.mem_of_getElem? (i := 136) rfl) rfl
theorem ww_4_137 : (Jvm.Cond.methodLink "CrumbsHomeModel" (107 : Nat) ({ cls := "CrumbsHomeModel", name := "opensFrom", desc := "(III)V" } : Jvm.MethodName)) ∈ lw_gd := gd_4 (List.mem_of_getElem? (i := 137) rfl) rfl
theorem ww_4_139 : (Jvm.Cond.instanceMethod ({ cls := "CrumbsHomeModel", name := "opensFrom", desc := "(III)V" } : Jvm.MethodName)) ∈ lw_gd := gd_4 (List.mem_of_getElem? (i := 139) rfl) rfl
theorem ww_4_140 : (Jvm.Cond.code ({ cls := "CrumbsHomeModel", name := "opensFrom", desc := "(III)V" } : Jvm.MethodName) prog_9_method_27_code (4 : Nat) (Option.none : Option Jvm.ClassFile.FieldType)) ∈ lw_gd := gd_4 (List.mem_of_getElem? (i := 140) rfl) rfl
theorem ww_4_141 : (Jvm.Cond.methodLink "CrumbsHomeLaw" (22 : Nat) ({ cls := "CrumbsHomeModel", name := "field", desc := "(II)I" } : Jvm.MethodName)) ∈ lw_gd := gd_4 (List.mem_of_getElem? (i := 141) rfl) rfl
theorem ww_4_142 : (Jvm.Cond.instanceMethod ({ cls := "CrumbsHomeModel", name := "field", desc := "(II)I" } : Jvm.MethodName)) ∈ lw_gd := gd_4 (List.mem_of_getElem? (i := 142) rfl) rfl
theorem ww_4_143 : (Jvm.Cond.selects "CrumbsHomeModel" ({ cls := "CrumbsHomeModel", name := "field", desc := "(II)I" } : Jvm.MethodName) ({ cls := "CrumbsHomeModel", name := "field", desc := "(II)I" } : Jvm.MethodName)) ∈ lw_gd := gd_4 (List.mem_of_getElem? (i := 143) rfl) rfl
theorem ww_4_144 : (Jvm.Cond.code ({ cls := "CrumbsHomeModel", name := "field", desc := "(II)I" } : Jvm.MethodName) prog_9_method_29_code (3 : Nat) (Option.some Jvm.ClassFile.FieldType.int)) ∈ lw_gd := gd_4 (List.mem_of_getElem? (i := 144) rfl) rfl
theorem ww_4_145 : (Jvm.Cond.methodLink "CrumbsHomeModel" (111 : Nat) ({ cls := "CrumbsHomeModel", name := "isField", desc := "(I)Z" } : Jvm.MethodName)) ∈ lw_gd := gd_4 (List.mem_of_getElem? (i := 145) rfl) rfl
theorem ww_4_146 : (Jvm.Cond.static ({ cls := "CrumbsHomeModel", name := "isField", desc := "(I)Z" } : Jvm.MethodName)) ∈ lw_gd := gd_4 (List.mem_of_getElem? (i := 146) rfl) rfl
theorem ww_4_147 : (Jvm.Cond.code ({ cls := "CrumbsHomeModel", name := "isField", desc := "(I)Z" } : Jvm.MethodName) prog_9_method_11_code (1 : Nat) (Option.some Jvm.ClassFile.FieldType.boolean)) ∈ lw_gd := gd_4 (List.mem_of_getElem? (i := 147) rfl) rfl
theorem ww_4_148 : (Jvm.Cond.methodLink "CrumbsHomeModel" (114 : Nat) ({ cls := "CrumbsHomeModel", name := "becomes", desc := "(II)I" } : Jvm.MethodName)) ∈ lw_gd := gd_4 (List.mem_of_getElem? (i := 148) rfl) rfl
theorem ww_4_150 : (Jvm.Cond.instanceMethod ({ cls := "CrumbsHomeModel", name := "becomes", desc := "(II)I" } : Jvm.MethodName)) ∈ lw_gd := gd_4 (List.mem_of_getElem? (i := 150) rfl) rfl
theorem ww_4_151 : (Jvm.Cond.code ({ cls := "CrumbsHomeModel", name := "becomes", desc := "(II)I" } : Jvm.MethodName) prog_9_method_12_code (4 : Nat) (Option.some Jvm.ClassFile.FieldType.int)) ∈ lw_gd := gd_4 (List.mem_of_getElem? (i := 151) rfl) rfl
theorem ww_4_152 : (Jvm.Cond.methodLink "CrumbsHomeLaw" (26 : Nat) ({ cls := "CrumbsHomeModel", name := "far", desc := "(II)I" } : Jvm.MethodName)) ∈ lw_gd := gd_4 (List.mem_of_getElem? (i := 152) rfl) rfl
theorem ww_4_153 : (Jvm.Cond.instanceMethod ({ cls := "CrumbsHomeModel", name := "far", desc := "(II)I" } : Jvm.MethodName)) ∈ lw_gd := gd_4 (List.mem_of_getElem? (i := 153) rfl) rfl
theorem ww_4_154 : (Jvm.Cond.selects "CrumbsHomeModel" ({ cls := "CrumbsHomeModel", name := "far", desc := "(II)I" } : Jvm.MethodName) ({ cls := "CrumbsHomeModel", name := "far", desc := "(II)I" } : Jvm.MethodName)) ∈ lw_gd := gd_4 (List.mem_of_getElem? (i := 154) rfl) rfl
theorem ww_4_155 : (Jvm.Cond.code ({ cls := "CrumbsHomeModel", name := "far", desc := "(II)I" } : Jvm.MethodName) prog_9_method_30_code (4 : Nat) (Option.some Jvm.ClassFile.FieldType.int)) ∈ lw_gd := gd_4 (List.mem_of_getElem? (i := 155) rfl) rfl
theorem ww_4_156 : (Jvm.Cond.methodLink "CrumbsHomeModel" (81 : Nat) ({ cls := "CrumbsHomeModel", name := "farBy", desc := "(II)I" } : Jvm.MethodName)) ∈ lw_gd := gd_4 (List.mem_of_getElem? (i := 156) rfl) rfl
theorem ww_4_158 : (Jvm.Cond.instanceMethod ({ cls := "CrumbsHomeModel", name := "farBy", desc := "(II)I" } : Jvm.MethodName)) ∈ lw_gd := gd_4 (List.mem_of_getElem? (i := 158) rfl) rfl
theorem ww_4_159 : (Jvm.Cond.code ({ cls := "CrumbsHomeModel", name := "farBy", desc := "(II)I" } : Jvm.MethodName) prog_9_method_19_code (4 : Nat) (Option.some Jvm.ClassFile.FieldType.int)) ∈ lw_gd := gd_4 (List.mem_of_getElem? (i := 159) rfl) rfl
theorem ww_4_160 : (Jvm.Cond.methodLink "CrumbsHomeModel" (77 : Nat) ({ cls := "CrumbsHomeModel", name := "findFrom", desc := "(I)V" } : Jvm.MethodName)) ∈ lw_gd := gd_4 (List.mem_of_getElem? (i := 160) rfl) rfl
theorem ww_4_162 : (Jvm.Cond.instanceMethod ({ cls := "CrumbsHomeModel", name := "findFrom", desc := "(I)V" } : Jvm.MethodName)) ∈ lw_gd := gd_4 (List.mem_of_getElem? (i := 162) rfl) rfl
theorem ww_4_163 : (Jvm.Cond.code ({ cls := "CrumbsHomeModel", name := "findFrom", desc := "(I)V" } : Jvm.MethodName) prog_9_method_18_code (7 : Nat) (Option.none : Option Jvm.ClassFile.FieldType)) ∈ lw_gd := gd_4 (List.mem_of_getElem? (i := 163) rfl) rfl
theorem ww_4_164 : (Jvm.Cond.constant "CrumbsHomeModel" (117 : Nat) (-1000000002 : Int32)) ∈ lw_gd := gd_4 (List.mem_of_getElem? (i := 164) rfl) rfl
theorem ww_4_165 : (Jvm.Cond.methodLink "CrumbsHomeLaw" (30 : Nat) ({ cls := "CrumbsHomeModel", name := "bit", desc := "(III)I" } : Jvm.MethodName)) ∈ lw_gd := gd_4 (List.mem_of_getElem? (i := 165) rfl) rfl
theorem ww_4_166 : (Jvm.Cond.instanceMethod ({ cls := "CrumbsHomeModel", name := "bit", desc := "(III)I" } : Jvm.MethodName)) ∈ lw_gd := gd_4 (List.mem_of_getElem? (i := 166) rfl) rfl
theorem ww_4_167 : (Jvm.Cond.selects "CrumbsHomeModel" ({ cls := "CrumbsHomeModel", name := "bit", desc := "(III)I" } : Jvm.MethodName) ({ cls := "CrumbsHomeModel", name := "bit", desc := "(III)I" } : Jvm.MethodName)) ∈ lw_gd := gd_4 (List.mem_of_getElem? (i := 167) rfl) rfl
theorem ww_4_168 : (Jvm.Cond.code ({ cls := "CrumbsHomeModel", name := "bit", desc := "(III)I" } : Jvm.MethodName) prog_9_method_32_code (5 : Nat) (Option.some Jvm.ClassFile.FieldType.int)) ∈ lw_gd := gd_4 (List.mem_of_getElem? (i := 168) rfl) rfl
theorem ww_4_169 : (Jvm.Cond.methodLink "CrumbsHomeModel" (118 : Nat) ({ cls := "CrumbsHomeModel", name := "isKm", desc := "(I)Z" } : Jvm.MethodName)) ∈ lw_gd := gd_4 (List.mem_of_getElem? (i := 169) rfl) rfl
theorem ww_4_170 : (Jvm.Cond.static ({ cls := "CrumbsHomeModel", name := "isKm", desc := "(I)Z" } : Jvm.MethodName)) ∈ lw_gd := gd_4 (List.mem_of_getElem? (i := 170) rfl) rfl
theorem ww_4_171 : (Jvm.Cond.code ({ cls := "CrumbsHomeModel", name := "isKm", desc := "(I)Z" } : Jvm.MethodName) prog_9_method_31_code (1 : Nat) (Option.some Jvm.ClassFile.FieldType.boolean)) ∈ lw_gd := gd_4 (List.mem_of_getElem? (i := 171) rfl) rfl
theorem ww_4_172 : (Jvm.Cond.constant "CrumbsHomeModel" (121 : Nat) (-1000000004 : Int32)) ∈ lw_gd := gd_4 (List.mem_of_getElem? (i := 172) rfl) rfl
theorem ww_4_173 : (Jvm.Cond.methodLink "CrumbsHomeModel" (122 : Nat) ({ cls := "CrumbsHomeModel", name := "lets", desc := "(III)V" } : Jvm.MethodName)) ∈ lw_gd := gd_4 (List.mem_of_getElem? (i := 173) rfl) rfl
theorem ww_4_175 : (Jvm.Cond.instanceMethod ({ cls := "CrumbsHomeModel", name := "lets", desc := "(III)V" } : Jvm.MethodName)) ∈ lw_gd := gd_4 (List.mem_of_getElem? (i := 175) rfl) rfl
theorem ww_4_176 : (Jvm.Cond.code ({ cls := "CrumbsHomeModel", name := "lets", desc := "(III)V" } : Jvm.MethodName) prog_9_method_14_code (4 : Nat) (Option.none : Option Jvm.ClassFile.FieldType)) ∈ lw_gd := gd_4 (List.mem_of_getElem? (i := 176) rfl) rfl
theorem ww_4_177 : (Jvm.Cond.methodLink "CrumbsHomeLaw" (34 : Nat) ({ cls := "CrumbsHomeModel", name := "bitIs", desc := "(II)I" } : Jvm.MethodName)) ∈ lw_gd := gd_4 (List.mem_of_getElem? (i := 177) rfl) rfl
theorem ww_4_178 : (Jvm.Cond.instanceMethod ({ cls := "CrumbsHomeModel", name := "bitIs", desc := "(II)I" } : Jvm.MethodName)) ∈ lw_gd := gd_4 (List.mem_of_getElem? (i := 178) rfl) rfl
theorem ww_4_179 : (Jvm.Cond.selects "CrumbsHomeModel" ({ cls := "CrumbsHomeModel", name := "bitIs", desc := "(II)I" } : Jvm.MethodName) ({ cls := "CrumbsHomeModel", name := "bitIs", desc := "(II)I" } : Jvm.MethodName)) ∈ lw_gd := gd_4 (List.mem_of_getElem? (i := 179) rfl) rfl
theorem ww_4_180 : (Jvm.Cond.code ({ cls := "CrumbsHomeModel", name := "bitIs", desc := "(II)I" } : Jvm.MethodName) prog_9_method_33_code (3 : Nat) (Option.some Jvm.ClassFile.FieldType.int)) ∈ lw_gd := gd_4 (List.mem_of_getElem? (i := 180) rfl) rfl
theorem ww_4_181 : (Jvm.Cond.methodLink "CrumbsHomeModel" (125 : Nat) ({ cls := "CrumbsHomeModel", name := "isBit", desc := "(I)Z" } : Jvm.MethodName)) ∈ lw_gd := gd_4 (List.mem_of_getElem? (i := 181) rfl) rfl
theorem ww_4_183 : (Jvm.Cond.instanceMethod ({ cls := "CrumbsHomeModel", name := "isBit", desc := "(I)Z" } : Jvm.MethodName)) ∈ lw_gd := gd_4 (List.mem_of_getElem? (i := 183) rfl) rfl
theorem ww_4_184 : (Jvm.Cond.code ({ cls := "CrumbsHomeModel", name := "isBit", desc := "(I)Z" } : Jvm.MethodName) prog_9_method_9_code (2 : Nat) (Option.some Jvm.ClassFile.FieldType.boolean)) ∈ lw_gd := gd_4 (List.mem_of_getElem? (i := 184) rfl) rfl
theorem ww_4_185 : (Jvm.Cond.methodLink "CrumbsHomeModel" (61 : Nat) ({ cls := "CrumbsHomeModel", name := "of", desc := "(II)I" } : Jvm.MethodName)) ∈ lw_gd := gd_4 (List.mem_of_getElem? (i := 185) rfl) rfl
theorem ww_4_187 : (Jvm.Cond.instanceMethod ({ cls := "CrumbsHomeModel", name := "of", desc := "(II)I" } : Jvm.MethodName)) ∈ lw_gd := gd_4 (List.mem_of_getElem? (i := 187) rfl) rfl
theorem ww_4_188 : (Jvm.Cond.code ({ cls := "CrumbsHomeModel", name := "of", desc := "(II)I" } : Jvm.MethodName) prog_9_method_13_code (3 : Nat) (Option.some Jvm.ClassFile.FieldType.int)) ∈ lw_gd := gd_4 (List.mem_of_getElem? (i := 188) rfl) rfl
theorem ww_4_189 : (Jvm.Cond.methodLink "CrumbsHomeModel" (128 : Nat) ({ cls := "CrumbsHomeModel", name := "stepsOf", desc := "(I)I" } : Jvm.MethodName)) ∈ lw_gd := gd_4 (List.mem_of_getElem? (i := 189) rfl) rfl
theorem ww_4_191 : (Jvm.Cond.instanceMethod ({ cls := "CrumbsHomeModel", name := "stepsOf", desc := "(I)I" } : Jvm.MethodName)) ∈ lw_gd := gd_4 (List.mem_of_getElem? (i := 191) rfl) rfl
theorem ww_4_192 : (Jvm.Cond.code ({ cls := "CrumbsHomeModel", name := "stepsOf", desc := "(I)I" } : Jvm.MethodName) prog_9_method_25_code (3 : Nat) (Option.some Jvm.ClassFile.FieldType.int)) ∈ lw_gd := gd_4 (List.mem_of_getElem? (i := 192) rfl) rfl
theorem ww_4_193 : (Jvm.Cond.methodLink "CrumbsHomeModel" (84 : Nat) ({ cls := "CrumbsHomeModel", name := "farHome", desc := "(I)I" } : Jvm.MethodName)) ∈ lw_gd := gd_4 (List.mem_of_getElem? (i := 193) rfl) rfl
theorem ww_4_195 : (Jvm.Cond.instanceMethod ({ cls := "CrumbsHomeModel", name := "farHome", desc := "(I)I" } : Jvm.MethodName)) ∈ lw_gd := gd_4 (List.mem_of_getElem? (i := 195) rfl) rfl
theorem ww_4_196 : (Jvm.Cond.code ({ cls := "CrumbsHomeModel", name := "farHome", desc := "(I)I" } : Jvm.MethodName) prog_9_method_20_code (2 : Nat) (Option.some Jvm.ClassFile.FieldType.int)) ∈ lw_gd := gd_4 (List.mem_of_getElem? (i := 196) rfl) rfl
theorem ww_4_197 : (Jvm.Cond.methodLink "CrumbsHomeModel" (65 : Nat) ({ cls := "CrumbsHomeModel", name := "homeOf", desc := "(I)I" } : Jvm.MethodName)) ∈ lw_gd := gd_4 (List.mem_of_getElem? (i := 197) rfl) rfl
theorem ww_4_199 : (Jvm.Cond.instanceMethod ({ cls := "CrumbsHomeModel", name := "homeOf", desc := "(I)I" } : Jvm.MethodName)) ∈ lw_gd := gd_4 (List.mem_of_getElem? (i := 199) rfl) rfl
theorem ww_4_200 : (Jvm.Cond.code ({ cls := "CrumbsHomeModel", name := "homeOf", desc := "(I)I" } : Jvm.MethodName) prog_9_method_15_code (2 : Nat) (Option.some Jvm.ClassFile.FieldType.int)) ∈ lw_gd := gd_4 (List.mem_of_getElem? (i := 200) rfl) rfl
theorem ww_4_201 : (Jvm.Cond.methodLink "CrumbsHomeModel" (90 : Nat) ({ cls := "CrumbsHomeModel", name := "walksBy", desc := "(I)I" } : Jvm.MethodName)) ∈ lw_gd := gd_4 (List.mem_of_getElem? (i := 201) rfl) rfl
theorem ww_4_203 : (Jvm.Cond.instanceMethod ({ cls := "CrumbsHomeModel", name := "walksBy", desc := "(I)I" } : Jvm.MethodName)) ∈ lw_gd := gd_4 (List.mem_of_getElem? (i := 203) rfl) rfl
theorem ww_4_204 : (Jvm.Cond.code ({ cls := "CrumbsHomeModel", name := "walksBy", desc := "(I)I" } : Jvm.MethodName) prog_9_method_23_code (5 : Nat) (Option.some Jvm.ClassFile.FieldType.int)) ∈ lw_gd := gd_4 (List.mem_of_getElem? (i := 204) rfl) rfl
theorem ww_4_205 : (Jvm.Cond.methodLink "CrumbsHomeModel" (87 : Nat) ({ cls := "CrumbsHomeModel", name := "isTogether", desc := "(I)Z" } : Jvm.MethodName)) ∈ lw_gd := gd_4 (List.mem_of_getElem? (i := 205) rfl) rfl
theorem ww_4_207 : (Jvm.Cond.instanceMethod ({ cls := "CrumbsHomeModel", name := "isTogether", desc := "(I)Z" } : Jvm.MethodName)) ∈ lw_gd := gd_4 (List.mem_of_getElem? (i := 207) rfl) rfl
theorem ww_4_208 : (Jvm.Cond.code ({ cls := "CrumbsHomeModel", name := "isTogether", desc := "(I)Z" } : Jvm.MethodName) prog_9_method_22_code (4 : Nat) (Option.some Jvm.ClassFile.FieldType.boolean)) ∈ lw_gd := gd_4 (List.mem_of_getElem? (i := 208) rfl) rfl
theorem ww_4_209 : (Jvm.Cond.methodLink "CrumbsHomeModel" (93 : Nat) ({ cls := "CrumbsHomeModel", name := "gives", desc := "(IIII)I" } : Jvm.MethodName)) ∈ lw_gd := gd_4 (List.mem_of_getElem? (i := 209) rfl) rfl
theorem ww_4_211 : (Jvm.Cond.instanceMethod ({ cls := "CrumbsHomeModel", name := "gives", desc := "(IIII)I" } : Jvm.MethodName)) ∈ lw_gd := gd_4 (List.mem_of_getElem? (i := 211) rfl) rfl
theorem ww_4_212 : (Jvm.Cond.code ({ cls := "CrumbsHomeModel", name := "gives", desc := "(IIII)I" } : Jvm.MethodName) prog_9_method_54_code (7 : Nat) (Option.some Jvm.ClassFile.FieldType.int)) ∈ lw_gd := gd_4 (List.mem_of_getElem? (i := 212) rfl) rfl
theorem ww_4_213 : (Jvm.Cond.methodLink "CrumbsHomeModel" (195 : Nat) ({ cls := "CrumbsHomeModel", name := "works", desc := "(I)I" } : Jvm.MethodName)) ∈ lw_gd := gd_4 (List.mem_of_getElem? (i := 213) rfl) rfl
theorem ww_4_215 : (Jvm.Cond.instanceMethod ({ cls := "CrumbsHomeModel", name := "works", desc := "(I)I" } : Jvm.MethodName)) ∈ lw_gd := gd_4 (List.mem_of_getElem? (i := 215) rfl) rfl
theorem ww_4_216 : (Jvm.Cond.code ({ cls := "CrumbsHomeModel", name := "works", desc := "(I)I" } : Jvm.MethodName) prog_9_method_53_code (5 : Nat) (Option.some Jvm.ClassFile.FieldType.int)) ∈ lw_gd := gd_4 (List.mem_of_getElem? (i := 216) rfl) rfl
theorem ww_4_217 : (Jvm.Cond.methodLink "CrumbsHomeModel" (191 : Nat) ({ cls := "CrumbsHomeModel", name := "twoOf", desc := "(III)I" } : Jvm.MethodName)) ∈ lw_gd := gd_4 (List.mem_of_getElem? (i := 217) rfl) rfl
theorem ww_4_218 : (Jvm.Cond.static ({ cls := "CrumbsHomeModel", name := "twoOf", desc := "(III)I" } : Jvm.MethodName)) ∈ lw_gd := gd_4 (List.mem_of_getElem? (i := 218) rfl) rfl
theorem ww_4_219 : (Jvm.Cond.code ({ cls := "CrumbsHomeModel", name := "twoOf", desc := "(III)I" } : Jvm.MethodName) prog_9_method_52_code (3 : Nat) (Option.some Jvm.ClassFile.FieldType.int)) ∈ lw_gd := gd_4 (List.mem_of_getElem? (i := 219) rfl) rfl
theorem ww_4_220 : (Jvm.Cond.methodLink "CrumbsHomeModel" (198 : Nat) ({ cls := "CrumbsHomeModel", name := "held", desc := "(III)I" } : Jvm.MethodName)) ∈ lw_gd := gd_4 (List.mem_of_getElem? (i := 220) rfl) rfl
theorem ww_4_221 : (Jvm.Cond.static ({ cls := "CrumbsHomeModel", name := "held", desc := "(III)I" } : Jvm.MethodName)) ∈ lw_gd := gd_4 (List.mem_of_getElem? (i := 221) rfl) rfl
theorem ww_4_222 : (Jvm.Cond.code ({ cls := "CrumbsHomeModel", name := "held", desc := "(III)I" } : Jvm.MethodName) prog_9_method_4_code (3 : Nat) (Option.some Jvm.ClassFile.FieldType.int)) ∈ lw_gd := gd_4 (List.mem_of_getElem? (i := 222) rfl) rfl
theorem ww_4_223 : (Jvm.Cond.methodLink "CrumbsHomeModel" (131 : Nat) ({ cls := "CrumbsHomeModel", name := "worthOf", desc := "(I)I" } : Jvm.MethodName)) ∈ lw_gd := gd_4 (List.mem_of_getElem? (i := 223) rfl) rfl
theorem ww_4_225 : (Jvm.Cond.instanceMethod ({ cls := "CrumbsHomeModel", name := "worthOf", desc := "(I)I" } : Jvm.MethodName)) ∈ lw_gd := gd_4 (List.mem_of_getElem? (i := 225) rfl) rfl
theorem ww_4_226 : (Jvm.Cond.code ({ cls := "CrumbsHomeModel", name := "worthOf", desc := "(I)I" } : Jvm.MethodName) prog_9_method_26_code (2 : Nat) (Option.some Jvm.ClassFile.FieldType.int)) ∈ lw_gd := gd_4 (List.mem_of_getElem? (i := 226) rfl) rfl
theorem ww_4_227 : (Jvm.Cond.methodLink "CrumbsHomeModel" (97 : Nat) ({ cls := "CrumbsHomeModel", name := "weighsOf", desc := "(I)I" } : Jvm.MethodName)) ∈ lw_gd := gd_4 (List.mem_of_getElem? (i := 227) rfl) rfl
theorem ww_4_229 : (Jvm.Cond.instanceMethod ({ cls := "CrumbsHomeModel", name := "weighsOf", desc := "(I)I" } : Jvm.MethodName)) ∈ lw_gd := gd_4 (List.mem_of_getElem? (i := 229) rfl) rfl
theorem ww_4_230 : (Jvm.Cond.code ({ cls := "CrumbsHomeModel", name := "weighsOf", desc := "(I)I" } : Jvm.MethodName) prog_9_method_24_code (5 : Nat) (Option.some Jvm.ClassFile.FieldType.int)) ∈ lw_gd := gd_4 (List.mem_of_getElem? (i := 230) rfl) rfl
theorem ww_4_231 : (Jvm.Cond.methodLink "CrumbsHomeModel" (134 : Nat) ({ cls := "CrumbsHomeModel", name := "warmth", desc := "(I)I" } : Jvm.MethodName)) ∈ lw_gd := gd_4 (List.mem_of_getElem? (i := 231) rfl) rfl
theorem ww_4_233 : (Jvm.Cond.instanceMethod ({ cls := "CrumbsHomeModel", name := "warmth", desc := "(I)I" } : Jvm.MethodName)) ∈ lw_gd := gd_4 (List.mem_of_getElem? (i := 233) rfl) rfl
theorem ww_4_234 : (Jvm.Cond.code ({ cls := "CrumbsHomeModel", name := "warmth", desc := "(I)I" } : Jvm.MethodName) prog_9_method_21_code (3 : Nat) (Option.some Jvm.ClassFile.FieldType.int)) ∈ lw_gd := gd_4 (List.mem_of_getElem? (i := 234) rfl) rfl
theorem ww_4_235 : (Jvm.Cond.methodLink "CrumbsHomeLaw" (38 : Nat) ({ cls := "CrumbsHomeModel", name := "become", desc := "(II)I" } : Jvm.MethodName)) ∈ lw_gd := gd_4 (List.mem_of_getElem? (i := 235) rfl) rfl
theorem ww_4_236 : (Jvm.Cond.instanceMethod ({ cls := "CrumbsHomeModel", name := "become", desc := "(II)I" } : Jvm.MethodName)) ∈ lw_gd := gd_4 (List.mem_of_getElem? (i := 236) rfl) rfl
theorem ww_4_237 : (Jvm.Cond.selects "CrumbsHomeModel" ({ cls := "CrumbsHomeModel", name := "become", desc := "(II)I" } : Jvm.MethodName) ({ cls := "CrumbsHomeModel", name := "become", desc := "(II)I" } : Jvm.MethodName)) ∈ lw_gd := gd_4 (List.mem_of_getElem? (i := 237) rfl) rfl
theorem ww_4_238 : (Jvm.Cond.code ({ cls := "CrumbsHomeModel", name := "become", desc := "(II)I" } : Jvm.MethodName) prog_9_method_34_code (3 : Nat) (Option.some Jvm.ClassFile.FieldType.int)) ∈ lw_gd := gd_4 (List.mem_of_getElem? (i := 238) rfl) rfl
theorem ww_4_239 : (Jvm.Cond.methodLink "CrumbsHomeLaw" (42 : Nat) ({ cls := "CrumbsHomeModel", name := "as", desc := "(II)I" } : Jvm.MethodName)) ∈ lw_gd := gd_4 (List.mem_of_getElem? (i := 239) rfl) rfl
theorem ww_5_0 : (Jvm.Cond.instanceMethod ({ cls := "CrumbsHomeModel", name := "as", desc := "(II)I" } : Jvm.MethodName)) ∈ lw_gd := gd_5 (List.mem_of_getElem? (i := 0) rfl) rfl
theorem ww_5_1 : (Jvm.Cond.selects "CrumbsHomeModel" ({ cls := "CrumbsHomeModel", name := "as", desc := "(II)I" } : Jvm.MethodName) ({ cls := "CrumbsHomeModel", name := "as", desc := "(II)I" } : Jvm.MethodName)) ∈ lw_gd := gd_5 (List.mem_of_getElem? (i := 1) rfl) rfl
theorem ww_5_2 : (Jvm.Cond.code ({ cls := "CrumbsHomeModel", name := "as", desc := "(II)I" } : Jvm.MethodName) prog_9_method_35_code (5 : Nat) (Option.some Jvm.ClassFile.FieldType.int)) ∈ lw_gd := gd_5 (List.mem_of_getElem? (i := 2) rfl) rfl
theorem ww_5_3 : (Jvm.Cond.constant "CrumbsHomeModel" (137 : Nat) (-1000000005 : Int32)) ∈ lw_gd := gd_5 (List.mem_of_getElem? (i := 3) rfl) rfl
theorem ww_5_4 : (Jvm.Cond.methodLink "CrumbsHomeLaw" (46 : Nat) ({ cls := "CrumbsHomeModel", name := "hears", desc := "(II)I" } : Jvm.MethodName)) ∈ lw_gd := gd_5 (List.mem_of_getElem? (i := 4) rfl) rfl
theorem ww_5_5 : (Jvm.Cond.instanceMethod ({ cls := "CrumbsHomeModel", name := "hears", desc := "(II)I" } : Jvm.MethodName)) ∈ lw_gd := gd_5 (List.mem_of_getElem? (i := 5) rfl) rfl
theorem ww_5_6 : (Jvm.Cond.selects "CrumbsHomeModel" ({ cls := "CrumbsHomeModel", name := "hears", desc := "(II)I" } : Jvm.MethodName) ({ cls := "CrumbsHomeModel", name := "hears", desc := "(II)I" } : Jvm.MethodName)) ∈ lw_gd := gd_5 (List.mem_of_getElem? (i := 6) rfl) rfl
theorem ww_5_7 : (Jvm.Cond.code ({ cls := "CrumbsHomeModel", name := "hears", desc := "(II)I" } : Jvm.MethodName) prog_9_method_36_code (3 : Nat) (Option.some Jvm.ClassFile.FieldType.int)) ∈ lw_gd := gd_5 (List.mem_of_getElem? (i := 7) rfl) rfl
theorem ww_5_8 : (Jvm.Cond.methodLink "CrumbsHomeLaw" (50 : Nat) ({ cls := "CrumbsHomeModel", name := "lay", desc := "(II)I" } : Jvm.MethodName)) ∈ lw_gd := gd_5 (List.mem_of_getElem? (i := 8) rfl) rfl
theorem ww_5_9 : (Jvm.Cond.instanceMethod ({ cls := "CrumbsHomeModel", name := "lay", desc := "(II)I" } : Jvm.MethodName)) ∈ lw_gd := gd_5 (List.mem_of_getElem? (i := 9) rfl) rfl
theorem ww_5_10 : (Jvm.Cond.selects "CrumbsHomeModel" ({ cls := "CrumbsHomeModel", name := "lay", desc := "(II)I" } : Jvm.MethodName) ({ cls := "CrumbsHomeModel", name := "lay", desc := "(II)I" } : Jvm.MethodName)) ∈ lw_gd := gd_5 (List.mem_of_getElem? (i := 10) rfl) rfl
theorem ww_5_11 : (Jvm.Cond.code ({ cls := "CrumbsHomeModel", name := "lay", desc := "(II)I" } : Jvm.MethodName) prog_9_method_37_code (3 : Nat) (Option.some Jvm.ClassFile.FieldType.int)) ∈ lw_gd := gd_5 (List.mem_of_getElem? (i := 11) rfl) rfl
theorem ww_5_12 : (Jvm.Cond.methodLink "CrumbsHomeLaw" (57 : Nat) ({ cls := "CrumbsHomeModel", name := "feed", desc := "(JI)I" } : Jvm.MethodName)) ∈ lw_gd := gd_5 (List.mem_of_getElem? (i := 12) rfl) rfl
theorem ww_5_13 : (Jvm.Cond.instanceMethod ({ cls := "CrumbsHomeModel", name := "feed", desc := "(JI)I" } : Jvm.MethodName)) ∈ lw_gd := gd_5 (List.mem_of_getElem? (i := 13) rfl) rfl
theorem ww_5_14 : (Jvm.Cond.selects "CrumbsHomeModel" ({ cls := "CrumbsHomeModel", name := "feed", desc := "(JI)I" } : Jvm.MethodName) ({ cls := "CrumbsHomeModel", name := "feed", desc := "(JI)I" } : Jvm.MethodName)) ∈ lw_gd := gd_5 (List.mem_of_getElem? (i := 14) rfl) rfl
theorem ww_5_15 : (Jvm.Cond.code ({ cls := "CrumbsHomeModel", name := "feed", desc := "(JI)I" } : Jvm.MethodName) prog_9_method_38_code (5 : Nat) (Option.some Jvm.ClassFile.FieldType.int)) ∈ lw_gd := gd_5 (List.mem_of_getElem? (i := 15) rfl) rfl
theorem ww_5_16 : (Jvm.Cond.constantLong "CrumbsHomeModel" (138 : Nat) (255 : Int64)) ∈ lw_gd := gd_5 (List.mem_of_getElem? (i := 16) rfl) rfl
theorem ww_5_17 : (Jvm.Cond.methodLink "CrumbsHomeLaw" (62 : Nat) ({ cls := "CrumbsHomeModel", name := "text", desc := "(I)I" } : Jvm.MethodName)) ∈ lw_gd := gd_5 (List.mem_of_getElem? (i := 17) rfl) rfl
theorem ww_5_18 : (Jvm.Cond.instanceMethod ({ cls := "CrumbsHomeModel", name := "text", desc := "(I)I" } : Jvm.MethodName)) ∈ lw_gd := gd_5 (List.mem_of_getElem? (i := 18) rfl) rfl
theorem ww_5_19 : (Jvm.Cond.selects "CrumbsHomeModel" ({ cls := "CrumbsHomeModel", name := "text", desc := "(I)I" } : Jvm.MethodName) ({ cls := "CrumbsHomeModel", name := "text", desc := "(I)I" } : Jvm.MethodName)) ∈ lw_gd := gd_5 (List.mem_of_getElem? (i := 19) rfl) rfl
theorem ww_5_20 : (Jvm.Cond.code ({ cls := "CrumbsHomeModel", name := "text", desc := "(I)I" } : Jvm.MethodName) prog_9_method_50_code (4 : Nat) (Option.some Jvm.ClassFile.FieldType.int)) ∈ lw_gd := gd_5 (List.mem_of_getElem? (i := 20) rfl) rfl
theorem ww_5_21 : (Jvm.Cond.methodLink "CrumbsHomeModel" (167 : Nat) ({ cls := "CrumbsHomeModel", name := "any", desc := "()V" } : Jvm.MethodName)) ∈ lw_gd := gd_5 (List.mem_of_getElem? (i := 21) rfl) rfl
theorem ww_5_23 : (Jvm.Cond.instanceMethod ({ cls := "CrumbsHomeModel", name := "any", desc := "()V" } : Jvm.MethodName)) ∈ lw_gd := gd_5 (List.mem_of_getElem? (i := 23) rfl) rfl
theorem ww_5_24 : (Jvm.Cond.code ({ cls := "CrumbsHomeModel", name := "any", desc := "()V" } : Jvm.MethodName) prog_9_method_49_code (1 : Nat) (Option.none : Option Jvm.ClassFile.FieldType)) ∈ lw_gd := gd_5 (List.mem_of_getElem? (i := 24) rfl) rfl
theorem ww_5_25 : (Jvm.Cond.methodLink "CrumbsHomeModel" (188 : Nat) ({ cls := "CrumbsHomeModel", name := "all", desc := "()V" } : Jvm.MethodName)) ∈ lw_gd := gd_5 (List.mem_of_getElem? (i := 25) rfl) rfl
theorem ww_5_27 : (Jvm.Cond.instanceMethod ({ cls := "CrumbsHomeModel", name := "all", desc := "()V" } : Jvm.MethodName)) ∈ lw_gd := gd_5 (List.mem_of_getElem? (i := 27) rfl) rfl
theorem ww_5_28 : (Jvm.Cond.code ({ cls := "CrumbsHomeModel", name := "all", desc := "()V" } : Jvm.MethodName) prog_9_method_48_code (1 : Nat) (Option.none : Option Jvm.ClassFile.FieldType)) ∈ lw_gd := gd_5 (List.mem_of_getElem? (i := 28) rfl) rfl
theorem ww_5_29 : (Jvm.Cond.methodLink "CrumbsHomeModel" (185 : Nat) ({ cls := "CrumbsHomeModel", name := "compares", desc := "()V" } : Jvm.MethodName)) ∈ lw_gd := gd_5 (List.mem_of_getElem? (i := 29) rfl) rfl
theorem ww_5_31 : (Jvm.Cond.instanceMethod ({ cls := "CrumbsHomeModel", name := "compares", desc := "()V" } : Jvm.MethodName)) ∈ lw_gd := gd_5 (List.mem_of_getElem? (i := 31) rfl) rfl
theorem ww_5_32 : (Jvm.Cond.code ({ cls := "CrumbsHomeModel", name := "compares", desc := "()V" } : Jvm.MethodName) prog_9_method_47_code (2 : Nat) (Option.none : Option Jvm.ClassFile.FieldType)) ∈ lw_gd := gd_5 (List.mem_of_getElem? (i := 32) rfl) rfl
theorem ww_5_33 : (Jvm.Cond.methodLink "CrumbsHomeModel" (182 : Nat) ({ cls := "CrumbsHomeModel", name := "sum", desc := "()V" } : Jvm.MethodName)) ∈ lw_gd := gd_5 (List.mem_of_getElem? (i := 33) rfl) rfl
theorem ww_5_35 : (Jvm.Cond.instanceMethod ({ cls := "CrumbsHomeModel", name := "sum", desc := "()V" } : Jvm.MethodName)) ∈ lw_gd := gd_5 (List.mem_of_getElem? (i := 35) rfl) rfl
theorem ww_5_36 : (Jvm.Cond.code ({ cls := "CrumbsHomeModel", name := "sum", desc := "()V" } : Jvm.MethodName) prog_9_method_46_code (2 : Nat) (Option.none : Option Jvm.ClassFile.FieldType)) ∈ lw_gd := gd_5 (List.mem_of_getElem? (i := 36) rfl) rfl
theorem ww_5_37 : (Jvm.Cond.methodLink "CrumbsHomeModel" (179 : Nat) ({ cls := "CrumbsHomeModel", name := "times", desc := "()V" } : Jvm.MethodName)) ∈ lw_gd := gd_5 (List.mem_of_getElem? (i := 37) rfl) rfl
theorem ww_5_39 : (Jvm.Cond.instanceMethod ({ cls := "CrumbsHomeModel", name := "times", desc := "()V" } : Jvm.MethodName)) ∈ lw_gd := gd_5 (List.mem_of_getElem? (i := 39) rfl) rfl
theorem ww_5_40 : (Jvm.Cond.code ({ cls := "CrumbsHomeModel", name := "times", desc := "()V" } : Jvm.MethodName) prog_9_method_45_code (2 : Nat) (Option.none : Option Jvm.ClassFile.FieldType)) ∈ lw_gd := gd_5 (List.mem_of_getElem? (i := 40) rfl) rfl
theorem ww_5_41 : (Jvm.Cond.methodLink "CrumbsHomeModel" (164 : Nat) ({ cls := "CrumbsHomeModel", name := "one", desc := "()V" } : Jvm.MethodName)) ∈ lw_gd := gd_5 (List.mem_of_getElem? (i := 41) rfl) rfl
theorem ww_5_43 : (Jvm.Cond.instanceMethod ({ cls := "CrumbsHomeModel", name := "one", desc := "()V" } : Jvm.MethodName)) ∈ lw_gd := gd_5 (List.mem_of_getElem? (i := 43) rfl) rfl
theorem ww_5_44 : (Jvm.Cond.code ({ cls := "CrumbsHomeModel", name := "one", desc := "()V" } : Jvm.MethodName) prog_9_method_44_code (3 : Nat) (Option.none : Option Jvm.ClassFile.FieldType)) ∈ lw_gd := gd_5 (List.mem_of_getElem? (i := 44) rfl) rfl
theorem ww_5_45 : (Jvm.Cond.methodLink "CrumbsHomeModel" (150 : Nat) ({ cls := "CrumbsHomeModel", name := "look", desc := "()I" } : Jvm.MethodName)) ∈ lw_gd := gd_5 (List.mem_of_getElem? (i := 45) rfl) rfl
theorem ww_5_47 : (Jvm.Cond.instanceMethod ({ cls := "CrumbsHomeModel", name := "look", desc := "()I" } : Jvm.MethodName)) ∈ lw_gd := gd_5 (List.mem_of_getElem? (i := 47) rfl) rfl
theorem ww_5_48 : (Jvm.Cond.code ({ cls := "CrumbsHomeModel", name := "look", desc := "()I" } : Jvm.MethodName) prog_9_method_39_code (1 : Nat) (Option.some Jvm.ClassFile.FieldType.int)) ∈ lw_gd := gd_5 (List.mem_of_getElem? (i := 48) rfl) rfl
theorem ww_5_49 : (Jvm.Cond.methodLink "CrumbsHomeModel" (170 : Nat) ({ cls := "CrumbsHomeModel", name := "nameOf", desc := "(I)I" } : Jvm.MethodName)) ∈ lw_gd := gd_5 (List.mem_of_getElem? (i := 49) rfl) rfl
theorem ww_5_51 : (Jvm.Cond.instanceMethod ({ cls := "CrumbsHomeModel", name := "nameOf", desc := "(I)I" } : Jvm.MethodName)) ∈ lw_gd := gd_5 (List.mem_of_getElem? (i := 51) rfl) rfl
theorem ww_5_52 : (Jvm.Cond.code ({ cls := "CrumbsHomeModel", name := "nameOf", desc := "(I)I" } : Jvm.MethodName) prog_9_method_41_code (2 : Nat) (Option.some Jvm.ClassFile.FieldType.int)) ∈ lw_gd := gd_5 (List.mem_of_getElem? (i := 52) rfl) rfl
theorem ww_5_53 : (Jvm.Cond.methodLink "CrumbsHomeModel" (157 : Nat) ({ cls := "CrumbsHomeModel", name := "laysBy", desc := "(II)V" } : Jvm.MethodName)) ∈ lw_gd := gd_5 (List.mem_of_getElem? (i := 53) rfl) rfl
theorem ww_5_55 : (Jvm.Cond.instanceMethod ({ cls := "CrumbsHomeModel", name := "laysBy", desc := "(II)V" } : Jvm.MethodName)) ∈ lw_gd := gd_5 (List.mem_of_getElem? (i := 55) rfl) rfl
theorem ww_5_56 : (Jvm.Cond.code ({ cls := "CrumbsHomeModel", name := "laysBy", desc := "(II)V" } : Jvm.MethodName) prog_9_method_40_code (3 : Nat) (Option.none : Option Jvm.ClassFile.FieldType)) ∈ lw_gd := gd_5 (List.mem_of_getElem? (i := 56) rfl) rfl
theorem ww_5_57 : (Jvm.Cond.methodLink "CrumbsHomeModel" (173 : Nat) ({ cls := "CrumbsHomeModel", name := "opensBy", desc := "(I)V" } : Jvm.MethodName)) ∈ lw_gd := gd_5 (List.mem_of_getElem? (i := 57) rfl) rfl
theorem ww_5_59 : (Jvm.Cond.instanceMethod ({ cls := "CrumbsHomeModel", name := "opensBy", desc := "(I)V" } : Jvm.MethodName)) ∈ lw_gd := gd_5 (List.mem_of_getElem? (i := 59) rfl) rfl
theorem ww_5_60 : (Jvm.Cond.code ({ cls := "CrumbsHomeModel", name := "opensBy", desc := "(I)V" } : Jvm.MethodName) prog_9_method_43_code (2 : Nat) (Option.none : Option Jvm.ClassFile.FieldType)) ∈ lw_gd := gd_5 (List.mem_of_getElem? (i := 60) rfl) rfl
theorem ww_5_61 : (Jvm.Cond.methodLink "CrumbsHomeModel" (176 : Nat) ({ cls := "CrumbsHomeModel", name := "number", desc := "()V" } : Jvm.MethodName)) ∈ lw_gd := gd_5 (List.mem_of_getElem? (i := 61) rfl) rfl
theorem ww_5_63 : (Jvm.Cond.instanceMethod ({ cls := "CrumbsHomeModel", name := "number", desc := "()V" } : Jvm.MethodName)) ∈ lw_gd := gd_5 (List.mem_of_getElem? (i := 63) rfl) rfl
theorem ww_5_64 : (Jvm.Cond.code ({ cls := "CrumbsHomeModel", name := "number", desc := "()V" } : Jvm.MethodName) prog_9_method_42_code (3 : Nat) (Option.none : Option Jvm.ClassFile.FieldType)) ∈ lw_gd := gd_5 (List.mem_of_getElem? (i := 64) rfl) rfl
theorem ww_5_65 : (Jvm.Cond.methodLink "CrumbsHomeLaw" (66 : Nat) ({ cls := "CrumbsHomeModel", name := "untell", desc := "(I)I" } : Jvm.MethodName)) ∈ lw_gd := gd_5 (List.mem_of_getElem? (i := 65) rfl) rfl
theorem ww_5_66 : (Jvm.Cond.instanceMethod ({ cls := "CrumbsHomeModel", name := "untell", desc := "(I)I" } : Jvm.MethodName)) ∈ lw_gd := gd_5 (List.mem_of_getElem? (i := 66) rfl) rfl
theorem ww_5_67 : (Jvm.Cond.selects "CrumbsHomeModel" ({ cls := "CrumbsHomeModel", name := "untell", desc := "(I)I" } : Jvm.MethodName) ({ cls := "CrumbsHomeModel", name := "untell", desc := "(I)I" } : Jvm.MethodName)) ∈ lw_gd := gd_5 (List.mem_of_getElem? (i := 67) rfl) rfl
theorem ww_5_68 : (Jvm.Cond.code ({ cls := "CrumbsHomeModel", name := "untell", desc := "(I)I" } : Jvm.MethodName) prog_9_method_51_code (2 : Nat) (Option.some Jvm.ClassFile.FieldType.int)) ∈ lw_gd := gd_5 (List.mem_of_getElem? (i := 68) rfl) rfl
theorem ww_5_69 : (Jvm.Cond.methodLink "CrumbsHomeLaw" (71 : Nat) ({ cls := "CrumbsHomeModel", name := "law", desc := "(IIII)I" } : Jvm.MethodName)) ∈ lw_gd := gd_5 (List.mem_of_getElem? (i := 69) rfl) rfl
theorem ww_5_70 : (Jvm.Cond.instanceMethod ({ cls := "CrumbsHomeModel", name := "law", desc := "(IIII)I" } : Jvm.MethodName)) ∈ lw_gd := gd_5 (List.mem_of_getElem? (i := 70) rfl) rfl
theorem ww_5_71 : (Jvm.Cond.selects "CrumbsHomeModel" ({ cls := "CrumbsHomeModel", name := "law", desc := "(IIII)I" } : Jvm.MethodName) ({ cls := "CrumbsHomeModel", name := "law", desc := "(IIII)I" } : Jvm.MethodName)) ∈ lw_gd := gd_5 (List.mem_of_getElem? (i := 71) rfl) rfl
theorem ww_5_72 : (Jvm.Cond.code ({ cls := "CrumbsHomeModel", name := "law", desc := "(IIII)I" } : Jvm.MethodName) prog_9_method_55_code (5 : Nat) (Option.some Jvm.ClassFile.FieldType.int)) ∈ lw_gd := gd_5 (List.mem_of_getElem? (i := 72) rfl) rfl
theorem ww_5_73 : (Jvm.Cond.methodLink "CrumbsHomeLaw" (75 : Nat) ({ cls := "CrumbsHomeModel", name := "days", desc := "(I)I" } : Jvm.MethodName)) ∈ lw_gd := gd_5 (List.mem_of_getElem? (i := 73) rfl) rfl
theorem ww_5_74 : (Jvm.Cond.instanceMethod ({ cls := "CrumbsHomeModel", name := "days", desc := "(I)I" } : Jvm.MethodName)) ∈ lw_gd := gd_5 (List.mem_of_getElem? (i := 74) rfl) rfl
theorem ww_5_75 : (Jvm.Cond.selects "CrumbsHomeModel" ({ cls := "CrumbsHomeModel", name := "days", desc := "(I)I" } : Jvm.MethodName) ({ cls := "CrumbsHomeModel", name := "days", desc := "(I)I" } : Jvm.MethodName)) ∈ lw_gd := gd_5 (List.mem_of_getElem? (i := 75) rfl) rfl
theorem ww_5_76 : (Jvm.Cond.code ({ cls := "CrumbsHomeModel", name := "days", desc := "(I)I" } : Jvm.MethodName) prog_9_method_59_code (2 : Nat) (Option.some Jvm.ClassFile.FieldType.int)) ∈ lw_gd := gd_5 (List.mem_of_getElem? (i := 76) rfl) rfl
theorem ww_5_77 : (Jvm.Cond.constant "CrumbsHomeModel" (207 : Nat) (-1000000003 : Int32)) ∈ lw_gd := gd_5 (List.mem_of_getElem? (i := 77) rfl) rfl
theorem ww_5_78 : (Jvm.Cond.methodLink "CrumbsHomeModel" (208 : Nat) ({ cls := "CrumbsHomeModel", name := "goesFor", desc := "(I)V" } : Jvm.MethodName)) ∈ lw_gd := gd_5 (List.mem_of_getElem? (i := 78) rfl) rfl
theorem ww_5_80 : (Jvm.Cond.instanceMethod ({ cls := "CrumbsHomeModel", name := "goesFor", desc := "(I)V" } : Jvm.MethodName)) ∈ lw_gd := gd_5 (List.mem_of_getElem? (i := 80) rfl) rfl
theorem ww_5_81 : (Jvm.Cond.code ({ cls := "CrumbsHomeModel", name := "goesFor", desc := "(I)V" } : Jvm.MethodName) prog_9_method_58_code (3 : Nat) (Option.none : Option Jvm.ClassFile.FieldType)) ∈ lw_gd := gd_5 (List.mem_of_getElem? (i := 81) rfl) rfl
theorem ww_5_82 : (Jvm.Cond.methodLink "CrumbsHomeModel" (204 : Nat) ({ cls := "CrumbsHomeModel", name := "goes", desc := "()V" } : Jvm.MethodName)) ∈ lw_gd := gd_5 (List.mem_of_getElem? (i := 82) rfl) rfl
theorem ww_5_84 : (Jvm.Cond.instanceMethod ({ cls := "CrumbsHomeModel", name := "goes", desc := "()V" } : Jvm.MethodName)) ∈ lw_gd := gd_5 (List.mem_of_getElem? (i := 84) rfl) rfl
theorem ww_5_85 : (Jvm.Cond.code ({ cls := "CrumbsHomeModel", name := "goes", desc := "()V" } : Jvm.MethodName) prog_9_method_57_code (3 : Nat) (Option.none : Option Jvm.ClassFile.FieldType)) ∈ lw_gd := gd_5 (List.mem_of_getElem? (i := 85) rfl) rfl
theorem ww_5_86 : (Jvm.Cond.methodLink "CrumbsHomeModel" (69 : Nat) ({ cls := "CrumbsHomeModel", name := "isHome", desc := "(I)Z" } : Jvm.MethodName)) ∈ lw_gd := gd_5 (List.mem_of_getElem? (i := 86) rfl) rfl
theorem ww_5_88 : (Jvm.Cond.instanceMethod ({ cls := "CrumbsHomeModel", name := "isHome", desc := "(I)Z" } : Jvm.MethodName)) ∈ lw_gd := gd_5 (List.mem_of_getElem? (i := 88) rfl) rfl
theorem ww_5_89 : (Jvm.Cond.code ({ cls := "CrumbsHomeModel", name := "isHome", desc := "(I)Z" } : Jvm.MethodName) prog_9_method_16_code (2 : Nat) (Option.some Jvm.ClassFile.FieldType.boolean)) ∈ lw_gd := gd_5 (List.mem_of_getElem? (i := 89) rfl) rfl
theorem ww_5_90 : (Jvm.Cond.methodLink "CrumbsHomeModel" (201 : Nat) ({ cls := "CrumbsHomeModel", name := "nextOf", desc := "(II)I" } : Jvm.MethodName)) ∈ lw_gd := gd_5 (List.mem_of_getElem? (i := 90) rfl) rfl
theorem ww_5_92 : (Jvm.Cond.instanceMethod ({ cls := "CrumbsHomeModel", name := "nextOf", desc := "(II)I" } : Jvm.MethodName)) ∈ lw_gd := gd_5 (List.mem_of_getElem? (i := 92) rfl) rfl
theorem ww_5_93 : (Jvm.Cond.code ({ cls := "CrumbsHomeModel", name := "nextOf", desc := "(II)I" } : Jvm.MethodName) prog_9_method_56_code (4 : Nat) (Option.some Jvm.ClassFile.FieldType.int)) ∈ lw_gd := gd_5 (List.mem_of_getElem? (i := 93) rfl) rfl
theorem ww_5_94 : (Jvm.Cond.methodLink "CrumbsHomeModel" (211 : Nat) ({ cls := "CrumbsHomeModel", name := "homes", desc := "()I" } : Jvm.MethodName)) ∈ lw_gd := gd_5 (List.mem_of_getElem? (i := 94) rfl) rfl
theorem ww_5_96 : (Jvm.Cond.instanceMethod ({ cls := "CrumbsHomeModel", name := "homes", desc := "()I" } : Jvm.MethodName)) ∈ lw_gd := gd_5 (List.mem_of_getElem? (i := 96) rfl) rfl
theorem ww_5_97 : (Jvm.Cond.code ({ cls := "CrumbsHomeModel", name := "homes", desc := "()I" } : Jvm.MethodName) prog_9_method_17_code (3 : Nat) (Option.some Jvm.ClassFile.FieldType.int)) ∈ lw_gd := gd_5 (List.mem_of_getElem? (i := 97) rfl) rfl
theorem ww_5_98 : (Jvm.Cond.methodLink "CrumbsHomeLaw" (79 : Nat) ({ cls := "CrumbsHomeModel", name := "loose", desc := "(I)I" } : Jvm.MethodName)) ∈ lw_gd := gd_5 (List.mem_of_getElem? (i := 98) rfl) rfl
theorem ww_5_99 : (Jvm.Cond.instanceMethod ({ cls := "CrumbsHomeModel", name := "loose", desc := "(I)I" } : Jvm.MethodName)) ∈ lw_gd := gd_5 (List.mem_of_getElem? (i := 99) rfl) rfl
theorem ww_5_100 : (Jvm.Cond.selects "CrumbsHomeModel" ({ cls := "CrumbsHomeModel", name := "loose", desc := "(I)I" } : Jvm.MethodName) ({ cls := "CrumbsHomeModel", name := "loose", desc := "(I)I" } : Jvm.MethodName)) ∈ lw_gd := gd_5 (List.mem_of_getElem? (i := 100) rfl) rfl
theorem ww_5_101 : (Jvm.Cond.code ({ cls := "CrumbsHomeModel", name := "loose", desc := "(I)I" } : Jvm.MethodName) prog_9_method_62_code (3 : Nat) (Option.some Jvm.ClassFile.FieldType.int)) ∈ lw_gd := gd_5 (List.mem_of_getElem? (i := 101) rfl) rfl
theorem ww_5_102 : (Jvm.Cond.methodLink "CrumbsHomeModel" (218 : Nat) ({ cls := "CrumbsHomeModel", name := "drawn", desc := "()V" } : Jvm.MethodName)) ∈ lw_gd := gd_5 (List.mem_of_getElem? (i := 102) rfl) rfl
theorem ww_5_104 : (Jvm.Cond.instanceMethod ({ cls := "CrumbsHomeModel", name := "drawn", desc := "()V" } : Jvm.MethodName)) ∈ lw_gd := gd_5 (List.mem_of_getElem? (i := 104) rfl) rfl
theorem ww_5_105 : (Jvm.Cond.code ({ cls := "CrumbsHomeModel", name := "drawn", desc := "()V" } : Jvm.MethodName) prog_9_method_61_code (2 : Nat) (Option.none : Option Jvm.ClassFile.FieldType)) ∈ lw_gd := gd_5 (List.mem_of_getElem? (i := 105) rfl) rfl
theorem ww_5_106 : (Jvm.Cond.methodLink "CrumbsHomeModel" (215 : Nat) ({ cls := "CrumbsHomeModel", name := "draw", desc := "()I" } : Jvm.MethodName)) ∈ lw_gd := gd_5 (List.mem_of_getElem? (i := 106) rfl) rfl
theorem ww_5_108 : (Jvm.Cond.instanceMethod ({ cls := "CrumbsHomeModel", name := "draw", desc := "()I" } : Jvm.MethodName)) ∈ lw_gd := gd_5 (List.mem_of_getElem? (i := 108) rfl) rfl
theorem ww_5_109 : (Jvm.Cond.code ({ cls := "CrumbsHomeModel", name := "draw", desc := "()I" } : Jvm.MethodName) prog_9_method_60_code (1 : Nat) (Option.some Jvm.ClassFile.FieldType.int)) ∈ lw_gd := gd_5 (List.mem_of_getElem? (i := 109) rfl) rfl
theorem ww_5_110 : (Jvm.Cond.constant "CrumbsHomeModel" (214 : Nat) (1103515245 : Int32)) ∈ lw_gd := gd_5 (List.mem_of_getElem? (i := 110) rfl) rfl
theorem ww_5_111 : (Jvm.Cond.methodLink "CrumbsHomeLaw" (83 : Nat) ({ cls := "CrumbsHomeModel", name := "day", desc := "(I)I" } : Jvm.MethodName)) ∈ lw_gd := gd_5 (List.mem_of_getElem? (i := 111) rfl) rfl
theorem ww_5_112 : (Jvm.Cond.instanceMethod ({ cls := "CrumbsHomeModel", name := "day", desc := "(I)I" } : Jvm.MethodName)) ∈ lw_gd := gd_5 (List.mem_of_getElem? (i := 112) rfl) rfl
theorem ww_5_113 : (Jvm.Cond.selects "CrumbsHomeModel" ({ cls := "CrumbsHomeModel", name := "day", desc := "(I)I" } : Jvm.MethodName) ({ cls := "CrumbsHomeModel", name := "day", desc := "(I)I" } : Jvm.MethodName)) ∈ lw_gd := gd_5 (List.mem_of_getElem? (i := 113) rfl) rfl
theorem ww_5_114 : (Jvm.Cond.code ({ cls := "CrumbsHomeModel", name := "day", desc := "(I)I" } : Jvm.MethodName) prog_9_method_63_code (2 : Nat) (Option.some Jvm.ClassFile.FieldType.int)) ∈ lw_gd := gd_5 (List.mem_of_getElem? (i := 114) rfl) rfl
theorem ww_5_115 : (Jvm.Cond.methodLink "CrumbsHomeLaw" (87 : Nat) ({ cls := "CrumbsHomeModel", name := "seed", desc := "(I)I" } : Jvm.MethodName)) ∈ lw_gd := gd_5 (List.mem_of_getElem? (i := 115) rfl) rfl
theorem ww_5_116 : (Jvm.Cond.instanceMethod ({ cls := "CrumbsHomeModel", name := "seed", desc := "(I)I" } : Jvm.MethodName)) ∈ lw_gd := gd_5 (List.mem_of_getElem? (i := 116) rfl) rfl
theorem ww_5_117 : (Jvm.Cond.selects "CrumbsHomeModel" ({ cls := "CrumbsHomeModel", name := "seed", desc := "(I)I" } : Jvm.MethodName) ({ cls := "CrumbsHomeModel", name := "seed", desc := "(I)I" } : Jvm.MethodName)) ∈ lw_gd := gd_5 (List.mem_of_getElem? (i := 117) rfl) rfl
theorem ww_5_118 : (Jvm.Cond.code ({ cls := "CrumbsHomeModel", name := "seed", desc := "(I)I" } : Jvm.MethodName) prog_9_method_64_code (2 : Nat) (Option.some Jvm.ClassFile.FieldType.int)) ∈ lw_gd := gd_5 (List.mem_of_getElem? (i := 118) rfl) rfl
theorem ww_5_119 : (Jvm.Cond.methodLink "CrumbsHomeLaw" (91 : Nat) ({ cls := "CrumbsHomeModel", name := "then", desc := "(II)I" } : Jvm.MethodName)) ∈ lw_gd := gd_5 (List.mem_of_getElem? (i := 119) rfl) rfl
theorem ww_5_120 : (Jvm.Cond.instanceMethod ({ cls := "CrumbsHomeModel", name := "then", desc := "(II)I" } : Jvm.MethodName)) ∈ lw_gd := gd_5 (List.mem_of_getElem? (i := 120) rfl) rfl
theorem ww_5_121 : (Jvm.Cond.selects "CrumbsHomeModel" ({ cls := "CrumbsHomeModel", name := "then", desc := "(II)I" } : Jvm.MethodName) ({ cls := "CrumbsHomeModel", name := "then", desc := "(II)I" } : Jvm.MethodName)) ∈ lw_gd := gd_5 (List.mem_of_getElem? (i := 121) rfl) rfl
theorem ww_5_122 : (Jvm.Cond.code ({ cls := "CrumbsHomeModel", name := "then", desc := "(II)I" } : Jvm.MethodName) prog_9_method_65_code (4 : Nat) (Option.some Jvm.ClassFile.FieldType.int)) ∈ lw_gd := gd_5 (List.mem_of_getElem? (i := 122) rfl) rfl
theorem ww_5_123 : (Jvm.Cond.methodLink "CrumbsHomeModel" (221 : Nat) ({ cls := "CrumbsHomeModel", name := "thinks", desc := "()V" } : Jvm.MethodName)) ∈ lw_gd := gd_5 (List.mem_of_getElem? (i := 123) rfl) rfl
theorem ww_5_125 : (Jvm.Cond.instanceMethod ({ cls := "CrumbsHomeModel", name := "thinks", desc := "()V" } : Jvm.MethodName)) ∈ lw_gd := gd_5 (List.mem_of_getElem? (i := 125) rfl) rfl
theorem ww_5_126 : (Jvm.Cond.code ({ cls := "CrumbsHomeModel", name := "thinks", desc := "()V" } : Jvm.MethodName) prog_9_method_6_code (1 : Nat) (Option.none : Option Jvm.ClassFile.FieldType)) ∈ lw_gd := gd_5 (List.mem_of_getElem? (i := 126) rfl) rfl
theorem ww_5_127 : (Jvm.Cond.methodLink "CrumbsHomeModel" (53 : Nat) ({ cls := "CrumbsHomeModel", name := "copyAll", desc := "([I[I)V" } : Jvm.MethodName)) ∈ lw_gd := gd_5 (List.mem_of_getElem? (i := 127) rfl) rfl
theorem ww_5_128 : (Jvm.Cond.static ({ cls := "CrumbsHomeModel", name := "copyAll", desc := "([I[I)V" } : Jvm.MethodName)) ∈ lw_gd := gd_5 (List.mem_of_getElem? (i := 128) rfl) rfl
theorem ww_5_129 : (Jvm.Cond.code ({ cls := "CrumbsHomeModel", name := "copyAll", desc := "([I[I)V" } : Jvm.MethodName) prog_9_method_5_code (3 : Nat) (Option.none : Option Jvm.ClassFile.FieldType)) ∈ lw_gd := gd_5 (List.mem_of_getElem? (i := 129) rfl) rfl
theorem ww_5_130 : (Jvm.Cond.methodLink "CrumbsHomeModel" (224 : Nat) ({ cls := "CrumbsHomeModel", name := "putsBack", desc := "()V" } : Jvm.MethodName)) ∈ lw_gd := gd_5 (List.mem_of_getElem? (i := 130) rfl) rfl
theorem ww_5_132 : (Jvm.Cond.instanceMethod ({ cls := "CrumbsHomeModel", name := "putsBack", desc := "()V" } : Jvm.MethodName)) ∈ lw_gd := gd_5 (List.mem_of_getElem? (i := 132) rfl) rfl
theorem ww_5_133 : (Jvm.Cond.code ({ cls := "CrumbsHomeModel", name := "putsBack", desc := "()V" } : Jvm.MethodName) prog_9_method_7_code (1 : Nat) (Option.none : Option Jvm.ClassFile.FieldType)) ∈ lw_gd := gd_5 (List.mem_of_getElem? (i := 133) rfl) rfl
theorem ww_5_134 : (Jvm.Cond.methodLink "CrumbsHomeLaw" (95 : Nat) ({ cls := "CrumbsHomeModel", name := "soonest", desc := "(I)I" } : Jvm.MethodName)) ∈ lw_gd := gd_5 (List.mem_of_getElem? (i := 134) rfl) rfl
theorem ww_5_135 : (Jvm.Cond.instanceMethod ({ cls := "CrumbsHomeModel", name := "soonest", desc := "(I)I" } : Jvm.MethodName)) ∈ lw_gd := gd_5 (List.mem_of_getElem? (i := 135) rfl) rfl
theorem ww_5_136 : (Jvm.Cond.selects "CrumbsHomeModel" ({ cls := "CrumbsHomeModel", name := "soonest", desc := "(I)I" } : Jvm.MethodName) ({ cls := "CrumbsHomeModel", name := "soonest", desc := "(I)I" } : Jvm.MethodName)) ∈ lw_gd := gd_5 (List.mem_of_getElem? (i := 136) rfl) rfl
theorem ww_5_137 : (Jvm.Cond.code ({ cls := "CrumbsHomeModel", name := "soonest", desc := "(I)I" } : Jvm.MethodName) prog_9_method_66_code (3 : Nat) (Option.some Jvm.ClassFile.FieldType.int)) ∈ lw_gd := gd_5 (List.mem_of_getElem? (i := 137) rfl) rfl
theorem ww_5_138 : (Jvm.Cond.methodLink "CrumbsHomeLaw" (99 : Nat) ({ cls := "CrumbsHomeModel", name := "gets", desc := "(II)I" } : Jvm.MethodName)) ∈ lw_gd := gd_5 (List.mem_of_getElem? (i := 138) rfl) rfl
theorem ww_5_139 : (Jvm.Cond.instanceMethod ({ cls := "CrumbsHomeModel", name := "gets", desc := "(II)I" } : Jvm.MethodName)) ∈ lw_gd := gd_5 (List.mem_of_getElem? (i := 139) rfl) rfl
theorem ww_5_140 : (Jvm.Cond.selects "CrumbsHomeModel" ({ cls := "CrumbsHomeModel", name := "gets", desc := "(II)I" } : Jvm.MethodName) ({ cls := "CrumbsHomeModel", name := "gets", desc := "(II)I" } : Jvm.MethodName)) ∈ lw_gd := gd_5 (List.mem_of_getElem? (i := 140) rfl) rfl
theorem ww_5_141 : (Jvm.Cond.code ({ cls := "CrumbsHomeModel", name := "gets", desc := "(II)I" } : Jvm.MethodName) prog_9_method_68_code (4 : Nat) (Option.some Jvm.ClassFile.FieldType.int)) ∈ lw_gd := gd_5 (List.mem_of_getElem? (i := 141) rfl) rfl
theorem ww_5_142 : (Jvm.Cond.methodLink "CrumbsHomeModel" (227 : Nat) ({ cls := "CrumbsHomeModel", name := "gotBy", desc := "(I)I" } : Jvm.MethodName)) ∈ lw_gd := gd_5 (List.mem_of_getElem? (i := 142) rfl) rfl
theorem ww_5_144 : (Jvm.Cond.instanceMethod ({ cls := "CrumbsHomeModel", name := "gotBy", desc := "(I)I" } : Jvm.MethodName)) ∈ lw_gd := gd_5 (List.mem_of_getElem? (i := 144) rfl) rfl
theorem ww_5_145 : (Jvm.Cond.code ({ cls := "CrumbsHomeModel", name := "gotBy", desc := "(I)I" } : Jvm.MethodName) prog_9_method_67_code (4 : Nat) (Option.some Jvm.ClassFile.FieldType.int)) ∈ lw_gd := gd_5 (List.mem_of_getElem? (i := 145) rfl) rfl
theorem ww_5_146 : (Jvm.Cond.methodLink "CrumbsHomeLaw" (103 : Nat) ({ cls := "CrumbsHomeModel", name := "carry", desc := "(III)I" } : Jvm.MethodName)) ∈ lw_gd := gd_5 (List.mem_of_getElem? (i := 146) rfl) rfl
theorem ww_5_147 : (Jvm.Cond.instanceMethod ({ cls := "CrumbsHomeModel", name := "carry", desc := "(III)I" } : Jvm.MethodName)) ∈ lw_gd := gd_5 (List.mem_of_getElem? (i := 147) rfl) rfl
theorem ww_5_148 : (Jvm.Cond.selects "CrumbsHomeModel" ({ cls := "CrumbsHomeModel", name := "carry", desc := "(III)I" } : Jvm.MethodName) ({ cls := "CrumbsHomeModel", name := "carry", desc := "(III)I" } : Jvm.MethodName)) ∈ lw_gd := gd_5 (List.mem_of_getElem? (i := 148) rfl) rfl
theorem ww_5_149 : (Jvm.Cond.code ({ cls := "CrumbsHomeModel", name := "carry", desc := "(III)I" } : Jvm.MethodName) prog_9_method_70_code (7 : Nat) (Option.some Jvm.ClassFile.FieldType.int)) ∈ lw_gd := gd_5 (List.mem_of_getElem? (i := 149) rfl) rfl
theorem ww_5_150 : (Jvm.Cond.methodLink "CrumbsHomeModel" (230 : Nat) ({ cls := "CrumbsHomeModel", name := "bits", desc := "(I)I" } : Jvm.MethodName)) ∈ lw_gd := gd_5 (List.mem_of_getElem? (i := 150) rfl) rfl
theorem ww_5_151 : (Jvm.Cond.static ({ cls := "CrumbsHomeModel", name := "bits", desc := "(I)I" } : Jvm.MethodName)) ∈ lw_gd := gd_5 (List.mem_of_getElem? (i := 151) rfl) rfl
theorem ww_5_152 : (Jvm.Cond.code ({ cls := "CrumbsHomeModel", name := "bits", desc := "(I)I" } : Jvm.MethodName) prog_9_method_8_code (3 : Nat) (Option.some Jvm.ClassFile.FieldType.int)) ∈ lw_gd := gd_5 (List.mem_of_getElem? (i := 152) rfl) rfl
theorem ww_5_153 : (Jvm.Cond.methodLink "CrumbsHomeModel" (233 : Nat) ({ cls := "CrumbsHomeModel", name := "isEnough", desc := "(IIII)Z" } : Jvm.MethodName)) ∈ lw_gd := gd_5 (List.mem_of_getElem? (i := 153) rfl) rfl
theorem ww_5_155 : (Jvm.Cond.instanceMethod ({ cls := "CrumbsHomeModel", name := "isEnough", desc := "(IIII)Z" } : Jvm.MethodName)) ∈ lw_gd := gd_5 (List.mem_of_getElem? (i := 155) rfl) rfl
theorem ww_5_156 : (Jvm.Cond.code ({ cls := "CrumbsHomeModel", name := "isEnough", desc := "(IIII)Z" } : Jvm.MethodName) prog_9_method_69_code (6 : Nat) (Option.some Jvm.ClassFile.FieldType.boolean)) ∈ lw_gd := gd_5 (List.mem_of_getElem? (i := 156) rfl) rfl
theorem ww_5_157 : (Jvm.Cond.methodLink "CrumbsHomeLaw" (107 : Nat) ({ cls := "CrumbsHomeModel", name := "way", desc := "(II)I" } : Jvm.MethodName)) ∈ lw_gd := gd_5 (List.mem_of_getElem? (i := 157) rfl) rfl
theorem ww_5_158 : (Jvm.Cond.instanceMethod ({ cls := "CrumbsHomeModel", name := "way", desc := "(II)I" } : Jvm.MethodName)) ∈ lw_gd := gd_5 (List.mem_of_getElem? (i := 158) rfl) rfl
theorem ww_5_159 : (Jvm.Cond.selects "CrumbsHomeModel" ({ cls := "CrumbsHomeModel", name := "way", desc := "(II)I" } : Jvm.MethodName) ({ cls := "CrumbsHomeModel", name := "way", desc := "(II)I" } : Jvm.MethodName)) ∈ lw_gd := gd_5 (List.mem_of_getElem? (i := 159) rfl) rfl
theorem ww_5_160 : (Jvm.Cond.code ({ cls := "CrumbsHomeModel", name := "way", desc := "(II)I" } : Jvm.MethodName) prog_9_method_71_code (9 : Nat) (Option.some Jvm.ClassFile.FieldType.int)) ∈ lw_gd := gd_5 (List.mem_of_getElem? (i := 160) rfl) rfl
theorem ww_5_161 : (Jvm.Cond.methodLink "CrumbsHomeLaw" (111 : Nat) ({ cls := "CrumbsHomeModel", name := "odds", desc := "(II)I" } : Jvm.MethodName)) ∈ lw_gd := gd_5 (List.mem_of_getElem? (i := 161) rfl) rfl
theorem ww_5_162 : (Jvm.Cond.instanceMethod ({ cls := "CrumbsHomeModel", name := "odds", desc := "(II)I" } : Jvm.MethodName)) ∈ lw_gd := gd_5 (List.mem_of_getElem? (i := 162) rfl) rfl
theorem ww_5_163 : (Jvm.Cond.selects "CrumbsHomeModel" ({ cls := "CrumbsHomeModel", name := "odds", desc := "(II)I" } : Jvm.MethodName) ({ cls := "CrumbsHomeModel", name := "odds", desc := "(II)I" } : Jvm.MethodName)) ∈ lw_gd := gd_5 (List.mem_of_getElem? (i := 163) rfl) rfl
theorem ww_5_164 : (Jvm.Cond.code ({ cls := "CrumbsHomeModel", name := "odds", desc := "(II)I" } : Jvm.MethodName) prog_9_method_72_code (6 : Nat) (Option.some Jvm.ClassFile.FieldType.int)) ∈ lw_gd := gd_5 (List.mem_of_getElem? (i := 164) rfl) rfl
theorem ww_5_165 : (Jvm.Cond.methodLink "CrumbsHomeLaw" (115 : Nat) ({ cls := "CrumbsHomeModel", name := "whose", desc := "(III)I" } : Jvm.MethodName)) ∈ lw_gd := gd_5 (List.mem_of_getElem? (i := 165) rfl) rfl
theorem ww_5_166 : (Jvm.Cond.instanceMethod ({ cls := "CrumbsHomeModel", name := "whose", desc := "(III)I" } : Jvm.MethodName)) ∈ lw_gd := gd_5 (List.mem_of_getElem? (i := 166) rfl) rfl
theorem ww_5_167 : (Jvm.Cond.selects "CrumbsHomeModel" ({ cls := "CrumbsHomeModel", name := "whose", desc := "(III)I" } : Jvm.MethodName) ({ cls := "CrumbsHomeModel", name := "whose", desc := "(III)I" } : Jvm.MethodName)) ∈ lw_gd := gd_5 (List.mem_of_getElem? (i := 167) rfl) rfl
theorem ww_5_168 : (Jvm.Cond.code ({ cls := "CrumbsHomeModel", name := "whose", desc := "(III)I" } : Jvm.MethodName) prog_9_method_74_code (6 : Nat) (Option.some Jvm.ClassFile.FieldType.int)) ∈ lw_gd := gd_5 (List.mem_of_getElem? (i := 168) rfl) rfl
theorem ww_5_169 : (Jvm.Cond.methodLink "CrumbsHomeModel" (237 : Nat) ({ cls := "CrumbsHomeModel", name := "isSheet", desc := "(I)Z" } : Jvm.MethodName)) ∈ lw_gd := gd_5 (List.mem_of_getElem? (i := 169) rfl) rfl
theorem ww_5_170 : (Jvm.Cond.static ({ cls := "CrumbsHomeModel", name := "isSheet", desc := "(I)Z" } : Jvm.MethodName)) ∈ lw_gd := gd_5 (List.mem_of_getElem? (i := 170) rfl) rfl
theorem ww_5_171 : (Jvm.Cond.code ({ cls := "CrumbsHomeModel", name := "isSheet", desc := "(I)Z" } : Jvm.MethodName) prog_9_method_88_code (1 : Nat) (Option.some Jvm.ClassFile.FieldType.boolean)) ∈ lw_gd := gd_5 (List.mem_of_getElem? (i := 171) rfl) rfl
theorem ww_5_172 : (Jvm.Cond.methodLink "CrumbsHomeModel" (240 : Nat) ({ cls := "CrumbsHomeModel", name := "isSo", desc := "(II)Z" } : Jvm.MethodName)) ∈ lw_gd := gd_5 (List.mem_of_getElem? (i := 172) rfl) rfl
theorem ww_5_174 : (Jvm.Cond.instanceMethod ({ cls := "CrumbsHomeModel", name := "isSo", desc := "(II)Z" } : Jvm.MethodName)) ∈ lw_gd := gd_5 (List.mem_of_getElem? (i := 174) rfl) rfl
theorem ww_5_175 : (Jvm.Cond.code ({ cls := "CrumbsHomeModel", name := "isSo", desc := "(II)Z" } : Jvm.MethodName) prog_9_method_73_code (5 : Nat) (Option.some Jvm.ClassFile.FieldType.boolean)) ∈ lw_gd := gd_5 (List.mem_of_getElem? (i := 175) rfl) rfl
theorem ww_5_176 : (Jvm.Cond.methodLink "CrumbsHomeLaw" (119 : Nat) ({ cls := "CrumbsHomeModel", name := "voice", desc := "(III)I" } : Jvm.MethodName)) ∈ lw_gd := gd_5 (List.mem_of_getElem? (i := 176) rfl) rfl
theorem ww_5_177 : (Jvm.Cond.instanceMethod ({ cls := "CrumbsHomeModel", name := "voice", desc := "(III)I" } : Jvm.MethodName)) ∈ lw_gd := gd_5 (List.mem_of_getElem? (i := 177) rfl) rfl
theorem ww_5_178 : (Jvm.Cond.selects "CrumbsHomeModel" ({ cls := "CrumbsHomeModel", name := "voice", desc := "(III)I" } : Jvm.MethodName) ({ cls := "CrumbsHomeModel", name := "voice", desc := "(III)I" } : Jvm.MethodName)) ∈ lw_gd := gd_5 (List.mem_of_getElem? (i := 178) rfl) rfl
theorem ww_5_179 : (Jvm.Cond.code ({ cls := "CrumbsHomeModel", name := "voice", desc := "(III)I" } : Jvm.MethodName) prog_9_method_86_code (5 : Nat) (Option.some Jvm.ClassFile.FieldType.int)) ∈ lw_gd := gd_5 (List.mem_of_getElem? (i := 179) rfl) rfl
theorem ww_5_180 : (Jvm.Cond.methodLink "CrumbsHomeModel" (256 : Nat) ({ cls := "CrumbsHomeModel", name := "walks", desc := "(II)I" } : Jvm.MethodName)) ∈ lw_gd := gd_5 (List.mem_of_getElem? (i := 180) rfl) rfl
theorem ww_5_182 : (Jvm.Cond.instanceMethod ({ cls := "CrumbsHomeModel", name := "walks", desc := "(II)I" } : Jvm.MethodName)) ∈ lw_gd := gd_5 (List.mem_of_getElem? (i := 182) rfl) rfl
theorem ww_5_183 : (Jvm.Cond.code ({ cls := "CrumbsHomeModel", name := "walks", desc := "(II)I" } : Jvm.MethodName) prog_9_method_78_code (3 : Nat) (Option.some Jvm.ClassFile.FieldType.int)) ∈ lw_gd := gd_5 (List.mem_of_getElem? (i := 183) rfl) rfl
theorem ww_5_184 : (Jvm.Cond.methodLink "CrumbsHomeModel" (253 : Nat) ({ cls := "CrumbsHomeModel", name := "crustWalks", desc := "(II)I" } : Jvm.MethodName)) ∈ lw_gd := gd_5 (List.mem_of_getElem? (i := 184) rfl) rfl
theorem ww_5_186 : (Jvm.Cond.instanceMethod ({ cls := "CrumbsHomeModel", name := "crustWalks", desc := "(II)I" } : Jvm.MethodName)) ∈ lw_gd := gd_5 (List.mem_of_getElem? (i := 186) rfl) rfl
theorem ww_5_187 : (Jvm.Cond.code ({ cls := "CrumbsHomeModel", name := "crustWalks", desc := "(II)I" } : Jvm.MethodName) prog_9_method_77_code (3 : Nat) (Option.some Jvm.ClassFile.FieldType.int)) ∈ lw_gd := gd_5 (List.mem_of_getElem? (i := 187) rfl) rfl
theorem ww_5_188 : (Jvm.Cond.methodLink "CrumbsHomeModel" (247 : Nat) ({ cls := "CrumbsHomeModel", name := "begins", desc := "(I)V" } : Jvm.MethodName)) ∈ lw_gd := gd_5 (List.mem_of_getElem? (i := 188) rfl) rfl
theorem ww_5_190 : (Jvm.Cond.instanceMethod ({ cls := "CrumbsHomeModel", name := "begins", desc := "(I)V" } : Jvm.MethodName)) ∈ lw_gd := gd_5 (List.mem_of_getElem? (i := 190) rfl) rfl
theorem ww_5_191 : (Jvm.Cond.code ({ cls := "CrumbsHomeModel", name := "begins", desc := "(I)V" } : Jvm.MethodName) prog_9_method_75_code (2 : Nat) (Option.none : Option Jvm.ClassFile.FieldType)) ∈ lw_gd := gd_5 (List.mem_of_getElem? (i := 191) rfl) rfl
theorem ww_5_192 : (Jvm.Cond.methodLink "CrumbsHomeModel" (250 : Nat) ({ cls := "CrumbsHomeModel", name := "plainWalks", desc := "(II)I" } : Jvm.MethodName)) ∈ lw_gd := gd_5 (List.mem_of_getElem? (i := 192) rfl) rfl
theorem ww_5_194 : (Jvm.Cond.instanceMethod ({ cls := "CrumbsHomeModel", name := "plainWalks", desc := "(II)I" } : Jvm.MethodName)) ∈ lw_gd := gd_5 (List.mem_of_getElem? (i := 194) rfl) rfl
theorem ww_5_195 : (Jvm.Cond.code ({ cls := "CrumbsHomeModel", name := "plainWalks", desc := "(II)I" } : Jvm.MethodName) prog_9_method_76_code (3 : Nat) (Option.some Jvm.ClassFile.FieldType.int)) ∈ lw_gd := gd_5 (List.mem_of_getElem? (i := 195) rfl) rfl
theorem ww_5_196 : (Jvm.Cond.methodLink "CrumbsHomeModel" (265 : Nat) ({ cls := "CrumbsHomeModel", name := "warms", desc := "(II)I" } : Jvm.MethodName)) ∈ lw_gd := gd_5 (List.mem_of_getElem? (i := 196) rfl) rfl
theorem ww_5_198 : (Jvm.Cond.instanceMethod ({ cls := "CrumbsHomeModel", name := "warms", desc := "(II)I" } : Jvm.MethodName)) ∈ lw_gd := gd_5 (List.mem_of_getElem? (i := 198) rfl) rfl
theorem ww_5_199 : (Jvm.Cond.code ({ cls := "CrumbsHomeModel", name := "warms", desc := "(II)I" } : Jvm.MethodName) prog_9_method_81_code (3 : Nat) (Option.some Jvm.ClassFile.FieldType.int)) ∈ lw_gd := gd_5 (List.mem_of_getElem? (i := 199) rfl) rfl
theorem ww_5_200 : (Jvm.Cond.methodLink "CrumbsHomeModel" (262 : Nat) ({ cls := "CrumbsHomeModel", name := "officeWarms", desc := "(II)I" } : Jvm.MethodName)) ∈ lw_gd := gd_5 (List.mem_of_getElem? (i := 200) rfl) rfl
theorem ww_5_202 : (Jvm.Cond.instanceMethod ({ cls := "CrumbsHomeModel", name := "officeWarms", desc := "(II)I" } : Jvm.MethodName)) ∈ lw_gd := gd_5 (List.mem_of_getElem? (i := 202) rfl) rfl
theorem ww_5_203 : (Jvm.Cond.code ({ cls := "CrumbsHomeModel", name := "officeWarms", desc := "(II)I" } : Jvm.MethodName) prog_9_method_80_code (3 : Nat) (Option.some Jvm.ClassFile.FieldType.int)) ∈ lw_gd := gd_5 (List.mem_of_getElem? (i := 203) rfl) rfl
theorem ww_5_204 : (Jvm.Cond.methodLink "CrumbsHomeModel" (259 : Nat) ({ cls := "CrumbsHomeModel", name := "plainWarms", desc := "(II)I" } : Jvm.MethodName)) ∈ lw_gd := gd_5 (List.mem_of_getElem? (i := 204) rfl) rfl
theorem ww_5_206 : (Jvm.Cond.instanceMethod ({ cls := "CrumbsHomeModel", name := "plainWarms", desc := "(II)I" } : Jvm.MethodName)) ∈ lw_gd := gd_5 (List.mem_of_getElem? (i := 206) rfl) rfl
theorem ww_5_207 : (Jvm.Cond.code ({ cls := "CrumbsHomeModel", name := "plainWarms", desc := "(II)I" } : Jvm.MethodName) prog_9_method_79_code (3 : Nat) (Option.some Jvm.ClassFile.FieldType.int)) ∈ lw_gd := gd_5 (List.mem_of_getElem? (i := 207) rfl) rfl
theorem ww_5_208 : (Jvm.Cond.methodLink "CrumbsHomeModel" (277 : Nat) ({ cls := "CrumbsHomeModel", name := "sprouts", desc := "(II)I" } : Jvm.MethodName)) ∈ lw_gd := gd_5 (List.mem_of_getElem? (i := 208) rfl) rfl
theorem ww_5_210 : (Jvm.Cond.instanceMethod ({ cls := "CrumbsHomeModel", name := "sprouts", desc := "(II)I" } : Jvm.MethodName)) ∈ lw_gd := gd_5 (List.mem_of_getElem? (i := 210) rfl) rfl
theorem ww_5_211 : (Jvm.Cond.code ({ cls := "CrumbsHomeModel", name := "sprouts", desc := "(II)I" } : Jvm.MethodName) prog_9_method_83_code (3 : Nat) (Option.some Jvm.ClassFile.FieldType.int)) ∈ lw_gd := gd_5 (List.mem_of_getElem? (i := 211) rfl) rfl
theorem ww_5_212 : (Jvm.Cond.methodLink "CrumbsHomeModel" (268 : Nat) ({ cls := "CrumbsHomeModel", name := "plainSprouts", desc := "(II)I" } : Jvm.MethodName)) ∈ lw_gd := gd_5 (List.mem_of_getElem? (i := 212) rfl) rfl
theorem ww_5_214 : (Jvm.Cond.instanceMethod ({ cls := "CrumbsHomeModel", name := "plainSprouts", desc := "(II)I" } : Jvm.MethodName)) ∈ lw_gd := gd_5 (List.mem_of_getElem? (i := 214) rfl) rfl
theorem ww_5_215 : (Jvm.Cond.code ({ cls := "CrumbsHomeModel", name := "plainSprouts", desc := "(II)I" } : Jvm.MethodName) prog_9_method_82_code (3 : Nat) (Option.some Jvm.ClassFile.FieldType.int)) ∈ lw_gd := gd_5 (List.mem_of_getElem? (i := 215) rfl) rfl
theorem ww_5_216 : (Jvm.Cond.methodLink "CrumbsHomeModel" (280 : Nat) ({ cls := "CrumbsHomeModel", name := "partsBy", desc := "(II)I" } : Jvm.MethodName)) ∈ lw_gd := gd_5 (List.mem_of_getElem? (i := 216) rfl) rfl
theorem ww_5_218 : (Jvm.Cond.instanceMethod ({ cls := "CrumbsHomeModel", name := "partsBy", desc := "(II)I" } : Jvm.MethodName)) ∈ lw_gd := gd_5 (List.mem_of_getElem? (i := 218) rfl) rfl
theorem ww_5_219 : (Jvm.Cond.code ({ cls := "CrumbsHomeModel", name := "partsBy", desc := "(II)I" } : Jvm.MethodName) prog_9_method_85_code (4 : Nat) (Option.some Jvm.ClassFile.FieldType.int)) ∈ lw_gd := gd_5 (List.mem_of_getElem? (i := 219) rfl) rfl
theorem ww_5_220 : (Jvm.Cond.methodLink "CrumbsHomeModel" (274 : Nat) ({ cls := "CrumbsHomeModel", name := "plainParts", desc := "(II)I" } : Jvm.MethodName)) ∈ lw_gd := gd_5 (List.mem_of_getElem? (i := 220) rfl) rfl
theorem ww_5_222 : (Jvm.Cond.instanceMethod ({ cls := "CrumbsHomeModel", name := "plainParts", desc := "(II)I" } : Jvm.MethodName)) ∈ lw_gd := gd_5 (List.mem_of_getElem? (i := 222) rfl) rfl
theorem ww_5_223 : (Jvm.Cond.code ({ cls := "CrumbsHomeModel", name := "plainParts", desc := "(II)I" } : Jvm.MethodName) prog_9_method_84_code (4 : Nat) (Option.some Jvm.ClassFile.FieldType.int)) ∈ lw_gd := gd_5 (List.mem_of_getElem? (i := 223) rfl) rfl
theorem ww_5_224 : (Jvm.Cond.constant "CrumbsHomeModel" (283 : Nat) (-1000000006 : Int32)) ∈ lw_gd := gd_5 (List.mem_of_getElem? (i := 224) rfl) rfl
theorem ww_5_225 : (Jvm.Cond.methodLink "CrumbsHomeLaw" (123 : Nat) ({ cls := "CrumbsHomeModel", name := "body", desc := "(I)I" } : Jvm.MethodName)) ∈ lw_gd := gd_5 (List.mem_of_getElem? (i := 225) rfl) rfl
theorem ww_5_226 : (Jvm.Cond.instanceMethod ({ cls := "CrumbsHomeModel", name := "body", desc := "(I)I" } : Jvm.MethodName)) ∈ lw_gd := gd_5 (List.mem_of_getElem? (i := 226) rfl) rfl
theorem ww_5_227 : (Jvm.Cond.selects "CrumbsHomeModel" ({ cls := "CrumbsHomeModel", name := "body", desc := "(I)I" } : Jvm.MethodName) ({ cls := "CrumbsHomeModel", name := "body", desc := "(I)I" } : Jvm.MethodName)) ∈ lw_gd := gd_5 (List.mem_of_getElem? (i := 227) rfl) rfl
theorem ww_5_228 : (Jvm.Cond.code ({ cls := "CrumbsHomeModel", name := "body", desc := "(I)I" } : Jvm.MethodName) prog_9_method_87_code (2 : Nat) (Option.some Jvm.ClassFile.FieldType.int)) ∈ lw_gd := gd_5 (List.mem_of_getElem? (i := 228) rfl) rfl
theorem ww_5_229 : (Jvm.Cond.methodLink "CrumbsHomeLaw" (127 : Nat) ({ cls := "CrumbsHomeModel", name := "sheet", desc := "(III)I" } : Jvm.MethodName)) ∈ lw_gd := gd_5 (List.mem_of_getElem? (i := 229) rfl) rfl
theorem ww_5_230 : (Jvm.Cond.instanceMethod ({ cls := "CrumbsHomeModel", name := "sheet", desc := "(III)I" } : Jvm.MethodName)) ∈ lw_gd := gd_5 (List.mem_of_getElem? (i := 230) rfl) rfl
theorem ww_5_231 : (Jvm.Cond.selects "CrumbsHomeModel" ({ cls := "CrumbsHomeModel", name := "sheet", desc := "(III)I" } : Jvm.MethodName) ({ cls := "CrumbsHomeModel", name := "sheet", desc := "(III)I" } : Jvm.MethodName)) ∈ lw_gd := gd_5 (List.mem_of_getElem? (i := 231) rfl) rfl
theorem ww_5_232 : (Jvm.Cond.code ({ cls := "CrumbsHomeModel", name := "sheet", desc := "(III)I" } : Jvm.MethodName) prog_9_method_89_code (5 : Nat) (Option.some Jvm.ClassFile.FieldType.int)) ∈ lw_gd := gd_5 (List.mem_of_getElem? (i := 232) rfl) rfl
theorem ww_5_233 : (Jvm.Cond.methodLink "CrumbsHomeLaw" (131 : Nat) ({ cls := "CrumbsHomeModel", name := "put", desc := "(III)I" } : Jvm.MethodName)) ∈ lw_gd := gd_5 (List.mem_of_getElem? (i := 233) rfl) rfl
theorem ww_5_234 : (Jvm.Cond.instanceMethod ({ cls := "CrumbsHomeModel", name := "put", desc := "(III)I" } : Jvm.MethodName)) ∈ lw_gd := gd_5 (List.mem_of_getElem? (i := 234) rfl) rfl
theorem ww_5_235 : (Jvm.Cond.selects "CrumbsHomeModel" ({ cls := "CrumbsHomeModel", name := "put", desc := "(III)I" } : Jvm.MethodName) ({ cls := "CrumbsHomeModel", name := "put", desc := "(III)I" } : Jvm.MethodName)) ∈ lw_gd := gd_5 (List.mem_of_getElem? (i := 235) rfl) rfl
theorem ww_5_236 : (Jvm.Cond.code ({ cls := "CrumbsHomeModel", name := "put", desc := "(III)I" } : Jvm.MethodName) prog_9_method_91_code (5 : Nat) (Option.some Jvm.ClassFile.FieldType.int)) ∈ lw_gd := gd_5 (List.mem_of_getElem? (i := 236) rfl) rfl
theorem ww_5_237 : (Jvm.Cond.methodLink "CrumbsHomeModel" (284 : Nat) ({ cls := "CrumbsHomeModel", name := "notThere", desc := "(I)I" } : Jvm.MethodName)) ∈ lw_gd := gd_5 (List.mem_of_getElem? (i := 237) rfl) rfl
theorem ww_5_239 : (Jvm.Cond.instanceMethod ({ cls := "CrumbsHomeModel", name := "notThere", desc := "(I)I" } : Jvm.MethodName)) ∈ lw_gd := gd_5 (List.mem_of_getElem? (i := 239) rfl) rfl
theorem ww_6_0 : (Jvm.Cond.code ({ cls := "CrumbsHomeModel", name := "notThere", desc := "(I)I" } : Jvm.MethodName) prog_9_method_90_code (2 : Nat) (Option.some Jvm.ClassFile.FieldType.int)) ∈ lw_gd := gd_6 (List.mem_of_getElem? (i := 0) rfl) rfl
theorem ww_6_1 : (Jvm.Cond.methodLink "CrumbsHomeLaw" (136 : Nat) ({ cls := "CrumbsHomeModel", name := "move", desc := "(IIIII)I" } : Jvm.MethodName)) ∈ lw_gd := gd_6 (List.mem_of_getElem? (i := 1) rfl) rfl
theorem ww_6_2 : (Jvm.Cond.instanceMethod ({ cls := "CrumbsHomeModel", name := "move", desc := "(IIIII)I" } : Jvm.MethodName)) ∈ lw_gd := gd_6 (List.mem_of_getElem? (i := 2) rfl) rfl
theorem ww_6_3 : (Jvm.Cond.selects "CrumbsHomeModel" ({ cls := "CrumbsHomeModel", name := "move", desc := "(IIIII)I" } : Jvm.MethodName) ({ cls := "CrumbsHomeModel", name := "move", desc := "(IIIII)I" } : Jvm.MethodName)) ∈ lw_gd := gd_6 (List.mem_of_getElem? (i := 3) rfl) rfl
theorem ww_6_4 : (Jvm.Cond.code ({ cls := "CrumbsHomeModel", name := "move", desc := "(IIIII)I" } : Jvm.MethodName) prog_9_method_93_code (9 : Nat) (Option.some Jvm.ClassFile.FieldType.int)) ∈ lw_gd := gd_6 (List.mem_of_getElem? (i := 4) rfl) rfl
theorem ww_6_5 : (Jvm.Cond.methodLink "CrumbsHomeModel" (287 : Nat) ({ cls := "CrumbsHomeModel", name := "notMoved", desc := "(IIIII)I" } : Jvm.MethodName)) ∈ lw_gd := gd_6 (List.mem_of_getElem? (i := 5) rfl) rfl
theorem ww_6_7 : (Jvm.Cond.instanceMethod ({ cls := "CrumbsHomeModel", name := "notMoved", desc := "(IIIII)I" } : Jvm.MethodName)) ∈ lw_gd := gd_6 (List.mem_of_getElem? (i := 7) rfl) rfl
theorem ww_6_8 : (Jvm.Cond.code ({ cls := "CrumbsHomeModel", name := "notMoved", desc := "(IIIII)I" } : Jvm.MethodName) prog_9_method_92_code (7 : Nat) (Option.some Jvm.ClassFile.FieldType.int)) ∈ lw_gd := gd_6 (List.mem_of_getElem? (i := 8) rfl) rfl
theorem ww_6_9 : (Jvm.Cond.methodLink "CrumbsHomeLaw" (140 : Nat) ({ cls := "CrumbsHomeModel", name := "lays", desc := "(I)I" } : Jvm.MethodName)) ∈ lw_gd := gd_6 (List.mem_of_getElem? (i := 9) rfl) rfl
theorem ww_6_10 : (Jvm.Cond.instanceMethod ({ cls := "CrumbsHomeModel", name := "lays", desc := "(I)I" } : Jvm.MethodName)) ∈ lw_gd := gd_6 (List.mem_of_getElem? (i := 10) rfl) rfl
theorem ww_6_11 : (Jvm.Cond.selects "CrumbsHomeModel" ({ cls := "CrumbsHomeModel", name := "lays", desc := "(I)I" } : Jvm.MethodName) ({ cls := "CrumbsHomeModel", name := "lays", desc := "(I)I" } : Jvm.MethodName)) ∈ lw_gd := gd_6 (List.mem_of_getElem? (i := 11) rfl) rfl
theorem ww_6_12 : (Jvm.Cond.code ({ cls := "CrumbsHomeModel", name := "lays", desc := "(I)I" } : Jvm.MethodName) prog_9_method_94_code (4 : Nat) (Option.some Jvm.ClassFile.FieldType.int)) ∈ lw_gd := gd_6 (List.mem_of_getElem? (i := 12) rfl) rfl
theorem ww_6_13 : (Jvm.Cond.methodLink "CrumbsHomeLaw" (144 : Nat) ({ cls := "CrumbsHomeModel", name := "judge", desc := "(I)I" } : Jvm.MethodName)) ∈ lw_gd := gd_6 (List.mem_of_getElem? (i := 13) rfl) rfl
theorem ww_6_14 : (Jvm.Cond.instanceMethod ({ cls := "CrumbsHomeModel", name := "judge", desc := "(I)I" } : Jvm.MethodName)) ∈ lw_gd := gd_6 (List.mem_of_getElem? (i := 14) rfl) rfl
theorem ww_6_15 : (Jvm.Cond.selects "CrumbsHomeModel" ({ cls := "CrumbsHomeModel", name := "judge", desc := "(I)I" } : Jvm.MethodName) ({ cls := "CrumbsHomeModel", name := "judge", desc := "(I)I" } : Jvm.MethodName)) ∈ lw_gd := gd_6 (List.mem_of_getElem? (i := 15) rfl) rfl
theorem ww_6_16 : (Jvm.Cond.code ({ cls := "CrumbsHomeModel", name := "judge", desc := "(I)I" } : Jvm.MethodName) prog_9_method_95_code (4 : Nat) (Option.some Jvm.ClassFile.FieldType.int)) ∈ lw_gd := gd_6 (List.mem_of_getElem? (i := 16) rfl) rfl
theorem ww_6_17 : (Jvm.Cond.methodLink "CrumbsHomeLaw" (149 : Nat) ({ cls := "CrumbsHomeModel", name := "image", desc := "()I" } : Jvm.MethodName)) ∈ lw_gd := gd_6 (List.mem_of_getElem? (i := 17) rfl) rfl
theorem ww_6_18 : (Jvm.Cond.instanceMethod ({ cls := "CrumbsHomeModel", name := "image", desc := "()I" } : Jvm.MethodName)) ∈ lw_gd := gd_6 (List.mem_of_getElem? (i := 18) rfl) rfl
theorem ww_6_19 : (Jvm.Cond.selects "CrumbsHomeModel" ({ cls := "CrumbsHomeModel", name := "image", desc := "()I" } : Jvm.MethodName) ({ cls := "CrumbsHomeModel", name := "image", desc := "()I" } : Jvm.MethodName)) ∈ lw_gd := gd_6 (List.mem_of_getElem? (i := 19) rfl) rfl
theorem ww_6_20 : (Jvm.Cond.code ({ cls := "CrumbsHomeModel", name := "image", desc := "()I" } : Jvm.MethodName) prog_9_method_96_code (1 : Nat) (Option.some Jvm.ClassFile.FieldType.int)) ∈ lw_gd := gd_6 (List.mem_of_getElem? (i := 20) rfl) rfl
theorem ww_6_21 : (Jvm.Cond.methodLink "CrumbsHomeLaw" (153 : Nat) ({ cls := "CrumbsHomeModel", name := "restore", desc := "()I" } : Jvm.MethodName)) ∈ lw_gd := gd_6 (List.mem_of_getElem? (i := 21) rfl) rfl
theorem ww_6_22 : (Jvm.Cond.instanceMethod ({ cls := "CrumbsHomeModel", name := "restore", desc := "()I" } : Jvm.MethodName)) ∈ lw_gd := gd_6 (List.mem_of_getElem? (i := 22) rfl) rfl
theorem ww_6_23 : (Jvm.Cond.selects "CrumbsHomeModel" ({ cls := "CrumbsHomeModel", name := "restore", desc := "()I" } : Jvm.MethodName) ({ cls := "CrumbsHomeModel", name := "restore", desc := "()I" } : Jvm.MethodName)) ∈ lw_gd := gd_6 (List.mem_of_getElem? (i := 23) rfl) rfl
theorem ww_6_24 : (Jvm.Cond.code ({ cls := "CrumbsHomeModel", name := "restore", desc := "()I" } : Jvm.MethodName) prog_9_method_97_code (1 : Nat) (Option.some Jvm.ClassFile.FieldType.int)) ∈ lw_gd := gd_6 (List.mem_of_getElem? (i := 24) rfl) rfl
theorem ww_6_25 : (Jvm.Cond.methodLink "CrumbsHomeLaw" (157 : Nat) ({ cls := "CrumbsHomeModel", name := "tell", desc := "(I)I" } : Jvm.MethodName)) ∈ lw_gd := gd_6 (List.mem_of_getElem? (i := 25) rfl) rfl
theorem ww_6_26 : (Jvm.Cond.instanceMethod ({ cls := "CrumbsHomeModel", name := "tell", desc := "(I)I" } : Jvm.MethodName)) ∈ lw_gd := gd_6 (List.mem_of_getElem? (i := 26) rfl) rfl
theorem ww_6_27 : (Jvm.Cond.selects "CrumbsHomeModel" ({ cls := "CrumbsHomeModel", name := "tell", desc := "(I)I" } : Jvm.MethodName) ({ cls := "CrumbsHomeModel", name := "tell", desc := "(I)I" } : Jvm.MethodName)) ∈ lw_gd := gd_6 (List.mem_of_getElem? (i := 27) rfl) rfl
theorem ww_6_28 : (Jvm.Cond.code ({ cls := "CrumbsHomeModel", name := "tell", desc := "(I)I" } : Jvm.MethodName) prog_9_method_98_code (2 : Nat) (Option.some Jvm.ClassFile.FieldType.int)) ∈ lw_gd := gd_6 (List.mem_of_getElem? (i := 28) rfl) rfl
theorem ww_6_29 : (Jvm.Cond.methodLink "CrumbsHomeLaw" (161 : Nat) ({ cls := "CrumbsHomeModel", name := "check", desc := "()I" } : Jvm.MethodName)) ∈ lw_gd := gd_6 (List.mem_of_getElem? (i := 29) rfl) rfl
theorem ww_6_30 : (Jvm.Cond.instanceMethod ({ cls := "CrumbsHomeModel", name := "check", desc := "()I" } : Jvm.MethodName)) ∈ lw_gd := gd_6 (List.mem_of_getElem? (i := 30) rfl) rfl
theorem ww_6_31 : (Jvm.Cond.selects "CrumbsHomeModel" ({ cls := "CrumbsHomeModel", name := "check", desc := "()I" } : Jvm.MethodName) ({ cls := "CrumbsHomeModel", name := "check", desc := "()I" } : Jvm.MethodName)) ∈ lw_gd := gd_6 (List.mem_of_getElem? (i := 31) rfl) rfl
theorem ww_6_32 : (Jvm.Cond.code ({ cls := "CrumbsHomeModel", name := "check", desc := "()I" } : Jvm.MethodName) prog_9_method_99_code (3 : Nat) (Option.some Jvm.ClassFile.FieldType.int)) ∈ lw_gd := gd_6 (List.mem_of_getElem? (i := 32) rfl) rfl
theorem ww_6_33 : (Jvm.Cond.methodLink "CrumbsHomeLaw" (165 : Nat) ({ cls := "CrumbsHomeModel", name := "count", desc := "(I)I" } : Jvm.MethodName)) ∈ lw_gd := gd_6 (List.mem_of_getElem? (i := 33) rfl) rfl
theorem ww_6_34 : (Jvm.Cond.instanceMethod ({ cls := "CrumbsHomeModel", name := "count", desc := "(I)I" } : Jvm.MethodName)) ∈ lw_gd := gd_6 (List.mem_of_getElem? (i := 34) rfl) rfl
theorem ww_6_35 : (Jvm.Cond.selects "CrumbsHomeModel" ({ cls := "CrumbsHomeModel", name := "count", desc := "(I)I" } : Jvm.MethodName) ({ cls := "CrumbsHomeModel", name := "count", desc := "(I)I" } : Jvm.MethodName)) ∈ lw_gd := gd_6 (List.mem_of_getElem? (i := 35) rfl) rfl
theorem ww_6_36 : (Jvm.Cond.code ({ cls := "CrumbsHomeModel", name := "count", desc := "(I)I" } : Jvm.MethodName) prog_9_method_100_code (2 : Nat) (Option.some Jvm.ClassFile.FieldType.int)) ∈ lw_gd := gd_6 (List.mem_of_getElem? (i := 36) rfl) rfl
theorem ww_6_37 : (Jvm.Cond.methodLink "CrumbsHomeLaw" (169 : Nat) ({ cls := "CrumbsHomeModel", name := "told", desc := "(I)I" } : Jvm.MethodName)) ∈ lw_gd := gd_6 (List.mem_of_getElem? (i := 37) rfl) rfl
theorem ww_6_38 : (Jvm.Cond.instanceMethod ({ cls := "CrumbsHomeModel", name := "told", desc := "(I)I" } : Jvm.MethodName)) ∈ lw_gd := gd_6 (List.mem_of_getElem? (i := 38) rfl) rfl
theorem ww_6_39 : (Jvm.Cond.selects "CrumbsHomeModel" ({ cls := "CrumbsHomeModel", name := "told", desc := "(I)I" } : Jvm.MethodName) ({ cls := "CrumbsHomeModel", name := "told", desc := "(I)I" } : Jvm.MethodName)) ∈ lw_gd := gd_6 (List.mem_of_getElem? (i := 39) rfl) rfl
theorem ww_6_40 : (Jvm.Cond.code ({ cls := "CrumbsHomeModel", name := "told", desc := "(I)I" } : Jvm.MethodName) prog_9_method_101_code (2 : Nat) (Option.some Jvm.ClassFile.FieldType.int)) ∈ lw_gd := gd_6 (List.mem_of_getElem? (i := 40) rfl) rfl
theorem ww_6_41 : (Jvm.Cond.constantLong "CrumbsHomeLaw" (51 : Nat) (4294967295 : Int64)) ∈ lw_gd := gd_6 (List.mem_of_getElem? (i := 41) rfl) rfl
theorem ww_6_42 : (Jvm.Cond.fieldLink "java/lang/String" (15 : Nat) "java/lang/String" "coder" "B") ∈ lw_gd := gd_6 (List.mem_of_getElem? (i := 42) rfl) rfl
theorem ww_6_43 : (Jvm.Cond.fieldLink "java/lang/String" (9 : Nat) "java/lang/String" "value" "[B") ∈ lw_gd := gd_6 (List.mem_of_getElem? (i := 43) rfl) rfl
theorem wp_1_0 : Cond.selects "CrumbsHome$Roads" ⟨"CrumbsHome$Roads", "measure", "()V"⟩ ⟨"CrumbsHome$Roads", "measure", "()V"⟩ ∈ lw_gd := gd_of (List.mem_append_left _ (List.mem_map_of_mem (f := fun q : MethodName × Nat => Cond.selects q.1.cls q.1 q.1) (a := ((⟨"CrumbsHome$Roads", "measure", "()V"⟩, 2) : MethodName × Nat)) (l := lw_privs) (List.mem_append_left _ (List.mem_of_getElem? (i := 0) rfl)))) rfl
theorem wp_1_1 : Cond.selects "CrumbsHome$Roads" ⟨"CrumbsHome$Roads", "shorten", "(II)V"⟩ ⟨"CrumbsHome$Roads", "shorten", "(II)V"⟩ ∈ lw_gd := gd_of (List.mem_append_left _ (List.mem_map_of_mem (f := fun q : MethodName × Nat => Cond.selects q.1.cls q.1 q.1) (a := ((⟨"CrumbsHome$Roads", "shorten", "(II)V"⟩, 2) : MethodName × Nat)) (l := lw_privs) (List.mem_append_left _ (List.mem_of_getElem? (i := 1) rfl)))) rfl
theorem wp_1_2 : Cond.selects "CrumbsHome" ⟨"CrumbsHome", "error", "(I)I"⟩ ⟨"CrumbsHome", "error", "(I)I"⟩ ∈ lw_gd := gd_of (List.mem_append_left _ (List.mem_map_of_mem (f := fun q : MethodName × Nat => Cond.selects q.1.cls q.1 q.1) (a := ((⟨"CrumbsHome", "error", "(I)I"⟩, 12) : MethodName × Nat)) (l := lw_privs) (List.mem_append_left _ (List.mem_of_getElem? (i := 2) rfl)))) rfl
theorem wp_1_3 : Cond.selects "CrumbsHome" ⟨"CrumbsHome", "isBit", "(I)Z"⟩ ⟨"CrumbsHome", "isBit", "(I)Z"⟩ ∈ lw_gd := gd_of (List.mem_append_left _ (List.mem_map_of_mem (f := fun q : MethodName × Nat => Cond.selects q.1.cls q.1 q.1) (a := ((⟨"CrumbsHome", "isBit", "(I)Z"⟩, 12) : MethodName × Nat)) (l := lw_privs) (List.mem_append_left _ (List.mem_of_getElem? (i := 3) rfl)))) rfl
theorem wp_1_4 : Cond.selects "CrumbsHome" ⟨"CrumbsHome", "stepsOf", "(LCrumbsHome$Harvest;LCrumbsHome$Roads;I)I"⟩ ⟨"CrumbsHome", "stepsOf", "(LCrumbsHome$Harvest;LCrumbsHome$Roads;I)I"⟩ ∈ lw_gd := gd_of (List.mem_append_left _ (List.mem_map_of_mem (f := fun q : MethodName × Nat => Cond.selects q.1.cls q.1 q.1) (a := ((⟨"CrumbsHome", "stepsOf", "(LCrumbsHome$Harvest;LCrumbsHome$Roads;I)I"⟩, 12) : MethodName × Nat)) (l := lw_privs) (List.mem_append_left _ (List.mem_of_getElem? (i := 4) rfl)))) rfl
theorem wp_1_5 : Cond.selects "CrumbsHome$Harvest" ⟨"CrumbsHome$Harvest", "hasCompany", "(I)Z"⟩ ⟨"CrumbsHome$Harvest", "hasCompany", "(I)Z"⟩ ∈ lw_gd := gd_of (List.mem_append_left _ (List.mem_map_of_mem (f := fun q : MethodName × Nat => Cond.selects q.1.cls q.1 q.1) (a := ((⟨"CrumbsHome$Harvest", "hasCompany", "(I)Z"⟩, 8) : MethodName × Nat)) (l := lw_privs) (List.mem_append_left _ (List.mem_of_getElem? (i := 5) rfl)))) rfl
theorem wp_1_6 : Cond.selects "CrumbsHome$Law" ⟨"CrumbsHome$Law", "workedOut", "(III)I"⟩ ⟨"CrumbsHome$Law", "workedOut", "(III)I"⟩ ∈ lw_gd := gd_of (List.mem_append_left _ (List.mem_map_of_mem (f := fun q : MethodName × Nat => Cond.selects q.1.cls q.1 q.1) (a := ((⟨"CrumbsHome$Law", "workedOut", "(III)I"⟩, 5) : MethodName × Nat)) (l := lw_privs) (List.mem_append_left _ (List.mem_of_getElem? (i := 6) rfl)))) rfl
theorem wp_1_7 : Cond.selects "CrumbsHome" ⟨"CrumbsHome", "worthOf", "(LCrumbsHome$Harvest;I)I"⟩ ⟨"CrumbsHome", "worthOf", "(LCrumbsHome$Harvest;I)I"⟩ ∈ lw_gd := gd_of (List.mem_append_left _ (List.mem_map_of_mem (f := fun q : MethodName × Nat => Cond.selects q.1.cls q.1 q.1) (a := ((⟨"CrumbsHome", "worthOf", "(LCrumbsHome$Harvest;I)I"⟩, 12) : MethodName × Nat)) (l := lw_privs) (List.mem_append_left _ (List.mem_of_getElem? (i := 7) rfl)))) rfl
theorem wp_1_8 : Cond.selects "CrumbsHome" ⟨"CrumbsHome", "lawOf", "(I)LCrumbsHome$Law;"⟩ ⟨"CrumbsHome", "lawOf", "(I)LCrumbsHome$Law;"⟩ ∈ lw_gd := gd_of (List.mem_append_left _ (List.mem_map_of_mem (f := fun q : MethodName × Nat => Cond.selects q.1.cls q.1 q.1) (a := ((⟨"CrumbsHome", "lawOf", "(I)LCrumbsHome$Law;"⟩, 12) : MethodName × Nat)) (l := lw_privs) (List.mem_append_left _ (List.mem_of_getElem? (i := 8) rfl)))) rfl
theorem wp_1_9 : Cond.selects "CrumbsHome$Reader" ⟨"CrumbsHome$Reader", "readRank", "(II)V"⟩ ⟨"CrumbsHome$Reader", "readRank", "(II)V"⟩ ∈ lw_gd := gd_of (List.mem_append_left _ (List.mem_map_of_mem (f := fun q : MethodName × Nat => Cond.selects q.1.cls q.1 q.1) (a := ((⟨"CrumbsHome$Reader", "readRank", "(II)V"⟩, 7) : MethodName × Nat)) (l := lw_privs) (List.mem_append_left _ (List.mem_of_getElem? (i := 9) rfl)))) rfl
theorem wp_1_10 : Cond.selects "CrumbsHome$Reader" ⟨"CrumbsHome$Reader", "readJoined", "(II)V"⟩ ⟨"CrumbsHome$Reader", "readJoined", "(II)V"⟩ ∈ lw_gd := gd_of (List.mem_append_left _ (List.mem_map_of_mem (f := fun q : MethodName × Nat => Cond.selects q.1.cls q.1 q.1) (a := ((⟨"CrumbsHome$Reader", "readJoined", "(II)V"⟩, 7) : MethodName × Nat)) (l := lw_privs) (List.mem_append_left _ (List.mem_of_getElem? (i := 10) rfl)))) rfl
theorem wp_1_11 : Cond.selects "CrumbsHome$Reader" ⟨"CrumbsHome$Reader", "isNextOf", "(Ljava/lang/String;)Z"⟩ ⟨"CrumbsHome$Reader", "isNextOf", "(Ljava/lang/String;)Z"⟩ ∈ lw_gd := gd_of (List.mem_append_left _ (List.mem_map_of_mem (f := fun q : MethodName × Nat => Cond.selects q.1.cls q.1 q.1) (a := ((⟨"CrumbsHome$Reader", "isNextOf", "(Ljava/lang/String;)Z"⟩, 7) : MethodName × Nat)) (l := lw_privs) (List.mem_append_left _ (List.mem_of_getElem? (i := 11) rfl)))) rfl
theorem wp_1_12 : Cond.selects "CrumbsHome$Reader" ⟨"CrumbsHome$Reader", "write", "(I)V"⟩ ⟨"CrumbsHome$Reader", "write", "(I)V"⟩ ∈ lw_gd := gd_of (List.mem_append_left _ (List.mem_map_of_mem (f := fun q : MethodName × Nat => Cond.selects q.1.cls q.1 q.1) (a := ((⟨"CrumbsHome$Reader", "write", "(I)V"⟩, 7) : MethodName × Nat)) (l := lw_privs) (List.mem_append_left _ (List.mem_of_getElem? (i := 12) rfl)))) rfl
theorem wp_1_13 : Cond.selects "CrumbsHome$Reader" ⟨"CrumbsHome$Reader", "readOne", "(I)V"⟩ ⟨"CrumbsHome$Reader", "readOne", "(I)V"⟩ ∈ lw_gd := gd_of (List.mem_append_left _ (List.mem_map_of_mem (f := fun q : MethodName × Nat => Cond.selects q.1.cls q.1 q.1) (a := ((⟨"CrumbsHome$Reader", "readOne", "(I)V"⟩, 7) : MethodName × Nat)) (l := lw_privs) (List.mem_append_left _ (List.mem_of_getElem? (i := 13) rfl)))) rfl
theorem wp_1_14 : Cond.selects "CrumbsHome$Reader" ⟨"CrumbsHome$Reader", "readOpened", "(I)V"⟩ ⟨"CrumbsHome$Reader", "readOpened", "(I)V"⟩ ∈ lw_gd := gd_of (List.mem_append_left _ (List.mem_map_of_mem (f := fun q : MethodName × Nat => Cond.selects q.1.cls q.1 q.1) (a := ((⟨"CrumbsHome$Reader", "readOpened", "(I)V"⟩, 7) : MethodName × Nat)) (l := lw_privs) (List.mem_append_left _ (List.mem_of_getElem? (i := 14) rfl)))) rfl
theorem wp_1_15 : Cond.selects "CrumbsHome$Reader" ⟨"CrumbsHome$Reader", "isNextDigit", "()Z"⟩ ⟨"CrumbsHome$Reader", "isNextDigit", "()Z"⟩ ∈ lw_gd := gd_of (List.mem_append_left _ (List.mem_map_of_mem (f := fun q : MethodName × Nat => Cond.selects q.1.cls q.1 q.1) (a := ((⟨"CrumbsHome$Reader", "isNextDigit", "()Z"⟩, 7) : MethodName × Nat)) (l := lw_privs) (List.mem_append_left _ (List.mem_of_getElem? (i := 15) rfl)))) rfl
theorem wp_2_0 : Cond.selects "CrumbsHome$Reader" ⟨"CrumbsHome$Reader", "readNumber", "()V"⟩ ⟨"CrumbsHome$Reader", "readNumber", "()V"⟩ ∈ lw_gd := gd_of (List.mem_append_left _ (List.mem_map_of_mem (f := fun q : MethodName × Nat => Cond.selects q.1.cls q.1 q.1) (a := ((⟨"CrumbsHome$Reader", "readNumber", "()V"⟩, 7) : MethodName × Nat)) (l := lw_privs) (List.mem_append_right _ (List.mem_append_left _ (List.mem_of_getElem? (i := 0) rfl))))) rfl
theorem wp_2_1 : Cond.selects "CrumbsHome" ⟨"CrumbsHome", "passDays", "(LCrumbsHome$Harvest;LCrumbsHome$Roads;I)V"⟩ ⟨"CrumbsHome", "passDays", "(LCrumbsHome$Harvest;LCrumbsHome$Roads;I)V"⟩ ∈ lw_gd := gd_of (List.mem_append_left _ (List.mem_map_of_mem (f := fun q : MethodName × Nat => Cond.selects q.1.cls q.1 q.1) (a := ((⟨"CrumbsHome", "passDays", "(LCrumbsHome$Harvest;LCrumbsHome$Roads;I)V"⟩, 12) : MethodName × Nat)) (l := lw_privs) (List.mem_append_right _ (List.mem_append_left _ (List.mem_of_getElem? (i := 1) rfl))))) rfl
theorem wp_2_2 : Cond.selects "CrumbsHome" ⟨"CrumbsHome", "passDay", "(LCrumbsHome$Harvest;LCrumbsHome$Roads;)Z"⟩ ⟨"CrumbsHome", "passDay", "(LCrumbsHome$Harvest;LCrumbsHome$Roads;)Z"⟩ ∈ lw_gd := gd_of (List.mem_append_left _ (List.mem_map_of_mem (f := fun q : MethodName × Nat => Cond.selects q.1.cls q.1 q.1) (a := ((⟨"CrumbsHome", "passDay", "(LCrumbsHome$Harvest;LCrumbsHome$Roads;)Z"⟩, 12) : MethodName × Nat)) (l := lw_privs) (List.mem_append_right _ (List.mem_append_left _ (List.mem_of_getElem? (i := 2) rfl))))) rfl
theorem wp_2_3 : Cond.selects "CrumbsHome$Roads" ⟨"CrumbsHome$Roads", "nextToward", "(II)I"⟩ ⟨"CrumbsHome$Roads", "nextToward", "(II)I"⟩ ∈ lw_gd := gd_of (List.mem_append_left _ (List.mem_map_of_mem (f := fun q : MethodName × Nat => Cond.selects q.1.cls q.1 q.1) (a := ((⟨"CrumbsHome$Roads", "nextToward", "(II)I"⟩, 2) : MethodName × Nat)) (l := lw_privs) (List.mem_append_right _ (List.mem_append_left _ (List.mem_of_getElem? (i := 3) rfl))))) rfl
theorem wp_2_4 : Cond.selects "CrumbsHome$World" ⟨"CrumbsHome$World", "draw", "()I"⟩ ⟨"CrumbsHome$World", "draw", "()I"⟩ ∈ lw_gd := gd_of (List.mem_append_left _ (List.mem_map_of_mem (f := fun q : MethodName × Nat => Cond.selects q.1.cls q.1 q.1) (a := ((⟨"CrumbsHome$World", "draw", "()I"⟩, 9) : MethodName × Nat)) (l := lw_privs) (List.mem_append_right _ (List.mem_append_left _ (List.mem_of_getElem? (i := 4) rfl))))) rfl
theorem wp_2_5 : Cond.selects "CrumbsHome" ⟨"CrumbsHome", "think", "(I)V"⟩ ⟨"CrumbsHome", "think", "(I)V"⟩ ∈ lw_gd := gd_of (List.mem_append_left _ (List.mem_map_of_mem (f := fun q : MethodName × Nat => Cond.selects q.1.cls q.1 q.1) (a := ((⟨"CrumbsHome", "think", "(I)V"⟩, 12) : MethodName × Nat)) (l := lw_privs) (List.mem_append_right _ (List.mem_append_left _ (List.mem_of_getElem? (i := 5) rfl))))) rfl
theorem wp_2_6 : Cond.selects "CrumbsHome" ⟨"CrumbsHome", "worthAtHome", "(LCrumbsHome$Harvest;I)I"⟩ ⟨"CrumbsHome", "worthAtHome", "(LCrumbsHome$Harvest;I)I"⟩ ∈ lw_gd := gd_of (List.mem_append_left _ (List.mem_map_of_mem (f := fun q : MethodName × Nat => Cond.selects q.1.cls q.1 q.1) (a := ((⟨"CrumbsHome", "worthAtHome", "(LCrumbsHome$Harvest;I)I"⟩, 12) : MethodName × Nat)) (l := lw_privs) (List.mem_append_right _ (List.mem_append_left _ (List.mem_of_getElem? (i := 6) rfl))))) rfl
theorem wp_2_7 : Cond.selects "CrumbsHome" ⟨"CrumbsHome", "getsWith", "(III)I"⟩ ⟨"CrumbsHome", "getsWith", "(III)I"⟩ ∈ lw_gd := gd_of (List.mem_append_left _ (List.mem_map_of_mem (f := fun q : MethodName × Nat => Cond.selects q.1.cls q.1 q.1) (a := ((⟨"CrumbsHome", "getsWith", "(III)I"⟩, 12) : MethodName × Nat)) (l := lw_privs) (List.mem_append_right _ (List.mem_append_left _ (List.mem_of_getElem? (i := 7) rfl))))) rfl
theorem wp_2_8 : Cond.selects "CrumbsHome" ⟨"CrumbsHome", "homeWithWay", "(III)I"⟩ ⟨"CrumbsHome", "homeWithWay", "(III)I"⟩ ∈ lw_gd := gd_of (List.mem_append_left _ (List.mem_map_of_mem (f := fun q : MethodName × Nat => Cond.selects q.1.cls q.1 q.1) (a := ((⟨"CrumbsHome", "homeWithWay", "(III)I"⟩, 12) : MethodName × Nat)) (l := lw_privs) (List.mem_append_right _ (List.mem_append_left _ (List.mem_of_getElem? (i := 8) rfl))))) rfl
theorem wp_2_9 : Cond.selects "CrumbsHome" ⟨"CrumbsHome", "wouldWarmSo", "(III)Z"⟩ ⟨"CrumbsHome", "wouldWarmSo", "(III)Z"⟩ ∈ lw_gd := gd_of (List.mem_append_left _ (List.mem_map_of_mem (f := fun q : MethodName × Nat => Cond.selects q.1.cls q.1 q.1) (a := ((⟨"CrumbsHome", "wouldWarmSo", "(III)Z"⟩, 12) : MethodName × Nat)) (l := lw_privs) (List.mem_append_right _ (List.mem_append_left _ (List.mem_of_getElem? (i := 9) rfl))))) rfl
theorem wp_2_10 : Cond.selects "CrumbsHome" ⟨"CrumbsHome", "say", "(IIIII)I"⟩ ⟨"CrumbsHome", "say", "(IIIII)I"⟩ ∈ lw_gd := gd_of (List.mem_append_left _ (List.mem_map_of_mem (f := fun q : MethodName × Nat => Cond.selects q.1.cls q.1 q.1) (a := ((⟨"CrumbsHome", "say", "(IIIII)I"⟩, 12) : MethodName × Nat)) (l := lw_privs) (List.mem_append_right _ (List.mem_append_left _ (List.mem_of_getElem? (i := 10) rfl))))) rfl
theorem wp_2_11 : Cond.selects "CrumbsHome" ⟨"CrumbsHome", "sayBody", "(IIIII)I"⟩ ⟨"CrumbsHome", "sayBody", "(IIIII)I"⟩ ∈ lw_gd := gd_of (List.mem_append_left _ (List.mem_map_of_mem (f := fun q : MethodName × Nat => Cond.selects q.1.cls q.1 q.1) (a := ((⟨"CrumbsHome", "sayBody", "(IIIII)I"⟩, 12) : MethodName × Nat)) (l := lw_privs) (List.mem_append_right _ (List.mem_append_left _ (List.mem_of_getElem? (i := 11) rfl))))) rfl
theorem wp_2_12 : Cond.selects "CrumbsHome" ⟨"CrumbsHome", "partsOf", "(II)I"⟩ ⟨"CrumbsHome", "partsOf", "(II)I"⟩ ∈ lw_gd := gd_of (List.mem_append_left _ (List.mem_map_of_mem (f := fun q : MethodName × Nat => Cond.selects q.1.cls q.1 q.1) (a := ((⟨"CrumbsHome", "partsOf", "(II)I"⟩, 12) : MethodName × Nat)) (l := lw_privs) (List.mem_append_right _ (List.mem_append_left _ (List.mem_of_getElem? (i := 12) rfl))))) rfl
theorem wp_2_13 : Cond.selects "CrumbsHomeModel" ⟨"CrumbsHomeModel", "error", "(I)I"⟩ ⟨"CrumbsHomeModel", "error", "(I)I"⟩ ∈ lw_gd := gd_of (List.mem_append_left _ (List.mem_map_of_mem (f := fun q : MethodName × Nat => Cond.selects q.1.cls q.1 q.1) (a := ((⟨"CrumbsHomeModel", "error", "(I)I"⟩, 23) : MethodName × Nat)) (l := lw_privs) (List.mem_append_right _ (List.mem_append_left _ (List.mem_of_getElem? (i := 13) rfl))))) rfl
theorem wp_2_14 : Cond.selects "CrumbsHomeModel" ⟨"CrumbsHomeModel", "opensFrom", "(III)V"⟩ ⟨"CrumbsHomeModel", "opensFrom", "(III)V"⟩ ∈ lw_gd := gd_of (List.mem_append_left _ (List.mem_map_of_mem (f := fun q : MethodName × Nat => Cond.selects q.1.cls q.1 q.1) (a := ((⟨"CrumbsHomeModel", "opensFrom", "(III)V"⟩, 23) : MethodName × Nat)) (l := lw_privs) (List.mem_append_right _ (List.mem_append_left _ (List.mem_of_getElem? (i := 14) rfl))))) rfl
theorem wp_2_15 : Cond.selects "CrumbsHomeModel" ⟨"CrumbsHomeModel", "becomes", "(II)I"⟩ ⟨"CrumbsHomeModel", "becomes", "(II)I"⟩ ∈ lw_gd := gd_of (List.mem_append_left _ (List.mem_map_of_mem (f := fun q : MethodName × Nat => Cond.selects q.1.cls q.1 q.1) (a := ((⟨"CrumbsHomeModel", "becomes", "(II)I"⟩, 23) : MethodName × Nat)) (l := lw_privs) (List.mem_append_right _ (List.mem_append_left _ (List.mem_of_getElem? (i := 15) rfl))))) rfl
theorem wp_3_0 : Cond.selects "CrumbsHomeModel" ⟨"CrumbsHomeModel", "farBy", "(II)I"⟩ ⟨"CrumbsHomeModel", "farBy", "(II)I"⟩ ∈ lw_gd := gd_of (List.mem_append_left _ (List.mem_map_of_mem (f := fun q : MethodName × Nat => Cond.selects q.1.cls q.1 q.1) (a := ((⟨"CrumbsHomeModel", "farBy", "(II)I"⟩, 23) : MethodName × Nat)) (l := lw_privs) (List.mem_append_right _ (List.mem_append_right _ (List.mem_append_left _ (List.mem_of_getElem? (i := 0) rfl)))))) rfl
theorem wp_3_1 : Cond.selects "CrumbsHomeModel" ⟨"CrumbsHomeModel", "findFrom", "(I)V"⟩ ⟨"CrumbsHomeModel", "findFrom", "(I)V"⟩ ∈ lw_gd := gd_of (List.mem_append_left _ (List.mem_map_of_mem (f := fun q : MethodName × Nat => Cond.selects q.1.cls q.1 q.1) (a := ((⟨"CrumbsHomeModel", "findFrom", "(I)V"⟩, 23) : MethodName × Nat)) (l := lw_privs) (List.mem_append_right _ (List.mem_append_right _ (List.mem_append_left _ (List.mem_of_getElem? (i := 1) rfl)))))) rfl
theorem wp_3_2 : Cond.selects "CrumbsHomeModel" ⟨"CrumbsHomeModel", "lets", "(III)V"⟩ ⟨"CrumbsHomeModel", "lets", "(III)V"⟩ ∈ lw_gd := gd_of (List.mem_append_left _ (List.mem_map_of_mem (f := fun q : MethodName × Nat => Cond.selects q.1.cls q.1 q.1) (a := ((⟨"CrumbsHomeModel", "lets", "(III)V"⟩, 23) : MethodName × Nat)) (l := lw_privs) (List.mem_append_right _ (List.mem_append_right _ (List.mem_append_left _ (List.mem_of_getElem? (i := 2) rfl)))))) rfl
theorem wp_3_3 : Cond.selects "CrumbsHomeModel" ⟨"CrumbsHomeModel", "isBit", "(I)Z"⟩ ⟨"CrumbsHomeModel", "isBit", "(I)Z"⟩ ∈ lw_gd := gd_of (List.mem_append_left _ (List.mem_map_of_mem (f := fun q : MethodName × Nat => Cond.selects q.1.cls q.1 q.1) (a := ((⟨"CrumbsHomeModel", "isBit", "(I)Z"⟩, 23) : MethodName × Nat)) (l := lw_privs) (List.mem_append_right _ (List.mem_append_right _ (List.mem_append_left _ (List.mem_of_getElem? (i := 3) rfl)))))) rfl
theorem wp_3_4 : Cond.selects "CrumbsHomeModel" ⟨"CrumbsHomeModel", "of", "(II)I"⟩ ⟨"CrumbsHomeModel", "of", "(II)I"⟩ ∈ lw_gd := gd_of (List.mem_append_left _ (List.mem_map_of_mem (f := fun q : MethodName × Nat => Cond.selects q.1.cls q.1 q.1) (a := ((⟨"CrumbsHomeModel", "of", "(II)I"⟩, 23) : MethodName × Nat)) (l := lw_privs) (List.mem_append_right _ (List.mem_append_right _ (List.mem_append_left _ (List.mem_of_getElem? (i := 4) rfl)))))) rfl
theorem wp_3_5 : Cond.selects "CrumbsHomeModel" ⟨"CrumbsHomeModel", "stepsOf", "(I)I"⟩ ⟨"CrumbsHomeModel", "stepsOf", "(I)I"⟩ ∈ lw_gd := gd_of (List.mem_append_left _ (List.mem_map_of_mem (f := fun q : MethodName × Nat => Cond.selects q.1.cls q.1 q.1) (a := ((⟨"CrumbsHomeModel", "stepsOf", "(I)I"⟩, 23) : MethodName × Nat)) (l := lw_privs) (List.mem_append_right _ (List.mem_append_right _ (List.mem_append_left _ (List.mem_of_getElem? (i := 5) rfl)))))) rfl
theorem wp_3_6 : Cond.selects "CrumbsHomeModel" ⟨"CrumbsHomeModel", "farHome", "(I)I"⟩ ⟨"CrumbsHomeModel", "farHome", "(I)I"⟩ ∈ lw_gd := gd_of (List.mem_append_left _ (List.mem_map_of_mem (f := fun q : MethodName × Nat => Cond.selects q.1.cls q.1 q.1) (a := ((⟨"CrumbsHomeModel", "farHome", "(I)I"⟩, 23) : MethodName × Nat)) (l := lw_privs) (List.mem_append_right _ (List.mem_append_right _ (List.mem_append_left _ (List.mem_of_getElem? (i := 6) rfl)))))) rfl
theorem wp_3_7 : Cond.selects "CrumbsHomeModel" ⟨"CrumbsHomeModel", "homeOf", "(I)I"⟩ ⟨"CrumbsHomeModel", "homeOf", "(I)I"⟩ ∈ lw_gd := gd_of (List.mem_append_left _ (List.mem_map_of_mem (f := fun q : MethodName × Nat => Cond.selects q.1.cls q.1 q.1) (a := ((⟨"CrumbsHomeModel", "homeOf", "(I)I"⟩, 23) : MethodName × Nat)) (l := lw_privs) (List.mem_append_right _ (List.mem_append_right _ (List.mem_append_left _ (List.mem_of_getElem? (i := 7) rfl)))))) rfl
theorem wp_3_8 : Cond.selects "CrumbsHomeModel" ⟨"CrumbsHomeModel", "walksBy", "(I)I"⟩ ⟨"CrumbsHomeModel", "walksBy", "(I)I"⟩ ∈ lw_gd := gd_of (List.mem_append_left _ (List.mem_map_of_mem (f := fun q : MethodName × Nat => Cond.selects q.1.cls q.1 q.1) (a := ((⟨"CrumbsHomeModel", "walksBy", "(I)I"⟩, 23) : MethodName × Nat)) (l := lw_privs) (List.mem_append_right _ (List.mem_append_right _ (List.mem_append_left _ (List.mem_of_getElem? (i := 8) rfl)))))) rfl
theorem wp_3_9 : Cond.selects "CrumbsHomeModel" ⟨"CrumbsHomeModel", "isTogether", "(I)Z"⟩ ⟨"CrumbsHomeModel", "isTogether", "(I)Z"⟩ ∈ lw_gd := gd_of (List.mem_append_left _ (List.mem_map_of_mem (f := fun q : MethodName × Nat => Cond.selects q.1.cls q.1 q.1) (a := ((⟨"CrumbsHomeModel", "isTogether", "(I)Z"⟩, 23) : MethodName × Nat)) (l := lw_privs) (List.mem_append_right _ (List.mem_append_right _ (List.mem_append_left _ (List.mem_of_getElem? (i := 9) rfl)))))) rfl
theorem wp_3_10 : Cond.selects "CrumbsHomeModel" ⟨"CrumbsHomeModel", "gives", "(IIII)I"⟩ ⟨"CrumbsHomeModel", "gives", "(IIII)I"⟩ ∈ lw_gd := gd_of (List.mem_append_left _ (List.mem_map_of_mem (f := fun q : MethodName × Nat => Cond.selects q.1.cls q.1 q.1) (a := ((⟨"CrumbsHomeModel", "gives", "(IIII)I"⟩, 23) : MethodName × Nat)) (l := lw_privs) (List.mem_append_right _ (List.mem_append_right _ (List.mem_append_left _ (List.mem_of_getElem? (i := 10) rfl)))))) rfl
theorem wp_3_11 : Cond.selects "CrumbsHomeModel" ⟨"CrumbsHomeModel", "works", "(I)I"⟩ ⟨"CrumbsHomeModel", "works", "(I)I"⟩ ∈ lw_gd := gd_of (List.mem_append_left _ (List.mem_map_of_mem (f := fun q : MethodName × Nat => Cond.selects q.1.cls q.1 q.1) (a := ((⟨"CrumbsHomeModel", "works", "(I)I"⟩, 23) : MethodName × Nat)) (l := lw_privs) (List.mem_append_right _ (List.mem_append_right _ (List.mem_append_left _ (List.mem_of_getElem? (i := 11) rfl)))))) rfl
theorem wp_3_12 : Cond.selects "CrumbsHomeModel" ⟨"CrumbsHomeModel", "worthOf", "(I)I"⟩ ⟨"CrumbsHomeModel", "worthOf", "(I)I"⟩ ∈ lw_gd := gd_of (List.mem_append_left _ (List.mem_map_of_mem (f := fun q : MethodName × Nat => Cond.selects q.1.cls q.1 q.1) (a := ((⟨"CrumbsHomeModel", "worthOf", "(I)I"⟩, 23) : MethodName × Nat)) (l := lw_privs) (List.mem_append_right _ (List.mem_append_right _ (List.mem_append_left _ (List.mem_of_getElem? (i := 12) rfl)))))) rfl
theorem wp_3_13 : Cond.selects "CrumbsHomeModel" ⟨"CrumbsHomeModel", "weighsOf", "(I)I"⟩ ⟨"CrumbsHomeModel", "weighsOf", "(I)I"⟩ ∈ lw_gd := gd_of (List.mem_append_left _ (List.mem_map_of_mem (f := fun q : MethodName × Nat => Cond.selects q.1.cls q.1 q.1) (a := ((⟨"CrumbsHomeModel", "weighsOf", "(I)I"⟩, 23) : MethodName × Nat)) (l := lw_privs) (List.mem_append_right _ (List.mem_append_right _ (List.mem_append_left _ (List.mem_of_getElem? (i := 13) rfl)))))) rfl
theorem wp_3_14 : Cond.selects "CrumbsHomeModel" ⟨"CrumbsHomeModel", "warmth", "(I)I"⟩ ⟨"CrumbsHomeModel", "warmth", "(I)I"⟩ ∈ lw_gd := gd_of (List.mem_append_left _ (List.mem_map_of_mem (f := fun q : MethodName × Nat => Cond.selects q.1.cls q.1 q.1) (a := ((⟨"CrumbsHomeModel", "warmth", "(I)I"⟩, 23) : MethodName × Nat)) (l := lw_privs) (List.mem_append_right _ (List.mem_append_right _ (List.mem_append_left _ (List.mem_of_getElem? (i := 14) rfl)))))) rfl
theorem wp_3_15 : Cond.selects "CrumbsHomeModel" ⟨"CrumbsHomeModel", "any", "()V"⟩ ⟨"CrumbsHomeModel", "any", "()V"⟩ ∈ lw_gd := gd_of (List.mem_append_left _ (List.mem_map_of_mem (f := fun q : MethodName × Nat => Cond.selects q.1.cls q.1 q.1) (a := ((⟨"CrumbsHomeModel", "any", "()V"⟩, 23) : MethodName × Nat)) (l := lw_privs) (List.mem_append_right _ (List.mem_append_right _ (List.mem_append_left _ (List.mem_of_getElem? (i := 15) rfl)))))) rfl
theorem wp_4_0 : Cond.selects "CrumbsHomeModel" ⟨"CrumbsHomeModel", "all", "()V"⟩ ⟨"CrumbsHomeModel", "all", "()V"⟩ ∈ lw_gd := gd_of (List.mem_append_left _ (List.mem_map_of_mem (f := fun q : MethodName × Nat => Cond.selects q.1.cls q.1 q.1) (a := ((⟨"CrumbsHomeModel", "all", "()V"⟩, 23) : MethodName × Nat)) (l := lw_privs) (List.mem_append_right _ (List.mem_append_right _ (List.mem_append_right _ (List.mem_append_left _ (List.mem_of_getElem? (i := 0) rfl))))))) rfl
theorem wp_4_1 : Cond.selects "CrumbsHomeModel" ⟨"CrumbsHomeModel", "compares", "()V"⟩ ⟨"CrumbsHomeModel", "compares", "()V"⟩ ∈ lw_gd := gd_of (List.mem_append_left _ (List.mem_map_of_mem (f := fun q : MethodName × Nat => Cond.selects q.1.cls q.1 q.1) (a := ((⟨"CrumbsHomeModel", "compares", "()V"⟩, 23) : MethodName × Nat)) (l := lw_privs) (List.mem_append_right _ (List.mem_append_right _ (List.mem_append_right _ (List.mem_append_left _ (List.mem_of_getElem? (i := 1) rfl))))))) rfl
theorem wp_4_2 : Cond.selects "CrumbsHomeModel" ⟨"CrumbsHomeModel", "sum", "()V"⟩ ⟨"CrumbsHomeModel", "sum", "()V"⟩ ∈ lw_gd := gd_of (List.mem_append_left _ (List.mem_map_of_mem (f := fun q : MethodName × Nat => Cond.selects q.1.cls q.1 q.1) (a := ((⟨"CrumbsHomeModel", "sum", "()V"⟩, 23) : MethodName × Nat)) (l := lw_privs) (List.mem_append_right _ (List.mem_append_right _ (List.mem_append_right _ (List.mem_append_left _ (List.mem_of_getElem? (i := 2) rfl))))))) rfl
theorem wp_4_3 : Cond.selects "CrumbsHomeModel" ⟨"CrumbsHomeModel", "times", "()V"⟩ ⟨"CrumbsHomeModel", "times", "()V"⟩ ∈ lw_gd := gd_of (List.mem_append_left _ (List.mem_map_of_mem (f := fun q : MethodName × Nat => Cond.selects q.1.cls q.1 q.1) (a := ((⟨"CrumbsHomeModel", "times", "()V"⟩, 23) : MethodName × Nat)) (l := lw_privs) (List.mem_append_right _ (List.mem_append_right _ (List.mem_append_right _ (List.mem_append_left _ (List.mem_of_getElem? (i := 3) rfl))))))) rfl
theorem wp_4_4 : Cond.selects "CrumbsHomeModel" ⟨"CrumbsHomeModel", "one", "()V"⟩ ⟨"CrumbsHomeModel", "one", "()V"⟩ ∈ lw_gd := gd_of (List.mem_append_left _ (List.mem_map_of_mem (f := fun q : MethodName × Nat => Cond.selects q.1.cls q.1 q.1) (a := ((⟨"CrumbsHomeModel", "one", "()V"⟩, 23) : MethodName × Nat)) (l := lw_privs) (List.mem_append_right _ (List.mem_append_right _ (List.mem_append_right _ (List.mem_append_left _ (List.mem_of_getElem? (i := 4) rfl))))))) rfl
theorem wp_4_5 : Cond.selects "CrumbsHomeModel" ⟨"CrumbsHomeModel", "look", "()I"⟩ ⟨"CrumbsHomeModel", "look", "()I"⟩ ∈ lw_gd := gd_of (List.mem_append_left _ (List.mem_map_of_mem (f := fun q : MethodName × Nat => Cond.selects q.1.cls q.1 q.1) (a := ((⟨"CrumbsHomeModel", "look", "()I"⟩, 23) : MethodName × Nat)) (l := lw_privs) (List.mem_append_right _ (List.mem_append_right _ (List.mem_append_right _ (List.mem_append_left _ (List.mem_of_getElem? (i := 5) rfl))))))) rfl
theorem wp_4_6 : Cond.selects "CrumbsHomeModel" ⟨"CrumbsHomeModel", "nameOf", "(I)I"⟩ ⟨"CrumbsHomeModel", "nameOf", "(I)I"⟩ ∈ lw_gd := gd_of (List.mem_append_left _ (List.mem_map_of_mem (f := fun q : MethodName × Nat => Cond.selects q.1.cls q.1 q.1) (a := ((⟨"CrumbsHomeModel", "nameOf", "(I)I"⟩, 23) : MethodName × Nat)) (l := lw_privs) (List.mem_append_right _ (List.mem_append_right _ (List.mem_append_right _ (List.mem_append_left _ (List.mem_of_getElem? (i := 6) rfl))))))) rfl
theorem wp_4_7 : Cond.selects "CrumbsHomeModel" ⟨"CrumbsHomeModel", "laysBy", "(II)V"⟩ ⟨"CrumbsHomeModel", "laysBy", "(II)V"⟩ ∈ lw_gd := gd_of (List.mem_append_left _ (List.mem_map_of_mem (f := fun q : MethodName × Nat => Cond.selects q.1.cls q.1 q.1) (a := ((⟨"CrumbsHomeModel", "laysBy", "(II)V"⟩, 23) : MethodName × Nat)) (l := lw_privs) (List.mem_append_right _ (List.mem_append_right _ (List.mem_append_right _ (List.mem_append_left _ (List.mem_of_getElem? (i := 7) rfl))))))) rfl
theorem wp_4_8 : Cond.selects "CrumbsHomeModel" ⟨"CrumbsHomeModel", "opensBy", "(I)V"⟩ ⟨"CrumbsHomeModel", "opensBy", "(I)V"⟩ ∈ lw_gd := gd_of (List.mem_append_left _ (List.mem_map_of_mem (f := fun q : MethodName × Nat => Cond.selects q.1.cls q.1 q.1) (a := ((⟨"CrumbsHomeModel", "opensBy", "(I)V"⟩, 23) : MethodName × Nat)) (l := lw_privs) (List.mem_append_right _ (List.mem_append_right _ (List.mem_append_right _ (List.mem_append_left _ (List.mem_of_getElem? (i := 8) rfl))))))) rfl
theorem wp_4_9 : Cond.selects "CrumbsHomeModel" ⟨"CrumbsHomeModel", "number", "()V"⟩ ⟨"CrumbsHomeModel", "number", "()V"⟩ ∈ lw_gd := gd_of (List.mem_append_left _ (List.mem_map_of_mem (f := fun q : MethodName × Nat => Cond.selects q.1.cls q.1 q.1) (a := ((⟨"CrumbsHomeModel", "number", "()V"⟩, 23) : MethodName × Nat)) (l := lw_privs) (List.mem_append_right _ (List.mem_append_right _ (List.mem_append_right _ (List.mem_append_left _ (List.mem_of_getElem? (i := 9) rfl))))))) rfl
theorem wp_4_10 : Cond.selects "CrumbsHomeModel" ⟨"CrumbsHomeModel", "goesFor", "(I)V"⟩ ⟨"CrumbsHomeModel", "goesFor", "(I)V"⟩ ∈ lw_gd := gd_of (List.mem_append_left _ (List.mem_map_of_mem (f := fun q : MethodName × Nat => Cond.selects q.1.cls q.1 q.1) (a := ((⟨"CrumbsHomeModel", "goesFor", "(I)V"⟩, 23) : MethodName × Nat)) (l := lw_privs) (List.mem_append_right _ (List.mem_append_right _ (List.mem_append_right _ (List.mem_append_left _ (List.mem_of_getElem? (i := 10) rfl))))))) rfl
theorem wp_4_11 : Cond.selects "CrumbsHomeModel" ⟨"CrumbsHomeModel", "goes", "()V"⟩ ⟨"CrumbsHomeModel", "goes", "()V"⟩ ∈ lw_gd := gd_of (List.mem_append_left _ (List.mem_map_of_mem (f := fun q : MethodName × Nat => Cond.selects q.1.cls q.1 q.1) (a := ((⟨"CrumbsHomeModel", "goes", "()V"⟩, 23) : MethodName × Nat)) (l := lw_privs) (List.mem_append_right _ (List.mem_append_right _ (List.mem_append_right _ (List.mem_append_left _ (List.mem_of_getElem? (i := 11) rfl))))))) rfl
theorem wp_4_12 : Cond.selects "CrumbsHomeModel" ⟨"CrumbsHomeModel", "isHome", "(I)Z"⟩ ⟨"CrumbsHomeModel", "isHome", "(I)Z"⟩ ∈ lw_gd := gd_of (List.mem_append_left _ (List.mem_map_of_mem (f := fun q : MethodName × Nat => Cond.selects q.1.cls q.1 q.1) (a := ((⟨"CrumbsHomeModel", "isHome", "(I)Z"⟩, 23) : MethodName × Nat)) (l := lw_privs) (List.mem_append_right _ (List.mem_append_right _ (List.mem_append_right _ (List.mem_append_left _ (List.mem_of_getElem? (i := 12) rfl))))))) rfl
theorem wp_4_13 : Cond.selects "CrumbsHomeModel" ⟨"CrumbsHomeModel", "nextOf", "(II)I"⟩ ⟨"CrumbsHomeModel", "nextOf", "(II)I"⟩ ∈ lw_gd := gd_of (List.mem_append_left _ (List.mem_map_of_mem (f := fun q : MethodName × Nat => Cond.selects q.1.cls q.1 q.1) (a := ((⟨"CrumbsHomeModel", "nextOf", "(II)I"⟩, 23) : MethodName × Nat)) (l := lw_privs) (List.mem_append_right _ (List.mem_append_right _ (List.mem_append_right _ (List.mem_append_left _ (List.mem_of_getElem? (i := 13) rfl))))))) rfl
theorem wp_4_14 : Cond.selects "CrumbsHomeModel" ⟨"CrumbsHomeModel", "homes", "()I"⟩ ⟨"CrumbsHomeModel", "homes", "()I"⟩ ∈ lw_gd := gd_of (List.mem_append_left _ (List.mem_map_of_mem (f := fun q : MethodName × Nat => Cond.selects q.1.cls q.1 q.1) (a := ((⟨"CrumbsHomeModel", "homes", "()I"⟩, 23) : MethodName × Nat)) (l := lw_privs) (List.mem_append_right _ (List.mem_append_right _ (List.mem_append_right _ (List.mem_append_left _ (List.mem_of_getElem? (i := 14) rfl))))))) rfl
theorem wp_4_15 : Cond.selects "CrumbsHomeModel" ⟨"CrumbsHomeModel", "drawn", "()V"⟩ ⟨"CrumbsHomeModel", "drawn", "()V"⟩ ∈ lw_gd := gd_of (List.mem_append_left _ (List.mem_map_of_mem (f := fun q : MethodName × Nat => Cond.selects q.1.cls q.1 q.1) (a := ((⟨"CrumbsHomeModel", "drawn", "()V"⟩, 23) : MethodName × Nat)) (l := lw_privs) (List.mem_append_right _ (List.mem_append_right _ (List.mem_append_right _ (List.mem_append_left _ (List.mem_of_getElem? (i := 15) rfl))))))) rfl
theorem wp_5_0 : Cond.selects "CrumbsHomeModel" ⟨"CrumbsHomeModel", "draw", "()I"⟩ ⟨"CrumbsHomeModel", "draw", "()I"⟩ ∈ lw_gd := gd_of (List.mem_append_left _ (List.mem_map_of_mem (f := fun q : MethodName × Nat => Cond.selects q.1.cls q.1 q.1) (a := ((⟨"CrumbsHomeModel", "draw", "()I"⟩, 23) : MethodName × Nat)) (l := lw_privs) (List.mem_append_right _ (List.mem_append_right _ (List.mem_append_right _ (List.mem_append_right _ (List.mem_append_left _ (List.mem_of_getElem? (i := 0) rfl)))))))) rfl
theorem wp_5_1 : Cond.selects "CrumbsHomeModel" ⟨"CrumbsHomeModel", "thinks", "()V"⟩ ⟨"CrumbsHomeModel", "thinks", "()V"⟩ ∈ lw_gd := gd_of (List.mem_append_left _ (List.mem_map_of_mem (f := fun q : MethodName × Nat => Cond.selects q.1.cls q.1 q.1) (a := ((⟨"CrumbsHomeModel", "thinks", "()V"⟩, 23) : MethodName × Nat)) (l := lw_privs) (List.mem_append_right _ (List.mem_append_right _ (List.mem_append_right _ (List.mem_append_right _ (List.mem_append_left _ (List.mem_of_getElem? (i := 1) rfl)))))))) rfl
theorem wp_5_2 : Cond.selects "CrumbsHomeModel" ⟨"CrumbsHomeModel", "putsBack", "()V"⟩ ⟨"CrumbsHomeModel", "putsBack", "()V"⟩ ∈ lw_gd := gd_of (List.mem_append_left _ (List.mem_map_of_mem (f := fun q : MethodName × Nat => Cond.selects q.1.cls q.1 q.1) (a := ((⟨"CrumbsHomeModel", "putsBack", "()V"⟩, 23) : MethodName × Nat)) (l := lw_privs) (List.mem_append_right _ (List.mem_append_right _ (List.mem_append_right _ (List.mem_append_right _ (List.mem_append_left _ (List.mem_of_getElem? (i := 2) rfl)))))))) rfl
theorem wp_5_3 : Cond.selects "CrumbsHomeModel" ⟨"CrumbsHomeModel", "gotBy", "(I)I"⟩ ⟨"CrumbsHomeModel", "gotBy", "(I)I"⟩ ∈ lw_gd := gd_of (List.mem_append_left _ (List.mem_map_of_mem (f := fun q : MethodName × Nat => Cond.selects q.1.cls q.1 q.1) (a := ((⟨"CrumbsHomeModel", "gotBy", "(I)I"⟩, 23) : MethodName × Nat)) (l := lw_privs) (List.mem_append_right _ (List.mem_append_right _ (List.mem_append_right _ (List.mem_append_right _ (List.mem_append_left _ (List.mem_of_getElem? (i := 3) rfl)))))))) rfl
theorem wp_5_4 : Cond.selects "CrumbsHomeModel" ⟨"CrumbsHomeModel", "isEnough", "(IIII)Z"⟩ ⟨"CrumbsHomeModel", "isEnough", "(IIII)Z"⟩ ∈ lw_gd := gd_of (List.mem_append_left _ (List.mem_map_of_mem (f := fun q : MethodName × Nat => Cond.selects q.1.cls q.1 q.1) (a := ((⟨"CrumbsHomeModel", "isEnough", "(IIII)Z"⟩, 23) : MethodName × Nat)) (l := lw_privs) (List.mem_append_right _ (List.mem_append_right _ (List.mem_append_right _ (List.mem_append_right _ (List.mem_append_left _ (List.mem_of_getElem? (i := 4) rfl)))))))) rfl
theorem wp_5_5 : Cond.selects "CrumbsHomeModel" ⟨"CrumbsHomeModel", "isSo", "(II)Z"⟩ ⟨"CrumbsHomeModel", "isSo", "(II)Z"⟩ ∈ lw_gd := gd_of (List.mem_append_left _ (List.mem_map_of_mem (f := fun q : MethodName × Nat => Cond.selects q.1.cls q.1 q.1) (a := ((⟨"CrumbsHomeModel", "isSo", "(II)Z"⟩, 23) : MethodName × Nat)) (l := lw_privs) (List.mem_append_right _ (List.mem_append_right _ (List.mem_append_right _ (List.mem_append_right _ (List.mem_append_left _ (List.mem_of_getElem? (i := 5) rfl)))))))) rfl
theorem wp_5_6 : Cond.selects "CrumbsHomeModel" ⟨"CrumbsHomeModel", "walks", "(II)I"⟩ ⟨"CrumbsHomeModel", "walks", "(II)I"⟩ ∈ lw_gd := gd_of (List.mem_append_left _ (List.mem_map_of_mem (f := fun q : MethodName × Nat => Cond.selects q.1.cls q.1 q.1) (a := ((⟨"CrumbsHomeModel", "walks", "(II)I"⟩, 23) : MethodName × Nat)) (l := lw_privs) (List.mem_append_right _ (List.mem_append_right _ (List.mem_append_right _ (List.mem_append_right _ (List.mem_append_left _ (List.mem_of_getElem? (i := 6) rfl)))))))) rfl
theorem wp_5_7 : Cond.selects "CrumbsHomeModel" ⟨"CrumbsHomeModel", "crustWalks", "(II)I"⟩ ⟨"CrumbsHomeModel", "crustWalks", "(II)I"⟩ ∈ lw_gd := gd_of (List.mem_append_left _ (List.mem_map_of_mem (f := fun q : MethodName × Nat => Cond.selects q.1.cls q.1 q.1) (a := ((⟨"CrumbsHomeModel", "crustWalks", "(II)I"⟩, 23) : MethodName × Nat)) (l := lw_privs) (List.mem_append_right _ (List.mem_append_right _ (List.mem_append_right _ (List.mem_append_right _ (List.mem_append_left _ (List.mem_of_getElem? (i := 7) rfl)))))))) rfl
theorem wp_5_8 : Cond.selects "CrumbsHomeModel" ⟨"CrumbsHomeModel", "begins", "(I)V"⟩ ⟨"CrumbsHomeModel", "begins", "(I)V"⟩ ∈ lw_gd := gd_of (List.mem_append_left _ (List.mem_map_of_mem (f := fun q : MethodName × Nat => Cond.selects q.1.cls q.1 q.1) (a := ((⟨"CrumbsHomeModel", "begins", "(I)V"⟩, 23) : MethodName × Nat)) (l := lw_privs) (List.mem_append_right _ (List.mem_append_right _ (List.mem_append_right _ (List.mem_append_right _ (List.mem_append_left _ (List.mem_of_getElem? (i := 8) rfl)))))))) rfl
theorem wp_5_9 : Cond.selects "CrumbsHomeModel" ⟨"CrumbsHomeModel", "plainWalks", "(II)I"⟩ ⟨"CrumbsHomeModel", "plainWalks", "(II)I"⟩ ∈ lw_gd := gd_of (List.mem_append_left _ (List.mem_map_of_mem (f := fun q : MethodName × Nat => Cond.selects q.1.cls q.1 q.1) (a := ((⟨"CrumbsHomeModel", "plainWalks", "(II)I"⟩, 23) : MethodName × Nat)) (l := lw_privs) (List.mem_append_right _ (List.mem_append_right _ (List.mem_append_right _ (List.mem_append_right _ (List.mem_append_left _ (List.mem_of_getElem? (i := 9) rfl)))))))) rfl
theorem wp_5_10 : Cond.selects "CrumbsHomeModel" ⟨"CrumbsHomeModel", "warms", "(II)I"⟩ ⟨"CrumbsHomeModel", "warms", "(II)I"⟩ ∈ lw_gd := gd_of (List.mem_append_left _ (List.mem_map_of_mem (f := fun q : MethodName × Nat => Cond.selects q.1.cls q.1 q.1) (a := ((⟨"CrumbsHomeModel", "warms", "(II)I"⟩, 23) : MethodName × Nat)) (l := lw_privs) (List.mem_append_right _ (List.mem_append_right _ (List.mem_append_right _ (List.mem_append_right _ (List.mem_append_left _ (List.mem_of_getElem? (i := 10) rfl)))))))) rfl
theorem wp_5_11 : Cond.selects "CrumbsHomeModel" ⟨"CrumbsHomeModel", "officeWarms", "(II)I"⟩ ⟨"CrumbsHomeModel", "officeWarms", "(II)I"⟩ ∈ lw_gd := gd_of (List.mem_append_left _ (List.mem_map_of_mem (f := fun q : MethodName × Nat => Cond.selects q.1.cls q.1 q.1) (a := ((⟨"CrumbsHomeModel", "officeWarms", "(II)I"⟩, 23) : MethodName × Nat)) (l := lw_privs) (List.mem_append_right _ (List.mem_append_right _ (List.mem_append_right _ (List.mem_append_right _ (List.mem_append_left _ (List.mem_of_getElem? (i := 11) rfl)))))))) rfl
theorem wp_5_12 : Cond.selects "CrumbsHomeModel" ⟨"CrumbsHomeModel", "plainWarms", "(II)I"⟩ ⟨"CrumbsHomeModel", "plainWarms", "(II)I"⟩ ∈ lw_gd := gd_of (List.mem_append_left _ (List.mem_map_of_mem (f := fun q : MethodName × Nat => Cond.selects q.1.cls q.1 q.1) (a := ((⟨"CrumbsHomeModel", "plainWarms", "(II)I"⟩, 23) : MethodName × Nat)) (l := lw_privs) (List.mem_append_right _ (List.mem_append_right _ (List.mem_append_right _ (List.mem_append_right _ (List.mem_append_left _ (List.mem_of_getElem? (i := 12) rfl)))))))) rfl
theorem wp_5_13 : Cond.selects "CrumbsHomeModel" ⟨"CrumbsHomeModel", "sprouts", "(II)I"⟩ ⟨"CrumbsHomeModel", "sprouts", "(II)I"⟩ ∈ lw_gd := gd_of (List.mem_append_left _ (List.mem_map_of_mem (f := fun q : MethodName × Nat => Cond.selects q.1.cls q.1 q.1) (a := ((⟨"CrumbsHomeModel", "sprouts", "(II)I"⟩, 23) : MethodName × Nat)) (l := lw_privs) (List.mem_append_right _ (List.mem_append_right _ (List.mem_append_right _ (List.mem_append_right _ (List.mem_append_left _ (List.mem_of_getElem? (i := 13) rfl)))))))) rfl
theorem wp_5_14 : Cond.selects "CrumbsHomeModel" ⟨"CrumbsHomeModel", "plainSprouts", "(II)I"⟩ ⟨"CrumbsHomeModel", "plainSprouts", "(II)I"⟩ ∈ lw_gd := gd_of (List.mem_append_left _ (List.mem_map_of_mem (f := fun q : MethodName × Nat => Cond.selects q.1.cls q.1 q.1) (a := ((⟨"CrumbsHomeModel", "plainSprouts", "(II)I"⟩, 23) : MethodName × Nat)) (l := lw_privs) (List.mem_append_right _ (List.mem_append_right _ (List.mem_append_right _ (List.mem_append_right _ (List.mem_append_left _ (List.mem_of_getElem? (i := 14) rfl)))))))) rfl
theorem wp_5_15 : Cond.selects "CrumbsHomeModel" ⟨"CrumbsHomeModel", "partsBy", "(II)I"⟩ ⟨"CrumbsHomeModel", "partsBy", "(II)I"⟩ ∈ lw_gd := gd_of (List.mem_append_left _ (List.mem_map_of_mem (f := fun q : MethodName × Nat => Cond.selects q.1.cls q.1 q.1) (a := ((⟨"CrumbsHomeModel", "partsBy", "(II)I"⟩, 23) : MethodName × Nat)) (l := lw_privs) (List.mem_append_right _ (List.mem_append_right _ (List.mem_append_right _ (List.mem_append_right _ (List.mem_append_left _ (List.mem_of_getElem? (i := 15) rfl)))))))) rfl
theorem wp_6_0 : Cond.selects "CrumbsHomeModel" ⟨"CrumbsHomeModel", "plainParts", "(II)I"⟩ ⟨"CrumbsHomeModel", "plainParts", "(II)I"⟩ ∈ lw_gd := gd_of (List.mem_append_left _ (List.mem_map_of_mem (f := fun q : MethodName × Nat => Cond.selects q.1.cls q.1 q.1) (a := ((⟨"CrumbsHomeModel", "plainParts", "(II)I"⟩, 23) : MethodName × Nat)) (l := lw_privs) (List.mem_append_right _ (List.mem_append_right _ (List.mem_append_right _ (List.mem_append_right _ (List.mem_append_right _ (List.mem_of_getElem? (i := 0) rfl)))))))) rfl
theorem wp_6_1 : Cond.selects "CrumbsHomeModel" ⟨"CrumbsHomeModel", "notThere", "(I)I"⟩ ⟨"CrumbsHomeModel", "notThere", "(I)I"⟩ ∈ lw_gd := gd_of (List.mem_append_left _ (List.mem_map_of_mem (f := fun q : MethodName × Nat => Cond.selects q.1.cls q.1 q.1) (a := ((⟨"CrumbsHomeModel", "notThere", "(I)I"⟩, 23) : MethodName × Nat)) (l := lw_privs) (List.mem_append_right _ (List.mem_append_right _ (List.mem_append_right _ (List.mem_append_right _ (List.mem_append_right _ (List.mem_of_getElem? (i := 1) rfl)))))))) rfl
theorem wp_6_2 : Cond.selects "CrumbsHomeModel" ⟨"CrumbsHomeModel", "notMoved", "(IIIII)I"⟩ ⟨"CrumbsHomeModel", "notMoved", "(IIIII)I"⟩ ∈ lw_gd := gd_of (List.mem_append_left _ (List.mem_map_of_mem (f := fun q : MethodName × Nat => Cond.selects q.1.cls q.1 q.1) (a := ((⟨"CrumbsHomeModel", "notMoved", "(IIIII)I"⟩, 23) : MethodName × Nat)) (l := lw_privs) (List.mem_append_right _ (List.mem_append_right _ (List.mem_append_right _ (List.mem_append_right _ (List.mem_append_right _ (List.mem_of_getElem? (i := 2) rfl)))))))) rfl
def c_fn : List (String × Nat × String × String × String × String) := [("CrumbsHome$World", 82, "CrumbsHome$Harvest", "size", "I", "CrumbsHome"), ("CrumbsHome", 109, "CrumbsHome$Harvest", "size", "I", "CrumbsHome"), ("CrumbsHome", 187, "CrumbsHome$Harvest", "day", "I", "CrumbsHome"), ("CrumbsHome", 119, "CrumbsHome$Harvest", "kind", "[I", "CrumbsHome"), ("CrumbsHome", 122, "CrumbsHome$Harvest", "m", "[I", "CrumbsHome"), ("CrumbsHome", 125, "CrumbsHome$Harvest", "of", "[I", "CrumbsHome"), ("CrumbsHome$World", 92, "CrumbsHome$Harvest", "at", "[I", "CrumbsHome"), ("CrumbsHome", 128, "CrumbsHome$Harvest", "at", "[I", "CrumbsHome"), ("CrumbsHome$World", 89, "CrumbsHome$Harvest", "heard", "[I", "CrumbsHome"), ("CrumbsHome", 131, "CrumbsHome$Harvest", "heard", "[I", "CrumbsHome"), ("CrumbsHome", 96, "CrumbsHome$Harvest", "fieldAt", "[I", "CrumbsHome"), ("CrumbsHome", 161, "CrumbsHome$Law", "names", "Ljava/lang/String;", "CrumbsHome"), ("CrumbsHome$World", 65, "CrumbsHome$Law", "code", "[I", "CrumbsHome"), ("CrumbsHome$World", 68, "CrumbsHome$Law", "length", "I", "CrumbsHome"), ("CrumbsHome", 181, "CrumbsHome$Law", "length", "I", "CrumbsHome"), ("CrumbsHome", 76, "CrumbsHome$World", "roads", "LCrumbsHome$Roads;", "CrumbsHome"), ("CrumbsHome", 93, "CrumbsHome$World", "harvest", "LCrumbsHome$Harvest;", "CrumbsHome"), ("CrumbsHome", 293, "CrumbsHome$World", "steps", "LCrumbsHome$Law;", "CrumbsHome"), ("CrumbsHome", 297, "CrumbsHome$World", "worth", "LCrumbsHome$Law;", "CrumbsHome"), ("CrumbsHome", 151, "CrumbsHome$World", "tape", "[I", "CrumbsHome"), ("CrumbsHome", 148, "CrumbsHome$World", "tapeLength", "I", "CrumbsHome"), ("CrumbsHome", 281, "CrumbsHome$World", "waiting", "[I", "CrumbsHome"), ("CrumbsHome", 278, "CrumbsHome$World", "waits", "I", "CrumbsHome"), ("CrumbsHome", 205, "CrumbsHome$World", "z", "I", "CrumbsHome"), ("CrumbsHome", 171, "CrumbsHome$Reader", "code", "[I", "CrumbsHome"), ("CrumbsHome", 174, "CrumbsHome$Reader", "written", "I", "CrumbsHome"), ("CrumbsHome", 262, "CrumbsHome$Sheets", "bits", "[I", "CrumbsHome"), ("CrumbsHome", 257, "CrumbsHome$Sheets", "length", "[I", "CrumbsHome")]
def c_mn : List (String × Nat × MethodName × String) := [("CrumbsHome", 9, ⟨"CrumbsHome$World", "<init>", "()V"⟩, "CrumbsHome"), ("CrumbsHome", 43, ⟨"CrumbsHome$Reader", "<init>", "()V"⟩, "CrumbsHome"), ("CrumbsHome", 50, ⟨"CrumbsHome$Sheets", "<init>", "()V"⟩, "CrumbsHome")]
/-- a field is linked: plainly, or as a nest mate's -/
def lk (own : String) (idx : Nat) (ref name desc : String) : Prop := Cond.fieldLink own idx ref name desc ∈ lw_gd ∨ ∃ (i : Nat) (host : String), c_fn[i]? = some (own, idx, ref, name, desc, host)
theorem fn_0 : lk "CrumbsHome$World" 82 "CrumbsHome$Harvest" "size" "I" := Or.inr ⟨0, "CrumbsHome", rfl⟩
theorem fn_1 : lk "CrumbsHome" 109 "CrumbsHome$Harvest" "size" "I" := Or.inr ⟨1, "CrumbsHome", rfl⟩
theorem fn_2 : lk "CrumbsHome" 187 "CrumbsHome$Harvest" "day" "I" := Or.inr ⟨2, "CrumbsHome", rfl⟩
theorem fn_3 : lk "CrumbsHome" 119 "CrumbsHome$Harvest" "kind" "[I" := Or.inr ⟨3, "CrumbsHome", rfl⟩
theorem fn_4 : lk "CrumbsHome" 122 "CrumbsHome$Harvest" "m" "[I" := Or.inr ⟨4, "CrumbsHome", rfl⟩
theorem fn_5 : lk "CrumbsHome" 125 "CrumbsHome$Harvest" "of" "[I" := Or.inr ⟨5, "CrumbsHome", rfl⟩
theorem fn_6 : lk "CrumbsHome$World" 92 "CrumbsHome$Harvest" "at" "[I" := Or.inr ⟨6, "CrumbsHome", rfl⟩
theorem fn_7 : lk "CrumbsHome" 128 "CrumbsHome$Harvest" "at" "[I" := Or.inr ⟨7, "CrumbsHome", rfl⟩
theorem fn_8 : lk "CrumbsHome$World" 89 "CrumbsHome$Harvest" "heard" "[I" := Or.inr ⟨8, "CrumbsHome", rfl⟩
theorem fn_9 : lk "CrumbsHome" 131 "CrumbsHome$Harvest" "heard" "[I" := Or.inr ⟨9, "CrumbsHome", rfl⟩
theorem fn_10 : lk "CrumbsHome" 96 "CrumbsHome$Harvest" "fieldAt" "[I" := Or.inr ⟨10, "CrumbsHome", rfl⟩
theorem fn_11 : lk "CrumbsHome" 161 "CrumbsHome$Law" "names" "Ljava/lang/String;" := Or.inr ⟨11, "CrumbsHome", rfl⟩
theorem fn_12 : lk "CrumbsHome$World" 65 "CrumbsHome$Law" "code" "[I" := Or.inr ⟨12, "CrumbsHome", rfl⟩
theorem fn_13 : lk "CrumbsHome$World" 68 "CrumbsHome$Law" "length" "I" := Or.inr ⟨13, "CrumbsHome", rfl⟩
theorem fn_14 : lk "CrumbsHome" 181 "CrumbsHome$Law" "length" "I" := Or.inr ⟨14, "CrumbsHome", rfl⟩
theorem fn_15 : lk "CrumbsHome" 76 "CrumbsHome$World" "roads" "LCrumbsHome$Roads;" := Or.inr ⟨15, "CrumbsHome", rfl⟩
theorem fn_16 : lk "CrumbsHome" 93 "CrumbsHome$World" "harvest" "LCrumbsHome$Harvest;" := Or.inr ⟨16, "CrumbsHome", rfl⟩
theorem fn_17 : lk "CrumbsHome" 293 "CrumbsHome$World" "steps" "LCrumbsHome$Law;" := Or.inr ⟨17, "CrumbsHome", rfl⟩
theorem fn_18 : lk "CrumbsHome" 297 "CrumbsHome$World" "worth" "LCrumbsHome$Law;" := Or.inr ⟨18, "CrumbsHome", rfl⟩
theorem fn_19 : lk "CrumbsHome" 151 "CrumbsHome$World" "tape" "[I" := Or.inr ⟨19, "CrumbsHome", rfl⟩
theorem fn_20 : lk "CrumbsHome" 148 "CrumbsHome$World" "tapeLength" "I" := Or.inr ⟨20, "CrumbsHome", rfl⟩
theorem fn_21 : lk "CrumbsHome" 281 "CrumbsHome$World" "waiting" "[I" := Or.inr ⟨21, "CrumbsHome", rfl⟩
theorem fn_22 : lk "CrumbsHome" 278 "CrumbsHome$World" "waits" "I" := Or.inr ⟨22, "CrumbsHome", rfl⟩
theorem fn_23 : lk "CrumbsHome" 205 "CrumbsHome$World" "z" "I" := Or.inr ⟨23, "CrumbsHome", rfl⟩
theorem fn_24 : lk "CrumbsHome" 171 "CrumbsHome$Reader" "code" "[I" := Or.inr ⟨24, "CrumbsHome", rfl⟩
theorem fn_25 : lk "CrumbsHome" 174 "CrumbsHome$Reader" "written" "I" := Or.inr ⟨25, "CrumbsHome", rfl⟩
theorem fn_26 : lk "CrumbsHome" 262 "CrumbsHome$Sheets" "bits" "[I" := Or.inr ⟨26, "CrumbsHome", rfl⟩
theorem fn_27 : lk "CrumbsHome" 257 "CrumbsHome$Sheets" "length" "[I" := Or.inr ⟨27, "CrumbsHome", rfl⟩
theorem lf_1_56 : lk "CrumbsHome$Roads" 9 "CrumbsHome$Roads" "ways" "[I" := Or.inl ww_1_56
theorem lf_1_57 : lk "CrumbsHome$Roads" 15 "CrumbsHome$Roads" "far" "[I" := Or.inl ww_1_57
theorem lf_1_70 : lk "CrumbsHome$Harvest" 9 "CrumbsHome$Harvest" "size" "I" := Or.inl ww_1_70
theorem lf_1_73 : lk "CrumbsHome$Harvest" 15 "CrumbsHome$Harvest" "day" "I" := Or.inl ww_1_73
theorem lf_1_75 : lk "CrumbsHome$Harvest" 18 "CrumbsHome$Harvest" "kind" "[I" := Or.inl ww_1_75
theorem lf_1_77 : lk "CrumbsHome$Harvest" 22 "CrumbsHome$Harvest" "m" "[I" := Or.inl ww_1_77
theorem lf_1_79 : lk "CrumbsHome$Harvest" 25 "CrumbsHome$Harvest" "of" "[I" := Or.inl ww_1_79
theorem lf_1_81 : lk "CrumbsHome$Harvest" 28 "CrumbsHome$Harvest" "at" "[I" := Or.inl ww_1_81
theorem lf_1_84 : lk "CrumbsHome$Harvest" 31 "CrumbsHome$Harvest" "heard" "[I" := Or.inl ww_1_84
theorem lf_1_87 : lk "CrumbsHome$Harvest" 34 "CrumbsHome$Harvest" "fieldAt" "[I" := Or.inl ww_1_87
theorem lf_1_113 : lk "CrumbsHome$Law" 22 "CrumbsHome$Law" "names" "Ljava/lang/String;" := Or.inl ww_1_113
theorem lf_1_115 : lk "CrumbsHome$Law" 26 "CrumbsHome$Law" "most" "I" := Or.inl ww_1_115
theorem lf_1_116 : lk "CrumbsHome$Law" 9 "CrumbsHome$Law" "code" "[I" := Or.inl ww_1_116
theorem lf_1_118 : lk "CrumbsHome$Law" 15 "CrumbsHome$Law" "stack" "[I" := Or.inl ww_1_118
theorem lf_1_119 : lk "CrumbsHome$Law" 18 "CrumbsHome$Law" "length" "I" := Or.inl ww_1_119
theorem lf_1_135 : lk "CrumbsHome$World" 12 "CrumbsHome$World" "roads" "LCrumbsHome$Roads;" := Or.inl ww_1_135
theorem lf_1_137 : lk "CrumbsHome$World" 21 "CrumbsHome$World" "harvest" "LCrumbsHome$Harvest;" := Or.inl ww_1_137
theorem lf_1_139 : lk "CrumbsHome$World" 32 "CrumbsHome$World" "steps" "LCrumbsHome$Law;" := Or.inl ww_1_139
theorem lf_1_141 : lk "CrumbsHome$World" 38 "CrumbsHome$World" "worth" "LCrumbsHome$Law;" := Or.inl ww_1_141
theorem lf_1_143 : lk "CrumbsHome$World" 41 "CrumbsHome$World" "tape" "[I" := Or.inl ww_1_143
theorem lf_1_145 : lk "CrumbsHome$World" 45 "CrumbsHome$World" "tapeLength" "I" := Or.inl ww_1_145
theorem lf_1_147 : lk "CrumbsHome$World" 49 "CrumbsHome$World" "waiting" "[I" := Or.inl ww_1_147
theorem lf_1_149 : lk "CrumbsHome$World" 52 "CrumbsHome$World" "waits" "I" := Or.inl ww_1_149
theorem lf_1_151 : lk "CrumbsHome$World" 55 "CrumbsHome$World" "z" "I" := Or.inl ww_1_151
theorem lf_1_183 : lk "CrumbsHome$Reader" 9 "CrumbsHome$Reader" "code" "[I" := Or.inl ww_1_183
theorem lf_1_185 : lk "CrumbsHome$Reader" 15 "CrumbsHome$Reader" "written" "I" := Or.inl ww_1_185
theorem lf_1_187 : lk "CrumbsHome$Reader" 19 "CrumbsHome$Reader" "tape" "[I" := Or.inl ww_1_187
theorem lf_1_188 : lk "CrumbsHome$Reader" 22 "CrumbsHome$Reader" "length" "I" := Or.inl ww_1_188
theorem lf_1_189 : lk "CrumbsHome$Reader" 27 "CrumbsHome$Reader" "names" "Ljava/lang/String;" := Or.inl ww_1_189
theorem lf_1_190 : lk "CrumbsHome$Reader" 31 "CrumbsHome$Reader" "place" "I" := Or.inl ww_1_190
theorem lf_1_191 : lk "CrumbsHome$Reader" 34 "CrumbsHome$Reader" "faulty" "Z" := Or.inl ww_1_191
theorem lf_1_213 : lk "CrumbsHome$Sheets" 9 "CrumbsHome$Sheets" "bits" "[I" := Or.inl ww_1_213
theorem lf_1_215 : lk "CrumbsHome$Sheets" 13 "CrumbsHome$Sheets" "length" "[I" := Or.inl ww_1_215
theorem lf_1_217 : lk "CrumbsHome$Sheets" 16 "CrumbsHome$Sheets" "numbers" "[I" := Or.inl ww_1_217
theorem lf_1_225 : lk "CrumbsHome" 10 "CrumbsHome" "now" "LCrumbsHome$World;" := Or.inl ww_1_225
theorem lf_1_226 : lk "CrumbsHome" 16 "CrumbsHome" "kept" "LCrumbsHome$World;" := Or.inl ww_1_226
theorem lf_1_227 : lk "CrumbsHome" 19 "CrumbsHome" "images" "I" := Or.inl ww_1_227
theorem lf_1_228 : lk "CrumbsHome" 26 "CrumbsHome" "thought" "LCrumbsHome$Harvest;" := Or.inl ww_1_228
theorem lf_1_229 : lk "CrumbsHome" 33 "CrumbsHome" "trial" "LCrumbsHome$Roads;" := Or.inl ww_1_229
theorem lf_1_230 : lk "CrumbsHome" 37 "CrumbsHome" "paces" "[I" := Or.inl ww_1_230
theorem lf_1_231 : lk "CrumbsHome" 44 "CrumbsHome" "reader" "LCrumbsHome$Reader;" := Or.inl ww_1_231
theorem lf_1_232 : lk "CrumbsHome" 51 "CrumbsHome" "sheets" "LCrumbsHome$Sheets;" := Or.inl ww_1_232
theorem lf_1_233 : lk "CrumbsHome" 55 "CrumbsHome" "errors" "[I" := Or.inl ww_1_233
theorem lf_1_234 : lk "CrumbsHome" 58 "CrumbsHome" "trace" "[I" := Or.inl ww_1_234
theorem lf_1_235 : lk "CrumbsHome" 61 "CrumbsHome" "traced" "I" := Or.inl ww_1_235
theorem lf_1_236 : lk "CrumbsHome" 64 "CrumbsHome" "parted" "Z" := Or.inl ww_1_236
theorem lf_2_131 : lk "CrumbsHome" 285 "CrumbsHome" "ABOVE" "[I" := Or.inl ww_2_131
theorem lf_2_195 : lk "java/lang/String" 38 "java/lang/String" "COMPACT_STRINGS" "Z" := Or.inl ww_2_195
theorem lf_2_234 : lk "java/lang/String" 1053 "jdk/internal/util/Preconditions" "SIOOBE_FORMATTER" "Ljava/util/function/BiFunction;" := Or.inl ww_2_234
theorem lf_3_5 : lk "java/lang/StringUTF16" 44 "java/lang/StringUTF16" "$assertionsDisabled" "Z" := Or.inl ww_3_5
theorem lf_3_7 : lk "java/lang/StringUTF16" 59 "java/lang/StringUTF16" "HI_BYTE_SHIFT" "I" := Or.inl ww_3_7
theorem lf_3_9 : lk "java/lang/StringUTF16" 63 "java/lang/StringUTF16" "LO_BYTE_SHIFT" "I" := Or.inl ww_3_9
theorem lf_3_202 : lk "CrumbsHome" 315 "CrumbsHome" "BODIES" "[I" := Or.inl ww_3_202
theorem lf_4_51 : lk "CrumbsHomeModel" 9 "CrumbsHomeModel" "row" "[I" := Or.inl ww_4_51
theorem lf_4_52 : lk "CrumbsHomeModel" 13 "CrumbsHomeModel" "kept" "[I" := Or.inl ww_4_52
theorem lf_4_53 : lk "CrumbsHomeModel" 16 "CrumbsHomeModel" "before" "[I" := Or.inl ww_4_53
theorem lf_4_54 : lk "CrumbsHomeModel" 291 "CrumbsHomeModel" "images" "I" := Or.inl ww_4_54
theorem lf_4_55 : lk "CrumbsHomeModel" 19 "CrumbsHomeModel" "errors" "[I" := Or.inl ww_4_55
theorem lf_4_56 : lk "CrumbsHomeModel" 22 "CrumbsHomeModel" "bitsOf" "[I" := Or.inl ww_4_56
theorem lf_4_57 : lk "CrumbsHomeModel" 25 "CrumbsHomeModel" "sizeOf" "[I" := Or.inl ww_4_57
theorem lf_4_58 : lk "CrumbsHomeModel" 28 "CrumbsHomeModel" "cells" "[I" := Or.inl ww_4_58
theorem lf_4_59 : lk "CrumbsHomeModel" 31 "CrumbsHomeModel" "steps" "[I" := Or.inl ww_4_59
theorem lf_4_60 : lk "CrumbsHomeModel" 73 "CrumbsHomeModel" "isKnown" "Z" := Or.inl ww_4_60
theorem lf_4_61 : lk "CrumbsHomeModel" 34 "CrumbsHomeModel" "act" "[I" := Or.inl ww_4_61
theorem lf_4_62 : lk "CrumbsHomeModel" 37 "CrumbsHomeModel" "with" "[I" := Or.inl ww_4_62
theorem lf_4_63 : lk "CrumbsHomeModel" 40 "CrumbsHomeModel" "facts" "[I" := Or.inl ww_4_63
theorem lf_4_64 : lk "CrumbsHomeModel" 43 "CrumbsHomeModel" "pile" "[I" := Or.inl ww_4_64
theorem lf_4_65 : lk "CrumbsHomeModel" 144 "CrumbsHomeModel" "laid" "I" := Or.inl ww_4_65
theorem lf_4_66 : lk "CrumbsHomeModel" 140 "CrumbsHomeModel" "here" "I" := Or.inl ww_4_66
theorem lf_4_67 : lk "CrumbsHomeModel" 161 "CrumbsHomeModel" "opened" "I" := Or.inl ww_4_67
theorem lf_4_68 : lk "CrumbsHomeModel" 154 "CrumbsHomeModel" "bad" "Z" := Or.inl ww_4_68
theorem lf_4_69 : lk "CrumbsHomeModel" 147 "CrumbsHomeModel" "using" "I" := Or.inl ww_4_69
theorem lf_4_70 : lk "CrumbsHomeModel" 46 "CrumbsHomeModel" "goesBy" "[I" := Or.inl ww_4_70
theorem lf_4_71 : lk "CrumbsHomeModel" 49 "CrumbsHomeModel" "trace" "[I" := Or.inl ww_4_71
theorem lf_4_72 : lk "CrumbsHomeModel" 244 "CrumbsHomeModel" "traced" "I" := Or.inl ww_4_72
theorem lf_4_73 : lk "CrumbsHomeModel" 271 "CrumbsHomeModel" "isParted" "Z" := Or.inl ww_4_73
theorem lf_6_42 : lk "java/lang/String" 15 "java/lang/String" "coder" "B" := Or.inl ww_6_42
theorem lf_6_43 : lk "java/lang/String" 9 "java/lang/String" "value" "[B" := Or.inl ww_6_43
theorem uX0 : ∀ w ∈ u_ws RX0 TX0 8, w ∈ lw_gd := by
  intro w h
  exact gd_of ((by decide +kernel : ∀ w ∈ u_ws RX0 TX0 8, w ∈ lw_tbl) w h) ((by decide +kernel : ∀ w ∈ u_ws RX0 TX0 8, goodWord w = true) w h)
theorem uX1 : ∀ w ∈ u_ws RX1 TX1 5, w ∈ lw_gd := by
  intro w h
  exact gd_of ((by decide +kernel : ∀ w ∈ u_ws RX1 TX1 5, w ∈ lw_tbl) w h) ((by decide +kernel : ∀ w ∈ u_ws RX1 TX1 5, goodWord w = true) w h)
theorem uX2 : ∀ w ∈ u_ws RX2 TX2 7, w ∈ lw_gd := by
  intro w h
  exact gd_of ((by decide +kernel : ∀ w ∈ u_ws RX2 TX2 7, w ∈ lw_tbl) w h) ((by decide +kernel : ∀ w ∈ u_ws RX2 TX2 7, goodWord w = true) w h)
theorem uX3 : ∀ w ∈ u_ws RX3 TX3 2, w ∈ lw_gd := by
  intro w h
  exact gd_of ((by decide +kernel : ∀ w ∈ u_ws RX3 TX3 2, w ∈ lw_tbl) w h) ((by decide +kernel : ∀ w ∈ u_ws RX3 TX3 2, goodWord w = true) w h)
theorem uX4 : ∀ w ∈ u_ws RX4 TX4 3, w ∈ lw_gd := by
  intro w h
  exact gd_of ((by decide +kernel : ∀ w ∈ u_ws RX4 TX4 3, w ∈ lw_tbl) w h) ((by decide +kernel : ∀ w ∈ u_ws RX4 TX4 3, goodWord w = true) w h)
theorem uX5 : ∀ w ∈ u_ws RX5 TX5 9, w ∈ lw_gd := by
  intro w h
  exact gd_of ((by decide +kernel : ∀ w ∈ u_ws RX5 TX5 9, w ∈ lw_tbl) w h) ((by decide +kernel : ∀ w ∈ u_ws RX5 TX5 9, goodWord w = true) w h)
theorem uX6 : ∀ w ∈ u_ws RX6 TX6 12, w ∈ lw_gd := by
  intro w h
  exact gd_of ((by decide +kernel : ∀ w ∈ u_ws RX6 TX6 12, w ∈ lw_tbl) w h) ((by decide +kernel : ∀ w ∈ u_ws RX6 TX6 12, goodWord w = true) w h)
theorem uX7 : ∀ w ∈ u_ws RX7 TX7 23, w ∈ lw_gd := by
  intro w h
  exact gd_of ((by decide +kernel : ∀ w ∈ u_ws RX7 TX7 23, w ∈ lw_tbl) w h) ((by decide +kernel : ∀ w ∈ u_ws RX7 TX7 23, goodWord w = true) w h)
end
section
/-! THE LAYER: a world by places. A place j of a world G holds an object (its fields by a template) or an int array; μ j k is what stands there. -/
abbrev vM : Type := Nat → Nat → Int32
abbrev vT : Type := Nat ⊕ (Nat × List (Option (Option Nat)))
abbrev vG : Type := (va_G × ClassId) × ((Nat → Nat) × (Nat → Nat)) × ((Nat → vT) × Nat) × (Nat → Prop)
def gD (G : vG) : va_G := G.1.1
def gc (G : vG) : ClassId := G.1.2
def ga (G : vG) : Nat → Nat := G.2.1.1
def gS (G : vG) : Nat → Nat := G.2.1.2
def gt (G : vG) : Nat → vT := G.2.2.1.1
def gN (G : vG) : Nat := G.2.2.1.2
def gA (G : vG) : Nat → Prop := G.2.2.2
def mf (G : vG) (f : Nat → Int32) : Nat → List (Option (Option Nat)) → List Value
  | _, [] => []
  | k, none :: r => .int (f k) :: mf G f (k + 1) r
  | k, some none :: r => .ref (gS G (f k).toNatClampNeg) :: mf G f (k + 1) r
  | k, some (some j) :: r => .ref (ga G j) :: mf G f (k + 1) r
def me (G : vG) (t : vT) (f : Nat → Int32) : va_E := match t with
  | .inl n => .inl (gc G, n, .inl f)
  | .inr (ci, ks) => .inr (ci, mf G f 0 ks)
def mw (G : vG) (μ : vM) : va_W := (List.range (gN G)).map fun j => (ga G j, me G (gt G j) (μ j))
def sa (μ : vM) (j : Nat) (f : Nat → Int32) : vM := fun i => if i = j then f else μ i
def st (μ : vM) (j k : Nat) (v : Int32) : vM := sa μ j (upd (μ j) k v)
theorem mw_get {G : vG} {μ : vM} {j : Nat} (h : j < gN G) : (mw G μ)[j]? = some (ga G j, me G (gt G j) (μ j)) := by
  simp [mw, h]
theorem mw_set {G : vG} {μ : vM} {j : Nat} (f : Nat → Int32) : (mw G μ).set j (ga G j, me G (gt G j) f) = mw G (sa μ j f) := by
  apply List.ext_getElem?
  intro i
  by_cases hi : i < gN G
  · by_cases hij : i = j
    · subst hij
      rw [List.getElem?_set_self (by simp [mw, hi]), mw_get hi]
      simp [sa]
    · rw [List.getElem?_set_ne (Ne.symm hij), mw_get hi, mw_get hi]
      simp [sa, hij]
  · rw [List.getElem?_eq_none (by simp [mw]; omega), List.getElem?_eq_none (by simp [mw]; omega)]
theorem mf_int {G : vG} {f : Nat → Int32} : ∀ (ks : List (Option (Option Nat))) (k0 k : Nat), ks[k]? = some none → (mf G f k0 ks)[k]? = some (.int (f (k0 + k)))
  | [], _, k, h => by simp at h
  | none :: r, k0, 0, _ => rfl
  | some none :: r, k0, 0, h => by simp at h
  | some (some j) :: r, k0, 0, h => by simp at h
  | none :: r, k0, k + 1, h => by
    have := mf_int (G := G) (f := f) r (k0 + 1) k (by simpa using h)
    simpa [mf, Nat.add_assoc, Nat.add_comm 1 k] using this
  | some none :: r, k0, k + 1, h => by
    have := mf_int (G := G) (f := f) r (k0 + 1) k (by simpa using h)
    simpa [mf, Nat.add_assoc, Nat.add_comm 1 k] using this
  | some (some j) :: r, k0, k + 1, h => by
    have := mf_int (G := G) (f := f) r (k0 + 1) k (by simpa using h)
    simpa [mf, Nat.add_assoc, Nat.add_comm 1 k] using this
theorem mf_str {G : vG} {f : Nat → Int32} : ∀ (ks : List (Option (Option Nat))) (k0 k : Nat), ks[k]? = some (some none) → (mf G f k0 ks)[k]? = some (.ref (gS G (f (k0 + k)).toNatClampNeg))
  | [], _, k, h => by simp at h
  | none :: r, k0, 0, h => by simp at h
  | some none :: r, k0, 0, _ => rfl
  | some (some j) :: r, k0, 0, h => by simp at h
  | none :: r, k0, k + 1, h => by
    have := mf_str (G := G) (f := f) r (k0 + 1) k (by simpa using h)
    simpa [mf, Nat.add_assoc, Nat.add_comm 1 k] using this
  | some none :: r, k0, k + 1, h => by
    have := mf_str (G := G) (f := f) r (k0 + 1) k (by simpa using h)
    simpa [mf, Nat.add_assoc, Nat.add_comm 1 k] using this
  | some (some j) :: r, k0, k + 1, h => by
    have := mf_str (G := G) (f := f) r (k0 + 1) k (by simpa using h)
    simpa [mf, Nat.add_assoc, Nat.add_comm 1 k] using this
theorem mf_ref {G : vG} {f : Nat → Int32} {q : Nat} : ∀ (ks : List (Option (Option Nat))) (k0 k : Nat), ks[k]? = some (some (some q)) → (mf G f k0 ks)[k]? = some (.ref (ga G q))
  | [], _, k, h => by simp at h
  | none :: r, k0, 0, h => by simp at h
  | some none :: r, k0, 0, h => by simp at h
  | some (some j) :: r, k0, 0, h => by simp at h; subst h; rfl
  | none :: r, k0, k + 1, h => by
    have := mf_ref (G := G) (f := f) (q := q) r (k0 + 1) k (by simpa using h)
    simpa [mf] using this
  | some none :: r, k0, k + 1, h => by
    have := mf_ref (G := G) (f := f) (q := q) r (k0 + 1) k (by simpa using h)
    simpa [mf] using this
  | some (some j) :: r, k0, k + 1, h => by
    have := mf_ref (G := G) (f := f) (q := q) r (k0 + 1) k (by simpa using h)
    simpa [mf] using this
theorem mf_len {G : vG} {f : Nat → Int32} : ∀ (ks : List (Option (Option Nat))) (k0 : Nat), (mf G f k0 ks).length = ks.length
  | [], _ => rfl
  | none :: r, k0 => by simp [mf, mf_len r]
  | some none :: r, k0 => by simp [mf, mf_len r]
  | some (some j) :: r, k0 => by simp [mf, mf_len r]
theorem mf_same {G : vG} {f g : Nat → Int32} : ∀ (ks : List (Option (Option Nat))) (k0 : Nat), (∀ k, k0 ≤ k → f k = g k) → mf G f k0 ks = mf G g k0 ks
  | [], _, _ => rfl
  | none :: r, k0, h => by simp only [mf]; rw [h k0 (Nat.le_refl _), mf_same r (k0 + 1) (fun k hk => h k (by omega))]
  | some none :: r, k0, h => by simp only [mf]; rw [h k0 (Nat.le_refl _), mf_same r (k0 + 1) (fun k hk => h k (by omega))]
  | some (some j) :: r, k0, h => by simp only [mf]; rw [mf_same r (k0 + 1) (fun k hk => h k (by omega))]
theorem mf_seti {G : vG} {f : Nat → Int32} {v : Int32} : ∀ (ks : List (Option (Option Nat))) (k0 k : Nat), ks[k]? = some none → (mf G f k0 ks).set k (.int v) = mf G (upd f (k0 + k) v) k0 ks
  | [], _, k, h => by simp at h
  | none :: r, k0, 0, _ => by
    simp only [mf, List.set_cons_zero]
    rw [mf_same (f := f) (g := upd f (k0 + 0) v) r (k0 + 1) (fun k hk => by simp only [upd]; rw [if_neg (by omega)])]
    simp [upd]
  | some none :: r, k0, 0, h => by simp at h
  | some (some j) :: r, k0, 0, h => by simp at h
  | none :: r, k0, k + 1, h => by
    have := mf_seti (G := G) (f := f) (v := v) r (k0 + 1) k (by simpa using h)
    simp only [mf, List.set_cons_succ, this]
    rw [show k0 + 1 + k = k0 + (k + 1) by omega]
    simp [upd]
  | some none :: r, k0, k + 1, h => by
    have := mf_seti (G := G) (f := f) (v := v) r (k0 + 1) k (by simpa using h)
    simp only [mf, List.set_cons_succ, this]
    rw [show k0 + 1 + k = k0 + (k + 1) by omega]
    simp [upd]
  | some (some j) :: r, k0, k + 1, h => by
    have := mf_seti (G := G) (f := f) (v := v) r (k0 + 1) k (by simpa using h)
    simp only [mf, List.set_cons_succ, this]
    rw [show k0 + 1 + k = k0 + (k + 1) by omega]
theorem mf_sets {G : vG} {f : Nat → Int32} {v : Int32} : ∀ (ks : List (Option (Option Nat))) (k0 k : Nat), ks[k]? = some (some none) → (mf G f k0 ks).set k (.ref (gS G v.toNatClampNeg)) = mf G (upd f (k0 + k) v) k0 ks
  | [], _, k, h => by simp at h
  | none :: r, k0, 0, h => by simp at h
  | some none :: r, k0, 0, _ => by
    simp only [mf, List.set_cons_zero]
    rw [mf_same (f := f) (g := upd f (k0 + 0) v) r (k0 + 1) (fun k hk => by simp only [upd]; rw [if_neg (by omega)])]
    simp [upd]
  | some (some j) :: r, k0, 0, h => by simp at h
  | none :: r, k0, k + 1, h => by
    have := mf_sets (G := G) (f := f) (v := v) r (k0 + 1) k (by simpa using h)
    simp only [mf, List.set_cons_succ, this]
    rw [show k0 + 1 + k = k0 + (k + 1) by omega]
    simp [upd]
  | some none :: r, k0, k + 1, h => by
    have := mf_sets (G := G) (f := f) (v := v) r (k0 + 1) k (by simpa using h)
    simp only [mf, List.set_cons_succ, this]
    rw [show k0 + 1 + k = k0 + (k + 1) by omega]
    simp [upd]
  | some (some j) :: r, k0, k + 1, h => by
    have := mf_sets (G := G) (f := f) (v := v) r (k0 + 1) k (by simpa using h)
    simp only [mf, List.set_cons_succ, this]
    rw [show k0 + 1 + k = k0 + (k + 1) by omega]
/-- the addresses are apart, and may be written -/
def gO (G : vG) : Prop := (∀ i j, i < gN G → j < gN G → ga G i = ga G j → i = j) ∧ ∀ j, j < gN G → gA G (ga G j)
theorem mw_D {G : vG} (h : gO G) (μ : vM) : va_D (gA G) (mw G μ) := by
  have key : ∀ (k : Nat) (q : Nat × va_E), (mw G μ)[k]? = some q → k < gN G ∧ q.1 = ga G k := by
    intro k q hk
    have hl : k < gN G := by
      have := (List.getElem?_eq_some_iff.mp hk).1
      simpa [mw] using this
    rw [mw_get hl] at hk
    cases hk
    exact ⟨hl, rfl⟩
  refine ⟨fun i j p q hi hj e => ?_, fun k q hk => ?_⟩
  · obtain ⟨a1, a2⟩ := key i p hi
    obtain ⟨b1, b2⟩ := key j q hj
    exact h.1 i j a1 b1 (by rw [← a2, ← b2, e])
  · obtain ⟨a1, a2⟩ := key k q hk
    rw [a2]; exact h.2 k a1
/-- the walk's state: the world's cells, and nothing else written since the start -/
def bw (G : vG) (s : State) (μ : vM) (H : Heap) (locs : List Loc) : Prop := va_P (gD G) vwCl (mw G μ) H ∧ va_S (gA G) s.heap H locs
-- what stands outside: the class's two static rows, the String constants
def c_ABOVE (k : Nat) : Int32 := [(-1 : Int32), 0, 0, 0, 1, 2, 0].getD k 0
def c_BODIES (k : Nat) : Int32 := [(10 : Int32), 11, 12, 13, 20, 0, 0, 21, 0, 30, 0, 0, 0, 0, 40, 0, 50, 0, 51, 0, 0, 60, 0, 0, 70, 71, 0, 0].getD k 0
def c_len : List Nat := [3, 3, 0, 1, 1, 3, 2, 3, 2, 1]
def c_byt : List (List Int32) := [[115, 100, 102], [119, 104, 121], [], [124], [38], [60, 61, 62], [43, 45], [42, 47, 37], [33, 40], [41]]
def c_strs : List (String × Nat × String) := [("CrumbsHome$World", 27, "sdf"), ("CrumbsHome$World", 36, "why"), ("CrumbsHome$Reader", 25, ""), ("CrumbsHome$Reader", 48, "|"), ("CrumbsHome$Reader", 50, "&"), ("CrumbsHome$Reader", 52, "<=>"), ("CrumbsHome$Reader", 54, "+-"), ("CrumbsHome$Reader", 56, "*/%"), ("CrumbsHome$Reader", 78, "!("), ("CrumbsHome$Reader", 96, ")")]
def gE (G : vG) (U : State) (H : Heap) : Prop :=
  (∃ t, va_Z "CrumbsHome" "ABOVE" "[I" (.ref t) (gA G) U H ∧ va_T .int t 7 (fun k => .int (c_ABOVE k)) (gA G) U H) ∧
  (∃ t, va_Z "CrumbsHome" "BODIES" "[I" (.ref t) (gA G) U H ∧ va_T .int t 28 (fun k => .int (c_BODIES k)) (gA G) U H) ∧
  (∃ adV, vk_S 10 c_len c_byt (gS G) adV (gA G) U H) ∧
  (∀ (i : Nat) (q : String × Nat × String), c_strs[i]? = some q → vk_R q.1 q.2.1 q.2.2 (gS G i) U) ∧
  va_Z "java/lang/String" "COMPACT_STRINGS" "Z" (.int 1) (gA G) U H ∧
  (∀ (i : Nat) (q : String × Nat × String × String × String × String), c_fn[i]? = some q → va_Nw (.fieldLinkNest q.1 q.2.1 q.2.2.1 q.2.2.2.1 q.2.2.2.2.1 q.2.2.2.2.2) U) ∧
  (∀ (i : Nat) (q : String × Nat × MethodName × String), c_mn[i]? = some q → va_Nw (.methodLinkNest q.1 q.2.1 q.2.2.1 q.2.2.2) U)
theorem gE_warm {G : vG} {s U : State} {H : Heap} {locs : List Loc} (h : gE G s s.heap) (hS : va_S (gA G) s.heap H locs) (hW : s.WarmedH U.vm) (hU : U.heap = H) : gE G U U.heap := by
  subst hU
  have kq : ∀ a : Nat, a < s.heap.size → ¬ gA G a → U.heap[a]? = s.heap[a]? := hS.2.1
  obtain ⟨⟨t1, a1, a2⟩, ⟨t2, b1, b2⟩, ⟨adV, d1⟩, e1, f1, g1, g2⟩ := h
  exact ⟨⟨t1, (a1.moved hW.alike).kept kq, (a2.moved hW.alike).kept kq⟩, ⟨t2, (b1.moved hW.alike).kept kq, (b2.moved hW.alike).kept kq⟩, ⟨adV, (d1.moved hW.alike).kept kq⟩, fun i q hq => vk_R.warm hW (e1 i q hq), (f1.moved hW.alike).kept kq, fun i q hq => va_Nw.warmF hW (g1 i q hq), fun i q hq => va_Nw.warmM hW (g2 i q hq)⟩
theorem gE_blind {G : vG} {U V : State} (hv : V.vm = U.vm) (hh : V.heap = U.heap) (h : gE G U U.heap) : gE G V V.heap := by
  have hA : U.vm.Alike V.vm := by rw [hv]; exact Vm.Alike.refl _
  obtain ⟨⟨t1, a1, a2⟩, ⟨t2, b1, b2⟩, ⟨adV, d1⟩, e1, f1, g1, g2⟩ := h
  rw [hh]
  exact ⟨⟨t1, a1.moved hA, a2.moved hA⟩, ⟨t2, b1.moved hA, b2.moved hA⟩, ⟨adV, d1.moved hA⟩, fun i q hq => vk_R.same hv (e1 i q hq), f1.moved hA, fun i q hq => va_Nw.same rfl hv.symm (g1 i q hq), fun i q hq => va_Nw.same rfl hv.symm (g2 i q hq)⟩
/-- a method's start -/
def wd (G : vG) (μ : vM) (U : State) : Prop := va_P (gD G) vwCl (mw G μ) U.heap ∧ va_K (gD G) vwCl [(gc G, .int)] U ∧ gE G U U.heap
abbrev pr (G : vG) (μ : vM) (av : List Value) : Array Value → State → Prop := va_Pc av (wd G μ)
theorem pr_blind {G : vG} {μ : vM} {av : List Value} : FrameBlind (pr G μ av) := by
  intro a U g mk h
  obtain ⟨h0, h1, h2, h3⟩ := h
  exact ⟨h0, h1, va_K.moved (u := U) (U := U.calling g mk a) (Vm.Alike.refl U.vm) h2, gE_blind (U := U) (V := U.calling g mk a) rfl rfl h3⟩
def bp (G : vG) (μ : vM) (t : State) : Prop := va_P (gD G) vwCl (mw G μ) t.heap
/-- a method's end -/
abbrev qI (G : vG) (Q : Int32 → vM → Prop) : Array Value → State → Outcome → State → Prop := va_Qi Q (fun μ t => bp G μ t) (gA G)
abbrev qV (G : vG) (Q : vM → Prop) : Array Value → State → Outcome → State → Prop := va_Qv Q (fun μ t => bp G μ t) (gA G)
abbrev qS (G : vG) (Q : Int32 → vM → Prop) : Array Value → State → Outcome → State → Prop := va_Qr (fun u : Int32 × vM => Q u.1 u.2) (fun u a t => a = gS G u.1.toNatClampNeg ∧ bp G u.2 t) (gA G)
abbrev qP (G : vG) (Q : Nat → vM → Prop) : Array Value → State → Outcome → State → Prop := va_Qr (fun u : Nat × vM => Q u.1 u.2) (fun u a t => a = ga G u.1 ∧ bp G u.2 t) (gA G)
abbrev mt (l : Launch) (G : vG) (y : MethodName) (ws : List Cond) (rm : Room) (av : List Value) (μ : vM) (Qc : Array Value → State → Outcome → State → Prop) : Prop := Met l y ws rm (pr G μ av) Qc 0 0 (gA G)
/-- what holds all along a walk -/
def cx (G : vG) (p : Program) (s : State) (m : MethodId) (args : Array Value) (meth : Method) (c : Code) (cc : ByteArray) (nL : Nat) (ret : Option FieldType) (own : String) : Prop :=
  p.tables.exec = Jvm.exec ∧ c.code = cc ∧ c.maxLocals = nL ∧ s.vm.findClass own = some m.cls ∧ (∀ w ∈ lw_gd, w.before args s = true) ∧ meth.sig.returnType = ret ∧ meth.locks = false ∧ va_K (gD G) vwCl [(gc G, .int)] s ∧ gO G ∧ gE G s s.heap
def bz (v : Int32) : Prop := v = 0 ∨ v = 1
theorem met_of {l : Launch} {y : MethodName} {ws : List Cond} {rm : Room} {av : List Value} {G : vG} {μ : vM} {Qc : Array Value → State → Outcome → State → Prop} {cc : ByteArray} {maxL : Nat} {ret : Option FieldType} (own : String)
    (hy : plainName y.cls = true) (hw : ws = Cond.code y cc maxL ret :: lw_gd) (hown : y.cls = own) (hG : gO G) (hn : (lg_sl av).length ≤ maxL)
    (body : ∀ (p : Program) (e : Env) (s : State) (m : MethodId) (below : List Frame) (meth : Method) (c : Code), cx G p s m av.toArray meth c cc maxL ret own → bw G s μ s.heap [] → ∀ ls : Array Slot, lv_has ls maxL (lv_args 0 av) →
      W p l e rm s m av.toArray below meth c s.heap [] 0 0 (MQ below Qc av.toArray s 0 0 (gA G)) (F0 m 0 ls [])) : mt l G y ws rm av μ Qc := by
  refine Met.ofW (cc := cc) (maxL := maxL) (ret := ret) hy hw ?_
  intro p e s m args below meth c s₁ B hml hv
  obtain ⟨rfl, hP, hK, hE⟩ := hv
  have hts := atoms_spec (ws := ws) B.pre
  have hown' : s.vm.findClass own = some m.cls := by rw [← hown]; exact findClass_of_methodNamed B.named
  rw [lg_entry_eq]
  exact body p e s m below meth c ⟨B.exec, B.bytes, hml, hown', fun w h => hts w (by rw [hw]; exact List.mem_cons_of_mem _ h), B.returns, B.notSynchronized, hK, hG, hE⟩ ⟨hP, va_S.rf⟩ _ (lv_entry av hn)
section RW
variable {G : vG} {p : Program} {l : Launch} {e : Env} {R : Room} {s : State} {m : MethodId} {args : Array Value} {below : List Frame} {meth : Method} {c : Code} {H : Heap} {locs : List Loc} {cells slots : Nat} {Q : State → Prop}
  {cc : ByteArray} {nL : Nat} {ret : Option FieldType} {own : String} {pc : Nat} {ls : Array Slot} {rest : List Value} {μ : vM}
theorem topE {x y : Int32} (h : x = y) (k : W p l e R s m args below meth c H locs cells slots Q (F0 m pc ls (.int x :: rest))) : W p l e R s m args below meth c H locs cells slots Q (F0 m pc ls (.int y :: rest)) := h ▸ k
theorem topL {x y : Int64} (h : x = y) (k : W p l e R s m args below meth c H locs cells slots Q (F0 m pc ls (.long x :: rest))) : W p l e R s m args below meth c H locs cells slots Q (F0 m pc ls (.long y :: rest)) := h ▸ k
theorem r_getI (X : cx G p s m args meth c cc nL ret own) (h : bw G s μ H locs) {C : String} {T : u_T} {N ci index j : Nat} {ks : List (Option (Option Nat))} (ho : gt G j = .inr (ci, ks) ∧ j < gN G) (hc : vwCl[ci]? = some (C, T, N)) (hin : ∀ w ∈ u_ws C T N, w ∈ lw_gd) (k : Nat) (hk : k < N) (hlink : lk own index (T k).1 (T k).2.1 (T k).2.2.1) (hks : ks[k]? = some none) (hdg : decode cc pc = .ok (.getfield index, 3))
    (kk : W p l e R s m args below meth c H locs cells slots Q (F0 m (pc + 3) ls (.int (μ j k) :: rest))) : W p l e R s m args below meth c H locs cells slots Q (F0 m pc ls (.ref (ga G j) :: rest)) := by
  have he : (mw G μ)[j]? = some (ga G j, .inr (ci, mf G (μ j) 0 ks)) := by rw [mw_get ho.2, ho.1]; rfl
  rcases hlink with hlink | ⟨ni, host, hni⟩
  · refine va_get X.1 X.2.1 X.2.2.2.2.1 hin X.2.2.2.1 X.2.2.2.2.2.2.2.1 h.1 j he hc k hk (X.2.2.2.2.1 _ hlink) (fun _ h9 => h9) (v := .int (μ j k)) ?_ hdg kk
    have := mf_int (G := G) (f := μ j) ks 0 k hks
    rwa [Nat.zero_add] at this
  · refine va_getN (host := host) X.1 X.2.1 X.2.2.2.2.1 hin X.2.2.2.1 X.2.2.2.2.2.2.2.1 h.1 j he hc k hk ((X.2.2.2.2.2.2.2.2.2.2.2.2.2.2.1 ni _ hni).use rfl) (fun _ h9 => h9) (v := .int (μ j k)) ?_ hdg kk
    have := mf_int (G := G) (f := μ j) ks 0 k hks
    rwa [Nat.zero_add] at this
theorem r_getS (X : cx G p s m args meth c cc nL ret own) (h : bw G s μ H locs) {C : String} {T : u_T} {N ci index j : Nat} {ks : List (Option (Option Nat))} (ho : gt G j = .inr (ci, ks) ∧ j < gN G) (hc : vwCl[ci]? = some (C, T, N)) (hin : ∀ w ∈ u_ws C T N, w ∈ lw_gd) (k : Nat) (hk : k < N) (hlink : lk own index (T k).1 (T k).2.1 (T k).2.2.1) (hks : ks[k]? = some (some none)) (hdg : decode cc pc = .ok (.getfield index, 3))
    (kk : W p l e R s m args below meth c H locs cells slots Q (F0 m (pc + 3) ls (.ref (gS G (μ j k).toNatClampNeg) :: rest))) : W p l e R s m args below meth c H locs cells slots Q (F0 m pc ls (.ref (ga G j) :: rest)) := by
  have he : (mw G μ)[j]? = some (ga G j, .inr (ci, mf G (μ j) 0 ks)) := by rw [mw_get ho.2, ho.1]; rfl
  rcases hlink with hlink | ⟨ni, host, hni⟩
  · refine va_get X.1 X.2.1 X.2.2.2.2.1 hin X.2.2.2.1 X.2.2.2.2.2.2.2.1 h.1 j he hc k hk (X.2.2.2.2.1 _ hlink) (fun _ h9 => h9) (v := .ref (gS G (μ j k).toNatClampNeg)) ?_ hdg kk
    have := mf_str (G := G) (f := μ j) ks 0 k hks
    rwa [Nat.zero_add] at this
  · refine va_getN (host := host) X.1 X.2.1 X.2.2.2.2.1 hin X.2.2.2.1 X.2.2.2.2.2.2.2.1 h.1 j he hc k hk ((X.2.2.2.2.2.2.2.2.2.2.2.2.2.2.1 ni _ hni).use rfl) (fun _ h9 => h9) (v := .ref (gS G (μ j k).toNatClampNeg)) ?_ hdg kk
    have := mf_str (G := G) (f := μ j) ks 0 k hks
    rwa [Nat.zero_add] at this
theorem r_getR (X : cx G p s m args meth c cc nL ret own) (h : bw G s μ H locs) {C : String} {T : u_T} {N ci index j : Nat} {ks : List (Option (Option Nat))} (ho : gt G j = .inr (ci, ks) ∧ j < gN G) (hc : vwCl[ci]? = some (C, T, N)) (hin : ∀ w ∈ u_ws C T N, w ∈ lw_gd) (k : Nat) (hk : k < N) (hlink : lk own index (T k).1 (T k).2.1 (T k).2.2.1) {q : Nat} (hks : ks[k]? = some (some (some q))) (hdg : decode cc pc = .ok (.getfield index, 3))
    (kk : W p l e R s m args below meth c H locs cells slots Q (F0 m (pc + 3) ls (.ref (ga G q) :: rest))) : W p l e R s m args below meth c H locs cells slots Q (F0 m pc ls (.ref (ga G j) :: rest)) := by
  have he : (mw G μ)[j]? = some (ga G j, .inr (ci, mf G (μ j) 0 ks)) := by rw [mw_get ho.2, ho.1]; rfl
  rcases hlink with hlink | ⟨ni, host, hni⟩
  · exact va_get X.1 X.2.1 X.2.2.2.2.1 (fun w hw => hin w hw) X.2.2.2.1 X.2.2.2.2.2.2.2.1 h.1 j he hc k hk (X.2.2.2.2.1 _ hlink) (fun _ h9 => h9) (v := .ref (ga G q)) (mf_ref ks 0 k hks) hdg kk
  · exact va_getN (host := host) X.1 X.2.1 X.2.2.2.2.1 hin X.2.2.2.1 X.2.2.2.2.2.2.2.1 h.1 j he hc k hk ((X.2.2.2.2.2.2.2.2.2.2.2.2.2.2.1 ni _ hni).use rfl) (fun _ h9 => h9) (v := .ref (ga G q)) (mf_ref ks 0 k hks) hdg kk
theorem r_putI (X : cx G p s m args meth c cc nL ret own) (h : bw G s μ H locs) {C : String} {T : u_T} {N ci index j : Nat} {ks : List (Option (Option Nat))} (ho : gt G j = .inr (ci, ks) ∧ j < gN G) (hc : vwCl[ci]? = some (C, T, N)) (hin : ∀ w ∈ u_ws C T N, w ∈ lw_gd) (ty0 : Nat → FieldType) (hty : ∀ k, k < N → parseFieldDescriptor (T k).2.2.1 = some (ty0 k)) (hnm : ∀ a, a < N → ∀ b, b < N → a ≠ b → (T a).2.1 ≠ (T b).2.1) (k : Nat) (hk : k < N) (hlink : lk own index (T k).1 (T k).2.1 (T k).2.2.1) (hks : ks[k]? = some none) (hfin : (T k).2.2.2 = false) (hT : ty0 k = .int) {v : Int32} {μ' : vM} (hμ : μ' = st μ j k v) (hdg : decode cc pc = .ok (.putfield index, 3))
    (kk : ∀ (H1 : Heap) (locs1 : List Loc), bw G s μ' H1 locs1 → W p l e R s m args below meth c H1 locs1 cells slots Q (F0 m (pc + 3) ls rest)) : W p l e R s m args below meth c H locs cells slots Q (F0 m pc ls (.int v :: .ref (ga G j) :: rest)) := by
  have he : (mw G μ)[j]? = some (ga G j, .inr (ci, mf G (μ j) 0 ks)) := by rw [mw_get ho.2, ho.1]; rfl
  have hl : k < (mf G (μ j) 0 ks).length := by rw [mf_len]; exact (List.getElem?_eq_some_iff.mp hks).1
  rcases hlink with hlink | ⟨ni, host, hni⟩
  · refine va_put (v := .int v) X.1 X.2.1 X.2.2.2.2.1 hin ty0 hty hnm X.2.2.2.1 X.2.2.2.2.2.2.2.1 h.1 (mw_D X.2.2.2.2.2.2.2.2.1 μ) h.2 j he hc k hk (X.2.2.2.2.1 _ hlink) (fun _ h9 => h9) hfin (ty := .int) (by rw [hty k hk, hT]) rfl rfl hl hdg ?_
    intro H1 locs1 hP _ hS
    refine kk H1 locs1 ⟨?_, hS⟩
    have e1 : (ga G j, (Sum.inr (ci, (mf G (μ j) 0 ks).set k (.int v)) : va_E)) = (ga G j, me G (gt G j) (upd (μ j) k v)) := by
      rw [ho.1, mf_seti ks 0 k hks, Nat.zero_add]; rfl
    rw [e1, mw_set] at hP
    rw [hμ]; exact hP
  · refine va_putN (host := host) (v := .int v) X.1 X.2.1 X.2.2.2.2.1 hin ty0 hty hnm X.2.2.2.1 X.2.2.2.2.2.2.2.1 h.1 (mw_D X.2.2.2.2.2.2.2.2.1 μ) h.2 j he hc k hk ((X.2.2.2.2.2.2.2.2.2.2.2.2.2.2.1 ni _ hni).use rfl) (fun _ h9 => h9) hfin (ty := .int) (by rw [hty k hk, hT]) rfl rfl hl hdg ?_
    intro H1 locs1 hP _ hS
    refine kk H1 locs1 ⟨?_, hS⟩
    have e1 : (ga G j, (Sum.inr (ci, (mf G (μ j) 0 ks).set k (.int v)) : va_E)) = (ga G j, me G (gt G j) (upd (μ j) k v)) := by
      rw [ho.1, mf_seti ks 0 k hks, Nat.zero_add]; rfl
    rw [e1, mw_set] at hP
    rw [hμ]; exact hP
theorem r_putZ (X : cx G p s m args meth c cc nL ret own) (h : bw G s μ H locs) {C : String} {T : u_T} {N ci index j : Nat} {ks : List (Option (Option Nat))} (ho : gt G j = .inr (ci, ks) ∧ j < gN G) (hc : vwCl[ci]? = some (C, T, N)) (hin : ∀ w ∈ u_ws C T N, w ∈ lw_gd) (ty0 : Nat → FieldType) (hty : ∀ k, k < N → parseFieldDescriptor (T k).2.2.1 = some (ty0 k)) (hnm : ∀ a, a < N → ∀ b, b < N → a ≠ b → (T a).2.1 ≠ (T b).2.1) (k : Nat) (hk : k < N) (hlink : lk own index (T k).1 (T k).2.1 (T k).2.2.1) (hks : ks[k]? = some none) (hfin : (T k).2.2.2 = false) (hT : ty0 k = .boolean) {v : Int32} (hz : bz v) {μ' : vM} (hμ : μ' = st μ j k v) (hdg : decode cc pc = .ok (.putfield index, 3))
    (kk : ∀ (H1 : Heap) (locs1 : List Loc), bw G s μ' H1 locs1 → W p l e R s m args below meth c H1 locs1 cells slots Q (F0 m (pc + 3) ls rest)) : W p l e R s m args below meth c H locs cells slots Q (F0 m pc ls (.int v :: .ref (ga G j) :: rest)) := by
  have he : (mw G μ)[j]? = some (ga G j, .inr (ci, mf G (μ j) 0 ks)) := by rw [mw_get ho.2, ho.1]; rfl
  have hl : k < (mf G (μ j) 0 ks).length := by rw [mf_len]; exact (List.getElem?_eq_some_iff.mp hks).1
  rcases hlink with hlink | ⟨ni, host, hni⟩
  · refine va_put (v := .int v) X.1 X.2.1 X.2.2.2.2.1 hin ty0 hty hnm X.2.2.2.1 X.2.2.2.2.2.2.2.1 h.1 (mw_D X.2.2.2.2.2.2.2.2.1 μ) h.2 j he hc k hk (X.2.2.2.2.1 _ hlink) (fun _ h9 => h9) hfin (ty := .boolean) (by rw [hty k hk, hT]) (by rcases hz with rfl | rfl <;> rfl) (by rcases hz with rfl | rfl <;> rfl) hl hdg ?_
    intro H1 locs1 hP _ hS
    refine kk H1 locs1 ⟨?_, hS⟩
    have e1 : (ga G j, (Sum.inr (ci, (mf G (μ j) 0 ks).set k (.int v)) : va_E)) = (ga G j, me G (gt G j) (upd (μ j) k v)) := by
      rw [ho.1, mf_seti ks 0 k hks, Nat.zero_add]; rfl
    rw [e1, mw_set] at hP
    rw [hμ]; exact hP
  · refine va_putN (host := host) (v := .int v) X.1 X.2.1 X.2.2.2.2.1 hin ty0 hty hnm X.2.2.2.1 X.2.2.2.2.2.2.2.1 h.1 (mw_D X.2.2.2.2.2.2.2.2.1 μ) h.2 j he hc k hk ((X.2.2.2.2.2.2.2.2.2.2.2.2.2.2.1 ni _ hni).use rfl) (fun _ h9 => h9) hfin (ty := .boolean) (by rw [hty k hk, hT]) (by rcases hz with rfl | rfl <;> rfl) (by rcases hz with rfl | rfl <;> rfl) hl hdg ?_
    intro H1 locs1 hP _ hS
    refine kk H1 locs1 ⟨?_, hS⟩
    have e1 : (ga G j, (Sum.inr (ci, (mf G (μ j) 0 ks).set k (.int v)) : va_E)) = (ga G j, me G (gt G j) (upd (μ j) k v)) := by
      rw [ho.1, mf_seti ks 0 k hks, Nat.zero_add]; rfl
    rw [e1, mw_set] at hP
    rw [hμ]; exact hP
theorem r_putS (X : cx G p s m args meth c cc nL ret own) (h : bw G s μ H locs) {C : String} {T : u_T} {N ci index j : Nat} {ks : List (Option (Option Nat))} (ho : gt G j = .inr (ci, ks) ∧ j < gN G) (hc : vwCl[ci]? = some (C, T, N)) (hin : ∀ w ∈ u_ws C T N, w ∈ lw_gd) (ty0 : Nat → FieldType) (hty : ∀ k, k < N → parseFieldDescriptor (T k).2.2.1 = some (ty0 k)) (hnm : ∀ a, a < N → ∀ b, b < N → a ≠ b → (T a).2.1 ≠ (T b).2.1) (k : Nat) (hk : k < N) (hlink : lk own index (T k).1 (T k).2.1 (T k).2.2.1) (hks : ks[k]? = some (some none)) (hfin : (T k).2.2.2 = false) (hT : ty0 k = .object "java/lang/String") {v : Int32} {μ' : vM} (hμ : μ' = st μ j k v) (hdg : decode cc pc = .ok (.putfield index, 3))
    (kk : ∀ (H1 : Heap) (locs1 : List Loc), bw G s μ' H1 locs1 → W p l e R s m args below meth c H1 locs1 cells slots Q (F0 m (pc + 3) ls rest)) : W p l e R s m args below meth c H locs cells slots Q (F0 m pc ls (.ref (gS G v.toNatClampNeg) :: .ref (ga G j) :: rest)) := by
  have he : (mw G μ)[j]? = some (ga G j, .inr (ci, mf G (μ j) 0 ks)) := by rw [mw_get ho.2, ho.1]; rfl
  have hl : k < (mf G (μ j) 0 ks).length := by rw [mf_len]; exact (List.getElem?_eq_some_iff.mp hks).1
  rcases hlink with hlink | ⟨ni, host, hni⟩
  · refine va_put (v := .ref (gS G v.toNatClampNeg)) X.1 X.2.1 X.2.2.2.2.1 hin ty0 hty hnm X.2.2.2.1 X.2.2.2.2.2.2.2.1 h.1 (mw_D X.2.2.2.2.2.2.2.2.1 μ) h.2 j he hc k hk (X.2.2.2.2.1 _ hlink) (fun _ h9 => h9) hfin (ty := .object "java/lang/String") (by rw [hty k hk, hT]) rfl rfl hl hdg ?_
    intro H1 locs1 hP _ hS
    refine kk H1 locs1 ⟨?_, hS⟩
    have e1 : (ga G j, (Sum.inr (ci, (mf G (μ j) 0 ks).set k (.ref (gS G v.toNatClampNeg))) : va_E)) = (ga G j, me G (gt G j) (upd (μ j) k v)) := by
      rw [ho.1, mf_sets ks 0 k hks, Nat.zero_add]; rfl
    rw [e1, mw_set] at hP
    rw [hμ]; exact hP
  · refine va_putN (host := host) (v := .ref (gS G v.toNatClampNeg)) X.1 X.2.1 X.2.2.2.2.1 hin ty0 hty hnm X.2.2.2.1 X.2.2.2.2.2.2.2.1 h.1 (mw_D X.2.2.2.2.2.2.2.2.1 μ) h.2 j he hc k hk ((X.2.2.2.2.2.2.2.2.2.2.2.2.2.2.1 ni _ hni).use rfl) (fun _ h9 => h9) hfin (ty := .object "java/lang/String") (by rw [hty k hk, hT]) rfl rfl hl hdg ?_
    intro H1 locs1 hP _ hS
    refine kk H1 locs1 ⟨?_, hS⟩
    have e1 : (ga G j, (Sum.inr (ci, (mf G (μ j) 0 ks).set k (.ref (gS G v.toNatClampNeg))) : va_E)) = (ga G j, me G (gt G j) (upd (μ j) k v)) := by
      rw [ho.1, mf_sets ks 0 k hks, Nat.zero_add]; rfl
    rw [e1, mw_set] at hP
    rw [hμ]; exact hP
theorem r_ald (X : cx G p s m args meth c cc nL ret own) (h : bw G s μ H locs) {j n : Nat} (ho : gt G j = .inl n ∧ j < gN G) {i : Int32} (hin : vp_in i n) (hdg : decode cc pc = .ok (.iaload, 1))
    (kk : W p l e R s m args below meth c H locs cells slots Q (F0 m (pc + 1) ls (.int (μ j i.toNatClampNeg) :: rest))) : W p l e R s m args below meth c H locs cells slots Q (F0 m pc ls (.int i :: .ref (ga G j) :: rest)) := by
  have he : (mw G μ)[j]? = some (ga G j, .inl (gc G, n, .inl (μ j))) := by rw [mw_get ho.2, ho.1]; rfl
  exact va_iald X.1 X.2.1 X.2.2.2.2.2.2.2.1 h.1 j 0 he rfl hin hdg kk
theorem r_ast (X : cx G p s m args meth c cc nL ret own) (h : bw G s μ H locs) {j n : Nat} (ho : gt G j = .inl n ∧ j < gN G) {i v : Int32} (hin : vp_in i n) {μ' : vM} (hμ : μ' = st μ j i.toNatClampNeg v) (hdg : decode cc pc = .ok (.iastore, 1))
    (kk : ∀ (H1 : Heap) (locs1 : List Loc), bw G s μ' H1 locs1 → W p l e R s m args below meth c H1 locs1 cells slots Q (F0 m (pc + 1) ls rest)) : W p l e R s m args below meth c H locs cells slots Q (F0 m pc ls (.int v :: .int i :: .ref (ga G j) :: rest)) := by
  have he : (mw G μ)[j]? = some (ga G j, .inl (gc G, n, .inl (μ j))) := by rw [mw_get ho.2, ho.1]; rfl
  refine va_iast X.1 X.2.1 X.2.2.2.2.2.2.2.1 h.1 (mw_D X.2.2.2.2.2.2.2.2.1 μ) h.2 j 0 he rfl hin hdg ?_
  intro H1 locs1 hP _ hS
  refine kk H1 locs1 ⟨?_, hS⟩
  have e1 : (ga G j, (Sum.inl (gc G, n, .inl (upd (μ j) i.toNatClampNeg v)) : va_E)) = (ga G j, me G (gt G j) (upd (μ j) i.toNatClampNeg v)) := by
    rw [ho.1]; rfl
  rw [e1, mw_set] at hP
  rw [hμ]; exact hP
theorem r_alen (X : cx G p s m args meth c cc nL ret own) (h : bw G s μ H locs) {j n : Nat} (ho : gt G j = .inl n ∧ j < gN G) {v : Int32} (hv : Int32.ofNat n = v) (hdg : decode cc pc = .ok (.arraylength, 1))
    (kk : W p l e R s m args below meth c H locs cells slots Q (F0 m (pc + 1) ls (.int v :: rest))) : W p l e R s m args below meth c H locs cells slots Q (F0 m pc ls (.ref (ga G j) :: rest)) := by
  have he : (mw G μ)[j]? = some (ga G j, .inl (gc G, n, .inl (μ j))) := by rw [mw_get ho.2, ho.1]; rfl
  exact va_alen X.1 X.2.1 X.2.2.2.2.2.2.2.1 h.1 j 0 he rfl hv hdg kk
theorem r_copy (X : cx G p s m args meth c cc nL ret own) (hsz : ls.size = nL) (h : bw G s μ H locs) {index : Nat} (hlink : Cond.methodLink own index arraycopyName ∈ lw_gd) (hnat : Cond.native arraycopyName ∈ lw_gd) (hstat : Cond.static arraycopyName ∈ lw_gd) (hini : Cond.initialized "java/lang/System" ∈ lw_gd) {j0 j1 n0 n1 : Nat} (ho0 : gt G j0 = .inl n0 ∧ j0 < gN G) (ho1 : gt G j1 = .inl n1 ∧ j1 < gN G)
    {sp dp n : Int32} (h1 : ¬ sp < 0) (h2 : ¬ dp < 0) (h3 : ¬ n < 0) (h4 : sp.toNatClampNeg + n.toNatClampNeg ≤ n0) (h5 : dp.toNatClampNeg + n.toNatClampNeg ≤ n1) (hframes : 1 ≤ R.frames) (hlocals : (rest.map fun v => v.category).sum + (nativeFrameWords "java/lang/System" "arraycopy" 5 + 11) ≤ R.locals) {μ' : vM} (hμ : μ' = sa μ j1 (va_cpy (μ j0) (μ j1) sp.toNatClampNeg dp.toNatClampNeg n.toNatClampNeg)) (hdg : decode cc pc = .ok (.invokestatic index, 3))
    (kk : ∀ (H1 : Heap) (locs1 : List Loc), bw G s μ' H1 locs1 → W p l e R s m args below meth c H1 locs1 cells slots Q (F0 m (pc + 3) ls rest)) : W p l e R s m args below meth c H locs cells slots Q (F0 m pc ls (.int n :: .int dp :: .ref (ga G j1) :: .int sp :: .ref (ga G j0) :: rest)) := by
  have he0 : (mw G μ)[j0]? = some (ga G j0, .inl (gc G, n0, .inl (μ j0))) := by rw [mw_get ho0.2, ho0.1]; rfl
  have he1 : (mw G μ)[j1]? = some (ga G j1, .inl (gc G, n1, .inl (μ j1))) := by rw [mw_get ho1.2, ho1.1]; rfl
  have hts := X.2.2.2.2.1
  refine va_copyi X.1 X.2.1 (X.2.2.1.trans hsz.symm) X.2.2.2.1 (hts _ hlink) (hts _ hnat) (hts _ hstat) (hts _ hini) X.2.2.2.2.2.2.2.1 h.1 (mw_D X.2.2.2.2.2.2.2.2.1 μ) h.2 j0 j1 0 0 he0 he1 rfl rfl rfl h1 h2 h3 h4 h5 (fun _ _ => rfl) hframes hlocals hdg ?_
  intro H1 locs1 hP _ hS
  refine kk H1 locs1 ⟨?_, hS⟩
  have e1 : (ga G j1, (Sum.inl (gc G, n1, .inl (va_cpy (μ j0) (μ j1) sp.toNatClampNeg dp.toNatClampNeg n.toNatClampNeg)) : va_E)) = (ga G j1, me G (gt G j1) (va_cpy (μ j0) (μ j1) sp.toNatClampNeg dp.toNatClampNeg n.toNatClampNeg)) := by
    rw [ho1.1]; rfl
  rw [e1, mw_set] at hP
  rw [hμ]; exact hP
theorem r_max (X : cx G p s m args meth c cc nL ret own) (hsz : ls.size = nL) {index : Nat} (hlink : Cond.methodLink own index Lib.Math.max.name ∈ lw_gd) (hstat : Cond.static Lib.Math.max.name ∈ lw_gd) (hini : Cond.initialized "java/lang/Math" ∈ lw_gd) (hcode : Cond.code Lib.Math.max.name Lib.Math.max.code 2 (some .int) ∈ lw_gd) (hframes : 1 ≤ R.frames) (hlocals : (rest.map fun v => v.category).sum + 13 ≤ R.locals) (hc : cells ≤ R.cells) (hs : slots ≤ R.slots) {x y : Int32} (hdg : decode cc pc = .ok (.invokestatic index, 3))
    (kk : W p l e R s m args below meth c H locs cells slots Q (F0 m (pc + 3) ls (.int (if x < y then y else x) :: rest))) : W p l e R s m args below meth c H locs cells slots Q (F0 m pc ls (.int y :: .int x :: rest)) :=
  va_mmax X.1 X.2.1 (X.2.2.1.trans hsz.symm) X.2.2.2.1 (X.2.2.2.2.1 _ hlink) (X.2.2.2.2.1 _ hstat) (X.2.2.2.2.1 _ hini) (X.2.2.2.2.1 _ hcode) hframes hlocals hc hs hdg kk
theorem r_ldc (X : cx G p s m args meth c cc nL ret own) {index : Nat} {v : Int32} (hcon : Cond.constant own index v ∈ lw_gd) (hdg : decode cc pc = .ok (.ldc index, 2)) (k : W p l e R s m args below meth c H locs cells slots Q (F0 m (pc + 2) ls (.int v :: rest))) : W p l e R s m args below meth c H locs cells slots Q (F0 m pc ls rest) :=
  lv_ldc X.1 X.2.1 X.2.2.2.1 (X.2.2.2.2.1 _ hcon) hdg k
theorem r_ldcw (X : cx G p s m args meth c cc nL ret own) {index : Nat} {v : Int32} (hcon : Cond.constant own index v ∈ lw_gd) (hdg : decode cc pc = .ok (.ldc_w index, 3)) (k : W p l e R s m args below meth c H locs cells slots Q (F0 m (pc + 3) ls (.int v :: rest))) : W p l e R s m args below meth c H locs cells slots Q (F0 m pc ls rest) :=
  lv_ldcw X.1 X.2.1 X.2.2.2.1 (X.2.2.2.2.1 _ hcon) hdg k
theorem r_ldc2 (X : cx G p s m args meth c cc nL ret own) {index : Nat} {v : Int64} (hcon : Cond.constantLong own index v ∈ lw_gd) (hdg : decode cc pc = .ok (.ldc2_w index, 3)) (k : W p l e R s m args below meth c H locs cells slots Q (F0 m (pc + 3) ls (.long v :: rest))) : W p l e R s m args below meth c H locs cells slots Q (F0 m pc ls rest) :=
  lv_ldc2 X.1 X.2.1 X.2.2.2.1 (X.2.2.2.2.1 _ hcon) hdg k
theorem r_ldcS (X : cx G p s m args meth c cc nL ret own) {index i : Nat} {tx : String} (hi : c_strs[i]? = some (own, index, tx)) (hdg : decode cc pc = .ok (.ldc index, 2)) (k : W p l e R s m args below meth c H locs cells slots Q (F0 m (pc + 2) ls (.ref (gS G i) :: rest))) : W p l e R s m args below meth c H locs cells slots Q (F0 m pc ls rest) :=
  va_ldcS X.1 X.2.1 X.2.2.2.1 (X.2.2.2.2.2.2.2.2.2.2.2.2.1 i _ hi) hdg k
theorem r_gets (X : cx G p s m args meth c cc nL ret own) (h : bw G s μ H locs) {C n d : String} {v : Value} {index : Nat} (hZ : va_Z C n d v (gA G) s s.heap) (hlink : Cond.fieldLink own index C n d ∈ lw_gd) (hdg : decode cc pc = .ok (.getstatic index, 3))
    (kk : W p l e R s m args below meth c H locs cells slots Q (F0 m (pc + 3) ls (v :: rest))) : W p l e R s m args below meth c H locs cells slots Q (F0 m pc ls rest) :=
  va_gets X.1 X.2.1 hZ h.2 X.2.2.2.1 (X.2.2.2.2.1 _ hlink) (fun _ h9 => h9) hdg kk
theorem r_ti (X : cx G p s m args meth c cc nL ret own) (h : bw G s μ H locs) {t N : Nat} {f : Nat → Int32} (hT : va_T .int t N (fun k => .int (f k)) (gA G) s s.heap) {i : Int32} (hin : vp_in i N) (hdg : decode cc pc = .ok (.iaload, 1))
    (kk : W p l e R s m args below meth c H locs cells slots Q (F0 m (pc + 1) ls (.int (f i.toNatClampNeg) :: rest))) : W p l e R s m args below meth c H locs cells slots Q (F0 m pc ls (.int i :: .ref t :: rest)) :=
  va_ti X.1 X.2.1 hT h.2 hin rfl hdg kk
theorem r_recv (X : cx G p s m args meth c cc nL ret own) (h : bw G s μ H locs) {j ci : Nat} {ks : List (Option (Option Nat))} (ho : gt G j = .inr (ci, ks) ∧ j < gN G) {q : vw_C} (hc : vwCl[ci]? = some q) : ∃ cell : Cell, H[ga G j]? = some cell ∧ cell.vm.isStatics = false ∧ s.vm.findClass q.1 = some cell.cls := by
  have he : (mw G μ)[j]? = some (ga G j, .inr (ci, mf G (μ j) 0 ks)) := by rw [mw_get ho.2, ho.1]; rfl
  exact va_recv X.2.2.2.2.2.2.2.1 h.1 hc he
theorem r_pre (X : cx G p s m args meth c cc nL ret own) (h : bw G s μ H locs) {av : List Value} {a : Array Value} (ha : a = av.toArray) : ∀ U : State, U.heap = H → s.WarmedH U.vm → pr G μ av a U := by
  intro U hU hW
  refine ⟨ha, ?_, va_K.moved hW.alike X.2.2.2.2.2.2.2.1, gE_warm X.2.2.2.2.2.2.2.2.2 h.2 hW hU⟩
  show va_P (gD G) vwCl (mw G μ) U.heap
  rw [hU]; exact h.1
theorem r_iret (X : cx G p s m args meth c cc nL (some .int) own) (h : bw G s μ H locs) {Q0 : Int32 → vM → Prop} {v : Int32} (hQ : Q0 v μ) (hdg : decode cc pc = .ok (.ireturn, 1)) : W p l e R s m args below meth c H locs 0 0 (MQ below (qI G Q0) args s 0 0 (gA G)) (F0 m pc ls [.int v]) :=
  W.iret X.1 X.2.1 X.2.2.2.2.2.1 (fun t ht _ => ⟨⟨v, μ, rfl, hQ, by show va_P _ _ _ t.heap; rw [ht]; exact h.1⟩, h.2.F ht⟩) h.2.2.2 hdg X.2.2.2.2.2.2.1
theorem r_zret (X : cx G p s m args meth c cc nL (some .boolean) own) (h : bw G s μ H locs) {Q0 : Int32 → vM → Prop} {v : Int32} (hz : bz v) (hQ : Q0 v μ) (hdg : decode cc pc = .ok (.ireturn, 1)) : W p l e R s m args below meth c H locs 0 0 (MQ below (qI G Q0) args s 0 0 (gA G)) (F0 m pc ls [.int v]) :=
  W.zret X.1 X.2.1 X.2.2.2.2.2.1 (by rcases hz with rfl | rfl <;> rfl) (fun t ht _ => ⟨⟨v, μ, rfl, hQ, by show va_P _ _ _ t.heap; rw [ht]; exact h.1⟩, h.2.F ht⟩) h.2.2.2 hdg X.2.2.2.2.2.2.1
theorem r_vret (X : cx G p s m args meth c cc nL none own) (h : bw G s μ H locs) {Q0 : vM → Prop} (hQ : Q0 μ) (hdg : decode cc pc = .ok (.return_, 1)) : W p l e R s m args below meth c H locs 0 0 (MQ below (qV G Q0) args s 0 0 (gA G)) (F0 m pc ls []) :=
  W.vret X.1 X.2.1 X.2.2.2.2.2.1 (fun t ht _ => ⟨⟨μ, rfl, hQ, by show va_P _ _ _ t.heap; rw [ht]; exact h.1⟩, h.2.F ht⟩) h.2.2.2 hdg X.2.2.2.2.2.2.1
theorem r_sret {nm : String} (X : cx G p s m args meth c cc nL (some (.object nm)) own) (h : bw G s μ H locs) {Q0 : Int32 → vM → Prop} {v : Int32} (hQ : Q0 v μ) (hdg : decode cc pc = .ok (.areturn, 1)) : W p l e R s m args below meth c H locs 0 0 (MQ below (qS G Q0) args s 0 0 (gA G)) (F0 m pc ls [.ref (gS G v.toNatClampNeg)]) :=
  W.aret X.1 X.2.1 X.2.2.2.2.2.1 (Or.inl ⟨nm, rfl⟩) (Or.inr ⟨_, rfl⟩) (fun t ht _ => ⟨⟨(v, μ), _, rfl, hQ, rfl, by show va_P _ _ _ t.heap; rw [ht]; exact h.1⟩, h.2.F ht⟩) h.2.2.2 hdg X.2.2.2.2.2.2.1
theorem r_pret {nm : String} (X : cx G p s m args meth c cc nL (some (.object nm)) own) (h : bw G s μ H locs) {Q0 : Nat → vM → Prop} {v : Nat} (hQ : Q0 v μ) (hdg : decode cc pc = .ok (.areturn, 1)) : W p l e R s m args below meth c H locs 0 0 (MQ below (qP G Q0) args s 0 0 (gA G)) (F0 m pc ls [.ref (ga G v)]) :=
  W.aret X.1 X.2.1 X.2.2.2.2.2.1 (Or.inl ⟨nm, rfl⟩) (Or.inr ⟨_, rfl⟩) (fun t ht _ => ⟨⟨(v, μ), _, rfl, hQ, rfl, by show va_P _ _ _ t.heap; rw [ht]; exact h.1⟩, h.2.F ht⟩) h.2.2.2 hdg X.2.2.2.2.2.2.1
-- calls
theorem k_i (h : bw G s μ H locs) {st0 : List Value} {a : Array Value} {Q0 : Int32 → vM → Prop} (hr : va_Run p l e R s m args below meth c H locs cells slots 0 0 (F0 m pc ls st0) rest (qI G Q0 a) (gA G))
    (kk : ∀ (r : Int32) (μ1 : vM) (H1 : Heap) (locs1 : List Loc), Q0 r μ1 → bw G s μ1 H1 locs1 → W p l e R s m args below meth c H1 locs1 cells slots Q (F0 m (pc + 3) ls (.int r :: rest))) : W p l e R s m args below meth c H locs cells slots Q (F0 m pc ls st0) :=
  va_calli hr h.2 (fun _ _ q => q) (fun _ q => q) (fun r u t H1 locs1 ht _ hp hB _ _ hS => kk r u H1 locs1 hp ⟨by rw [← ht]; exact hB, hS⟩)
theorem k_v (h : bw G s μ H locs) {st0 : List Value} {a : Array Value} {Q0 : vM → Prop} (hr : va_Run p l e R s m args below meth c H locs cells slots 0 0 (F0 m pc ls st0) rest (qV G Q0 a) (gA G))
    (kk : ∀ (μ1 : vM) (H1 : Heap) (locs1 : List Loc), Q0 μ1 → bw G s μ1 H1 locs1 → W p l e R s m args below meth c H1 locs1 cells slots Q (F0 m (pc + 3) ls rest)) : W p l e R s m args below meth c H locs cells slots Q (F0 m pc ls st0) :=
  va_callv hr h.2 (fun _ _ q => q) (fun _ q => q) (fun u t H1 locs1 ht _ hp hB _ _ hS => kk u H1 locs1 hp ⟨by rw [← ht]; exact hB, hS⟩)
theorem k_s (h : bw G s μ H locs) {st0 : List Value} {a : Array Value} {Q0 : Int32 → vM → Prop} (hr : va_Run p l e R s m args below meth c H locs cells slots 0 0 (F0 m pc ls st0) rest (qS G Q0 a) (gA G))
    (kk : ∀ (r : Int32) (μ1 : vM) (H1 : Heap) (locs1 : List Loc), Q0 r μ1 → bw G s μ1 H1 locs1 → W p l e R s m args below meth c H1 locs1 cells slots Q (F0 m (pc + 3) ls (.ref (gS G r.toNatClampNeg) :: rest))) : W p l e R s m args below meth c H locs cells slots Q (F0 m pc ls st0) :=
  va_callr hr h.2 (fun _ _ q => q) (fun _ q => q) (fun u ra t H1 locs1 ht _ hp hB _ _ hS => by rw [hB.1]; exact kk u.1 u.2 H1 locs1 hp ⟨by rw [← ht]; exact hB.2, hS⟩)
theorem k_p (h : bw G s μ H locs) {st0 : List Value} {a : Array Value} {Q0 : Nat → vM → Prop} (hr : va_Run p l e R s m args below meth c H locs cells slots 0 0 (F0 m pc ls st0) rest (qP G Q0 a) (gA G))
    (kk : ∀ (r : Nat) (μ1 : vM) (H1 : Heap) (locs1 : List Loc), Q0 r μ1 → bw G s μ1 H1 locs1 → W p l e R s m args below meth c H1 locs1 cells slots Q (F0 m (pc + 3) ls (.ref (ga G r) :: rest))) : W p l e R s m args below meth c H locs cells slots Q (F0 m pc ls st0) :=
  va_callr hr h.2 (fun _ _ q => q) (fun _ q => q) (fun u ra t H1 locs1 ht _ hp hB _ _ hS => by rw [hB.1]; exact kk u.1 u.2 H1 locs1 hp ⟨by rw [← ht]; exact hB.2, hS⟩)
theorem n_V {y : MethodName} {ws ws' : List Cond} {rm : Room} {As : List Value} {Qc : Array Value → State → Outcome → State → Prop} {bytes : ByteArray} {maxL : Nat} {rt : Option FieldType} {idx j ci : Nat} {ks : List (Option (Option Nat))} {T : u_T} {N : Nat} {C : String} (X : cx G p s m args meth c cc nL ret own) (h : bw G s μ H locs) (hsz : ls.size = nL)
    (hM : mt l G y ws rm (.ref (ga G j) :: As) μ Qc) (hg : GoodIn lw_gd (wsV own idx C y ws)) (hw : ws = Cond.code y bytes maxL rt :: ws') (hd : y.cls = C ∧ y.cls ≠ "java/lang/invoke/MethodHandle" ∧ y.cls ≠ "java/lang/invoke/VarHandle" ∧ (parseMethodDescriptor y.desc).map (fun d => d.parameters.length) = some As.length) (hrc : rm.cells = 0 ∧ rm.slots = 0) (hR : rm.frames + 1 ≤ R.frames ∧ 8 + (maxL + 11) + rm.locals ≤ R.locals)
    (ho : gt G j = .inr (ci, ks) ∧ j < gN G) (hc : vwCl[ci]? = some (C, T, N)) {st0 : List Value} (hst : st0 = As.reverse ++ .ref (ga G j) :: rest) (hW : (rest.map fun v => v.category).sum ≤ 8) (hdg : decode cc pc = .ok (.invokevirtual idx, 3)) (hf : cells ≤ R.cells ∧ slots ≤ R.slots) :
    va_Run p l e R s m args below meth c H locs cells slots 0 0 (F0 m pc ls st0) rest (Qc (Value.ref (ga G j) :: As).toArray) (gA G) :=
  va_runV (As := As) (rest := rest) ⟨X.1, X.2.1, X.2.2.1, X.2.2.2.1, X.2.2.2.2.1⟩ hM (cwV As.length X.2.2.2.2.1 hg hw hrc.1 hrc.2 hd hR) ⟨pr_blind, r_recv X h ho hc, r_pre X h rfl⟩ rfl rfl hsz hst (lv_room hW) hdg hf
theorem n_S {y : MethodName} {ws ws' : List Cond} {rm : Room} {As : List Value} {Qc : Array Value → State → Outcome → State → Prop} {bytes : ByteArray} {maxL : Nat} {rt : Option FieldType} {idx : Nat} (X : cx G p s m args meth c cc nL ret own) (h : bw G s μ H locs) (hsz : ls.size = nL)
    (hM : mt l G y ws rm As μ Qc) (hg : GoodIn lw_gd (wsS own idx y ws)) (hw : ws = Cond.code y bytes maxL rt :: ws') (hd : y.cls = own ∧ y.cls ≠ "java/lang/invoke/MethodHandle" ∧ y.cls ≠ "java/lang/invoke/VarHandle" ∧ (parseMethodDescriptor y.desc).map (fun d => d.parameters.length) = some As.length) (hrc : rm.cells = 0 ∧ rm.slots = 0) (hR : rm.frames + 1 ≤ R.frames ∧ 8 + (maxL + 11) + rm.locals ≤ R.locals)
    {st0 : List Value} (hst : st0 = As.reverse ++ rest) (hW : (rest.map fun v => v.category).sum ≤ 8) (hdg : decode cc pc = .ok (.invokestatic idx, 3)) (hf : cells ≤ R.cells ∧ slots ≤ R.slots) :
    va_Run p l e R s m args below meth c H locs cells slots 0 0 (F0 m pc ls st0) rest (Qc As.toArray) (gA G) :=
  va_runS (As := As) (rest := rest) ⟨X.1, X.2.1, X.2.2.1, X.2.2.2.1, X.2.2.2.2.1⟩ hM (cwS As.length X.2.2.2.2.1 hg hw hrc.1 hrc.2 hd hR) ⟨pr_blind, r_pre X h rfl⟩ rfl rfl hsz hst (lv_room hW) hdg hf
end RW
end
