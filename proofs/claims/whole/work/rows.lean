section
-- ===== PART A: goes FIRST, ahead of the names: the tables' words, and 'selects' of the private methods out of them =====
/-- a private method of a class that the tables say can be made, by its rows of tables_1 -/
def lw_okq (q : MethodName × Nat) : Prop := (q.1.cls ≠ "java/lang/invoke/MethodHandle" ∧ q.1.cls ≠ "java/lang/invoke/VarHandle") ∧ Cond.instantiable q.1.cls q.2 ∈ tables_1 ∧ Cond.privateMethod q.1 ∈ tables_1 ∧ Cond.instanceMethod q.1 ∈ tables_1
theorem lw_p0 : lw_okq (⟨"RuleArguments", "build", "()V"⟩, 9) := ⟨⟨by decide +kernel, by decide +kernel⟩, List.mem_of_getElem? (i := 28) (by decide +kernel), List.mem_of_getElem? (i := 289) (by decide +kernel), List.mem_of_getElem? (i := 290) (by decide +kernel)⟩
theorem lw_p1 : lw_okq (⟨"RuleArguments$ArgumentList", "add", "(IIIIII)V"⟩, 7) := ⟨⟨by decide +kernel, by decide +kernel⟩, List.mem_of_getElem? (i := 129) (by decide +kernel), List.mem_of_getElem? (i := 304) (by decide +kernel), List.mem_of_getElem? (i := 305) (by decide +kernel)⟩
theorem lw_p2 : lw_okq (⟨"RuleArguments$ArgumentList", "reachedAt", "(I)I"⟩, 7) := ⟨⟨by decide +kernel, by decide +kernel⟩, List.mem_of_getElem? (i := 129) (by decide +kernel), List.mem_of_getElem? (i := 311) (by decide +kernel), List.mem_of_getElem? (i := 312) (by decide +kernel)⟩
theorem lw_p3 : lw_okq (⟨"RuleArguments$ArgumentList", "addMadeBy", "(ILRuleArguments$Rule;II)V"⟩, 7) := ⟨⟨by decide +kernel, by decide +kernel⟩, List.mem_of_getElem? (i := 129) (by decide +kernel), List.mem_of_getElem? (i := 334) (by decide +kernel), List.mem_of_getElem? (i := 335) (by decide +kernel)⟩
theorem lw_p4 : lw_okq (⟨"RuleArguments$ArgumentList", "fits", "(IIIII)Z"⟩, 7) := ⟨⟨by decide +kernel, by decide +kernel⟩, List.mem_of_getElem? (i := 129) (by decide +kernel), List.mem_of_getElem? (i := 348) (by decide +kernel), List.mem_of_getElem? (i := 349) (by decide +kernel)⟩
theorem lw_p5 : lw_okq (⟨"RuleArguments$Labelling", "unattacked", "(LRuleArguments$AttackGraph;I)I"⟩, 3) := ⟨⟨by decide +kernel, by decide +kernel⟩, List.mem_of_getElem? (i := 171) (by decide +kernel), List.mem_of_getElem? (i := 387) (by decide +kernel), List.mem_of_getElem? (i := 388) (by decide +kernel)⟩
theorem lw_p6 : lw_okq (⟨"RuleArguments$Labelling", "defeated", "(LRuleArguments$AttackGraph;I)I"⟩, 3) := ⟨⟨by decide +kernel, by decide +kernel⟩, List.mem_of_getElem? (i := 171) (by decide +kernel), List.mem_of_getElem? (i := 396) (by decide +kernel), List.mem_of_getElem? (i := 397) (by decide +kernel)⟩
theorem lw_p7 : lw_okq (⟨"RuleArguments$Labelling", "noteRound", "(II)V"⟩, 3) := ⟨⟨by decide +kernel, by decide +kernel⟩, List.mem_of_getElem? (i := 171) (by decide +kernel), List.mem_of_getElem? (i := 400) (by decide +kernel), List.mem_of_getElem? (i := 401) (by decide +kernel)⟩
theorem lw_p8 : lw_okq (⟨"java/lang/Throwable", "fillInStackTrace", "(I)Ljava/lang/Throwable;"⟩, 6) := ⟨⟨by decide +kernel, by decide +kernel⟩, List.mem_of_getElem? (i := 480) (by decide +kernel), List.mem_of_getElem? (i := 478) (by decide +kernel), List.mem_of_getElem? (i := 479) (by decide +kernel)⟩
theorem lw_p9 : lw_okq (⟨"RuleArguments", "forget", "()V"⟩, 9) := ⟨⟨by decide +kernel, by decide +kernel⟩, List.mem_of_getElem? (i := 28) (by decide +kernel), List.mem_of_getElem? (i := 537) (by decide +kernel), List.mem_of_getElem? (i := 538) (by decide +kernel)⟩
theorem lw_p10 : lw_okq (⟨"java/util/ArrayList", "add", "(Ljava/lang/Object;[Ljava/lang/Object;I)V"⟩, 3) := ⟨⟨by decide +kernel, by decide +kernel⟩, List.mem_of_getElem? (i := 57) (by decide +kernel), List.mem_of_getElem? (i := 579) (by decide +kernel), List.mem_of_getElem? (i := 580) (by decide +kernel)⟩
theorem lw_p11 : lw_okq (⟨"java/util/ArrayList", "grow", "()[Ljava/lang/Object;"⟩, 3) := ⟨⟨by decide +kernel, by decide +kernel⟩, List.mem_of_getElem? (i := 57) (by decide +kernel), List.mem_of_getElem? (i := 583) (by decide +kernel), List.mem_of_getElem? (i := 584) (by decide +kernel)⟩
theorem lw_p12 : lw_okq (⟨"java/util/ArrayList", "grow", "(I)[Ljava/lang/Object;"⟩, 3) := ⟨⟨by decide +kernel, by decide +kernel⟩, List.mem_of_getElem? (i := 57) (by decide +kernel), List.mem_of_getElem? (i := 587) (by decide +kernel), List.mem_of_getElem? (i := 588) (by decide +kernel)⟩
theorem lw_p13 : lw_okq (⟨"RuleArguments", "demandRule", "(I)V"⟩, 9) := ⟨⟨by decide +kernel, by decide +kernel⟩, List.mem_of_getElem? (i := 28) (by decide +kernel), List.mem_of_getElem? (i := 641) (by decide +kernel), List.mem_of_getElem? (i := 642) (by decide +kernel)⟩
theorem lw_p14 : lw_okq (⟨"RuleArguments", "demandTold", "()V"⟩, 9) := ⟨⟨by decide +kernel, by decide +kernel⟩, List.mem_of_getElem? (i := 28) (by decide +kernel), List.mem_of_getElem? (i := 683) (by decide +kernel), List.mem_of_getElem? (i := 684) (by decide +kernel)⟩
theorem lw_p15 : lw_okq (⟨"RuleArguments", "demandArgument", "(I)V"⟩, 9) := ⟨⟨by decide +kernel, by decide +kernel⟩, List.mem_of_getElem? (i := 28) (by decide +kernel), List.mem_of_getElem? (i := 688) (by decide +kernel), List.mem_of_getElem? (i := 689) (by decide +kernel)⟩
def lw_privs_1 : List (MethodName × Nat) := [(⟨"RuleArguments", "build", "()V"⟩, 9), (⟨"RuleArguments$ArgumentList", "add", "(IIIIII)V"⟩, 7), (⟨"RuleArguments$ArgumentList", "reachedAt", "(I)I"⟩, 7), (⟨"RuleArguments$ArgumentList", "addMadeBy", "(ILRuleArguments$Rule;II)V"⟩, 7), (⟨"RuleArguments$ArgumentList", "fits", "(IIIII)Z"⟩, 7), (⟨"RuleArguments$Labelling", "unattacked", "(LRuleArguments$AttackGraph;I)I"⟩, 3), (⟨"RuleArguments$Labelling", "defeated", "(LRuleArguments$AttackGraph;I)I"⟩, 3), (⟨"RuleArguments$Labelling", "noteRound", "(II)V"⟩, 3), (⟨"java/lang/Throwable", "fillInStackTrace", "(I)Ljava/lang/Throwable;"⟩, 6), (⟨"RuleArguments", "forget", "()V"⟩, 9), (⟨"java/util/ArrayList", "add", "(Ljava/lang/Object;[Ljava/lang/Object;I)V"⟩, 3), (⟨"java/util/ArrayList", "grow", "()[Ljava/lang/Object;"⟩, 3), (⟨"java/util/ArrayList", "grow", "(I)[Ljava/lang/Object;"⟩, 3), (⟨"RuleArguments", "demandRule", "(I)V"⟩, 9), (⟨"RuleArguments", "demandTold", "()V"⟩, 9), (⟨"RuleArguments", "demandArgument", "(I)V"⟩, 9)]
theorem lw_r1 : ∀ q ∈ lw_privs_1, lw_okq q := List.forall_mem_cons.mpr ⟨lw_p0, List.forall_mem_cons.mpr ⟨lw_p1, List.forall_mem_cons.mpr ⟨lw_p2, List.forall_mem_cons.mpr ⟨lw_p3, List.forall_mem_cons.mpr ⟨lw_p4, List.forall_mem_cons.mpr ⟨lw_p5, List.forall_mem_cons.mpr ⟨lw_p6, List.forall_mem_cons.mpr ⟨lw_p7, List.forall_mem_cons.mpr ⟨lw_p8, List.forall_mem_cons.mpr ⟨lw_p9, List.forall_mem_cons.mpr ⟨lw_p10, List.forall_mem_cons.mpr ⟨lw_p11, List.forall_mem_cons.mpr ⟨lw_p12, List.forall_mem_cons.mpr ⟨lw_p13, List.forall_mem_cons.mpr ⟨lw_p14, List.forall_mem_cons.mpr ⟨lw_p15, fun _ h => absurd h List.not_mem_nil⟩⟩⟩⟩⟩⟩⟩⟩⟩⟩⟩⟩⟩⟩⟩⟩
theorem lw_p16 : lw_okq (⟨"RuleArguments", "lowestAttacker", "(II)I"⟩, 9) := ⟨⟨by decide +kernel, by decide +kernel⟩, List.mem_of_getElem? (i := 28) (by decide +kernel), List.mem_of_getElem? (i := 768) (by decide +kernel), List.mem_of_getElem? (i := 769) (by decide +kernel)⟩
theorem lw_p17 : lw_okq (⟨"RuleArguments", "demandFew", "()V"⟩, 9) := ⟨⟨by decide +kernel, by decide +kernel⟩, List.mem_of_getElem? (i := 28) (by decide +kernel), List.mem_of_getElem? (i := 779) (by decide +kernel), List.mem_of_getElem? (i := 780) (by decide +kernel)⟩
theorem lw_p18 : lw_okq (⟨"RuleArguments", "trySets", "()V"⟩, 9) := ⟨⟨by decide +kernel, by decide +kernel⟩, List.mem_of_getElem? (i := 28) (by decide +kernel), List.mem_of_getElem? (i := 784) (by decide +kernel), List.mem_of_getElem? (i := 785) (by decide +kernel)⟩
theorem lw_p19 : lw_okq (⟨"RuleArguments$SetSearch", "restFrom", "(I)I"⟩, 5) := ⟨⟨by decide +kernel, by decide +kernel⟩, List.mem_of_getElem? (i := 187) (by decide +kernel), List.mem_of_getElem? (i := 799) (by decide +kernel), List.mem_of_getElem? (i := 800) (by decide +kernel)⟩
theorem lw_p20 : lw_okq (⟨"RuleArguments$SetSearch", "canDefend", "(II)Z"⟩, 5) := ⟨⟨by decide +kernel, by decide +kernel⟩, List.mem_of_getElem? (i := 187) (by decide +kernel), List.mem_of_getElem? (i := 807) (by decide +kernel), List.mem_of_getElem? (i := 808) (by decide +kernel)⟩
theorem lw_p21 : lw_okq (⟨"RuleArguments$SetSearch", "isPeaceful", "(I)Z"⟩, 5) := ⟨⟨by decide +kernel, by decide +kernel⟩, List.mem_of_getElem? (i := 187) (by decide +kernel), List.mem_of_getElem? (i := 819) (by decide +kernel), List.mem_of_getElem? (i := 820) (by decide +kernel)⟩
theorem lw_p22 : lw_okq (⟨"RuleArguments", "sweepSets", "()V"⟩, 9) := ⟨⟨by decide +kernel, by decide +kernel⟩, List.mem_of_getElem? (i := 28) (by decide +kernel), List.mem_of_getElem? (i := 830) (by decide +kernel), List.mem_of_getElem? (i := 831) (by decide +kernel)⟩
theorem lw_p23 : lw_okq (⟨"RuleArguments", "concludesInSet", "(II)Z"⟩, 9) := ⟨⟨by decide +kernel, by decide +kernel⟩, List.mem_of_getElem? (i := 28) (by decide +kernel), List.mem_of_getElem? (i := 858) (by decide +kernel), List.mem_of_getElem? (i := 859) (by decide +kernel)⟩
theorem lw_p24 : lw_okq (⟨"RuleArgumentsModel", "passes", "(I)Z"⟩, 20) := ⟨⟨by decide +kernel, by decide +kernel⟩, List.mem_of_getElem? (i := 862) (by decide +kernel), List.mem_of_getElem? (i := 940) (by decide +kernel), List.mem_of_getElem? (i := 941) (by decide +kernel)⟩
theorem lw_p25 : lw_okq (⟨"RuleArgumentsModel", "factsNow", "()I"⟩, 20) := ⟨⟨by decide +kernel, by decide +kernel⟩, List.mem_of_getElem? (i := 862) (by decide +kernel), List.mem_of_getElem? (i := 944) (by decide +kernel), List.mem_of_getElem? (i := 945) (by decide +kernel)⟩
theorem lw_p26 : lw_okq (⟨"RuleArgumentsModel", "isRule", "(I)Z"⟩, 20) := ⟨⟨by decide +kernel, by decide +kernel⟩, List.mem_of_getElem? (i := 862) (by decide +kernel), List.mem_of_getElem? (i := 963) (by decide +kernel), List.mem_of_getElem? (i := 964) (by decide +kernel)⟩
theorem lw_p27 : lw_okq (⟨"RuleArgumentsModel", "builds", "()V"⟩, 20) := ⟨⟨by decide +kernel, by decide +kernel⟩, List.mem_of_getElem? (i := 862) (by decide +kernel), List.mem_of_getElem? (i := 987) (by decide +kernel), List.mem_of_getElem? (i := 988) (by decide +kernel)⟩
theorem lw_p28 : lw_okq (⟨"RuleArgumentsModel", "lays", "(IIIIII)V"⟩, 20) := ⟨⟨by decide +kernel, by decide +kernel⟩, List.mem_of_getElem? (i := 862) (by decide +kernel), List.mem_of_getElem? (i := 991) (by decide +kernel), List.mem_of_getElem? (i := 992) (by decide +kernel)⟩
theorem lw_p29 : lw_okq (⟨"RuleArgumentsModel", "withAll", "(I)I"⟩, 20) := ⟨⟨by decide +kernel, by decide +kernel⟩, List.mem_of_getElem? (i := 862) (by decide +kernel), List.mem_of_getElem? (i := 995) (by decide +kernel), List.mem_of_getElem? (i := 996) (by decide +kernel)⟩
theorem lw_p30 : lw_okq (⟨"RuleArgumentsModel", "makes", "(III)V"⟩, 20) := ⟨⟨by decide +kernel, by decide +kernel⟩, List.mem_of_getElem? (i := 862) (by decide +kernel), List.mem_of_getElem? (i := 999) (by decide +kernel), List.mem_of_getElem? (i := 1000) (by decide +kernel)⟩
theorem lw_p31 : lw_okq (⟨"RuleArgumentsModel", "isPart", "(III)Z"⟩, 20) := ⟨⟨by decide +kernel, by decide +kernel⟩, List.mem_of_getElem? (i := 862) (by decide +kernel), List.mem_of_getElem? (i := 1003) (by decide +kernel), List.mem_of_getElem? (i := 1004) (by decide +kernel)⟩
def lw_privs_2 : List (MethodName × Nat) := [(⟨"RuleArguments", "lowestAttacker", "(II)I"⟩, 9), (⟨"RuleArguments", "demandFew", "()V"⟩, 9), (⟨"RuleArguments", "trySets", "()V"⟩, 9), (⟨"RuleArguments$SetSearch", "restFrom", "(I)I"⟩, 5), (⟨"RuleArguments$SetSearch", "canDefend", "(II)Z"⟩, 5), (⟨"RuleArguments$SetSearch", "isPeaceful", "(I)Z"⟩, 5), (⟨"RuleArguments", "sweepSets", "()V"⟩, 9), (⟨"RuleArguments", "concludesInSet", "(II)Z"⟩, 9), (⟨"RuleArgumentsModel", "passes", "(I)Z"⟩, 20), (⟨"RuleArgumentsModel", "factsNow", "()I"⟩, 20), (⟨"RuleArgumentsModel", "isRule", "(I)Z"⟩, 20), (⟨"RuleArgumentsModel", "builds", "()V"⟩, 20), (⟨"RuleArgumentsModel", "lays", "(IIIIII)V"⟩, 20), (⟨"RuleArgumentsModel", "withAll", "(I)I"⟩, 20), (⟨"RuleArgumentsModel", "makes", "(III)V"⟩, 20), (⟨"RuleArgumentsModel", "isPart", "(III)Z"⟩, 20)]
theorem lw_r2 : ∀ q ∈ lw_privs_2, lw_okq q := List.forall_mem_cons.mpr ⟨lw_p16, List.forall_mem_cons.mpr ⟨lw_p17, List.forall_mem_cons.mpr ⟨lw_p18, List.forall_mem_cons.mpr ⟨lw_p19, List.forall_mem_cons.mpr ⟨lw_p20, List.forall_mem_cons.mpr ⟨lw_p21, List.forall_mem_cons.mpr ⟨lw_p22, List.forall_mem_cons.mpr ⟨lw_p23, List.forall_mem_cons.mpr ⟨lw_p24, List.forall_mem_cons.mpr ⟨lw_p25, List.forall_mem_cons.mpr ⟨lw_p26, List.forall_mem_cons.mpr ⟨lw_p27, List.forall_mem_cons.mpr ⟨lw_p28, List.forall_mem_cons.mpr ⟨lw_p29, List.forall_mem_cons.mpr ⟨lw_p30, List.forall_mem_cons.mpr ⟨lw_p31, fun _ h => absurd h List.not_mem_nil⟩⟩⟩⟩⟩⟩⟩⟩⟩⟩⟩⟩⟩⟩⟩⟩
theorem lw_p32 : lw_okq (⟨"RuleArgumentsModel", "depthOf", "(I)I"⟩, 20) := ⟨⟨by decide +kernel, by decide +kernel⟩, List.mem_of_getElem? (i := 862) (by decide +kernel), List.mem_of_getElem? (i := 1007) (by decide +kernel), List.mem_of_getElem? (i := 1008) (by decide +kernel)⟩
theorem lw_p33 : lw_okq (⟨"RuleArgumentsModel", "isBuiltOf", "(II)Z"⟩, 20) := ⟨⟨by decide +kernel, by decide +kernel⟩, List.mem_of_getElem? (i := 862) (by decide +kernel), List.mem_of_getElem? (i := 1011) (by decide +kernel), List.mem_of_getElem? (i := 1012) (by decide +kernel)⟩
theorem lw_p34 : lw_okq (⟨"RuleArgumentsModel", "isArgument", "(I)Z"⟩, 20) := ⟨⟨by decide +kernel, by decide +kernel⟩, List.mem_of_getElem? (i := 862) (by decide +kernel), List.mem_of_getElem? (i := 1019) (by decide +kernel), List.mem_of_getElem? (i := 1020) (by decide +kernel)⟩
theorem lw_p35 : lw_okq (⟨"RuleArgumentsModel", "isTold", "(I)Z"⟩, 20) := ⟨⟨by decide +kernel, by decide +kernel⟩, List.mem_of_getElem? (i := 862) (by decide +kernel), List.mem_of_getElem? (i := 1023) (by decide +kernel), List.mem_of_getElem? (i := 1024) (by decide +kernel)⟩
theorem lw_p36 : lw_okq (⟨"RuleArgumentsModel", "laysAttacks", "()V"⟩, 20) := ⟨⟨by decide +kernel, by decide +kernel⟩, List.mem_of_getElem? (i := 862) (by decide +kernel), List.mem_of_getElem? (i := 1027) (by decide +kernel), List.mem_of_getElem? (i := 1028) (by decide +kernel)⟩
theorem lw_p37 : lw_okq (⟨"RuleArgumentsModel", "opposes", "(II)Z"⟩, 20) := ⟨⟨by decide +kernel, by decide +kernel⟩, List.mem_of_getElem? (i := 862) (by decide +kernel), List.mem_of_getElem? (i := 1031) (by decide +kernel), List.mem_of_getElem? (i := 1032) (by decide +kernel)⟩
theorem lw_p38 : lw_okq (⟨"RuleArgumentsModel", "strengthOf", "(I)I"⟩, 20) := ⟨⟨by decide +kernel, by decide +kernel⟩, List.mem_of_getElem? (i := 862) (by decide +kernel), List.mem_of_getElem? (i := 1035) (by decide +kernel), List.mem_of_getElem? (i := 1036) (by decide +kernel)⟩
theorem lw_p39 : lw_okq (⟨"RuleArgumentsModel", "labelsAll", "()V"⟩, 20) := ⟨⟨by decide +kernel, by decide +kernel⟩, List.mem_of_getElem? (i := 862) (by decide +kernel), List.mem_of_getElem? (i := 1059) (by decide +kernel), List.mem_of_getElem? (i := 1060) (by decide +kernel)⟩
theorem lw_p40 : lw_okq (⟨"RuleArgumentsModel", "withLabel", "(I)I"⟩, 20) := ⟨⟨by decide +kernel, by decide +kernel⟩, List.mem_of_getElem? (i := 862) (by decide +kernel), List.mem_of_getElem? (i := 1063) (by decide +kernel), List.mem_of_getElem? (i := 1064) (by decide +kernel)⟩
theorem lw_p41 : lw_okq (⟨"RuleArgumentsModel", "isAsked", "(I)Z"⟩, 20) := ⟨⟨by decide +kernel, by decide +kernel⟩, List.mem_of_getElem? (i := 862) (by decide +kernel), List.mem_of_getElem? (i := 1075) (by decide +kernel), List.mem_of_getElem? (i := 1076) (by decide +kernel)⟩
theorem lw_p42 : lw_okq (⟨"RuleArgumentsModel", "areFew", "(I)Z"⟩, 20) := ⟨⟨by decide +kernel, by decide +kernel⟩, List.mem_of_getElem? (i := 862) (by decide +kernel), List.mem_of_getElem? (i := 1094) (by decide +kernel), List.mem_of_getElem? (i := 1095) (by decide +kernel)⟩
theorem lw_p43 : lw_okq (⟨"RuleArgumentsModel", "prefers", "()I"⟩, 20) := ⟨⟨by decide +kernel, by decide +kernel⟩, List.mem_of_getElem? (i := 862) (by decide +kernel), List.mem_of_getElem? (i := 1098) (by decide +kernel), List.mem_of_getElem? (i := 1099) (by decide +kernel)⟩
theorem lw_p44 : lw_okq (⟨"RuleArgumentsModel", "isAdmissible", "(I)Z"⟩, 20) := ⟨⟨by decide +kernel, by decide +kernel⟩, List.mem_of_getElem? (i := 862) (by decide +kernel), List.mem_of_getElem? (i := 1102) (by decide +kernel), List.mem_of_getElem? (i := 1103) (by decide +kernel)⟩
theorem lw_p45 : lw_okq (⟨"RuleArgumentsModel", "turned", "(I)I"⟩, 20) := ⟨⟨by decide +kernel, by decide +kernel⟩, List.mem_of_getElem? (i := 862) (by decide +kernel), List.mem_of_getElem? (i := 1106) (by decide +kernel), List.mem_of_getElem? (i := 1107) (by decide +kernel)⟩
theorem lw_p46 : lw_okq (⟨"RuleArgumentsModel", "has", "(II)Z"⟩, 20) := ⟨⟨by decide +kernel, by decide +kernel⟩, List.mem_of_getElem? (i := 862) (by decide +kernel), List.mem_of_getElem? (i := 1110) (by decide +kernel), List.mem_of_getElem? (i := 1111) (by decide +kernel)⟩
theorem lw_p47 : lw_okq (⟨"RuleArgumentsModel", "setAt", "(I)I"⟩, 20) := ⟨⟨by decide +kernel, by decide +kernel⟩, List.mem_of_getElem? (i := 862) (by decide +kernel), List.mem_of_getElem? (i := 1122) (by decide +kernel), List.mem_of_getElem? (i := 1123) (by decide +kernel)⟩
def lw_privs_3 : List (MethodName × Nat) := [(⟨"RuleArgumentsModel", "depthOf", "(I)I"⟩, 20), (⟨"RuleArgumentsModel", "isBuiltOf", "(II)Z"⟩, 20), (⟨"RuleArgumentsModel", "isArgument", "(I)Z"⟩, 20), (⟨"RuleArgumentsModel", "isTold", "(I)Z"⟩, 20), (⟨"RuleArgumentsModel", "laysAttacks", "()V"⟩, 20), (⟨"RuleArgumentsModel", "opposes", "(II)Z"⟩, 20), (⟨"RuleArgumentsModel", "strengthOf", "(I)I"⟩, 20), (⟨"RuleArgumentsModel", "labelsAll", "()V"⟩, 20), (⟨"RuleArgumentsModel", "withLabel", "(I)I"⟩, 20), (⟨"RuleArgumentsModel", "isAsked", "(I)Z"⟩, 20), (⟨"RuleArgumentsModel", "areFew", "(I)Z"⟩, 20), (⟨"RuleArgumentsModel", "prefers", "()I"⟩, 20), (⟨"RuleArgumentsModel", "isAdmissible", "(I)Z"⟩, 20), (⟨"RuleArgumentsModel", "turned", "(I)I"⟩, 20), (⟨"RuleArgumentsModel", "has", "(II)Z"⟩, 20), (⟨"RuleArgumentsModel", "setAt", "(I)I"⟩, 20)]
theorem lw_r3 : ∀ q ∈ lw_privs_3, lw_okq q := List.forall_mem_cons.mpr ⟨lw_p32, List.forall_mem_cons.mpr ⟨lw_p33, List.forall_mem_cons.mpr ⟨lw_p34, List.forall_mem_cons.mpr ⟨lw_p35, List.forall_mem_cons.mpr ⟨lw_p36, List.forall_mem_cons.mpr ⟨lw_p37, List.forall_mem_cons.mpr ⟨lw_p38, List.forall_mem_cons.mpr ⟨lw_p39, List.forall_mem_cons.mpr ⟨lw_p40, List.forall_mem_cons.mpr ⟨lw_p41, List.forall_mem_cons.mpr ⟨lw_p42, List.forall_mem_cons.mpr ⟨lw_p43, List.forall_mem_cons.mpr ⟨lw_p44, List.forall_mem_cons.mpr ⟨lw_p45, List.forall_mem_cons.mpr ⟨lw_p46, List.forall_mem_cons.mpr ⟨lw_p47, fun _ h => absurd h List.not_mem_nil⟩⟩⟩⟩⟩⟩⟩⟩⟩⟩⟩⟩⟩⟩⟩⟩
def lw_privs : List (MethodName × Nat) := lw_privs_1 ++ (lw_privs_2 ++ (lw_privs_3))
def lw_tbl : List Cond := k2_sels lw_privs ++ tables_1
theorem lw_privs_ok : ∀ q ∈ lw_privs, lw_okq q := by
  show ∀ q ∈ lw_privs_1 ++ (lw_privs_2 ++ (lw_privs_3)), lw_okq q
  exact List.forall_mem_append.mpr ⟨lw_r1, List.forall_mem_append.mpr ⟨lw_r2, lw_r3⟩⟩
-- ===== end of PART A; then your names; then what follows =====
end
section
/-! ===== BEGIN words of one list among another's, by their places ===== -/
theorem goodIn_r {big : List Cond} (ws : List Cond) (ps : List Nat) (hp : ws = ps.filterMap (fun i => big[i]?)) (h : ws.all goodWord = true) : GoodIn big ws := by
  intro w hw
  have h1 := List.all_eq_true.mp h w hw
  rw [hp] at hw
  obtain ⟨i, -, hi⟩ := List.mem_filterMap.mp hw
  have hm : w ∈ big := by first | exact List.mem_of_getElem? hi | exact List.getElem?_mem hi
  exact ⟨hm, good_of_word h1⟩
theorem goodIn_app {big a b : List Cond} (ha : GoodIn big a) (hb : GoodIn big b) : GoodIn big (a ++ b) := fun w h => (List.mem_append.mp h).elim (ha w) (hb w)
theorem goodIn_ca {big a b : List Cond} {c : Cond} (ha : GoodIn big (c :: a)) (hb : GoodIn big b) : GoodIn big (c :: (a ++ b)) := fun w h => (List.mem_cons.mp h).elim (fun e => ha w (List.mem_cons.mpr (Or.inl e))) (fun h => (List.mem_append.mp h).elim (fun h => ha w (List.mem_cons.mpr (Or.inr h))) (hb w))
theorem goodIn_sub {big ws : List Cond} (hm : ∀ w ∈ ws, w ∈ big) (h : ws.all goodWord = true) : GoodIn big ws := fun w hw => ⟨hm w hw, good_of_word (List.all_eq_true.mp h w hw)⟩
/-! ===== END ===== -/

/-! ===== BEGIN exceptions that leave a method, and their catching by the caller (launches without stack traces) ===== -/
section VXA
/-! The laws vx_back, vx_callV, vx_callS, vx_callSW, vx_throw0, vx_throwS follow proofs of the library, with one case more: JvmDerived/Free/Laws.lean (Back.of_free), Shelf42/LK1.lean (callV, callS), Shelf/KitTraced.lean (throwNew0V, throwNewS). -/
/-- where a method has thrown q: the class by its name, the cell, what was written, the world -/
def vx_T (XC : String → State → State → Prop) (st : State) (q : Addr) (t : State) (mc ms : Nat) (free : Addr → Prop) : Prop :=
  ∃ (E : String) (ce : Cell) (L : List Loc), XC E st t ∧ t.heap[q]? = some ce ∧ ce.vm = .none ∧ st.vm.findClass E = some ce.cls ∧ st.WarmedH t.vm ∧ st.sameButNew ({ t with vm := st.vm } : State) L mc ms ∧ ∀ z ∈ L, free z.base
def vx_Q (Qc : Array Value → State → Outcome → State → Prop) (XC : String → State → State → Prop) (mc ms : Nat) (free : Addr → Prop) : Array Value → State → Outcome → State → Prop := fun a st o t =>
  (Qc a st o t ∧ ∃ L, FrameEnd st o t L mc ms ∧ ∀ q ∈ L, free q.base) ∨ ∃ q, o = .threw q ∧ vx_T XC st q t mc ms free
/-- a callee that returns or throws -/
def vx_Met (l : Launch) (y : MethodName) (ws : List Cond) (rm : Room) (Pc : Array Value → State → Prop) (Qc : Array Value → State → Outcome → State → Prop) (XC : String → State → State → Prop) (mc ms : Nat) (free : Addr → Prop) : Prop :=
  MetFree l y (headSpec ws rm) Pc (fun _ _ _ _ _ => True) (vx_Q Qc XC mc ms free)
def vx_Post (XC : String → State → State → Prop) (mc ms : Nat) (free : Addr → Prop) : Pt → Array Value → Addr → Pt → Prop := fun A a q B =>
  ∃ (g : JFrame) (mk : MethodId) (t : State) (L : List Loc) (E : String) (ce : Cell), B.U.heap = t.heap ∧ B.U.vm = t.vm ∧ XC E (A.U.calling g mk a) t ∧ t.heap[q]? = some ce ∧ ce.vm = .none ∧ A.U.vm.findClass E = some ce.cls ∧ B.locs = A.locs ++ L ∧ (∀ z ∈ L, free z.base) ∧ B.cells = A.cells + mc ∧ B.slots = A.slots + ms
def vx_Back (l : Launch) (R : Room) (p : Program) (e : Env) (below : List Frame) (s : State) (sargs : Array Value) (y : MethodName) (len W9 : Nat)
    (Pre : Pt → Array Value → Prop) (Post : Pt → Array Value → Option Value → Pt → Prop) (PostX : Pt → Array Value → Addr → Pt → Prop) : Prop :=
  ∀ (m : MethodId) (meth : Method) (c : Code) (A : Pt) (g : JFrame) (ig : Instr) (mk : MethodId) (a : Array Value),
    Stand p l e R s m sargs below meth c A.U A.locs A.cells A.slots → g.method = m → g.locals.size = c.maxLocals → decode c.code g.pc = .ok (ig, len) →
    2 * g.monitorRoom + (g.stack.map fun v => v.category).sum ≤ W9 → A.U.methodNamed? y = some mk → Pre A a →
    (∃ (v : Option Value) (B : Pt), Stand p l e R s m sargs below meth c B.U B.locs B.cells B.slots ∧ Post A a v B ∧
      Steps p.tables e below (doInvoke e (A.U.setTop g) [] mk a).1 (B.U.setTop { g with pc := g.pc + len, stack := v.toList ++ g.stack })) ∨
    (∃ (q : Addr) (B : Pt), Stand p l e R s m sargs below meth c B.U B.locs B.cells B.slots ∧ PostX A a q B ∧
      Steps p.tables e below (doInvoke e (A.U.setTop g) [] mk a).1 ((B.U.setTop g).pushFrame (.throwing q)))
section Payer
variable {l : Launch} {R : Room} {p : Program} {e : Env} {below : List Frame} {s : State} {sargs : Array Value} {y : MethodName} {len W9 : Nat}
theorem vx_back {ws : List Cond} {rm : Room} {Pc : Array Value → State → Prop} {Qc : Array Value → State → Outcome → State → Prop} {XC : String → State → State → Prop} {mc ms : Nat} {free : Addr → Prop} {bytes : ByteArray} {maxL : Nat} {ret : Option FieldType}
    (hM : vx_Met l y ws rm Pc Qc XC mc ms free) (hblind : FrameBlind Pc) (hrc : rm.cells = mc) (hrs : rm.slots = ms)
    (hframes : rm.frames + 1 ≤ R.frames) (hlocals : W9 + (maxL + 11) + rm.locals ≤ R.locals)
    (hws : ∀ w ∈ ws, ∀ a' U, s.WarmedH U.vm → w.before a' U = true) (hcode : Cond.code y bytes maxL ret ∈ ws) (hinit : ∀ a' U, s.WarmedH U.vm → (Cond.initialized y.cls).before a' U = true) :
    vx_Back l R p e below s sargs y len W9 (PreOf R mc ms Pc) (PostOf Qc mc ms free) (vx_Post XC mc ms free) := by
  intro m meth c A g ig mk a X hg hsize hdg hW hn hp
  have h1 : (headSpec ws rm).pre.before a A.U = true := atoms_intro fun w hw => hws w hw _ _ X.warmed
  have h2 : (Cond.code y bytes maxL ret).before a A.U = true := hws _ hcode _ _ X.warmed
  have h3 : (Cond.initialized y.cls).before a A.U = true := hinit _ _ X.warmed
  have h4 : A.cells + (headSpec ws rm).room.cells ≤ R.cells := by rw [show (headSpec ws rm).room.cells = mc from hrc]; exact hp.1
  have h5 : A.slots + (headSpec ws rm).room.slots ≤ R.slots := by rw [show (headSpec ws rm).room.slots = ms from hrs]; exact hp.2.1
  have hPc : Pc a (A.U.calling g mk a) := hblind _ _ _ _ hp.2.2
  obtain ⟨U, Ls, c0, s0⟩ := A
  dsimp only [Pt.U, Pt.locs, Pt.cells, Pt.slots] at h1 h2 h3 h4 h5 X hn hPc ⊢
  obtain ⟨methY, cY, hmY, hcY, -, hlY, -, -, -, -⟩ := Cond.code_spec hn h2
  obtain ⟨kY, hkY, -⟩ := className_of_methodNamed hn
  have hinitY : kY.init = .initialized := Cond.initialized_spec (findClass_of_methodNamed hn) hkY h3
  have h : At U g.method c below := by rw [hg]; exact X.here
  have hlocals9 : W9 + (maxL + 11) + (headSpec ws rm).room.locals ≤ R.locals := hlocals
  have happ : (headSpec ws rm).appliesLoose y e.platform (U.calling g mk a) = true :=
    Spec.appliesLoose_calling (g := g) h hdg hn hkY hinitY
      (X.room_calling (g := g) (R' := (headSpec ws rm).room) hsize hmY hcY hframes (by rw [hlY]; omega) h4 h5) h1
  obtain ⟨mid, hmid⟩ := h.above
  have hfr : (U.setTop g).frames = (.java g :: mid) ++ below := by rw [State.frames_setTop' g h.top, hmid]; rfl
  obtain ⟨o, s₂, hsteps, -, hend, hq⟩ := Steps.callFree hM p X.admits X.cas X.clock (acts := []) hfr happ hPc trivial
  have hq' : vx_Q Qc XC mc ms free a (U.calling g mk a) o s₂ := hq
  rw [State.frames_setTop' g h.top] at hend
  obtain ⟨g₀, hg0⟩ := Option.isSome_iff_exists.mp h.top
  obtain ⟨r, hr⟩ := State.topJava?_eq_some.mp hg0
  have hr' : (({ U with heap := s₂.heap, slotsUsed := s₂.slotsUsed } : State).setVm s₂.vm).frames = .java g₀ :: r := hr
  rcases hq' with ⟨hqc, L, hfe, hL⟩ | ⟨q, rfl, E, ce, L, hx, hce, hcv, hcl, hW₂, hsm, hL⟩
  · obtain ⟨⟨v, rfl⟩, hW₂, e2, q2, q3, q4, q5, q6⟩ := id hfe
    have e3 : s₂ = ({ (U.calling g mk a).setFrames s₂.frames with heap := s₂.heap, slotsUsed := s₂.slotsUsed } : State).setVm s₂.vm := by
      have : s₂ = ({ s₂ with vm := (U.calling g mk a).vm } : State).setVm s₂.vm := rfl
      rw [e2] at this
      exact this
    obtain ⟨c₂, i₂, len₂, hc₂, hd₂, hf₂⟩ := hend
    have hW' : U.WarmedH s₂.vm := hW₂
    have hcc : c₂ = c := by
      have h1 : s₂.code? g.method = U.code? g.method := by
        rw [State.code?_eq, State.code?_eq, hW'.alike.method?]
      exact Option.some.inj (hc₂.symm.trans (h1.trans h.code))
    subst hcc
    have hlen : len₂ = len := by rw [hdg] at hd₂; cases hd₂; rfl
    subst hlen
    have hs₂ : s₂ = (({ U with heap := s₂.heap, slotsUsed := s₂.slotsUsed } : State).setVm s₂.vm).setTop { g with pc := g.pc + len₂, stack := v.toList ++ g.stack } := by
      refine e3.trans ?_
      rw [hf₂, State.calling_eq h.top, State.setFrames_setFrames, State.setTop_of_frames _ hr', hr]
      rfl
    have hsame : U.sameButNew ({ U with heap := s₂.heap, slotsUsed := s₂.slotsUsed } : State) L mc ms := by
      refine ⟨?_, q2, q3, q4, q5, q6⟩
      obtain ⟨t, ht, -⟩ := State.frames_cons hr
      show ({ U with heap := s₂.heap, slotsUsed := s₂.slotsUsed } : State) = { U.setFrames U.frames with heap := s₂.heap, slotsUsed := s₂.slotsUsed }
      rw [State.setFrames_self ht]
    subst hg
    refine Or.inl ⟨v, ⟨(({ U with heap := s₂.heap, slotsUsed := s₂.slotsUsed } : State).setVm s₂.vm), Ls ++ L, c0 + mc, s0 + ms⟩,
      ⟨X.admits, X.cas, X.clock, X.frames, X.room, X.hears, X.method, X.code, (X.here.setHeapUsed s₂.heap s₂.slotsUsed).setVm hW'.alike, X.tail, State.WarmedH.trans X.warmed hW', X.limits, X.bytes, X.same.trans (hsame.setVm s.vm)⟩,
      ⟨g, mk, s₂, L, rfl, rfl, hqc, rfl, hL, rfl, rfl⟩, ?_⟩
    show Steps p.tables e below _ ((({ U with heap := s₂.heap, slotsUsed := s₂.slotsUsed } : State).setVm s₂.vm).setTop { g with pc := g.pc + len₂, stack := v.toList ++ g.stack })
    rw [← hs₂]
    exact hsteps
  · obtain ⟨e2, q2, q3, q4, q5, q6⟩ := id hsm
    have e3 : s₂ = ({ (U.calling g mk a).setFrames s₂.frames with heap := s₂.heap, slotsUsed := s₂.slotsUsed } : State).setVm s₂.vm := by
      have : s₂ = ({ s₂ with vm := (U.calling g mk a).vm } : State).setVm s₂.vm := rfl
      rw [e2] at this
      exact this
    have hf₂ : s₂.frames = .throwing q :: .java g :: U.frames.tail := hend
    have hW' : U.WarmedH s₂.vm := hW₂
    have hs₂ : s₂ = ((({ U with heap := s₂.heap, slotsUsed := s₂.slotsUsed } : State).setVm s₂.vm).setTop g).pushFrame (.throwing q) := by
      refine e3.trans ?_
      rw [hf₂, State.calling_eq h.top, State.setFrames_setFrames, State.pushFrame, State.frames_setTop _ hr', State.setTop_of_frames _ hr', State.setFrames_setFrames, hr]
      rfl
    have hsame : U.sameButNew ({ U with heap := s₂.heap, slotsUsed := s₂.slotsUsed } : State) L mc ms := by
      refine ⟨?_, q2, q3, q4, q5, q6⟩
      obtain ⟨t, ht, -⟩ := State.frames_cons hr
      show ({ U with heap := s₂.heap, slotsUsed := s₂.slotsUsed } : State) = { U.setFrames U.frames with heap := s₂.heap, slotsUsed := s₂.slotsUsed }
      rw [State.setFrames_self ht]
    subst hg
    refine Or.inr ⟨q, ⟨(({ U with heap := s₂.heap, slotsUsed := s₂.slotsUsed } : State).setVm s₂.vm), Ls ++ L, c0 + mc, s0 + ms⟩,
      ⟨X.admits, X.cas, X.clock, X.frames, X.room, X.hears, X.method, X.code, (X.here.setHeapUsed s₂.heap s₂.slotsUsed).setVm hW'.alike, X.tail, State.WarmedH.trans X.warmed hW', X.limits, X.bytes, X.same.trans (hsame.setVm s.vm)⟩,
      ⟨g, mk, s₂, L, E, ce, rfl, rfl, hx, hce, hcv, hcl, rfl, hL, rfl, rfl⟩, ?_⟩
    show Steps p.tables e below _ (((({ U with heap := s₂.heap, slotsUsed := s₂.slotsUsed } : State).setVm s₂.vm).setTop g).pushFrame (.throwing q))
    rw [← hs₂]
    exact hsteps
end Payer
section Calls
variable {p : Program} {l : Launch} {e : Env} {R : Room} {s : State} {m : MethodId} {args : Array Value} {below : List Frame} {meth : Method} {c : Code} {T : State} {locs : List Loc} {cells slots : Nat}
theorem vx_callV (X : Stand p l e R s m args below meth c T locs cells slots) (hexec : p.tables.exec = Jvm.exec) {own C : String} {index : Nat} {y : MethodName} {bytes : ByteArray} {maxL : Nat} {ret : Option FieldType}
    (hown : s.vm.findClass own = some m.cls) (hlink : (Cond.methodLink own index y).before args s = true) (hinst : (Cond.instanceMethod y).before args s = true) (hsel : (Cond.selects C y y).before args s = true)
    (hcode : (Cond.code y bytes maxL ret).before args s = true) (hy : y.cls ≠ "java/lang/invoke/MethodHandle" ∧ y.cls ≠ "java/lang/invoke/VarHandle")
    {W9 : Nat} {Pre : Pt → Array Value → Prop} {Post : Pt → Array Value → Option Value → Pt → Prop} {PostX : Pt → Array Value → Addr → Pt → Prop} (hK : vx_Back l R p e below s args y 3 W9 Pre Post PostX)
    {b : Addr} {cellB : Cell} (hcell : T.heap[b]? = some cellB) (hobj : cellB.vm.isStatics = false) (hcls : s.vm.findClass C = some cellB.cls)
    {g : JFrame} (hg : g.method = m) (hsize : g.locals.size = c.maxLocals) {argsL rest : List Value} (hlen : ∀ sig, parseMethodDescriptor y.desc = some sig → argsL.length = sig.parameters.length)
    (hstack : g.stack = argsL.reverse ++ .ref b :: rest) (hW : 2 * g.monitorRoom + (rest.map fun v => v.category).sum ≤ W9) (hdg : decode c.code g.pc = .ok (.invokevirtual index, 3))
    (hpre : ∀ vm₁, s.WarmedH vm₁ → Pre ⟨T.setVm vm₁, locs, cells, slots⟩ (Value.ref b :: argsL).toArray) :
    (∃ (v : Option Value) (vm₁ : Vm) (B : Pt), s.WarmedH vm₁ ∧ Stand p l e R s m args below meth c B.U B.locs B.cells B.slots ∧ Post ⟨T.setVm vm₁, locs, cells, slots⟩ (Value.ref b :: argsL).toArray v B ∧
      ∀ target, Steps p.tables e below (B.U.setTop { g with pc := g.pc + 3, stack := v.toList ++ rest }) target → Steps p.tables e below (T.setTop g) target) ∨
    (∃ (q : Addr) (vm₁ : Vm) (B : Pt), s.WarmedH vm₁ ∧ Stand p l e R s m args below meth c B.U B.locs B.cells B.slots ∧ PostX ⟨T.setVm vm₁, locs, cells, slots⟩ (Value.ref b :: argsL).toArray q B ∧
      Steps p.tables e below (T.setTop g) ((B.U.setTop { g with stack := rest }).pushFrame (.throwing q))) := by
  obtain ⟨mk, methM, hnamed, hmethM, hstM, habM⟩ := Cond.instanceMethod_spec hinst
  obtain ⟨methM', cM, hmethM', -, -, -, -, -, -, hsigM⟩ := Cond.code_spec hnamed hcode
  cases hmethM.symm.trans hmethM'
  obtain ⟨c2, r2, m2, q1, q2, q3, q4, kP, hkP, hkPi⟩ := Cond.selects_spec hsel
  cases hcls.symm.trans q1
  cases (State.methodFound?_of_named hnamed hy).symm.trans q2
  cases hnamed.symm.trans q3
  have hselP : selectMethod e.platform s.vm cellB.cls mk = .method mk := by rw [Launch.admits_selectMethod X.admits]; exact q4
  obtain ⟨vm₁, X₁, hstep₁⟩ := X.invokevirtual hexec hown hlink hnamed hmethM hstM hkP hkPi hy (a := b) (cell := cellB) hcell
    (fun z h => by rw [h] at hobj; cases hobj) hselP hmethM habM hkP hkPi (g := g) hg (argsL := argsL) (rest := rest) (hlen _ hsigM) hstack hdg
  rcases hK m meth c ⟨T.setVm vm₁, locs, cells, slots⟩ { g with stack := rest } (.invokevirtual index) mk (Value.ref b :: argsL).toArray X₁ hg hsize hdg hW (X₁.named hnamed) (hpre vm₁ X₁.warmed) with ⟨v, B, X', hpost, hsteps⟩ | ⟨q, B, X', hpost, hsteps⟩
  · exact Or.inl ⟨v, vm₁, B, X₁.warmed, X', hpost, fun target h => hstep₁ _ fun acts => by rw [doInvoke_state]; exact hsteps.trans h⟩
  · exact Or.inr ⟨q, vm₁, B, X₁.warmed, X', hpost, hstep₁ _ fun acts => by rw [doInvoke_state]; exact hsteps⟩
theorem vx_callS (X : Stand p l e R s m args below meth c T locs cells slots) (hexec : p.tables.exec = Jvm.exec) {own : String} {index : Nat} {y : MethodName} {bytes : ByteArray} {maxL : Nat} {ret : Option FieldType}
    (hown : s.vm.findClass own = some m.cls) (hlink : (Cond.methodLink own index y).before args s = true) (hstat : (Cond.static y).before args s = true) (hinit : (Cond.initialized y.cls).before args s = true)
    (hcode : (Cond.code y bytes maxL ret).before args s = true) (hy : y.cls ≠ "java/lang/invoke/MethodHandle" ∧ y.cls ≠ "java/lang/invoke/VarHandle")
    {W9 : Nat} {Pre : Pt → Array Value → Prop} {Post : Pt → Array Value → Option Value → Pt → Prop} {PostX : Pt → Array Value → Addr → Pt → Prop} (hK : vx_Back l R p e below s args y 3 W9 Pre Post PostX)
    {g : JFrame} (hg : g.method = m) (hsize : g.locals.size = c.maxLocals) {argsL rest : List Value} (hlen : ∀ sig, parseMethodDescriptor y.desc = some sig → argsL.length = sig.parameters.length)
    (hstack : g.stack = argsL.reverse ++ rest) (hW : 2 * g.monitorRoom + (rest.map fun v => v.category).sum ≤ W9) (hdg : decode c.code g.pc = .ok (.invokestatic index, 3))
    (hpre : ∀ vm₁, s.WarmedH vm₁ → Pre ⟨T.setVm vm₁, locs, cells, slots⟩ argsL.toArray) :
    (∃ (v : Option Value) (vm₁ : Vm) (B : Pt), s.WarmedH vm₁ ∧ Stand p l e R s m args below meth c B.U B.locs B.cells B.slots ∧ Post ⟨T.setVm vm₁, locs, cells, slots⟩ argsL.toArray v B ∧
      ∀ target, Steps p.tables e below (B.U.setTop { g with pc := g.pc + 3, stack := v.toList ++ rest }) target → Steps p.tables e below (T.setTop g) target) ∨
    (∃ (q : Addr) (vm₁ : Vm) (B : Pt), s.WarmedH vm₁ ∧ Stand p l e R s m args below meth c B.U B.locs B.cells B.slots ∧ PostX ⟨T.setVm vm₁, locs, cells, slots⟩ argsL.toArray q B ∧
      Steps p.tables e below (T.setTop g) ((B.U.setTop { g with stack := rest }).pushFrame (.throwing q))) := by
  obtain ⟨mk, hnamed⟩ := Cond.code_named hcode
  obtain ⟨methM, cM, hmethM, -, -, -, -, -, -, hsigM⟩ := Cond.code_spec hnamed hcode
  have hstatic : methM.isStatic = true := Cond.static_spec hnamed hmethM hstat
  obtain ⟨kP, hkP, -⟩ := className_of_methodNamed hnamed
  have hinitP : kP.init = .initialized := Cond.initialized_spec (findClass_of_methodNamed hnamed) hkP hinit
  obtain ⟨vm₁, X₁, hstep₁⟩ := X.invokestatic hexec hown hlink hnamed hmethM hstatic hkP hinitP hy (g := g) hg (argsL := argsL) (rest := rest) (hlen _ hsigM) hstack hdg
  rcases hK m meth c ⟨T.setVm vm₁, locs, cells, slots⟩ { g with stack := rest } (.invokestatic index) mk argsL.toArray X₁ hg hsize hdg hW (X₁.named hnamed) (hpre vm₁ X₁.warmed) with ⟨v, B, X', hpost, hsteps⟩ | ⟨q, B, X', hpost, hsteps⟩
  · exact Or.inl ⟨v, vm₁, B, X₁.warmed, X', hpost, fun target h => hstep₁ _ fun acts => by rw [doInvoke_state]; exact hsteps.trans h⟩
  · exact Or.inr ⟨q, vm₁, B, X₁.warmed, X', hpost, hstep₁ _ fun acts => by rw [doInvoke_state]; exact hsteps⟩
end Calls
theorem vx_cls {s : State} {T : State} {vm₁ : Vm} {E : String} {k : ClassId} (hW : s.WarmedH vm₁) (h : (T.setVm vm₁).vm.findClass E = some k) : s.vm.findClass E = some k := by
  have h1 : vm₁.findClass E = some k := h
  rw [hW.alike.findClass] at h1
  exact h1
/-- the method's frame g, with q thrown over it -/
def vx_W (p : Program) (l : Launch) (e : Env) (R : Room) (s : State) (m : MethodId) (args : Array Value) (below : List Frame) (meth : Method) (c : Code) (H : Heap) (locs : List Loc) (cells slots : Nat) (Q : State → Prop) (g : JFrame) (q : Addr) : Prop :=
  ∀ T : State, T.heap = H → Stand p l e R s m args below meth c T locs cells slots → ∃ t, Steps p.tables e below ((T.setTop g).pushFrame (.throwing q)) t ∧ Q t
def vx_Run (p : Program) (l : Launch) (e : Env) (R : Room) (s : State) (m : MethodId) (args : Array Value) (below : List Frame) (meth : Method) (c : Code) (H : Heap) (locs : List Loc) (cells slots mc ms : Nat) (g : JFrame) (rest : List Value) (Qa : State → Outcome → State → Prop) (XC : String → State → State → Prop) (free : Addr → Prop) : Prop :=
  ∀ T : State, T.heap = H → Stand p l e R s m args below meth c T locs cells slots →
    (∃ (v : Option Value) (st₀ t T' : State) (L : List Loc), st₀.heap = H ∧ Stand p l e R s m args below meth c T' (locs ++ L) (cells + mc) (slots + ms) ∧ (∀ q ∈ L, free q.base) ∧ T'.heap = t.heap ∧ T'.vm = t.vm ∧ Qa st₀ (.returned v) t ∧
      Goes p e below T g T' { g with pc := g.pc + 3, stack := v.toList ++ rest }) ∨
    (∃ (q : Addr) (st₀ t T' : State) (L : List Loc) (E : String) (ce : Cell), st₀.heap = H ∧ Stand p l e R s m args below meth c T' (locs ++ L) (cells + mc) (slots + ms) ∧ (∀ z ∈ L, free z.base) ∧ T'.heap = t.heap ∧ T'.vm = t.vm ∧ XC E st₀ t ∧ t.heap[q]? = some ce ∧ ce.vm = .none ∧ s.vm.findClass E = some ce.cls ∧
      Steps p.tables e below (T.setTop g) ((T'.setTop { g with stack := rest }).pushFrame (.throwing q)))
def vx_X {S : Type} (px : S → Prop) (B : String → S → State → Prop) (A : Nat → Prop) : String → State → State → Prop := fun E st t => ∃ u : S, px u ∧ B E u t ∧ va_F A st t
section Runs
variable {p : Program} {l : Launch} {e : Env} {R : Room} {s : State} {m : MethodId} {args : Array Value} {below : List Frame} {meth : Method} {c : Code} {H : Heap} {locs : List Loc} {cells slots : Nat}
variable {y : MethodName} {bytes cc : ByteArray} {maxL nL mc ms n index : Nat} {ret : Option FieldType} {ws : List Cond} {rm : Room} {Pc : Array Value → State → Prop} {Qc : Array Value → State → Outcome → State → Prop} {XC : String → State → State → Prop} {free : Addr → Prop} {Ts : List Cond} {own C : String} {b : Addr} {As rest : List Value} {g : JFrame}
theorem vx_callBack (cb : CallB R s args own index y bytes maxL ret ws rm mc ms n) (hM : vx_Met l y ws rm Pc Qc XC mc ms free) (hbl : FrameBlind Pc) : vx_Back l R p e below s args y 3 8 (PreOf R mc ms Pc) (PostOf Qc mc ms free) (vx_Post XC mc ms free) := by
  obtain ⟨hrc, hrs, hfr, hlo, hws, hcw, -, hini, -⟩ := cb
  exact vx_back (bytes := bytes) (maxL := maxL) (ret := ret) hM hbl hrc hrs hfr hlo hws hcw (fun a' U hW => word_at hW (Or.inl (by first | rfl | simp [Cond.onTables, Cond.keeps, Cond.steady])) hini)
theorem vx_runV (S : CallFix p m c cc nL s args Ts own) (hM : vx_Met l y ws rm Pc Qc XC mc ms free) (cw : CallW R s args own C index y bytes maxL ret ws rm mc ms n) (hp : PreV s H C b Pc As)
    (hg : g.method = m) (hn : As.length = n) (hsize : g.locals.size = nL) (hstack : g.stack = As.reverse ++ .ref b :: rest) (hW : 2 * g.monitorRoom + (rest.map fun v => v.category).sum ≤ 8) (hdg : decode cc g.pc = .ok (.invokevirtual index, 3)) (hf : cells + mc ≤ R.cells ∧ slots + ms ≤ R.slots) :
    vx_Run p l e R s m args below meth c H locs cells slots mc ms g rest (Qc (Value.ref b :: As).toArray) XC free := by
  have hK : vx_Back l R p e below s args y 3 8 (PreOf R mc ms Pc) (PostOf Qc mc ms free) (vx_Post XC mc ms free) := vx_callBack cw.1 hM hp.1
  obtain ⟨⟨-, -, -, -, -, -, hcode, -, hy, hlen, hl⟩, hin, hse⟩ := cw
  obtain ⟨hx, hb, hml, ho, -⟩ := S
  obtain ⟨-, ⟨cellB, hcB, hoB, hclB⟩, hPc⟩ := hp
  intro T hT X
  rcases vx_callV X hx (C := C) (bytes := bytes) (maxL := maxL) (ret := ret) ho hl hin hse hcode hy hK (by rw [hT]; exact hcB) hoB hclB hg (hsize.trans hml.symm) (argsL := As) (rest := rest) (fun sig h => hn.trans (hlen sig h)) hstack hW (by rw [hb]; exact hdg)
    (fun vm₁ hW₁ => ⟨hf.1, hf.2, hPc (T.setVm vm₁) hT hW₁⟩) with ⟨v, vm₁, ⟨U', l2, c2, s2⟩, hW₁, X', ⟨g', mk, t, L, e1, e2, hq, h1, hL, h2, h3⟩, st⟩ | ⟨q, vm₁, ⟨U', l2, c2, s2⟩, hW₁, X', ⟨g', mk, t, L, E, ce, e1, e2, hq, hce, hcv, hcl, h1, hL, h2, h3⟩, st⟩
  · dsimp only [Pt.U, Pt.locs, Pt.cells, Pt.slots] at X' e1 e2 h1 h2 h3 st
    subst h1; subst h2; subst h3
    exact Or.inl ⟨v, (T.setVm vm₁).calling g' mk (Value.ref b :: As).toArray, t, U', L, hT, X', hL, e1, e2, hq, st⟩
  · dsimp only [Pt.U, Pt.locs, Pt.cells, Pt.slots] at X' e1 e2 h1 h2 h3 st hcl
    subst h1; subst h2; subst h3
    exact Or.inr ⟨q, (T.setVm vm₁).calling g' mk (Value.ref b :: As).toArray, t, U', L, E, ce, hT, X', hL, e1, e2, hq, hce, hcv, vx_cls hW₁ hcl, st⟩
theorem vx_runS (S : CallFix p m c cc nL s args Ts own) (hM : vx_Met l y ws rm Pc Qc XC mc ms free) (cw : CallB R s args own index y bytes maxL ret ws rm mc ms n ∧ (Cond.static y).before args s = true) (hp : PreS s H Pc As)
    (hg : g.method = m) (hn : As.length = n) (hsize : g.locals.size = nL) (hstack : g.stack = As.reverse ++ rest) (hW : 2 * g.monitorRoom + (rest.map fun v => v.category).sum ≤ 8) (hdg : decode cc g.pc = .ok (.invokestatic index, 3)) (hf : cells + mc ≤ R.cells ∧ slots + ms ≤ R.slots) :
    vx_Run p l e R s m args below meth c H locs cells slots mc ms g rest (Qc As.toArray) XC free := by
  have hK : vx_Back l R p e below s args y 3 8 (PreOf R mc ms Pc) (PostOf Qc mc ms free) (vx_Post XC mc ms free) := vx_callBack cw.1 hM hp.1
  obtain ⟨⟨-, -, -, -, -, -, hcode, hini, hy, hlen, hl⟩, hstt⟩ := cw
  obtain ⟨hx, hb, hml, ho, -⟩ := S
  intro T hT X
  rcases vx_callS X hx (bytes := bytes) (maxL := maxL) (ret := ret) ho hl hstt hini hcode hy hK hg (hsize.trans hml.symm) (argsL := As) (rest := rest) (fun sig h => hn.trans (hlen sig h)) hstack hW (by rw [hb]; exact hdg)
    (fun vm₁ hW₁ => ⟨hf.1, hf.2, hp.2 (T.setVm vm₁) hT hW₁⟩) with ⟨v, vm₁, ⟨U', l2, c2, s2⟩, hW₁, X', ⟨g', mk, t, L, e1, e2, hq, h1, hL, h2, h3⟩, st⟩ | ⟨q, vm₁, ⟨U', l2, c2, s2⟩, hW₁, X', ⟨g', mk, t, L, E, ce, e1, e2, hq, hce, hcv, hcl, h1, hL, h2, h3⟩, st⟩
  · dsimp only [Pt.U, Pt.locs, Pt.cells, Pt.slots] at X' e1 e2 h1 h2 h3 st
    subst h1; subst h2; subst h3
    exact Or.inl ⟨v, (T.setVm vm₁).calling g' mk As.toArray, t, U', L, hT, X', hL, e1, e2, hq, st⟩
  · dsimp only [Pt.U, Pt.locs, Pt.cells, Pt.slots] at X' e1 e2 h1 h2 h3 st hcl
    subst h1; subst h2; subst h3
    exact Or.inr ⟨q, (T.setVm vm₁).calling g' mk As.toArray, t, U', L, E, ce, hT, X', hL, e1, e2, hq, hce, hcv, vx_cls hW₁ hcl, st⟩
end Runs
section Rows
variable {p : Program} {l : Launch} {e : Env} {R : Room} {s : State} {m : MethodId} {args : Array Value} {below : List Frame} {meth : Method} {c : Code} {H : Heap} {locs : List Loc} {cells slots : Nat} {Q : State → Prop}
variable {mc ms : Nat} {free : Addr → Prop} {A0 A1 : Nat → Prop} {H0 : Heap} {a : Array Value} {pc : Nat} {ls : Array Slot} {st0 rest : List Value}
theorem vx_keep {st₀ t T' : State} {L : List Loc} (h0 : st₀.heap = H) (e1 : T'.heap = t.heap) (hS : va_S A0 H0 H locs) (hA : ∀ q, q < H.size → A1 q → A0 q) (hf : ∀ q, free q → A0 q) (hL : ∀ q ∈ L, free q.base) (hF : va_F A1 st₀ t) :
    H.size ≤ T'.heap.size ∧ (∀ q : Nat, q < H.size → ¬ A1 q → T'.heap[q]? = H[q]?) ∧ va_S A0 H0 T'.heap (locs ++ L) := by
  obtain ⟨hz, hk⟩ := hF
  rw [h0] at hz hk
  exact ⟨by rw [e1]; exact hz, fun q h1 h2 => by rw [e1]; exact hk q h1 h2,
    ⟨Nat.le_trans hS.1 (by rw [e1]; exact hz), fun q h1 h2 => by rw [e1, hk q (Nat.lt_of_lt_of_le h1 hS.1) (fun z => h2 (hA q (Nat.lt_of_lt_of_le h1 hS.1) z))]; exact hS.2.1 q h1 h2, fun q hq => by
      rcases List.mem_append.mp hq with h | h
      · exact hS.2.2 q h
      · exact hf _ (hL q h)⟩⟩
theorem vx_calli {S SX : Type} {post : Int32 → S → Prop} {px : SX → Prop} {B : S → State → Prop} {BX : String → SX → State → Prop} {AX : Nat → Prop} (hr : vx_Run p l e R s m args below meth c H locs cells slots mc ms (F0 m pc ls st0) rest (va_Qi post B A1 a) (vx_X px BX AX) free) (hS : va_S A0 H0 H locs) (hA : ∀ q, q < H.size → A1 q → A0 q) (hf : ∀ q, free q → A0 q) (hAX : ∀ q, q < H.size → AX q → A0 q)
    (kx : ∀ (E : String) (ce : Cell) (q9 : Addr) (u : SX) (t : State) (H1 : Heap) (locs1 : List Loc), t.heap = H1 → s.vm.Alike t.vm → px u → BX E u t → H.size ≤ H1.size → (∀ q : Nat, q < H.size → ¬ AX q → H1[q]? = H[q]?) → va_S A0 H0 H1 locs1 → H1[q9]? = some ce → ce.vm = .none → s.vm.findClass E = some ce.cls → vx_W p l e R s m args below meth c H1 locs1 (cells + mc) (slots + ms) Q (F0 m pc ls rest) q9)
    (kk : ∀ (r : Int32) (u : S) (t : State) (H1 : Heap) (locs1 : List Loc), t.heap = H1 → s.vm.Alike t.vm → post r u → B u t → H.size ≤ H1.size → (∀ q : Nat, q < H.size → ¬ A1 q → H1[q]? = H[q]?) → va_S A0 H0 H1 locs1 → W p l e R s m args below meth c H1 locs1 (cells + mc) (slots + ms) Q (F0 m (pc + 3) ls (.int r :: rest))) : W p l e R s m args below meth c H locs cells slots Q (F0 m pc ls st0) := by
  intro T hT X
  rcases hr T hT X with ⟨v, st₀, t, T', L, h0, X', hL, e1, e2, ⟨⟨r, u, hv, hp, hb⟩, hF⟩, st⟩ | ⟨q, st₀, t, T', L, E, ce, h0, X', hL, e1, e2, ⟨u, hp, hb, hF⟩, hce, hcv, hcl, st⟩
  · cases hv
    obtain ⟨k1, k2, k3⟩ := vx_keep h0 e1 hS hA hf hL hF
    obtain ⟨t2, a1, b1⟩ := kk r u t T'.heap (locs ++ L) e1.symm (by rw [← e2]; exact X'.warmed.alike) hp hb k1 k2 k3 T' rfl X'
    exact ⟨t2, st t2 a1, b1⟩
  · obtain ⟨k1, k2, k3⟩ := vx_keep h0 e1 hS hAX hf hL hF
    obtain ⟨t2, a1, b1⟩ := kx E ce q u t T'.heap (locs ++ L) e1.symm (by rw [← e2]; exact X'.warmed.alike) hp hb k1 k2 k3 (by rw [e1]; exact hce) hcv hcl T' rfl X'
    exact ⟨t2, st.trans a1, b1⟩
theorem vx_calll {S SX : Type} {post : Int64 → S → Prop} {px : SX → Prop} {B : S → State → Prop} {BX : String → SX → State → Prop} {AX : Nat → Prop} (hr : vx_Run p l e R s m args below meth c H locs cells slots mc ms (F0 m pc ls st0) rest (va_Ql post B A1 a) (vx_X px BX AX) free) (hS : va_S A0 H0 H locs) (hA : ∀ q, q < H.size → A1 q → A0 q) (hf : ∀ q, free q → A0 q) (hAX : ∀ q, q < H.size → AX q → A0 q)
    (kx : ∀ (E : String) (ce : Cell) (q9 : Addr) (u : SX) (t : State) (H1 : Heap) (locs1 : List Loc), t.heap = H1 → s.vm.Alike t.vm → px u → BX E u t → H.size ≤ H1.size → (∀ q : Nat, q < H.size → ¬ AX q → H1[q]? = H[q]?) → va_S A0 H0 H1 locs1 → H1[q9]? = some ce → ce.vm = .none → s.vm.findClass E = some ce.cls → vx_W p l e R s m args below meth c H1 locs1 (cells + mc) (slots + ms) Q (F0 m pc ls rest) q9)
    (kk : ∀ (r : Int64) (u : S) (t : State) (H1 : Heap) (locs1 : List Loc), t.heap = H1 → s.vm.Alike t.vm → post r u → B u t → H.size ≤ H1.size → (∀ q : Nat, q < H.size → ¬ A1 q → H1[q]? = H[q]?) → va_S A0 H0 H1 locs1 → W p l e R s m args below meth c H1 locs1 (cells + mc) (slots + ms) Q (F0 m (pc + 3) ls (.long r :: rest))) : W p l e R s m args below meth c H locs cells slots Q (F0 m pc ls st0) := by
  intro T hT X
  rcases hr T hT X with ⟨v, st₀, t, T', L, h0, X', hL, e1, e2, ⟨⟨r, u, hv, hp, hb⟩, hF⟩, st⟩ | ⟨q, st₀, t, T', L, E, ce, h0, X', hL, e1, e2, ⟨u, hp, hb, hF⟩, hce, hcv, hcl, st⟩
  · cases hv
    obtain ⟨k1, k2, k3⟩ := vx_keep h0 e1 hS hA hf hL hF
    obtain ⟨t2, a1, b1⟩ := kk r u t T'.heap (locs ++ L) e1.symm (by rw [← e2]; exact X'.warmed.alike) hp hb k1 k2 k3 T' rfl X'
    exact ⟨t2, st t2 a1, b1⟩
  · obtain ⟨k1, k2, k3⟩ := vx_keep h0 e1 hS hAX hf hL hF
    obtain ⟨t2, a1, b1⟩ := kx E ce q u t T'.heap (locs ++ L) e1.symm (by rw [← e2]; exact X'.warmed.alike) hp hb k1 k2 k3 (by rw [e1]; exact hce) hcv hcl T' rfl X'
    exact ⟨t2, st.trans a1, b1⟩
theorem vx_callf {S SX : Type} {post : UInt32 → S → Prop} {px : SX → Prop} {B : S → State → Prop} {BX : String → SX → State → Prop} {AX : Nat → Prop} (hr : vx_Run p l e R s m args below meth c H locs cells slots mc ms (F0 m pc ls st0) rest (va_Qf post B A1 a) (vx_X px BX AX) free) (hS : va_S A0 H0 H locs) (hA : ∀ q, q < H.size → A1 q → A0 q) (hf : ∀ q, free q → A0 q) (hAX : ∀ q, q < H.size → AX q → A0 q)
    (kx : ∀ (E : String) (ce : Cell) (q9 : Addr) (u : SX) (t : State) (H1 : Heap) (locs1 : List Loc), t.heap = H1 → s.vm.Alike t.vm → px u → BX E u t → H.size ≤ H1.size → (∀ q : Nat, q < H.size → ¬ AX q → H1[q]? = H[q]?) → va_S A0 H0 H1 locs1 → H1[q9]? = some ce → ce.vm = .none → s.vm.findClass E = some ce.cls → vx_W p l e R s m args below meth c H1 locs1 (cells + mc) (slots + ms) Q (F0 m pc ls rest) q9)
    (kk : ∀ (r : UInt32) (u : S) (t : State) (H1 : Heap) (locs1 : List Loc), t.heap = H1 → s.vm.Alike t.vm → post r u → B u t → H.size ≤ H1.size → (∀ q : Nat, q < H.size → ¬ A1 q → H1[q]? = H[q]?) → va_S A0 H0 H1 locs1 → W p l e R s m args below meth c H1 locs1 (cells + mc) (slots + ms) Q (F0 m (pc + 3) ls (.float r :: rest))) : W p l e R s m args below meth c H locs cells slots Q (F0 m pc ls st0) := by
  intro T hT X
  rcases hr T hT X with ⟨v, st₀, t, T', L, h0, X', hL, e1, e2, ⟨⟨r, u, hv, hp, hb⟩, hF⟩, st⟩ | ⟨q, st₀, t, T', L, E, ce, h0, X', hL, e1, e2, ⟨u, hp, hb, hF⟩, hce, hcv, hcl, st⟩
  · cases hv
    obtain ⟨k1, k2, k3⟩ := vx_keep h0 e1 hS hA hf hL hF
    obtain ⟨t2, a1, b1⟩ := kk r u t T'.heap (locs ++ L) e1.symm (by rw [← e2]; exact X'.warmed.alike) hp hb k1 k2 k3 T' rfl X'
    exact ⟨t2, st t2 a1, b1⟩
  · obtain ⟨k1, k2, k3⟩ := vx_keep h0 e1 hS hAX hf hL hF
    obtain ⟨t2, a1, b1⟩ := kx E ce q u t T'.heap (locs ++ L) e1.symm (by rw [← e2]; exact X'.warmed.alike) hp hb k1 k2 k3 (by rw [e1]; exact hce) hcv hcl T' rfl X'
    exact ⟨t2, st.trans a1, b1⟩
theorem vx_calld {S SX : Type} {post : UInt64 → S → Prop} {px : SX → Prop} {B : S → State → Prop} {BX : String → SX → State → Prop} {AX : Nat → Prop} (hr : vx_Run p l e R s m args below meth c H locs cells slots mc ms (F0 m pc ls st0) rest (va_Qd post B A1 a) (vx_X px BX AX) free) (hS : va_S A0 H0 H locs) (hA : ∀ q, q < H.size → A1 q → A0 q) (hf : ∀ q, free q → A0 q) (hAX : ∀ q, q < H.size → AX q → A0 q)
    (kx : ∀ (E : String) (ce : Cell) (q9 : Addr) (u : SX) (t : State) (H1 : Heap) (locs1 : List Loc), t.heap = H1 → s.vm.Alike t.vm → px u → BX E u t → H.size ≤ H1.size → (∀ q : Nat, q < H.size → ¬ AX q → H1[q]? = H[q]?) → va_S A0 H0 H1 locs1 → H1[q9]? = some ce → ce.vm = .none → s.vm.findClass E = some ce.cls → vx_W p l e R s m args below meth c H1 locs1 (cells + mc) (slots + ms) Q (F0 m pc ls rest) q9)
    (kk : ∀ (r : UInt64) (u : S) (t : State) (H1 : Heap) (locs1 : List Loc), t.heap = H1 → s.vm.Alike t.vm → post r u → B u t → H.size ≤ H1.size → (∀ q : Nat, q < H.size → ¬ A1 q → H1[q]? = H[q]?) → va_S A0 H0 H1 locs1 → W p l e R s m args below meth c H1 locs1 (cells + mc) (slots + ms) Q (F0 m (pc + 3) ls (.double r :: rest))) : W p l e R s m args below meth c H locs cells slots Q (F0 m pc ls st0) := by
  intro T hT X
  rcases hr T hT X with ⟨v, st₀, t, T', L, h0, X', hL, e1, e2, ⟨⟨r, u, hv, hp, hb⟩, hF⟩, st⟩ | ⟨q, st₀, t, T', L, E, ce, h0, X', hL, e1, e2, ⟨u, hp, hb, hF⟩, hce, hcv, hcl, st⟩
  · cases hv
    obtain ⟨k1, k2, k3⟩ := vx_keep h0 e1 hS hA hf hL hF
    obtain ⟨t2, a1, b1⟩ := kk r u t T'.heap (locs ++ L) e1.symm (by rw [← e2]; exact X'.warmed.alike) hp hb k1 k2 k3 T' rfl X'
    exact ⟨t2, st t2 a1, b1⟩
  · obtain ⟨k1, k2, k3⟩ := vx_keep h0 e1 hS hAX hf hL hF
    obtain ⟨t2, a1, b1⟩ := kx E ce q u t T'.heap (locs ++ L) e1.symm (by rw [← e2]; exact X'.warmed.alike) hp hb k1 k2 k3 (by rw [e1]; exact hce) hcv hcl T' rfl X'
    exact ⟨t2, st.trans a1, b1⟩
theorem vx_callv {S SX : Type} {post : S → Prop} {px : SX → Prop} {B : S → State → Prop} {BX : String → SX → State → Prop} {AX : Nat → Prop} (hr : vx_Run p l e R s m args below meth c H locs cells slots mc ms (F0 m pc ls st0) rest (va_Qv post B A1 a) (vx_X px BX AX) free) (hS : va_S A0 H0 H locs) (hA : ∀ q, q < H.size → A1 q → A0 q) (hf : ∀ q, free q → A0 q) (hAX : ∀ q, q < H.size → AX q → A0 q)
    (kx : ∀ (E : String) (ce : Cell) (q9 : Addr) (u : SX) (t : State) (H1 : Heap) (locs1 : List Loc), t.heap = H1 → s.vm.Alike t.vm → px u → BX E u t → H.size ≤ H1.size → (∀ q : Nat, q < H.size → ¬ AX q → H1[q]? = H[q]?) → va_S A0 H0 H1 locs1 → H1[q9]? = some ce → ce.vm = .none → s.vm.findClass E = some ce.cls → vx_W p l e R s m args below meth c H1 locs1 (cells + mc) (slots + ms) Q (F0 m pc ls rest) q9)
    (kk : ∀ (u : S) (t : State) (H1 : Heap) (locs1 : List Loc), t.heap = H1 → s.vm.Alike t.vm → post u → B u t → H.size ≤ H1.size → (∀ q : Nat, q < H.size → ¬ A1 q → H1[q]? = H[q]?) → va_S A0 H0 H1 locs1 → W p l e R s m args below meth c H1 locs1 (cells + mc) (slots + ms) Q (F0 m (pc + 3) ls (rest))) : W p l e R s m args below meth c H locs cells slots Q (F0 m pc ls st0) := by
  intro T hT X
  rcases hr T hT X with ⟨v, st₀, t, T', L, h0, X', hL, e1, e2, ⟨⟨u, hv, hp, hb⟩, hF⟩, st⟩ | ⟨q, st₀, t, T', L, E, ce, h0, X', hL, e1, e2, ⟨u, hp, hb, hF⟩, hce, hcv, hcl, st⟩
  · cases hv
    obtain ⟨k1, k2, k3⟩ := vx_keep h0 e1 hS hA hf hL hF
    obtain ⟨t2, a1, b1⟩ := kk u t T'.heap (locs ++ L) e1.symm (by rw [← e2]; exact X'.warmed.alike) hp hb k1 k2 k3 T' rfl X'
    exact ⟨t2, st t2 a1, b1⟩
  · obtain ⟨k1, k2, k3⟩ := vx_keep h0 e1 hS hAX hf hL hF
    obtain ⟨t2, a1, b1⟩ := kx E ce q u t T'.heap (locs ++ L) e1.symm (by rw [← e2]; exact X'.warmed.alike) hp hb k1 k2 k3 (by rw [e1]; exact hce) hcv hcl T' rfl X'
    exact ⟨t2, st.trans a1, b1⟩
/-- caught by the row x of this method's table; the rows ahead don't take it -/
theorem vx_catch {own name : String} {E : String} {ce : Cell} {q : Addr} (hown : s.vm.findClass own = some m.cls) (pre : List ExceptionTableEntry) (x : ExceptionTableEntry) (suf : List ExceptionTableEntry) (hsplit : c.exceptionTable.toList = pre ++ x :: suf)
    (hpass : ∀ z ∈ pre, covers z pc = false ∨ (z.catchType ≠ 0 ∧ ∃ nm : String, (Cond.classLink own z.catchType nm).before args s = true ∧ va_Nc E nm s)) (hx : covers x pc = true) (h0 : x.catchType ≠ 0)
    (hlink : (Cond.classLink own x.catchType name).before args s = true) (hcast : (Cond.castable E name).before args s = true) (hcell : H[q]? = some ce) (hv : ce.vm = .none) (hcl : s.vm.findClass E = some ce.cls)
    (kk : W p l e R s m args below meth c H locs cells slots Q (F0 m x.handlerPc ls [.ref q])) : vx_W p l e R s m args below meth c H locs cells slots Q (F0 m pc ls rest) q := by
  intro T hT X
  have hpl : e.platform.magicAccessors = ({} : Platform).magicAccessors := by rw [X.admits.platform]
  obtain ⟨c3, c4, hc3, hc4, hasg⟩ := Cond.castable_spec hcast
  cases Option.some.inj (hc3.symm.trans hcl)
  obtain ⟨c5, hc5, hcl5⟩ := Cond.classLink_spec hown hlink e.platform hpl
  cases Option.some.inj (hc4.symm.trans hc5)
  obtain ⟨vm', X', st⟩ := X.thenCaughtThrough q (g := F0 m pc ls rest) rfl (Steps.refl _) (by rw [hT]; exact hcell) (by rw [hv]; rfl) (by obtain ⟨k9, h9, -⟩ := Vm.findClass_spec hcl; exact ⟨k9, h9⟩) pre x suf hsplit
    (fun z hz => by
      rcases hpass z hz with h | ⟨hz0, nm, hl1, hn1⟩
      · exact Or.inl h
      · obtain ⟨c6, hc6, hcl6⟩ := Cond.classLink_spec hown hl1 e.platform hpl
        obtain ⟨a8, b8, h1, h2, h3⟩ := hn1
        cases Option.some.inj (h1.symm.trans hcl)
        cases Option.some.inj (h2.symm.trans hc6)
        exact Or.inr ⟨hz0, _, hcl6, h3⟩) hx (Or.inr ⟨h0, c4, hcl5, hasg⟩)
  obtain ⟨t, a1, b1⟩ := kk (T.setVm vm') hT X'
  exact ⟨t, st.trans a1, b1⟩
end Rows
section Ends
variable {p : Program} {l : Launch} {e : Env} {R : Room} {s : State} {m : MethodId} {args : Array Value} {below : List Frame} {meth : Method} {c : Code} {H : Heap} {locs : List Loc} {cells slots : Nat} {Q : State → Prop}
variable {mc ms : Nat} {free : Addr → Prop} {A0 A1 : Nat → Prop} {H0 : Heap} {a : Array Value} {ls : Array Slot} {st0 rest : List Value}
variable {Qc : Array Value → State → Outcome → State → Prop} {XC : String → State → State → Prop}
/-- what a body that may throw owes at its end -/
def vx_MQ (below : List Frame) (Qc : Array Value → State → Outcome → State → Prop) (XC : String → State → State → Prop) (a : Array Value) (s : State) (mc ms : Nat) (free : Addr → Prop) : State → Prop := fun t =>
  ∃ o, t.status = .running ∧ Ended t below o ∧ vx_Q Qc XC mc ms free a s o t
theorem vx_ret {g : JFrame} {mc ms : Nat} (k : W p l e R s m args below meth c H locs cells slots (MQ below Qc args s mc ms free) g) : W p l e R s m args below meth c H locs cells slots (vx_MQ below Qc XC args s mc ms free) g := by
  intro T hT X
  obtain ⟨t, a1, o, b1, b2, b3, b4⟩ := k T hT X
  exact ⟨t, a1, o, b1, b2, Or.inl ⟨b3, b4⟩⟩
/-- not caught here: it goes on to the caller -/
theorem vx_widen {g : JFrame} {q : Addr} {k n : Nat} (h1 : cells ≤ k) (h2 : slots ≤ n) (kk : vx_W p l e R s m args below meth c H locs k n Q g q) : vx_W p l e R s m args below meth c H locs cells slots Q g q := fun T hT X => kk T hT (stand_widen X h1 h2)
theorem vx_out {pc : Nat} {E : String} {ce : Cell} {q : Addr} {mc ms : Nat} (hout : ∀ x ∈ c.exceptionTable.toList, covers x pc = false) (hlocks : meth.locks = false) (hcell : H[q]? = some ce) (hv : ce.vm = .none) (hcl : s.vm.findClass E = some ce.cls)
    (hx : ∀ t : State, t.heap = H → s.vm.Alike t.vm → XC E s t) (hf : ∀ z ∈ locs, free z.base) (hc : cells ≤ mc) (hs : slots ≤ ms) :
    vx_W p l e R s m args below meth c H locs cells slots (vx_MQ below Qc XC args s mc ms free) (F0 m pc ls rest) q := by
  intro T hT X
  obtain ⟨st1, hrun, hend, hW, hsm⟩ := X.leaveThrown q (g := F0 m pc ls rest) rfl rfl rfl hout hlocks
  have hcell9 : (T.setFrames (.throwing q :: below)).heap[q]? = some ce := by
    show T.heap[q]? = some ce
    rw [hT]; exact hcell
  exact ⟨_, st1, .threw q, hrun, hend, Or.inr ⟨q, rfl, E, ce, locs, hx _ hT hW.alike, hcell9, hv, hcl, hW, hsm.mono hc hs, hf⟩⟩
theorem vx_frame {U : State} {k n : Nat} (h : s.sameButNew ({ U with vm := s.vm } : State) locs k n) : s.heap.size ≤ U.heap.size ∧ ∀ q : Nat, q < s.heap.size → (∀ z ∈ locs, z.base ≠ q) → U.heap[q]? = s.heap[q]? := by
  obtain ⟨-, h2, -, -, -, h6⟩ := h
  refine ⟨h2, fun q hq hz => ?_⟩
  obtain ⟨c9, e1, e2, e3, e4⟩ := h6 q _ (Array.getElem?_eq_getElem hq)
  have hs : c9.slots = (s.heap[q]).slots := Array.ext_getElem? fun i => e4 i fun hm => hz _ hm rfl
  have h9 : c9 = s.heap[q] := by
    rw [hs] at e2
    exact e2
  have e5 : U.heap[q]? = some c9 := e1
  rw [e5, h9, Array.getElem?_eq_getElem hq]
/-- the words of a throw but the four that speak of the heap -/
def vx_no (w : Cond) : Bool := decide (w ≠ .isRef (.static Bundle.tN "UNASSIGNED_STACK" Bundle.steD)) && decide (w ≠ .isRef (.static Bundle.tN "SUPPRESSED_SENTINEL" Bundle.listD)) && decide (w ≠ .laysStatic Bundle.tN "UNASSIGNED_STACK" Bundle.steD) && decide (w ≠ .laysStatic Bundle.tN "SUPPRESSED_SENTINEL" Bundle.listD)
def vx_at0 (own : String) (ic : Nat) (X : String) (names : List String) : List Cond := (Bundle.ownAtoms0 own ic X names).filter vx_no
def vx_atS (own : String) (ic : Nat) (X : String) (names : List String) : List Cond := (Bundle.ownAtoms own ic X names).filter vx_no
/-- a word that the tables alone decide, or a good one -/
def vx_ot (w : Cond) : Bool := w.onTables || goodWord w
theorem vx_ot_at {args a' : Array Value} {s U : State} {w : Cond} (hW : s.WarmedH U.vm) (hvm : s.vm = U.vm) (hg : vx_ot w = true) (h : w.before args s = true) : w.before a' U = true := by
  simp only [vx_ot, Bool.or_eq_true] at hg
  rcases hg with hg | hg
  · exact va_tabs hg hvm h
  · exact word_at hW (good_of_word hg) h
/-- a list's words: the good ones out of the method's own list, the others by premises of their own -/
theorem vx_hat {args : Array Value} {s : State} {L B : List Cond} (h1 : ∀ w ∈ L.filter goodWord, w.before args s = true) (h2 : ∀ w ∈ L.filter (fun w => !goodWord w), w ∈ B) (h3 : ∀ w ∈ B, w.before args s = true) : ∀ w ∈ L, w.before args s = true := by
  intro w hw
  by_cases g : goodWord w = true
  · exact h1 w (List.mem_filter.mpr ⟨hw, g⟩)
  · refine h3 w (h2 w (List.mem_filter.mpr ⟨hw, ?_⟩))
    show (!goodWord w) = true
    cases hgw : goodWord w
    · rfl
    · exact absurd hgw g
theorem vx_c {args : Array Value} {s : State} {w : Cond} {B : List Cond} (h : w.before args s = true) (t : ∀ w ∈ B, w.before args s = true) : ∀ w' ∈ w :: B, w'.before args s = true := fun w' h' => (List.mem_cons.mp h').elim (fun e => by rw [e]; exact h) (t w')
theorem vx_n {args : Array Value} {s : State} : ∀ w ∈ ([] : List Cond), w.before args s = true := fun _ h => nomatch h
theorem vx_own {args : Array Value} {s : State} {L : List Cond} (h1 : ∀ w ∈ L.filter vx_no, w.before args s = true)
    (hU : (Cond.isRef (.static Bundle.tN "UNASSIGNED_STACK" Bundle.steD)).before args s = true) (hN : (Cond.isRef (.static Bundle.tN "SUPPRESSED_SENTINEL" Bundle.listD)).before args s = true)
    (lU : (Cond.laysStatic Bundle.tN "UNASSIGNED_STACK" Bundle.steD).before args s = true) (lN : (Cond.laysStatic Bundle.tN "SUPPRESSED_SENTINEL" Bundle.listD).before args s = true) : ∀ w ∈ L, w.before args s = true := by
  intro w hw
  by_cases e1 : w = .isRef (.static Bundle.tN "UNASSIGNED_STACK" Bundle.steD)
  · rw [e1]; exact hU
  · by_cases e2 : w = .isRef (.static Bundle.tN "SUPPRESSED_SENTINEL" Bundle.listD)
    · rw [e2]; exact hN
    · by_cases e3 : w = .laysStatic Bundle.tN "UNASSIGNED_STACK" Bundle.steD
      · rw [e3]; exact lU
      · by_cases e4 : w = .laysStatic Bundle.tN "SUPPRESSED_SENTINEL" Bundle.listD
        · rw [e4]; exact lN
        · exact h1 w (List.mem_filter.mpr ⟨hw, by unfold vx_no; rw [decide_eq_true e1, decide_eq_true e2, decide_eq_true e3, decide_eq_true e4]; rfl⟩)
/-- where a static field lies, its class's statics cell in H -/
def vx_L (C n d : String) (A : Nat → Prop) (U : State) (H : Heap) : Prop := ∃ (c : ClassId) (k : Class) (i : Nat) (f : Field) (a : Nat) (cell : Cell), U.vm.findClass C = some c ∧ U.fieldFound? C n d = some (c, k, i, f) ∧ f.isStatic = true ∧ k.statics = some a ∧ H[a]? = some cell ∧ cell.vm.isStatics = true ∧ cell.cls = c ∧ f.slot < cell.slots.size ∧ k.staticTypes[f.slot]? = some f.type ∧ ¬ A a
theorem vx_L.moved {C n d : String} {A : Nat → Prop} {u U : State} {H : Heap} (hvm : u.vm.Alike U.vm) (h : vx_L C n d A u H) : vx_L C n d A U H := by
  obtain ⟨c, k, i, f, a, cell, h1, h2, h3, h4, h5, h6, h7, h8, h9, h10⟩ := h
  obtain ⟨k', hi', he⟩ := State.fieldFound?_setVm hvm h2
  exact ⟨c, k', i, f, a, cell, by rw [hvm.findClass]; exact h1, hi', h3, by rw [he]; exact h4, h5, h6, h7, h8, by rw [he]; exact h9, h10⟩
theorem vx_L.kept {C n d : String} {A : Nat → Prop} {U : State} {H H1 : Heap} (h : vx_L C n d A U H) (hq : ∀ a : Nat, a < H.size → ¬ A a → H1[a]? = H[a]?) : vx_L C n d A U H1 := by
  obtain ⟨c, k, i, f, a, cell, h1, h2, h3, h4, h5, h6, h7, h8, h9, h10⟩ := h
  exact ⟨c, k, i, f, a, cell, h1, h2, h3, h4, by rw [hq a (Array.getElem?_eq_some_iff.mp h5).1 h10]; exact h5, h6, h7, h8, h9, h10⟩
theorem vx_L.narrow {C n d : String} {A B : Nat → Prop} {U : State} {H : Heap} (h : vx_L C n d A U H) (hAB : ∀ q, B q → A q) : vx_L C n d B U H := by
  obtain ⟨c, k, i, f, a, cell, h1, h2, h3, h4, h5, h6, h7, h8, h9, h10⟩ := h
  exact ⟨c, k, i, f, a, cell, h1, h2, h3, h4, h5, h6, h7, h8, h9, fun z => h10 (hAB _ z)⟩
theorem vx_L.word {C n d : String} {A : Nat → Prop} {s : State} {args : Array Value} (h : vx_L C n d A s s.heap) : (Cond.laysStatic C n d).before args s = true := by
  obtain ⟨c, k, i, f, a, cell, h1, h2, h3, h4, h5, h6, h7, h8, h9, -⟩ := h
  show (Cond.laysStatic C n d).holds args s none s [] = true
  exact Cond.laysStatic_of h1 h2 h3 h4 h5 h6 h7 h8 h9
/-- .. and what it holds: null or some reference -/
def vx_Zq (C n d : String) (A : Nat → Prop) (U : State) (H : Heap) : Prop := va_Zq C n d A U H ∧ vx_L C n d A U H
theorem vx_Zq.moved {C n d : String} {A : Nat → Prop} {u U : State} {H : Heap} (hvm : u.vm.Alike U.vm) (h : vx_Zq C n d A u H) : vx_Zq C n d A U H := ⟨va_Zq.moved hvm h.1, vx_L.moved hvm h.2⟩
theorem vx_Zq.kept {C n d : String} {A : Nat → Prop} {U : State} {H H1 : Heap} (h : vx_Zq C n d A U H) (hq : ∀ a : Nat, a < H.size → ¬ A a → H1[a]? = H[a]?) : vx_Zq C n d A U H1 := ⟨va_Zq.kept h.1 hq, vx_L.kept h.2 hq⟩
theorem vx_Zq.narrow {C n d : String} {A B : Nat → Prop} {U : State} {H : Heap} (h : vx_Zq C n d A U H) (hAB : ∀ q, B q → A q) : vx_Zq C n d B U H := ⟨va_Zq.narrow h.1 hAB, vx_L.narrow h.2 hAB⟩
theorem vx_Zqof {args : Array Value} {s : State} {C n d : String} {A : Nat → Prop} (hl : (Cond.laysStatic C n d).before args s = true) (hini : (Cond.initialized C).before args s = true) (h : (Cond.isRef (.static C n d)).before args s = true) (hA : ∀ a : Nat, a < s.heap.size → ¬ A a) : vx_Zq C n d A s s.heap := by
  refine ⟨va_Zqof hl hini h hA, ?_⟩
  obtain ⟨c, k, i, f, a, cell, h1, h2, h3, h4, h5, h6, h7, h8, h9⟩ := Cond.laysStatic_spec hl
  exact ⟨c, k, i, f, a, cell, h1, h2, h3, h4, h5, h6, h7, h8, h9, hA a (Array.getElem?_eq_some_iff.mp h5).1⟩
theorem vx_isRef {C n d : String} {v : Value} {A : Nat → Prop} {s : State} {args : Array Value} (h : va_Z C n d v A s s.heap) (hv : v.isRef = true) : (Cond.isRef (.static C n d)).before args s = true := by
  obtain ⟨cf, kf, fi, f, a, cell, h1, h2, h3, h4, h5, h6, h7, -⟩ := h
  have he : (Term.static C n d).eval args s none [] s = some v := by
    simp [Term.eval, State.fieldNamed?, h1, h2, h4, h5, h6, h7]
  simp only [Cond.before, Cond.holds, Cond.value, he]
  cases v <;> simp_all [Value.isRef]
theorem vx_isRefq {C n d : String} {A : Nat → Prop} {s : State} {args : Array Value} (h : va_Zq C n d A s s.heap) : (Cond.isRef (.static C n d)).before args s = true := by
  rcases h with h | ⟨t, h⟩
  · exact vx_isRef h rfl
  · exact vx_isRef h rfl
/-- the same frame, seen from here: as if the method were called anew in this heap -/
theorem vx_rebase {T : State} (X : Stand p l e R s m args below meth c T locs cells slots) {R' : Room} (hf : R'.frames ≤ R.frames) (hl : R'.locals ≤ R.locals) (hc : cells + R'.cells ≤ R.cells) (hs : slots + R'.slots ≤ R.slots) :
    Stand p l e R' ((T.setVm s.vm).setFrames (.invoking m args :: below)) m args below meth c T [] 0 0 := by
  have htop : (T.setVm s.vm).topJava?.isSome := X.here.top
  have hF : ((T.setVm s.vm).setFrames (.invoking m args :: below)).frames = .invoking m args :: below := State.frames_setFrames _ (State.cur_lt_of_top htop)
  obtain ⟨g₀, hg0⟩ := Option.isSome_iff_exists.mp htop
  obtain ⟨r, hr⟩ := State.topJava?_eq_some.mp hg0
  have hl9 : e.platform.stackLimits (T.setVm s.vm).me = e.platform.stackLimits s.me := X.limits
  have hb9 : (T.setVm s.vm).me.stackBytes = s.me.stackBytes := X.bytes
  refine ⟨X.admits, X.cas, X.clock, hF, ?_, X.hears, X.method, X.code, X.here, X.tail, X.warmed, ?_, ?_, ?_⟩
  · have h := X.room
    have hU : ((T.setVm s.vm).setFrames (.invoking m args :: below)).localsInUse = s.localsInUse := by
      rw [State.localsInUse_invoking hF (meth := meth) (c := c) X.method X.code, State.localsInUse_invoking X.frames X.method X.code]
    simp only [State.hasRoom, Bool.and_eq_true, decide_eq_true_eq] at h ⊢
    obtain ⟨⟨⟨⟨h1, h2, h3, h4, h5, h6⟩, h7⟩, h8⟩, h9⟩ := h
    rw [X.frames, List.length_cons] at h2 h3
    have q1 := X.heapSize
    have q2 := X.used
    simp only [hF, hU, List.length_cons, State.stackLimits_setFrames, State.stackBytes_setFrames, hl9, hb9]
    refine ⟨⟨⟨⟨by omega, by omega, by omega, by omega, by omega, h6⟩, ?_⟩, ?_⟩, X.book⟩
    · show T.heap.size + R'.cells ≤ e.platform.maxCells
      omega
    · show T.slotsUsed + R'.slots ≤ e.platform.maxSlots
      omega
  · rw [State.stackLimits_setFrames]; rfl
  · rw [State.stackBytes_setFrames]; rfl
  · refine ⟨?_, Nat.le_refl _, Nat.le_refl _, ?_, ?_, fun a c9 h9 => ⟨c9, h9, rfl, rfl, fun _ _ => rfl⟩⟩
    · obtain ⟨t, ht, -⟩ := State.frames_cons hr
      show T.setVm s.vm = { ((T.setVm s.vm).setFrames (.invoking m args :: below)).setFrames (T.setVm s.vm).frames with heap := T.heap, slotsUsed := T.slotsUsed }
      rw [State.setFrames_setFrames, State.setFrames_self ht]
      rfl
    · show T.slotsUsed = T.slotsUsed + ((T.heap.toList.drop T.heap.size).map (·.slots.size)).sum
      rw [List.drop_eq_nil_of_le (Nat.le_of_eq Array.length_toList)]
      rfl
    · show ((T.heap.toList.drop T.heap.size).map (·.slots.size)).sum ≤ 0
      rw [List.drop_eq_nil_of_le (Nat.le_of_eq Array.length_toList)]
      exact Nat.le_refl _
/-- 'throw new E()': new; dup; invokespecial; athrow -/
theorem vx_throw0 {cc : ByteArray} {pc : Nat} (hexec : p.tables.exec = Jvm.exec) (hb : c.code = cc) (hl : l.stackTraces = false) {own cls : String} {names : List String} {ik ic mc ms : Nat} {A : Nat → Prop}
    (hown : s.vm.findClass own = some m.cls) (hcls : Bundle.fit cls = true) (hnames : ∀ n ∈ names, Bundle.fit n = true)
    (hk : (Cond.classLink own ik cls).before args s = true) (hini : (Cond.initialized cls).before args s = true) (hat : ∀ w ∈ vx_at0 own ic cls names, w.before args s = true)
    (hgood : ∀ w ∈ Cond.classLink own ik cls :: Cond.initialized cls :: vx_at0 own ic cls names, vx_ot w = true)
    (hU : vx_Zq Bundle.tN "UNASSIGNED_STACK" Bundle.steD A s s.heap) (hN : vx_Zq Bundle.tN "SUPPRESSED_SENTINEL" Bundle.listD A s s.heap) (hS : va_S A s.heap H locs) (hsize : ls.size = c.maxLocals)
    (d0 : decode cc pc = .ok (.new ik, 3)) (d3 : decode cc (pc + 3) = .ok (.dup, 1)) (d4 : decode cc (pc + 4) = .ok (.invokespecial ic, 3)) (d7 : decode cc (pc + 7) = .ok (.athrow, 1))
    (hout : ∀ x ∈ c.exceptionTable.toList, covers x (pc + 7) = false)
    (hRframes : names.length + 3 < R.frames) (hRlocals : (rest.map fun v => v.category).sum + (13 * (names.length + 1) + 42) ≤ R.locals) (hRcells : cells + 1 ≤ R.cells) (hRslots : slots + 6 ≤ R.slots) (hlocks : meth.locks = false)
    (hx : ∀ t : State, s.vm.Alike t.vm → H.size ≤ t.heap.size → (∀ q : Nat, q < H.size → t.heap[q]? = H[q]?) → XC cls s t)
    (hf : ∀ z ∈ locs, free z.base) (hc : cells + 1 ≤ mc) (hs : slots + 6 ≤ ms) :
    W p l e R s m args below meth c H locs cells slots (vx_MQ below Qc XC args s mc ms free) (F0 m pc ls rest) := by
  intro T hT X
  have htr : e.platform.stackTraces = false := (show e.platform.stackTraces = l.stackTraces by rw [X.admits.platform]).trans hl
  have Y := vx_rebase X (R' := { frames := R.frames, locals := R.locals, cells := 1, slots := 6 }) (Nat.le_refl _) (Nat.le_refl _) hRcells hRslots
  obtain ⟨s', hA⟩ : ∃ z, z = (T.setVm s.vm).setFrames (.invoking m args :: below) := ⟨_, rfl⟩
  rw [← hA] at Y
  have hvm : s'.vm = s.vm := by rw [hA]; rfl
  have hhp : s'.heap = H := by rw [hA]; exact hT
  have hW0 : s.WarmedH s'.vm := by rw [hvm]; exact State.WarmedH.refl s
  have hat' : ∀ w ∈ vx_at0 own ic cls names, w.before args s' = true := fun w hw => vx_ot_at hW0 hvm.symm (hgood w (List.mem_cons_of_mem _ (List.mem_cons_of_mem _ hw))) (hat w hw)
  have hk' : (Cond.classLink own ik cls).before args s' = true := vx_ot_at hW0 hvm.symm (hgood _ List.mem_cons_self) hk
  have hini' : (Cond.initialized cls).before args s' = true := vx_ot_at hW0 hvm.symm (hgood _ (List.mem_cons_of_mem _ List.mem_cons_self)) hini
  have hU' : vx_Zq Bundle.tN "UNASSIGNED_STACK" Bundle.steD A s' s'.heap := by rw [hhp]; exact vx_Zq.moved hW0.alike (hU.kept hS.2.1)
  have hN' : vx_Zq Bundle.tN "SUPPRESSED_SENTINEL" Bundle.listD A s' s'.heap := by rw [hhp]; exact vx_Zq.moved hW0.alike (hN.kept hS.2.1)
  have h : ∀ w ∈ Bundle.ownAtoms0 own ic cls names, w.before args s' = true := vx_own hat' (vx_isRefq hU'.1) (vx_isRefq hN'.1) hU'.2.word hN'.2.word
  have hown' : s'.vm.findClass own = some m.cls := by rw [hvm]; exact hown
  have hins : (Cond.instantiable cls 6).before args s' = true := h _ (by simp [Bundle.ownAtoms0])
  obtain ⟨vm₁, cX, kX, hfX, hkX, -, -, X₁, st1⟩ := Y.newCold hexec (own := own) (C := cls) (index := ik) (n := 6) hown' hk' hins hini'
    (g := F0 m pc ls rest) rfl (by rw [hb]; exact d0) (Nat.le_refl _) (Nat.le_refl _)
  generalize hT1 : (T.setVm vm₁).pushCell { cls := cX, slots := kX.instanceTypes.map defaultValue, vm := .none } = T1 at X₁ st1
  have hcat : (Value.ref T.heap.size).category = 1 := rfl
  have hcellA : T1.heap[T.heap.size]? = some (freshCell cX kX) := by rw [← hT1]; exact State.heap_pushCell_size _ _
  have d3' : decode c.code (pc + 3) = .ok (.dup, 1) := by rw [hb]; exact d3
  obtain ⟨U, hsteps, hrun, hend, hW, hsame, ce, hce, hO⟩ := X₁.ctorThrow0 hexec htr (own := own) (cls := cls) (names := names) (ic := ic) hown' hcls hnames h (fun x hx => nomatch hx) hfX hkX hcellA (by rw [hhp, hT]; exact Nat.le_refl _)
    (g := { method := m, pc := pc + 4, locals := ls, stack := .ref T.heap.size :: .ref T.heap.size :: rest, locked := none }) rfl hsize rfl rfl (rest := rest) rfl
    (by rw [hb]; exact d4) (by rw [hb]; exact d7) hout hRframes (by simp only [List.map_cons, List.sum_cons, hcat]; omega) hlocks
  obtain ⟨f1, f2⟩ := vx_frame hsame
  rw [hhp] at f1 f2
  have hWs : s.WarmedH U.vm := State.WarmedH.trans hW0 hW
  have hcl : s.vm.findClass cls = some ce.cls := by
    have h9 := hO.cls
    rw [hvm] at h9
    exact h9
  have hall : s.sameButNew ({ U with vm := s.vm } : State) locs mc ms := by
    subst hA
    obtain ⟨e1, e2⟩ := hsame
    rw [State.setFrames_setFrames] at e1
    have h2 : (T.setVm s.vm).sameButNew ({ U with vm := s.vm } : State) [] (0 + 1) (0 + 6) := ⟨e1, e2⟩
    have h3 := X.same.trans h2
    rw [List.append_nil] at h3
    exact h3.mono hc hs
  refine ⟨U, ?_, .threw T.heap.size, hrun, hend, Or.inr ⟨T.heap.size, rfl, cls, ce, locs, hx U hWs.alike f1 (fun q hq => f2 q hq (fun z hz => nomatch hz)), hce, hO.vm, hcl, hWs, hall, hf⟩⟩
  refine st1 _ ?_
  show Steps p.tables e below (T1.setTop { method := m, pc := pc + 3, locals := ls, stack := .ref T.heap.size :: rest, locked := none }) _
  jvm_step X₁.here [X₁.here.top, hexec, d3', Value.category]
  exact hsteps
/-- 'throw new E("text")': new; dup; ldc; invokespecial; athrow -/
theorem vx_throwS {cc : ByteArray} {pc : Nat} (hexec : p.tables.exec = Jvm.exec) (hb : c.code = cc) (hl : l.stackTraces = false) {own cls text : String} {names : List String} {ik is ic mc ms sa : Nat} {A : Nat → Prop}
    (hown : s.vm.findClass own = some m.cls) (hcls : Bundle.fit cls = true) (hnames : ∀ n ∈ names, Bundle.fit n = true)
    (hk : (Cond.classLink own ik cls).before args s = true) (hini : (Cond.initialized cls).before args s = true) (hstr : vk_R own is text sa s) (hat : ∀ w ∈ vx_atS own ic cls names, w.before args s = true)
    (hgood : ∀ w ∈ Cond.classLink own ik cls :: Cond.initialized cls :: vx_atS own ic cls names, vx_ot w = true)
    (hU : vx_Zq Bundle.tN "UNASSIGNED_STACK" Bundle.steD A s s.heap) (hN : vx_Zq Bundle.tN "SUPPRESSED_SENTINEL" Bundle.listD A s s.heap) (hS : va_S A s.heap H locs) (hsize : ls.size = c.maxLocals)
    (d0 : decode cc pc = .ok (.new ik, 3)) (d3 : decode cc (pc + 3) = .ok (.dup, 1)) (d4 : decode cc (pc + 4) = .ok (.ldc is, 2)) (d6 : decode cc (pc + 6) = .ok (.invokespecial ic, 3)) (d9 : decode cc (pc + 9) = .ok (.athrow, 1))
    (hout : ∀ x ∈ c.exceptionTable.toList, covers x (pc + 9) = false)
    (hRframes : names.length + 3 < R.frames) (hRlocals : (rest.map fun v => v.category).sum + (13 * (names.length + 1) + 43) ≤ R.locals) (hRcells : cells + 1 ≤ R.cells) (hRslots : slots + 6 ≤ R.slots) (hlocks : meth.locks = false)
    (hx : ∀ t : State, s.vm.Alike t.vm → H.size ≤ t.heap.size → (∀ q : Nat, q < H.size → t.heap[q]? = H[q]?) → XC cls s t)
    (hf : ∀ z ∈ locs, free z.base) (hc : cells + 1 ≤ mc) (hs : slots + 6 ≤ ms) :
    W p l e R s m args below meth c H locs cells slots (vx_MQ below Qc XC args s mc ms free) (F0 m pc ls rest) := by
  intro T hT X
  have htr : e.platform.stackTraces = false := (show e.platform.stackTraces = l.stackTraces by rw [X.admits.platform]).trans hl
  have Y := vx_rebase X (R' := { frames := R.frames, locals := R.locals, cells := 1, slots := 6 }) (Nat.le_refl _) (Nat.le_refl _) hRcells hRslots
  obtain ⟨s', hA⟩ : ∃ z, z = (T.setVm s.vm).setFrames (.invoking m args :: below) := ⟨_, rfl⟩
  rw [← hA] at Y
  have hvm : s'.vm = s.vm := by rw [hA]; rfl
  have hhp : s'.heap = H := by rw [hA]; exact hT
  have hW0 : s.WarmedH s'.vm := by rw [hvm]; exact State.WarmedH.refl s
  have hat' : ∀ w ∈ vx_atS own ic cls names, w.before args s' = true := fun w hw => vx_ot_at hW0 hvm.symm (hgood w (List.mem_cons_of_mem _ (List.mem_cons_of_mem _ hw))) (hat w hw)
  have hk' : (Cond.classLink own ik cls).before args s' = true := vx_ot_at hW0 hvm.symm (hgood _ List.mem_cons_self) hk
  have hini' : (Cond.initialized cls).before args s' = true := vx_ot_at hW0 hvm.symm (hgood _ (List.mem_cons_of_mem _ List.mem_cons_self)) hini
  have hU' : vx_Zq Bundle.tN "UNASSIGNED_STACK" Bundle.steD A s' s'.heap := by rw [hhp]; exact vx_Zq.moved hW0.alike (hU.kept hS.2.1)
  have hN' : vx_Zq Bundle.tN "SUPPRESSED_SENTINEL" Bundle.listD A s' s'.heap := by rw [hhp]; exact vx_Zq.moved hW0.alike (hN.kept hS.2.1)
  have h : ∀ w ∈ Bundle.ownAtoms own ic cls names, w.before args s' = true := vx_own hat' (vx_isRefq hU'.1) (vx_isRefq hN'.1) hU'.2.word hN'.2.word
  have hown' : s'.vm.findClass own = some m.cls := by rw [hvm]; exact hown
  have hins : (Cond.instantiable cls 6).before args s' = true := h _ (by simp [Bundle.ownAtoms])
  obtain ⟨vm₁, cX, kX, hfX, hkX, -, -, X₁, st1⟩ := Y.newCold hexec (own := own) (C := cls) (index := ik) (n := 6) hown' hk' hins hini'
    (g := F0 m pc ls rest) rfl (by rw [hb]; exact d0) (Nat.le_refl _) (Nat.le_refl _)
  generalize hT1 : (T.setVm vm₁).pushCell { cls := cX, slots := kX.instanceTypes.map defaultValue, vm := .none } = T1 at X₁ st1
  have hcat : (Value.ref T.heap.size).category = 1 := rfl
  have hcellA : T1.heap[T.heap.size]? = some (freshCell cX kX) := by rw [← hT1]; exact State.heap_pushCell_size _ _
  have d3' : decode c.code (pc + 3) = .ok (.dup, 1) := by rw [hb]; exact d3
  have d4' : decode c.code (pc + 4) = .ok (.ldc is, 2) := by rw [hb]; exact d4
  have hstr' : vk_R own is text sa s' := vk_R.warm hW0 hstr
  obtain ⟨U, hsteps, hrun, hend, hW, hsame, ce, hce, hO⟩ := X₁.ctorThrowS hexec htr (own := own) (cls := cls) (names := names) (ic := ic) hown' hcls hnames h (fun x hx => nomatch hx) hfX hkX hcellA (by rw [hhp, hT]; exact Nat.le_refl _) (msg := .ref sa) rfl
    (g := { method := m, pc := pc + 6, locals := ls, stack := .ref sa :: .ref T.heap.size :: .ref T.heap.size :: rest, locked := none }) rfl hsize rfl rfl (rest := rest) rfl
    (by rw [hb]; exact d6) (by rw [hb]; exact d9) hout hRframes (by simp only [List.map_cons, List.sum_cons, hcat]; omega) hlocks
  obtain ⟨f1, f2⟩ := vx_frame hsame
  rw [hhp] at f1 f2
  have hWs : s.WarmedH U.vm := State.WarmedH.trans hW0 hW
  have hcl : s.vm.findClass cls = some ce.cls := by
    have h9 := hO.cls
    rw [hvm] at h9
    exact h9
  have hall : s.sameButNew ({ U with vm := s.vm } : State) locs mc ms := by
    subst hA
    obtain ⟨e1, e2⟩ := hsame
    rw [State.setFrames_setFrames] at e1
    have h2 : (T.setVm s.vm).sameButNew ({ U with vm := s.vm } : State) [] (0 + 1) (0 + 6) := ⟨e1, e2⟩
    have h3 := X.same.trans h2
    rw [List.append_nil] at h3
    exact h3.mono hc hs
  refine ⟨U, ?_, .threw T.heap.size, hrun, hend, Or.inr ⟨T.heap.size, rfl, cls, ce, locs, hx U hWs.alike f1 (fun q hq => f2 q hq (fun z hz => nomatch hz)), hce, hO.vm, hcl, hWs, hall, hf⟩⟩
  refine st1 _ ?_
  show Steps p.tables e below (T1.setTop { method := m, pc := pc + 3, locals := ls, stack := .ref T.heap.size :: rest, locked := none }) _
  jvm_step X₁.here [X₁.here.top, hexec, d3', Value.category]
  exact X₁.ldcString hexec (own := own) (text := text) (index := is) (a := sa) hown' hstr'.1 hstr'.2
    (g := { method := m, pc := pc + 4, locals := ls, stack := .ref T.heap.size :: .ref T.heap.size :: rest, locked := none }) rfl d4' _ hsteps
/-- 'throw new E("text")', the text by a wide index -/
theorem vx_throwSW {cc : ByteArray} {pc : Nat} (hexec : p.tables.exec = Jvm.exec) (hb : c.code = cc) (hl : l.stackTraces = false) {own cls text : String} {names : List String} {ik is ic mc ms sa : Nat} {A : Nat → Prop}
    (hown : s.vm.findClass own = some m.cls) (hcls : Bundle.fit cls = true) (hnames : ∀ n ∈ names, Bundle.fit n = true)
    (hk : (Cond.classLink own ik cls).before args s = true) (hini : (Cond.initialized cls).before args s = true) (hstr : vk_R own is text sa s) (hat : ∀ w ∈ vx_atS own ic cls names, w.before args s = true)
    (hgood : ∀ w ∈ Cond.classLink own ik cls :: Cond.initialized cls :: vx_atS own ic cls names, vx_ot w = true)
    (hU : vx_Zq Bundle.tN "UNASSIGNED_STACK" Bundle.steD A s s.heap) (hN : vx_Zq Bundle.tN "SUPPRESSED_SENTINEL" Bundle.listD A s s.heap) (hS : va_S A s.heap H locs) (hsize : ls.size = c.maxLocals)
    (d0 : decode cc pc = .ok (.new ik, 3)) (d3 : decode cc (pc + 3) = .ok (.dup, 1)) (d4 : decode cc (pc + 4) = .ok (.ldc_w is, 3)) (d7 : decode cc (pc + 7) = .ok (.invokespecial ic, 3)) (d10 : decode cc (pc + 10) = .ok (.athrow, 1))
    (hout : ∀ x ∈ c.exceptionTable.toList, covers x (pc + 10) = false)
    (hRframes : names.length + 3 < R.frames) (hRlocals : (rest.map fun v => v.category).sum + (13 * (names.length + 1) + 43) ≤ R.locals) (hRcells : cells + 1 ≤ R.cells) (hRslots : slots + 6 ≤ R.slots) (hlocks : meth.locks = false)
    (hx : ∀ t : State, s.vm.Alike t.vm → H.size ≤ t.heap.size → (∀ q : Nat, q < H.size → t.heap[q]? = H[q]?) → XC cls s t)
    (hf : ∀ z ∈ locs, free z.base) (hc : cells + 1 ≤ mc) (hs : slots + 6 ≤ ms) :
    W p l e R s m args below meth c H locs cells slots (vx_MQ below Qc XC args s mc ms free) (F0 m pc ls rest) := by
  intro T hT X
  have htr : e.platform.stackTraces = false := (show e.platform.stackTraces = l.stackTraces by rw [X.admits.platform]).trans hl
  have Y := vx_rebase X (R' := { frames := R.frames, locals := R.locals, cells := 1, slots := 6 }) (Nat.le_refl _) (Nat.le_refl _) hRcells hRslots
  obtain ⟨s', hA⟩ : ∃ z, z = (T.setVm s.vm).setFrames (.invoking m args :: below) := ⟨_, rfl⟩
  rw [← hA] at Y
  have hvm : s'.vm = s.vm := by rw [hA]; rfl
  have hhp : s'.heap = H := by rw [hA]; exact hT
  have hW0 : s.WarmedH s'.vm := by rw [hvm]; exact State.WarmedH.refl s
  have hat' : ∀ w ∈ vx_atS own ic cls names, w.before args s' = true := fun w hw => vx_ot_at hW0 hvm.symm (hgood w (List.mem_cons_of_mem _ (List.mem_cons_of_mem _ hw))) (hat w hw)
  have hk' : (Cond.classLink own ik cls).before args s' = true := vx_ot_at hW0 hvm.symm (hgood _ List.mem_cons_self) hk
  have hini' : (Cond.initialized cls).before args s' = true := vx_ot_at hW0 hvm.symm (hgood _ (List.mem_cons_of_mem _ List.mem_cons_self)) hini
  have hU' : vx_Zq Bundle.tN "UNASSIGNED_STACK" Bundle.steD A s' s'.heap := by rw [hhp]; exact vx_Zq.moved hW0.alike (hU.kept hS.2.1)
  have hN' : vx_Zq Bundle.tN "SUPPRESSED_SENTINEL" Bundle.listD A s' s'.heap := by rw [hhp]; exact vx_Zq.moved hW0.alike (hN.kept hS.2.1)
  have h : ∀ w ∈ Bundle.ownAtoms own ic cls names, w.before args s' = true := vx_own hat' (vx_isRefq hU'.1) (vx_isRefq hN'.1) hU'.2.word hN'.2.word
  have hown' : s'.vm.findClass own = some m.cls := by rw [hvm]; exact hown
  have hins : (Cond.instantiable cls 6).before args s' = true := h _ (by simp [Bundle.ownAtoms])
  obtain ⟨vm₁, cX, kX, hfX, hkX, -, -, X₁, st1⟩ := Y.newCold hexec (own := own) (C := cls) (index := ik) (n := 6) hown' hk' hins hini'
    (g := F0 m pc ls rest) rfl (by rw [hb]; exact d0) (Nat.le_refl _) (Nat.le_refl _)
  generalize hT1 : (T.setVm vm₁).pushCell { cls := cX, slots := kX.instanceTypes.map defaultValue, vm := .none } = T1 at X₁ st1
  have hcat : (Value.ref T.heap.size).category = 1 := rfl
  have hcellA : T1.heap[T.heap.size]? = some (freshCell cX kX) := by rw [← hT1]; exact State.heap_pushCell_size _ _
  have d3' : decode c.code (pc + 3) = .ok (.dup, 1) := by rw [hb]; exact d3
  have d4' : decode c.code (pc + 4) = .ok (.ldc_w is, 3) := by rw [hb]; exact d4
  have hstr' : vk_R own is text sa s' := vk_R.warm hW0 hstr
  obtain ⟨U, hsteps, hrun, hend, hW, hsame, ce, hce, hO⟩ := X₁.ctorThrowS hexec htr (own := own) (cls := cls) (names := names) (ic := ic) hown' hcls hnames h (fun x hx => nomatch hx) hfX hkX hcellA (by rw [hhp, hT]; exact Nat.le_refl _) (msg := .ref sa) rfl
    (g := { method := m, pc := pc + 7, locals := ls, stack := .ref sa :: .ref T.heap.size :: .ref T.heap.size :: rest, locked := none }) rfl hsize rfl rfl (rest := rest) rfl
    (by rw [hb]; exact d7) (by rw [hb]; exact d10) hout hRframes (by simp only [List.map_cons, List.sum_cons, hcat]; omega) hlocks
  obtain ⟨f1, f2⟩ := vx_frame hsame
  rw [hhp] at f1 f2
  have hWs : s.WarmedH U.vm := State.WarmedH.trans hW0 hW
  have hcl : s.vm.findClass cls = some ce.cls := by
    have h9 := hO.cls
    rw [hvm] at h9
    exact h9
  have hall : s.sameButNew ({ U with vm := s.vm } : State) locs mc ms := by
    subst hA
    obtain ⟨e1, e2⟩ := hsame
    rw [State.setFrames_setFrames] at e1
    have h2 : (T.setVm s.vm).sameButNew ({ U with vm := s.vm } : State) [] (0 + 1) (0 + 6) := ⟨e1, e2⟩
    have h3 := X.same.trans h2
    rw [List.append_nil] at h3
    exact h3.mono hc hs
  refine ⟨U, ?_, .threw T.heap.size, hrun, hend, Or.inr ⟨T.heap.size, rfl, cls, ce, locs, hx U hWs.alike f1 (fun q hq => f2 q hq (fun z hz => nomatch hz)), hce, hO.vm, hcl, hWs, hall, hf⟩⟩
  refine st1 _ ?_
  show Steps p.tables e below (T1.setTop { method := m, pc := pc + 3, locals := ls, stack := .ref T.heap.size :: rest, locked := none }) _
  jvm_step X₁.here [X₁.here.top, hexec, d3', Value.category]
  exact X₁.ldcStringW hexec (own := own) (text := text) (index := is) (a := sa) hown' hstr'.1 hstr'.2
    (g := { method := m, pc := pc + 4, locals := ls, stack := .ref T.heap.size :: .ref T.heap.size :: rest, locked := none }) rfl d4' _ hsteps
end Ends
section Bodies
variable {l : Launch}
theorem vx_ofW {y : MethodName} {ws ws' : List Cond} {rm : Room} {Pc : Array Value → State → Prop} {Qc : Array Value → State → Outcome → State → Prop} {XC : String → State → State → Prop} {mc ms : Nat} {free : Addr → Prop} {cc : ByteArray} {maxL : Nat} {ret : Option FieldType}
    (hy : plainName y.cls = true) (hw : ws = Cond.code y cc maxL ret :: ws')
    (body : ∀ p e s m args below meth c s₁, BodyLoose p l y (headSpec ws rm) cc maxL ret e s m args below meth c s₁ → c.maxLocals = maxL → (∀ x ∈ c.exceptionTable.toList, False) → Pc args s →
      W p l e (headSpec ws rm).room s m args below meth c s.heap [] 0 0 (vx_MQ below Qc XC args s mc ms free) (entryFrame m args maxL)) : vx_Met l y ws rm Pc Qc XC mc ms free := by
  refine MetFree.of_bodyS (code := cc) (maxLocals := maxL) (ret := ret) hy ?_ ?_
  · intro args s m h hn
    obtain ⟨meth, c, h1, h2, h3, h4, h5, h6, -, -⟩ := Cond.code_spec hn (atoms_spec (ws := ws) h _ (by rw [hw]; exact List.mem_cons_self))
    exact ⟨meth, c, h1, h2, h3, h4, h5, h6⟩
  · intro p e s m args below meth c s₁ B hml hP _
    have hh0 : s₁.heap = s.heap := by rw [B.state]; rfl
    have ht : ∀ x ∈ c.exceptionTable.toList, False := by
      obtain ⟨meth9, c9, h1, h2, -, -, -, -, h7, -⟩ := Cond.code_spec B.named (atoms_spec (ws := ws) B.pre _ (by rw [hw]; exact List.mem_cons_self))
      cases Option.some.inj (h1.symm.trans B.method)
      cases Option.some.inj (h2.symm.trans (Stand.of_body B).code)
      intro x hx
      rw [Array.isEmpty_iff.mp h7] at hx
      cases hx
    obtain ⟨t, a1, o, b1, b2, b3⟩ := body p e s m args below meth c s₁ B hml ht hP s₁ hh0 (Stand.of_body B)
    exact ⟨t, o, a1, b1, b2, b3⟩
/-- the table of a body with handlers -/
theorem vx_table {p : Program} {x y : MethodName} {S : Spec} {cc bytes : ByteArray} {maxL maxL' : Nat} {ret ret' : Option FieldType} {e : Env} {s s₁ : State} {m : MethodId} {args : Array Value} {below : List Frame} {meth : Method} {c : Code} {hh : List (Nat × Nat × Nat × Nat)}
    (B : BodyLoose p l y S cc maxL ret e s m args below meth c s₁) (h : (Cond.codeWith y bytes maxL' ret' hh).before args s = true) : c.exceptionTable.toList = tableOf hh := by
  obtain ⟨m9, meth9, c9, hn9, h1, h2, -, -, h6, -⟩ := Cond.codeWith_spec h
  cases Option.some.inj (hn9.symm.trans B.named)
  cases Option.some.inj (h1.symm.trans B.method)
  cases Option.some.inj (h2.symm.trans (Stand.of_body B).code)
  rw [← h6, table_eq]
end Bodies
end VXA
/-! ===== END ===== -/
/-! ===== BEGIN a static call of a method with an exception table ===== -/
section VXS
variable {p : Program} {l : Launch} {e : Env} {R : Room} {s : State} {m : MethodId} {args : Array Value} {below : List Frame} {meth : Method} {c : Code} {T : State} {H : Heap} {locs : List Loc} {cells slots : Nat}
abbrev vx_CSW (R : Room) (s : State) (args : Array Value) (own : String) (index : Nat) (y : MethodName) (bytes : ByteArray) (maxL : Nat) (ret : Option FieldType) (hh : List (Nat × Nat × Nat × Nat)) (ws : List Cond) (rm : Room) (mc ms n : Nat) : Prop :=
  (rm.cells = mc ∧ rm.slots = ms ∧ rm.frames + 1 ≤ R.frames ∧ 8 + (maxL + 11) + rm.locals ≤ R.locals ∧ (∀ w ∈ ws, ∀ (a' : Array Value) (U : State), s.WarmedH U.vm → w.before a' U = true) ∧ Cond.codeWith y bytes maxL ret hh ∈ ws) ∧
  (Cond.codeWith y bytes maxL ret hh).before args s = true ∧ (Cond.initialized y.cls).before args s = true ∧ (y.cls ≠ "java/lang/invoke/MethodHandle" ∧ y.cls ≠ "java/lang/invoke/VarHandle") ∧
  (∀ sig, parseMethodDescriptor y.desc = some sig → n = sig.parameters.length) ∧ (Cond.methodLink own index y).before args s = true ∧ (Cond.static y).before args s = true
theorem vx_cwSW {own : String} {index maxL mc ms : Nat} {y : MethodName} {bytes : ByteArray} {ret : Option FieldType} {hh : List (Nat × Nat × Nat × Nat)} {Ts ws ws' : List Cond} {rm : Room} (n : Nat) (ht : ∀ w ∈ Ts, w.before args s = true) (hT : GoodIn Ts (va_wsS own index y ws)) (hw : ws = Cond.codeWith y bytes maxL ret hh :: ws') (hrc : rm.cells = mc) (hrs : rm.slots = ms)
    (hd : y.cls ≠ "java/lang/invoke/MethodHandle" ∧ y.cls ≠ "java/lang/invoke/VarHandle" ∧ (parseMethodDescriptor y.desc).map (fun d => d.parameters.length) = some n) (hR : rm.frames + 1 ≤ R.frames ∧ 8 + (maxL + 11) + rm.locals ≤ R.locals) :
    vx_CSW R s args own index y bytes maxL ret hh ws rm mc ms n := by
  have ok : ∀ w ∈ va_wsS own index y ws, w.before args s = true := fun w h => ht w (hT w h).1
  have hG : GoodIn Ts ws := fun w h => hT w (by unfold va_wsS; exact List.mem_append_right _ h)
  have hc : Cond.codeWith y bytes maxL ret hh ∈ ws := by rw [hw]; exact List.mem_cons_self
  refine ⟨⟨hrc, hrs, hR.1, hR.2, pay_in ht hG, hc⟩, ht _ (hG _ hc).1, ok _ (by simp [va_wsS]), ⟨hd.1, hd.2.1⟩, fun sig h => ?_, ok _ (by simp [va_wsS]), ok _ (by simp [va_wsS])⟩
  have h2 := hd.2.2
  rw [h] at h2
  exact (Option.some.inj h2).symm
theorem vx_callSW (X : Stand p l e R s m args below meth c T locs cells slots) (hexec : p.tables.exec = Jvm.exec) {own : String} {index : Nat} {y : MethodName} {bytes : ByteArray} {maxL : Nat} {ret : Option FieldType} {hh : List (Nat × Nat × Nat × Nat)}
    (hown : s.vm.findClass own = some m.cls) (hlink : (Cond.methodLink own index y).before args s = true) (hstat : (Cond.static y).before args s = true) (hinit : (Cond.initialized y.cls).before args s = true)
    (hcode : (Cond.codeWith y bytes maxL ret hh).before args s = true) (hy : y.cls ≠ "java/lang/invoke/MethodHandle" ∧ y.cls ≠ "java/lang/invoke/VarHandle")
    {W9 : Nat} {Pre : Pt → Array Value → Prop} {Post : Pt → Array Value → Option Value → Pt → Prop} (hK : Back l R p e below s args y 3 W9 Pre Post)
    {g : JFrame} (hg : g.method = m) (hsize : g.locals.size = c.maxLocals) {argsL rest : List Value} (hlen : ∀ sig, parseMethodDescriptor y.desc = some sig → argsL.length = sig.parameters.length)
    (hstack : g.stack = argsL.reverse ++ rest) (hW : 2 * g.monitorRoom + (rest.map fun v => v.category).sum ≤ W9) (hdg : decode c.code g.pc = .ok (.invokestatic index, 3))
    (hpre : ∀ vm₁, s.WarmedH vm₁ → Pre ⟨T.setVm vm₁, locs, cells, slots⟩ argsL.toArray) :
    ∃ (v : Option Value) (vm₁ : Vm) (B : Pt), s.WarmedH vm₁ ∧ Stand p l e R s m args below meth c B.U B.locs B.cells B.slots ∧ Post ⟨T.setVm vm₁, locs, cells, slots⟩ argsL.toArray v B ∧
      ∀ target, Steps p.tables e below (B.U.setTop { g with pc := g.pc + 3, stack := v.toList ++ rest }) target → Steps p.tables e below (T.setTop g) target := by
  obtain ⟨mk, methM, cM, hnamed, hmethM, -, -, -, -, -, -, hsigM⟩ := Cond.codeWith_spec hcode
  have hstatic : methM.isStatic = true := Cond.static_spec hnamed hmethM hstat
  obtain ⟨kP, hkP, -⟩ := className_of_methodNamed hnamed
  have hinitP : kP.init = .initialized := Cond.initialized_spec (findClass_of_methodNamed hnamed) hkP hinit
  obtain ⟨vm₁, X₁, hstep₁⟩ := X.invokestatic hexec hown hlink hnamed hmethM hstatic hkP hinitP hy (g := g) hg (argsL := argsL) (rest := rest) (hlen _ hsigM) hstack hdg
  obtain ⟨v, B, X', hpost, hsteps⟩ := hK m meth c ⟨T.setVm vm₁, locs, cells, slots⟩ { g with stack := rest } (.invokestatic index) mk argsL.toArray X₁ hg hsize hdg hW (X₁.named hnamed) (hpre vm₁ X₁.warmed)
  exact ⟨v, vm₁, B, X₁.warmed, X', hpost, fun target h => hstep₁ _ fun acts => by rw [doInvoke_state]; exact hsteps.trans h⟩
theorem vx_runSW {y : MethodName} {bytes cc : ByteArray} {maxL nL mc ms n index : Nat} {ret : Option FieldType} {hh : List (Nat × Nat × Nat × Nat)} {ws : List Cond} {rm : Room} {Pc : Array Value → State → Prop} {Qc : Array Value → State → Outcome → State → Prop} {free : Addr → Prop} {Ts : List Cond} {own : String} {As rest : List Value} {g : JFrame}
    (S : CallFix p m c cc nL s args Ts own) (hM : Met l y ws rm Pc Qc mc ms free) (cw : vx_CSW R s args own index y bytes maxL ret hh ws rm mc ms n) (hp : PreS s H Pc As)
    (hg : g.method = m) (hn : As.length = n) (hsize : g.locals.size = nL) (hstack : g.stack = As.reverse ++ rest) (hW : 2 * g.monitorRoom + (rest.map fun v => v.category).sum ≤ 8) (hdg : decode cc g.pc = .ok (.invokestatic index, 3)) (hf : cells + mc ≤ R.cells ∧ slots + ms ≤ R.slots) :
    va_Run p l e R s m args below meth c H locs cells slots mc ms g rest (Qc As.toArray) (free) := by
  obtain ⟨⟨hrc, hrs, hfr, hlo, hws, hcw⟩, hcode, hini, hy, hlen, hl, hstt⟩ := cw
  have hK : Back l R p e below s args y 3 8 (PreOf R mc ms Pc) (PostOf Qc mc ms free) := va_backW (hh := hh) (bytes := bytes) (maxL := maxL) (ret := ret) hM hp.1 hrc hrs hfr hlo hws hcw (fun a' U hW => word_at hW (Or.inl (by first | rfl | simp [Cond.onTables, Cond.keeps, Cond.steady])) hini)
  obtain ⟨hx, hb, hml, ho, -⟩ := S
  intro T hT X
  obtain ⟨v, vm₁, ⟨U', l2, c2, s2⟩, hW₁, X', ⟨g', mk, t, L, e1, e2, hq, h1, hL, h2, h3⟩, st⟩ := vx_callSW X hx (hh := hh) (bytes := bytes) (maxL := maxL) (ret := ret) ho hl hstt hini hcode hy hK hg (hsize.trans hml.symm) (argsL := As) (rest := rest) (fun sig h => hn.trans (hlen sig h)) hstack hW (by rw [hb]; exact hdg)
    (fun vm₁ hW₁ => ⟨hf.1, hf.2, hp.2 (T.setVm vm₁) hT hW₁⟩)
  dsimp only [Pt.U, Pt.locs, Pt.cells, Pt.slots] at X' e1 e2 h1 h2 h3 st
  subst h1; subst h2; subst h3
  exact ⟨v, (T.setVm vm₁).calling g' mk As.toArray, t, U', L, hT, X', hL, e1, e2, hq, st⟩
/-- not caught here, past rows that name other classes: it goes on to the caller -/
theorem vx_outP {p : Program} {l : Launch} {e : Env} {R : Room} {s : State} {m : MethodId} {args : Array Value} {below : List Frame} {meth : Method} {c : Code} {H : Heap} {locs : List Loc} {cells slots : Nat} {free : Addr → Prop} {ls : Array Slot} {rest : List Value} {Qc : Array Value → State → Outcome → State → Prop} {XC : String → State → State → Prop}
    {pc : Nat} {own E : String} {ce : Cell} {q : Addr} {mc ms : Nat} (hown : s.vm.findClass own = some m.cls) (hlocks : meth.locks = false)
    (hpass : ∀ z ∈ c.exceptionTable.toList, covers z pc = false ∨ (z.catchType ≠ 0 ∧ ∃ nm : String, (Cond.classLink own z.catchType nm).before args s = true ∧ va_Nc E nm s)) (hcell : H[q]? = some ce) (hv : ce.vm = .none) (hcl : s.vm.findClass E = some ce.cls)
    (hx : ∀ t : State, t.heap = H → s.vm.Alike t.vm → XC E s t) (hf : ∀ z ∈ locs, free z.base) (hc : cells ≤ mc) (hs : slots ≤ ms) :
    vx_W p l e R s m args below meth c H locs cells slots (vx_MQ below Qc XC args s mc ms free) (F0 m pc ls rest) q := by
  intro T hT X
  have hpl : e.platform.magicAccessors = ({} : Platform).magicAccessors := by rw [X.admits.platform]
  obtain ⟨vm', hW', X', st⟩ := X.outThrough hlocks q (g := F0 m pc ls rest) rfl rfl rfl (cell := ce) (by rw [hT]; exact hcell) (by rw [hv]; rfl)
    (by obtain ⟨k9, h9, -⟩ := Vm.findClass_spec hcl; exact ⟨k9, h9⟩) (fun z hz => by
      rcases hpass z hz with h | ⟨hz0, nm, hl1, hn1⟩
      · exact Or.inl h
      · obtain ⟨c6, hc6, hcl6⟩ := Cond.classLink_spec hown hl1 e.platform hpl
        obtain ⟨a8, b8, h1, h2, h3⟩ := hn1
        cases Option.some.inj (h1.symm.trans hcl)
        cases Option.some.inj (h2.symm.trans hc6)
        exact Or.inr ⟨hz0, _, hcl6, h3⟩)
  obtain ⟨g₀, hfr⟩ := X'.frames_eq
  have hcell9 : ((T.setVm vm').setFrames (.throwing q :: below)).heap[q]? = some ce := by
    show T.heap[q]? = some ce
    rw [hT]; exact hcell
  have hend : Ended ((T.setVm vm').setFrames (.throwing q :: below)) below (.threw q) := State.frames_setFrames _ (State.cur_lt_of_frames hfr)
  refine ⟨(T.setVm vm').setFrames (.throwing q :: below), ?_, .threw q, X'.here.running, hend, Or.inr ⟨q, rfl, E, ce, locs, hx _ hT (X'.ends _).1.alike, hcell9, hv, hcl, (X'.ends _).1, (X'.ends _).2.mono hc hs, hf⟩⟩
  rw [X.pushThrowing_eq]
  exact st
/-- a thing of a world lies in the heap -/
theorem vx_lt {D : va_G} {cl : List vw_C} {ws : va_W} {H1 : Heap} (h : va_P D cl ws H1) {k : Nat} {q : Nat × va_E} (hk : ws[k]? = some q) : q.1 < H1.size := (h k q hk).lt
end VXS
/-! ===== END ===== -/
/-! ===== BEGIN methods with a table of their own: called by a name, returning or throwing ===== -/
section VXH
/-! vx_backW, vx_callVX, vx_callSX, vx_callVW, vx_runVW, vx_runVX, vx_runSX, vx_ofWH follow the same proofs as their sisters above (Free/Laws.lean, Shelf42/LK1.lean); vx_outP calls Shelf42/NT130.lean (outThrough). -/
section
variable {l : Launch} {R : Room} {p : Program} {e : Env} {below : List Frame} {s : State} {sargs : Array Value} {y : MethodName} {len W9 : Nat}
theorem vx_backW {ws : List Cond} {rm : Room} {Pc : Array Value → State → Prop} {Qc : Array Value → State → Outcome → State → Prop} {XC : String → State → State → Prop} {mc ms : Nat} {free : Addr → Prop} {bytes : ByteArray} {maxL : Nat} {ret : Option FieldType} {hh : List (Nat × Nat × Nat × Nat)}
    (hM : vx_Met l y ws rm Pc Qc XC mc ms free) (hblind : FrameBlind Pc) (hrc : rm.cells = mc) (hrs : rm.slots = ms)
    (hframes : rm.frames + 1 ≤ R.frames) (hlocals : W9 + (maxL + 11) + rm.locals ≤ R.locals)
    (hws : ∀ w ∈ ws, ∀ a' U, s.WarmedH U.vm → w.before a' U = true) (hcode : Cond.codeWith y bytes maxL ret hh ∈ ws) (hinit : ∀ a' U, s.WarmedH U.vm → (Cond.initialized y.cls).before a' U = true) :
    vx_Back l R p e below s sargs y len W9 (PreOf R mc ms Pc) (PostOf Qc mc ms free) (vx_Post XC mc ms free) := by
  intro m meth c A g ig mk a X hg hsize hdg hW hn hp
  have h1 : (headSpec ws rm).pre.before a A.U = true := atoms_intro fun w hw => hws w hw _ _ X.warmed
  have h2 : (Cond.codeWith y bytes maxL ret hh).before a A.U = true := hws _ hcode _ _ X.warmed
  have h3 : (Cond.initialized y.cls).before a A.U = true := hinit _ _ X.warmed
  have h4 : A.cells + (headSpec ws rm).room.cells ≤ R.cells := by rw [show (headSpec ws rm).room.cells = mc from hrc]; exact hp.1
  have h5 : A.slots + (headSpec ws rm).room.slots ≤ R.slots := by rw [show (headSpec ws rm).room.slots = ms from hrs]; exact hp.2.1
  have hPc : Pc a (A.U.calling g mk a) := hblind _ _ _ _ hp.2.2
  obtain ⟨U, Ls, c0, s0⟩ := A
  dsimp only [Pt.U, Pt.locs, Pt.cells, Pt.slots] at h1 h2 h3 h4 h5 X hn hPc ⊢
  obtain ⟨m9, methY, cY, hn9, hmY, hcY, -, hlY, -⟩ := Cond.codeWith_spec h2
  cases Option.some.inj (hn9.symm.trans hn)
  obtain ⟨kY, hkY, -⟩ := className_of_methodNamed hn
  have hinitY : kY.init = .initialized := Cond.initialized_spec (findClass_of_methodNamed hn) hkY h3
  have h : At U g.method c below := by rw [hg]; exact X.here
  have hlocals9 : W9 + (maxL + 11) + (headSpec ws rm).room.locals ≤ R.locals := hlocals
  have happ : (headSpec ws rm).appliesLoose y e.platform (U.calling g mk a) = true :=
    Spec.appliesLoose_calling (g := g) h hdg hn hkY hinitY
      (X.room_calling (g := g) (R' := (headSpec ws rm).room) hsize hmY hcY hframes (by rw [hlY]; omega) h4 h5) h1
  obtain ⟨mid, hmid⟩ := h.above
  have hfr : (U.setTop g).frames = (.java g :: mid) ++ below := by rw [State.frames_setTop' g h.top, hmid]; rfl
  obtain ⟨o, s₂, hsteps, -, hend, hq⟩ := Steps.callFree hM p X.admits X.cas X.clock (acts := []) hfr happ hPc trivial
  have hq' : vx_Q Qc XC mc ms free a (U.calling g mk a) o s₂ := hq
  rw [State.frames_setTop' g h.top] at hend
  obtain ⟨g₀, hg0⟩ := Option.isSome_iff_exists.mp h.top
  obtain ⟨r, hr⟩ := State.topJava?_eq_some.mp hg0
  have hr' : (({ U with heap := s₂.heap, slotsUsed := s₂.slotsUsed } : State).setVm s₂.vm).frames = .java g₀ :: r := hr
  rcases hq' with ⟨hqc, L, hfe, hL⟩ | ⟨q, rfl, E, ce, L, hx, hce, hcv, hcl, hW₂, hsm, hL⟩
  · obtain ⟨⟨v, rfl⟩, hW₂, e2, q2, q3, q4, q5, q6⟩ := id hfe
    have e3 : s₂ = ({ (U.calling g mk a).setFrames s₂.frames with heap := s₂.heap, slotsUsed := s₂.slotsUsed } : State).setVm s₂.vm := by
      have : s₂ = ({ s₂ with vm := (U.calling g mk a).vm } : State).setVm s₂.vm := rfl
      rw [e2] at this
      exact this
    obtain ⟨c₂, i₂, len₂, hc₂, hd₂, hf₂⟩ := hend
    have hW' : U.WarmedH s₂.vm := hW₂
    have hcc : c₂ = c := by
      have h1 : s₂.code? g.method = U.code? g.method := by
        rw [State.code?_eq, State.code?_eq, hW'.alike.method?]
      exact Option.some.inj (hc₂.symm.trans (h1.trans h.code))
    subst hcc
    have hlen : len₂ = len := by rw [hdg] at hd₂; cases hd₂; rfl
    subst hlen
    have hs₂ : s₂ = (({ U with heap := s₂.heap, slotsUsed := s₂.slotsUsed } : State).setVm s₂.vm).setTop { g with pc := g.pc + len₂, stack := v.toList ++ g.stack } := by
      refine e3.trans ?_
      rw [hf₂, State.calling_eq h.top, State.setFrames_setFrames, State.setTop_of_frames _ hr', hr]
      rfl
    have hsame : U.sameButNew ({ U with heap := s₂.heap, slotsUsed := s₂.slotsUsed } : State) L mc ms := by
      refine ⟨?_, q2, q3, q4, q5, q6⟩
      obtain ⟨t, ht, -⟩ := State.frames_cons hr
      show ({ U with heap := s₂.heap, slotsUsed := s₂.slotsUsed } : State) = { U.setFrames U.frames with heap := s₂.heap, slotsUsed := s₂.slotsUsed }
      rw [State.setFrames_self ht]
    subst hg
    refine Or.inl ⟨v, ⟨(({ U with heap := s₂.heap, slotsUsed := s₂.slotsUsed } : State).setVm s₂.vm), Ls ++ L, c0 + mc, s0 + ms⟩,
      ⟨X.admits, X.cas, X.clock, X.frames, X.room, X.hears, X.method, X.code, (X.here.setHeapUsed s₂.heap s₂.slotsUsed).setVm hW'.alike, X.tail, State.WarmedH.trans X.warmed hW', X.limits, X.bytes, X.same.trans (hsame.setVm s.vm)⟩,
      ⟨g, mk, s₂, L, rfl, rfl, hqc, rfl, hL, rfl, rfl⟩, ?_⟩
    show Steps p.tables e below _ ((({ U with heap := s₂.heap, slotsUsed := s₂.slotsUsed } : State).setVm s₂.vm).setTop { g with pc := g.pc + len₂, stack := v.toList ++ g.stack })
    rw [← hs₂]
    exact hsteps
  · obtain ⟨e2, q2, q3, q4, q5, q6⟩ := id hsm
    have e3 : s₂ = ({ (U.calling g mk a).setFrames s₂.frames with heap := s₂.heap, slotsUsed := s₂.slotsUsed } : State).setVm s₂.vm := by
      have : s₂ = ({ s₂ with vm := (U.calling g mk a).vm } : State).setVm s₂.vm := rfl
      rw [e2] at this
      exact this
    have hf₂ : s₂.frames = .throwing q :: .java g :: U.frames.tail := hend
    have hW' : U.WarmedH s₂.vm := hW₂
    have hs₂ : s₂ = ((({ U with heap := s₂.heap, slotsUsed := s₂.slotsUsed } : State).setVm s₂.vm).setTop g).pushFrame (.throwing q) := by
      refine e3.trans ?_
      rw [hf₂, State.calling_eq h.top, State.setFrames_setFrames, State.pushFrame, State.frames_setTop _ hr', State.setTop_of_frames _ hr', State.setFrames_setFrames, hr]
      rfl
    have hsame : U.sameButNew ({ U with heap := s₂.heap, slotsUsed := s₂.slotsUsed } : State) L mc ms := by
      refine ⟨?_, q2, q3, q4, q5, q6⟩
      obtain ⟨t, ht, -⟩ := State.frames_cons hr
      show ({ U with heap := s₂.heap, slotsUsed := s₂.slotsUsed } : State) = { U.setFrames U.frames with heap := s₂.heap, slotsUsed := s₂.slotsUsed }
      rw [State.setFrames_self ht]
    subst hg
    refine Or.inr ⟨q, ⟨(({ U with heap := s₂.heap, slotsUsed := s₂.slotsUsed } : State).setVm s₂.vm), Ls ++ L, c0 + mc, s0 + ms⟩,
      ⟨X.admits, X.cas, X.clock, X.frames, X.room, X.hears, X.method, X.code, (X.here.setHeapUsed s₂.heap s₂.slotsUsed).setVm hW'.alike, X.tail, State.WarmedH.trans X.warmed hW', X.limits, X.bytes, X.same.trans (hsame.setVm s.vm)⟩,
      ⟨g, mk, s₂, L, E, ce, rfl, rfl, hx, hce, hcv, hcl, rfl, hL, rfl, rfl⟩, ?_⟩
    show Steps p.tables e below _ (((({ U with heap := s₂.heap, slotsUsed := s₂.slotsUsed } : State).setVm s₂.vm).setTop g).pushFrame (.throwing q))
    rw [← hs₂]
    exact hsteps
end
variable {p : Program} {l : Launch} {e : Env} {R : Room} {s : State} {m : MethodId} {args : Array Value} {below : List Frame} {meth : Method} {c : Code} {T : State} {H : Heap} {locs : List Loc} {cells slots : Nat}
theorem vx_callVX (X : Stand p l e R s m args below meth c T locs cells slots) (hexec : p.tables.exec = Jvm.exec) {own C : String} {index : Nat} {y : MethodName} {bytes : ByteArray} {maxL : Nat} {ret : Option FieldType} {hh : List (Nat × Nat × Nat × Nat)}
    (hown : s.vm.findClass own = some m.cls) (hlink : (Cond.methodLink own index y).before args s = true) (hinst : (Cond.instanceMethod y).before args s = true) (hsel : (Cond.selects C y y).before args s = true)
    (hcode : (Cond.codeWith y bytes maxL ret hh).before args s = true) (hy : y.cls ≠ "java/lang/invoke/MethodHandle" ∧ y.cls ≠ "java/lang/invoke/VarHandle")
    {W9 : Nat} {Pre : Pt → Array Value → Prop} {Post : Pt → Array Value → Option Value → Pt → Prop} {PostX : Pt → Array Value → Addr → Pt → Prop} (hK : vx_Back l R p e below s args y 3 W9 Pre Post PostX)
    {b : Addr} {cellB : Cell} (hcell : T.heap[b]? = some cellB) (hobj : cellB.vm.isStatics = false) (hcls : s.vm.findClass C = some cellB.cls)
    {g : JFrame} (hg : g.method = m) (hsize : g.locals.size = c.maxLocals) {argsL rest : List Value} (hlen : ∀ sig, parseMethodDescriptor y.desc = some sig → argsL.length = sig.parameters.length)
    (hstack : g.stack = argsL.reverse ++ .ref b :: rest) (hW : 2 * g.monitorRoom + (rest.map fun v => v.category).sum ≤ W9) (hdg : decode c.code g.pc = .ok (.invokevirtual index, 3))
    (hpre : ∀ vm₁, s.WarmedH vm₁ → Pre ⟨T.setVm vm₁, locs, cells, slots⟩ (Value.ref b :: argsL).toArray) :
    (∃ (v : Option Value) (vm₁ : Vm) (B : Pt), s.WarmedH vm₁ ∧ Stand p l e R s m args below meth c B.U B.locs B.cells B.slots ∧ Post ⟨T.setVm vm₁, locs, cells, slots⟩ (Value.ref b :: argsL).toArray v B ∧
      ∀ target, Steps p.tables e below (B.U.setTop { g with pc := g.pc + 3, stack := v.toList ++ rest }) target → Steps p.tables e below (T.setTop g) target) ∨
    (∃ (q : Addr) (vm₁ : Vm) (B : Pt), s.WarmedH vm₁ ∧ Stand p l e R s m args below meth c B.U B.locs B.cells B.slots ∧ PostX ⟨T.setVm vm₁, locs, cells, slots⟩ (Value.ref b :: argsL).toArray q B ∧
      Steps p.tables e below (T.setTop g) ((B.U.setTop { g with stack := rest }).pushFrame (.throwing q))) := by
  obtain ⟨mk, methM, hnamed, hmethM, hstM, habM⟩ := Cond.instanceMethod_spec hinst
  obtain ⟨m8, methM', cM, hn8, hmethM', -, -, -, -, -, -, hsigM⟩ := Cond.codeWith_spec hcode
  cases Option.some.inj (hn8.symm.trans hnamed)
  cases hmethM.symm.trans hmethM'
  obtain ⟨c2, r2, m2, q1, q2, q3, q4, kP, hkP, hkPi⟩ := Cond.selects_spec hsel
  cases hcls.symm.trans q1
  cases (State.methodFound?_of_named hnamed hy).symm.trans q2
  cases hnamed.symm.trans q3
  have hselP : selectMethod e.platform s.vm cellB.cls mk = .method mk := by rw [Launch.admits_selectMethod X.admits]; exact q4
  obtain ⟨vm₁, X₁, hstep₁⟩ := X.invokevirtual hexec hown hlink hnamed hmethM hstM hkP hkPi hy (a := b) (cell := cellB) hcell
    (fun z h => by rw [h] at hobj; cases hobj) hselP hmethM habM hkP hkPi (g := g) hg (argsL := argsL) (rest := rest) (hlen _ hsigM) hstack hdg
  rcases hK m meth c ⟨T.setVm vm₁, locs, cells, slots⟩ { g with stack := rest } (.invokevirtual index) mk (Value.ref b :: argsL).toArray X₁ hg hsize hdg hW (X₁.named hnamed) (hpre vm₁ X₁.warmed) with ⟨v, B, X', hpost, hsteps⟩ | ⟨q, B, X', hpost, hsteps⟩
  · exact Or.inl ⟨v, vm₁, B, X₁.warmed, X', hpost, fun target h => hstep₁ _ fun acts => by rw [doInvoke_state]; exact hsteps.trans h⟩
  · exact Or.inr ⟨q, vm₁, B, X₁.warmed, X', hpost, hstep₁ _ fun acts => by rw [doInvoke_state]; exact hsteps⟩
theorem vx_callSX (X : Stand p l e R s m args below meth c T locs cells slots) (hexec : p.tables.exec = Jvm.exec) {own : String} {index : Nat} {y : MethodName} {bytes : ByteArray} {maxL : Nat} {ret : Option FieldType} {hh : List (Nat × Nat × Nat × Nat)}
    (hown : s.vm.findClass own = some m.cls) (hlink : (Cond.methodLink own index y).before args s = true) (hstat : (Cond.static y).before args s = true) (hinit : (Cond.initialized y.cls).before args s = true)
    (hcode : (Cond.codeWith y bytes maxL ret hh).before args s = true) (hy : y.cls ≠ "java/lang/invoke/MethodHandle" ∧ y.cls ≠ "java/lang/invoke/VarHandle")
    {W9 : Nat} {Pre : Pt → Array Value → Prop} {Post : Pt → Array Value → Option Value → Pt → Prop} {PostX : Pt → Array Value → Addr → Pt → Prop} (hK : vx_Back l R p e below s args y 3 W9 Pre Post PostX)
    {g : JFrame} (hg : g.method = m) (hsize : g.locals.size = c.maxLocals) {argsL rest : List Value} (hlen : ∀ sig, parseMethodDescriptor y.desc = some sig → argsL.length = sig.parameters.length)
    (hstack : g.stack = argsL.reverse ++ rest) (hW : 2 * g.monitorRoom + (rest.map fun v => v.category).sum ≤ W9) (hdg : decode c.code g.pc = .ok (.invokestatic index, 3))
    (hpre : ∀ vm₁, s.WarmedH vm₁ → Pre ⟨T.setVm vm₁, locs, cells, slots⟩ argsL.toArray) :
    (∃ (v : Option Value) (vm₁ : Vm) (B : Pt), s.WarmedH vm₁ ∧ Stand p l e R s m args below meth c B.U B.locs B.cells B.slots ∧ Post ⟨T.setVm vm₁, locs, cells, slots⟩ argsL.toArray v B ∧
      ∀ target, Steps p.tables e below (B.U.setTop { g with pc := g.pc + 3, stack := v.toList ++ rest }) target → Steps p.tables e below (T.setTop g) target) ∨
    (∃ (q : Addr) (vm₁ : Vm) (B : Pt), s.WarmedH vm₁ ∧ Stand p l e R s m args below meth c B.U B.locs B.cells B.slots ∧ PostX ⟨T.setVm vm₁, locs, cells, slots⟩ argsL.toArray q B ∧
      Steps p.tables e below (T.setTop g) ((B.U.setTop { g with stack := rest }).pushFrame (.throwing q))) := by
  obtain ⟨mk, methM, cM, hnamed, hmethM, -, -, -, -, -, -, hsigM⟩ := Cond.codeWith_spec hcode
  have hstatic : methM.isStatic = true := Cond.static_spec hnamed hmethM hstat
  obtain ⟨kP, hkP, -⟩ := className_of_methodNamed hnamed
  have hinitP : kP.init = .initialized := Cond.initialized_spec (findClass_of_methodNamed hnamed) hkP hinit
  obtain ⟨vm₁, X₁, hstep₁⟩ := X.invokestatic hexec hown hlink hnamed hmethM hstatic hkP hinitP hy (g := g) hg (argsL := argsL) (rest := rest) (hlen _ hsigM) hstack hdg
  rcases hK m meth c ⟨T.setVm vm₁, locs, cells, slots⟩ { g with stack := rest } (.invokestatic index) mk argsL.toArray X₁ hg hsize hdg hW (X₁.named hnamed) (hpre vm₁ X₁.warmed) with ⟨v, B, X', hpost, hsteps⟩ | ⟨q, B, X', hpost, hsteps⟩
  · exact Or.inl ⟨v, vm₁, B, X₁.warmed, X', hpost, fun target h => hstep₁ _ fun acts => by rw [doInvoke_state]; exact hsteps.trans h⟩
  · exact Or.inr ⟨q, vm₁, B, X₁.warmed, X', hpost, hstep₁ _ fun acts => by rw [doInvoke_state]; exact hsteps⟩
theorem vx_callVW (X : Stand p l e R s m args below meth c T locs cells slots) (hexec : p.tables.exec = Jvm.exec) {own C : String} {index : Nat} {y : MethodName} {bytes : ByteArray} {maxL : Nat} {ret : Option FieldType} {hh : List (Nat × Nat × Nat × Nat)}
    (hown : s.vm.findClass own = some m.cls) (hlink : (Cond.methodLink own index y).before args s = true) (hinst : (Cond.instanceMethod y).before args s = true) (hsel : (Cond.selects C y y).before args s = true)
    (hcode : (Cond.codeWith y bytes maxL ret hh).before args s = true) (hy : y.cls ≠ "java/lang/invoke/MethodHandle" ∧ y.cls ≠ "java/lang/invoke/VarHandle")
    {W9 : Nat} {Pre : Pt → Array Value → Prop} {Post : Pt → Array Value → Option Value → Pt → Prop} (hK : Back l R p e below s args y 3 W9 Pre Post)
    {b : Addr} {cellB : Cell} (hcell : T.heap[b]? = some cellB) (hobj : cellB.vm.isStatics = false) (hcls : s.vm.findClass C = some cellB.cls)
    {g : JFrame} (hg : g.method = m) (hsize : g.locals.size = c.maxLocals) {argsL rest : List Value} (hlen : ∀ sig, parseMethodDescriptor y.desc = some sig → argsL.length = sig.parameters.length)
    (hstack : g.stack = argsL.reverse ++ .ref b :: rest) (hW : 2 * g.monitorRoom + (rest.map fun v => v.category).sum ≤ W9) (hdg : decode c.code g.pc = .ok (.invokevirtual index, 3))
    (hpre : ∀ vm₁, s.WarmedH vm₁ → Pre ⟨T.setVm vm₁, locs, cells, slots⟩ (Value.ref b :: argsL).toArray) :
    ∃ (v : Option Value) (vm₁ : Vm) (B : Pt), s.WarmedH vm₁ ∧ Stand p l e R s m args below meth c B.U B.locs B.cells B.slots ∧ Post ⟨T.setVm vm₁, locs, cells, slots⟩ (Value.ref b :: argsL).toArray v B ∧
      ∀ target, Steps p.tables e below (B.U.setTop { g with pc := g.pc + 3, stack := v.toList ++ rest }) target → Steps p.tables e below (T.setTop g) target := by
  obtain ⟨mk, methM, hnamed, hmethM, hstM, habM⟩ := Cond.instanceMethod_spec hinst
  obtain ⟨m8, methM', cM, hn8, hmethM', -, -, -, -, -, -, hsigM⟩ := Cond.codeWith_spec hcode
  cases Option.some.inj (hn8.symm.trans hnamed)
  cases hmethM.symm.trans hmethM'
  obtain ⟨c2, r2, m2, q1, q2, q3, q4, kP, hkP, hkPi⟩ := Cond.selects_spec hsel
  cases hcls.symm.trans q1
  cases (State.methodFound?_of_named hnamed hy).symm.trans q2
  cases hnamed.symm.trans q3
  have hselP : selectMethod e.platform s.vm cellB.cls mk = .method mk := by rw [Launch.admits_selectMethod X.admits]; exact q4
  obtain ⟨vm₁, X₁, hstep₁⟩ := X.invokevirtual hexec hown hlink hnamed hmethM hstM hkP hkPi hy (a := b) (cell := cellB) hcell
    (fun z h => by rw [h] at hobj; cases hobj) hselP hmethM habM hkP hkPi (g := g) hg (argsL := argsL) (rest := rest) (hlen _ hsigM) hstack hdg
  obtain ⟨v, B, X', hpost, hsteps⟩ := hK m meth c ⟨T.setVm vm₁, locs, cells, slots⟩ { g with stack := rest } (.invokevirtual index) mk (Value.ref b :: argsL).toArray X₁ hg hsize hdg hW (X₁.named hnamed) (hpre vm₁ X₁.warmed)
  exact ⟨v, vm₁, B, X₁.warmed, X', hpost, fun target h => hstep₁ _ fun acts => by rw [doInvoke_state]; exact hsteps.trans h⟩
abbrev vx_CVW (R : Room) (s : State) (args : Array Value) (own C : String) (index : Nat) (y : MethodName) (bytes : ByteArray) (maxL : Nat) (ret : Option FieldType) (hh : List (Nat × Nat × Nat × Nat)) (ws : List Cond) (rm : Room) (mc ms n : Nat) : Prop :=
  (rm.cells = mc ∧ rm.slots = ms ∧ rm.frames + 1 ≤ R.frames ∧ 8 + (maxL + 11) + rm.locals ≤ R.locals ∧ (∀ w ∈ ws, ∀ (a' : Array Value) (U : State), s.WarmedH U.vm → w.before a' U = true) ∧ Cond.codeWith y bytes maxL ret hh ∈ ws) ∧
  (Cond.codeWith y bytes maxL ret hh).before args s = true ∧ (Cond.initialized y.cls).before args s = true ∧ (y.cls ≠ "java/lang/invoke/MethodHandle" ∧ y.cls ≠ "java/lang/invoke/VarHandle") ∧
  (∀ sig, parseMethodDescriptor y.desc = some sig → n = sig.parameters.length) ∧ (Cond.methodLink own index y).before args s = true ∧ (Cond.instanceMethod y).before args s = true ∧ (Cond.selects C y y).before args s = true
theorem vx_cwVW {own C : String} {index maxL mc ms : Nat} {y : MethodName} {bytes : ByteArray} {ret : Option FieldType} {hh : List (Nat × Nat × Nat × Nat)} {Ts ws ws' : List Cond} {rm : Room} (n : Nat) (ht : ∀ w ∈ Ts, w.before args s = true) (hT : GoodIn Ts (wsV own index C y ws)) (hw : ws = Cond.codeWith y bytes maxL ret hh :: ws') (hrc : rm.cells = mc) (hrs : rm.slots = ms)
    (hd : y.cls = C ∧ y.cls ≠ "java/lang/invoke/MethodHandle" ∧ y.cls ≠ "java/lang/invoke/VarHandle" ∧ (parseMethodDescriptor y.desc).map (fun d => d.parameters.length) = some n) (hR : rm.frames + 1 ≤ R.frames ∧ 8 + (maxL + 11) + rm.locals ≤ R.locals) :
    vx_CVW R s args own C index y bytes maxL ret hh ws rm mc ms n := by
  obtain ⟨hC, hd⟩ := hd
  subst hC
  have ok : ∀ w ∈ wsV own index y.cls y ws, w.before args s = true := fun w h => ht w (hT w h).1
  have hG : GoodIn Ts ws := fun w h => hT w (by unfold wsV; exact List.mem_append_right _ h)
  have hc : Cond.codeWith y bytes maxL ret hh ∈ ws := by rw [hw]; exact List.mem_cons_self
  refine ⟨⟨hrc, hrs, hR.1, hR.2, pay_in ht hG, hc⟩, ht _ (hG _ hc).1, ok _ (by simp [wsV]), ⟨hd.1, hd.2.1⟩, fun sig h => ?_, ok _ (by simp [wsV]), ok _ (by simp [wsV]), ok _ (by simp [wsV])⟩
  have h2 := hd.2.2
  rw [h] at h2
  exact (Option.some.inj h2).symm
theorem vx_runVW {y : MethodName} {bytes cc : ByteArray} {maxL nL mc ms n index : Nat} {ret : Option FieldType} {hh : List (Nat × Nat × Nat × Nat)} {ws : List Cond} {rm : Room} {Pc : Array Value → State → Prop} {Qc : Array Value → State → Outcome → State → Prop} {free : Addr → Prop} {Ts : List Cond} {own C : String} {b : Addr} {As rest : List Value} {g : JFrame}
    (S : CallFix p m c cc nL s args Ts own) (hM : Met l y ws rm Pc Qc mc ms free) (cw : vx_CVW R s args own C index y bytes maxL ret hh ws rm mc ms n) (hp : PreV s H C b Pc As)
    (hg : g.method = m) (hn : As.length = n) (hsize : g.locals.size = nL) (hstack : g.stack = As.reverse ++ .ref b :: rest) (hW : 2 * g.monitorRoom + (rest.map fun v => v.category).sum ≤ 8) (hdg : decode cc g.pc = .ok (.invokevirtual index, 3)) (hf : cells + mc ≤ R.cells ∧ slots + ms ≤ R.slots) :
    va_Run p l e R s m args below meth c H locs cells slots mc ms g rest (Qc (Value.ref b :: As).toArray) free := by
  obtain ⟨⟨hrc, hrs, hfr, hlo, hws, hcw⟩, hcode, hini, hy, hlen, hl, hin, hse⟩ := cw
  have hK : Back l R p e below s args y 3 8 (PreOf R mc ms Pc) (PostOf Qc mc ms free) := va_backW (hh := hh) (bytes := bytes) (maxL := maxL) (ret := ret) hM hp.1 hrc hrs hfr hlo hws hcw (fun a' U hW => word_at hW (Or.inl (by first | rfl | simp [Cond.onTables, Cond.keeps, Cond.steady])) hini)
  obtain ⟨hx, hb, hml, ho, -⟩ := S
  obtain ⟨-, ⟨cellB, hcB, hoB, hclB⟩, hPc⟩ := hp
  intro T hT X
  obtain ⟨v, vm₁, ⟨U', l2, c2, s2⟩, hW₁, X', ⟨g', mk, t, L, e1, e2, hq, h1, hL, h2, h3⟩, st⟩ := vx_callVW X hx (C := C) (hh := hh) (bytes := bytes) (maxL := maxL) (ret := ret) ho hl hin hse hcode hy hK (by rw [hT]; exact hcB) hoB hclB hg (hsize.trans hml.symm) (argsL := As) (rest := rest) (fun sig h => hn.trans (hlen sig h)) hstack hW (by rw [hb]; exact hdg)
    (fun vm₁ hW₁ => ⟨hf.1, hf.2, hPc (T.setVm vm₁) hT hW₁⟩)
  dsimp only [Pt.U, Pt.locs, Pt.cells, Pt.slots] at X' e1 e2 h1 h2 h3 st
  subst h1; subst h2; subst h3
  exact ⟨v, (T.setVm vm₁).calling g' mk (Value.ref b :: As).toArray, t, U', L, hT, X', hL, e1, e2, hq, st⟩
section
variable {y : MethodName} {bytes cc : ByteArray} {maxL nL mc ms n index : Nat} {ret : Option FieldType} {ws : List Cond} {rm : Room} {Pc : Array Value → State → Prop} {Qc : Array Value → State → Outcome → State → Prop} {XC : String → State → State → Prop} {free : Addr → Prop} {Ts : List Cond} {own C : String} {b : Addr} {As rest : List Value} {g : JFrame}
theorem vx_runVX {hh : List (Nat × Nat × Nat × Nat)} (S : CallFix p m c cc nL s args Ts own) (hM : vx_Met l y ws rm Pc Qc XC mc ms free) (cw : vx_CVW R s args own C index y bytes maxL ret hh ws rm mc ms n) (hp : PreV s H C b Pc As)
    (hg : g.method = m) (hn : As.length = n) (hsize : g.locals.size = nL) (hstack : g.stack = As.reverse ++ .ref b :: rest) (hW : 2 * g.monitorRoom + (rest.map fun v => v.category).sum ≤ 8) (hdg : decode cc g.pc = .ok (.invokevirtual index, 3)) (hf : cells + mc ≤ R.cells ∧ slots + ms ≤ R.slots) :
    vx_Run p l e R s m args below meth c H locs cells slots mc ms g rest (Qc (Value.ref b :: As).toArray) XC free := by
  obtain ⟨⟨hrc, hrs, hfr, hlo, hws, hcw⟩, hcode, hini, hy, hlen, hl, hin, hse⟩ := cw
  have hK : vx_Back l R p e below s args y 3 8 (PreOf R mc ms Pc) (PostOf Qc mc ms free) (vx_Post XC mc ms free) := vx_backW (hh := hh) (bytes := bytes) (maxL := maxL) (ret := ret) hM hp.1 hrc hrs hfr hlo hws hcw (fun a' U hW => word_at hW (Or.inl (by first | rfl | simp [Cond.onTables, Cond.keeps, Cond.steady])) hini)
  obtain ⟨hx, hb, hml, ho, -⟩ := S
  obtain ⟨-, ⟨cellB, hcB, hoB, hclB⟩, hPc⟩ := hp
  intro T hT X
  rcases vx_callVX X hx (C := C) (hh := hh) (bytes := bytes) (maxL := maxL) (ret := ret) ho hl hin hse hcode hy hK (by rw [hT]; exact hcB) hoB hclB hg (hsize.trans hml.symm) (argsL := As) (rest := rest) (fun sig h => hn.trans (hlen sig h)) hstack hW (by rw [hb]; exact hdg)
    (fun vm₁ hW₁ => ⟨hf.1, hf.2, hPc (T.setVm vm₁) hT hW₁⟩) with ⟨v, vm₁, ⟨U', l2, c2, s2⟩, hW₁, X', ⟨g', mk, t, L, e1, e2, hq, h1, hL, h2, h3⟩, st⟩ | ⟨q, vm₁, ⟨U', l2, c2, s2⟩, hW₁, X', ⟨g', mk, t, L, E, ce, e1, e2, hq, hce, hcv, hcl, h1, hL, h2, h3⟩, st⟩
  · dsimp only [Pt.U, Pt.locs, Pt.cells, Pt.slots] at X' e1 e2 h1 h2 h3 st
    subst h1; subst h2; subst h3
    exact Or.inl ⟨v, (T.setVm vm₁).calling g' mk (Value.ref b :: As).toArray, t, U', L, hT, X', hL, e1, e2, hq, st⟩
  · dsimp only [Pt.U, Pt.locs, Pt.cells, Pt.slots] at X' e1 e2 h1 h2 h3 st hcl
    subst h1; subst h2; subst h3
    exact Or.inr ⟨q, (T.setVm vm₁).calling g' mk (Value.ref b :: As).toArray, t, U', L, E, ce, hT, X', hL, e1, e2, hq, hce, hcv, vx_cls hW₁ hcl, st⟩
theorem vx_runSX {hh : List (Nat × Nat × Nat × Nat)} (S : CallFix p m c cc nL s args Ts own) (hM : vx_Met l y ws rm Pc Qc XC mc ms free) (cw : vx_CSW R s args own index y bytes maxL ret hh ws rm mc ms n) (hp : PreS s H Pc As)
    (hg : g.method = m) (hn : As.length = n) (hsize : g.locals.size = nL) (hstack : g.stack = As.reverse ++ rest) (hW : 2 * g.monitorRoom + (rest.map fun v => v.category).sum ≤ 8) (hdg : decode cc g.pc = .ok (.invokestatic index, 3)) (hf : cells + mc ≤ R.cells ∧ slots + ms ≤ R.slots) :
    vx_Run p l e R s m args below meth c H locs cells slots mc ms g rest (Qc As.toArray) XC free := by
  obtain ⟨⟨hrc, hrs, hfr, hlo, hws, hcw⟩, hcode, hini, hy, hlen, hl, hstt⟩ := cw
  have hK : vx_Back l R p e below s args y 3 8 (PreOf R mc ms Pc) (PostOf Qc mc ms free) (vx_Post XC mc ms free) := vx_backW (hh := hh) (bytes := bytes) (maxL := maxL) (ret := ret) hM hp.1 hrc hrs hfr hlo hws hcw (fun a' U hW => word_at hW (Or.inl (by first | rfl | simp [Cond.onTables, Cond.keeps, Cond.steady])) hini)
  obtain ⟨hx, hb, hml, ho, -⟩ := S
  intro T hT X
  rcases vx_callSX X hx (hh := hh) (bytes := bytes) (maxL := maxL) (ret := ret) ho hl hstt hini hcode hy hK hg (hsize.trans hml.symm) (argsL := As) (rest := rest) (fun sig h => hn.trans (hlen sig h)) hstack hW (by rw [hb]; exact hdg)
    (fun vm₁ hW₁ => ⟨hf.1, hf.2, hp.2 (T.setVm vm₁) hT hW₁⟩) with ⟨v, vm₁, ⟨U', l2, c2, s2⟩, hW₁, X', ⟨g', mk, t, L, e1, e2, hq, h1, hL, h2, h3⟩, st⟩ | ⟨q, vm₁, ⟨U', l2, c2, s2⟩, hW₁, X', ⟨g', mk, t, L, E, ce, e1, e2, hq, hce, hcv, hcl, h1, hL, h2, h3⟩, st⟩
  · dsimp only [Pt.U, Pt.locs, Pt.cells, Pt.slots] at X' e1 e2 h1 h2 h3 st
    subst h1; subst h2; subst h3
    exact Or.inl ⟨v, (T.setVm vm₁).calling g' mk As.toArray, t, U', L, hT, X', hL, e1, e2, hq, st⟩
  · dsimp only [Pt.U, Pt.locs, Pt.cells, Pt.slots] at X' e1 e2 h1 h2 h3 st hcl
    subst h1; subst h2; subst h3
    exact Or.inr ⟨q, (T.setVm vm₁).calling g' mk As.toArray, t, U', L, E, ce, hT, X', hL, e1, e2, hq, hce, hcv, vx_cls hW₁ hcl, st⟩
end
end VXH
theorem vx_ofWH {l : Launch} {y : MethodName} {ws ws' : List Cond} {rm : Room} {Pc : Array Value → State → Prop} {Qc : Array Value → State → Outcome → State → Prop} {XC : String → State → State → Prop} {mc ms : Nat} {free : Addr → Prop} {cc : ByteArray} {maxL : Nat} {ret : Option FieldType} {hh : List (Nat × Nat × Nat × Nat)}
    (hy : plainName y.cls = true) (hw : ws = Cond.codeWith y cc maxL ret hh :: ws')
    (body : ∀ p e s m args below meth c s₁, BodyLoose p l y (headSpec ws rm) cc maxL ret e s m args below meth c s₁ → c.maxLocals = maxL → Pc args s →
      W p l e (headSpec ws rm).room s m args below meth c s.heap [] 0 0 (vx_MQ below Qc XC args s mc ms free) (entryFrame m args maxL)) : vx_Met l y ws rm Pc Qc XC mc ms free := by
  refine MetFree.of_bodyS (code := cc) (maxLocals := maxL) (ret := ret) hy ?_ ?_
  · intro args s m h hn
    obtain ⟨m9, meth, c, hn9, h1, h2, h3, h4, -, h5, h6, -⟩ := Cond.codeWith_spec (atoms_spec (ws := ws) h _ (by rw [hw]; exact List.mem_cons_self))
    cases hn.symm.trans hn9
    exact ⟨meth, c, h1, h2, h3, h4, h5, h6⟩
  · intro p e s m args below meth c s₁ B hml hP _
    have hh0 : s₁.heap = s.heap := by rw [B.state]; rfl
    obtain ⟨t, a1, o, b1, b2, b3⟩ := body p e s m args below meth c s₁ B hml hP s₁ hh0 (Stand.of_body B)
    exact ⟨t, o, a1, b1, b2, b3⟩
/-! ===== END ===== -/
end
section
def RX0 : String := "RuleArguments$ArgumentList"
def TX0 : u_T := fun k => match k with
  | 0 => ("RuleArguments$ArgumentList", "conclusions", "[I", true)
  | 1 => ("RuleArguments$ArgumentList", "makers", "[I", true)
  | 2 => ("RuleArguments$ArgumentList", "depths", "[I", true)
  | 3 => ("RuleArguments$ArgumentList", "parts", "[I", true)
  | 4 => ("RuleArguments$ArgumentList", "reached", "[I", true)
  | 5 => ("RuleArguments$ArgumentList", "count", "I", false)
  | _ => ("RuleArguments$ArgumentList", "tooMany", "Z", false)
def tyX0 : Nat → FieldType := fun k => match k with
  | 0 => .array .int
  | 1 => .array .int
  | 2 => .array .int
  | 3 => .array .int
  | 4 => .array .int
  | 5 => .int
  | _ => .boolean
abbrev wsX00 : List Cond := u_ws RX0 TX0 7
theorem nmX0 : ∀ a, a < 7 → ∀ b, b < 7 → a ≠ b → (TX0 a).2.1 ≠ (TX0 b).2.1 := by decide +kernel
theorem tyX0_ok : ∀ k, k < 7 → parseFieldDescriptor (TX0 k).2.2.1 = some (tyX0 k) := by decide +kernel
abbrev cX0_init : ByteArray := prog_2_method_1_code
def yX0_init : MethodName := ⟨RX0, "<init>", "()V"⟩
abbrev cX0_conclusionAt : ByteArray := prog_2_method_2_code
def yX0_conclusionAt : MethodName := ⟨RX0, "conclusionAt", "(I)I"⟩
abbrev cX0_makerAt : ByteArray := prog_2_method_3_code
def yX0_makerAt : MethodName := ⟨RX0, "makerAt", "(I)I"⟩
abbrev cX0_depthAt : ByteArray := prog_2_method_4_code
def yX0_depthAt : MethodName := ⟨RX0, "depthAt", "(I)I"⟩
abbrev cX0_partAt : ByteArray := prog_2_method_5_code
def yX0_partAt : MethodName := ⟨RX0, "partAt", "(II)I"⟩
abbrev cX0_reachedAt : ByteArray := prog_2_method_6_code
def yX0_reachedAt : MethodName := ⟨RX0, "reachedAt", "(I)I"⟩
abbrev cX0_build : ByteArray := prog_2_method_7_code
def yX0_build : MethodName := ⟨RX0, "build", "(LRuleArguments$FactBook;LRuleArguments$RuleBook;)V"⟩
abbrev cX0_addMadeBy : ByteArray := prog_2_method_8_code
def yX0_addMadeBy : MethodName := ⟨RX0, "addMadeBy", "(ILRuleArguments$Rule;II)V"⟩
abbrev cX0_choicesStart : ByteArray := prog_2_method_9_code
def yX0_choicesStart : MethodName := ⟨RX0, "choicesStart", "(I)I"⟩
abbrev cX0_choicesEnd : ByteArray := prog_2_method_10_code
def yX0_choicesEnd : MethodName := ⟨RX0, "choicesEnd", "(II)I"⟩
abbrev cX0_fits : ByteArray := prog_2_method_11_code
def yX0_fits : MethodName := ⟨RX0, "fits", "(IIIII)Z"⟩
abbrev cX0_literalBit : ByteArray := prog_2_method_12_code
def yX0_literalBit : MethodName := ⟨RX0, "literalBit", "(I)I"⟩
abbrev cX0_add : ByteArray := prog_2_method_13_code
def yX0_add : MethodName := ⟨RX0, "add", "(IIIIII)V"⟩
def RX1 : String := "RuleArguments$AttackGraph"
def TX1 : u_T := fun k => match k with
  | _ => ("RuleArguments$AttackGraph", "attackers", "[I", true)
def tyX1 : Nat → FieldType := fun k => match k with
  | _ => .array .int
abbrev wsX10 : List Cond := u_ws RX1 TX1 1
theorem nmX1 : ∀ a, a < 1 → ∀ b, b < 1 → a ≠ b → (TX1 a).2.1 ≠ (TX1 b).2.1 := by decide +kernel
theorem tyX1_ok : ∀ k, k < 1 → parseFieldDescriptor (TX1 k).2.2.1 = some (tyX1 k) := by decide +kernel
abbrev cX1_init : ByteArray := prog_3_method_1_code
def yX1_init : MethodName := ⟨RX1, "<init>", "()V"⟩
abbrev cX1_attackersOf : ByteArray := prog_3_method_2_code
def yX1_attackersOf : MethodName := ⟨RX1, "attackersOf", "(I)I"⟩
abbrev cX1_leads : ByteArray := prog_3_method_3_code
def yX1_leads : MethodName := ⟨RX1, "leads", "(II)Z"⟩
abbrev cX1_build : ByteArray := prog_3_method_4_code
def yX1_build : MethodName := ⟨RX1, "build", "(LRuleArguments$ArgumentList;LRuleArguments$RuleBook;)V"⟩
abbrev cX1_attackersOfRule : ByteArray := prog_3_method_5_code
def yX1_attackersOfRule : MethodName := ⟨RX1, "attackersOfRule", "(LRuleArguments$ArgumentList;LRuleArguments$RuleBook;LRuleArguments$Rule;)I"⟩
abbrev cX1_strength : ByteArray := prog_3_method_6_code
def yX1_strength : MethodName := ⟨RX1, "strength", "(LRuleArguments$ArgumentList;LRuleArguments$RuleBook;I)I"⟩
def RX2 : String := "RuleArguments$FactBook"
def TX2 : u_T := fun k => match k with
  | 0 => ("RuleArguments$FactBook", "present", "[Z", true)
  | _ => ("RuleArguments$FactBook", "count", "I", false)
def tyX2 : Nat → FieldType := fun k => match k with
  | 0 => .array .boolean
  | _ => .int
abbrev wsX20 : List Cond := u_ws RX2 TX2 2
theorem nmX2 : ∀ a, a < 2 → ∀ b, b < 2 → a ≠ b → (TX2 a).2.1 ≠ (TX2 b).2.1 := by decide +kernel
theorem tyX2_ok : ∀ k, k < 2 → parseFieldDescriptor (TX2 k).2.2.1 = some (tyX2 k) := by decide +kernel
abbrev cX2_init : ByteArray := prog_4_method_1_code
def yX2_init : MethodName := ⟨RX2, "<init>", "()V"⟩
abbrev cX2_has : ByteArray := prog_4_method_2_code
def yX2_has : MethodName := ⟨RX2, "has", "(I)Z"⟩
abbrev cX2_put : ByteArray := prog_4_method_3_code
def yX2_put : MethodName := ⟨RX2, "put", "(I)V"⟩
abbrev cX2_drop : ByteArray := prog_4_method_4_code
def yX2_drop : MethodName := ⟨RX2, "drop", "(I)V"⟩
def RX3 : String := "RuleArguments$Labelling"
def TX3 : u_T := fun k => match k with
  | 0 => ("RuleArguments$Labelling", "rounds", "[I", true)
  | 1 => ("RuleArguments$Labelling", "in", "I", false)
  | _ => ("RuleArguments$Labelling", "out", "I", false)
def tyX3 : Nat → FieldType := fun k => match k with
  | 0 => .array .int
  | 1 => .int
  | _ => .int
abbrev wsX30 : List Cond := u_ws RX3 TX3 3
theorem nmX3 : ∀ a, a < 3 → ∀ b, b < 3 → a ≠ b → (TX3 a).2.1 ≠ (TX3 b).2.1 := by decide +kernel
theorem tyX3_ok : ∀ k, k < 3 → parseFieldDescriptor (TX3 k).2.2.1 = some (tyX3 k) := by decide +kernel
abbrev cX3_init : ByteArray := prog_5_method_1_code
def yX3_init : MethodName := ⟨RX3, "<init>", "()V"⟩
abbrev cX3_labelAt : ByteArray := prog_5_method_2_code
def yX3_labelAt : MethodName := ⟨RX3, "labelAt", "(I)I"⟩
abbrev cX3_roundAt : ByteArray := prog_5_method_3_code
def yX3_roundAt : MethodName := ⟨RX3, "roundAt", "(I)I"⟩
abbrev cX3_build : ByteArray := prog_5_method_4_code
def yX3_build : MethodName := ⟨RX3, "build", "(LRuleArguments$AttackGraph;I)V"⟩
abbrev cX3_unattacked : ByteArray := prog_5_method_5_code
def yX3_unattacked : MethodName := ⟨RX3, "unattacked", "(LRuleArguments$AttackGraph;I)I"⟩
abbrev cX3_defeated : ByteArray := prog_5_method_6_code
def yX3_defeated : MethodName := ⟨RX3, "defeated", "(LRuleArguments$AttackGraph;I)I"⟩
abbrev cX3_noteRound : ByteArray := prog_5_method_7_code
def yX3_noteRound : MethodName := ⟨RX3, "noteRound", "(II)V"⟩
def RX4 : String := "RuleArguments$Rule"
def TX4 : u_T := fun k => match k with
  | 0 => ("RuleArguments$Rule", "head", "I", true)
  | 1 => ("RuleArguments$Rule", "first", "I", true)
  | 2 => ("RuleArguments$Rule", "second", "I", true)
  | 3 => ("RuleArguments$Rule", "third", "I", true)
  | 4 => ("RuleArguments$Rule", "priority", "I", false)
  | 5 => ("RuleArguments$Rule", "exception", "I", false)
  | _ => ("RuleArguments$Rule", "on", "Z", false)
def tyX4 : Nat → FieldType := fun k => match k with
  | 0 => .int
  | 1 => .int
  | 2 => .int
  | 3 => .int
  | 4 => .int
  | 5 => .int
  | _ => .boolean
abbrev wsX40 : List Cond := u_ws RX4 TX4 7
theorem nmX4 : ∀ a, a < 7 → ∀ b, b < 7 → a ≠ b → (TX4 a).2.1 ≠ (TX4 b).2.1 := by decide +kernel
theorem tyX4_ok : ∀ k, k < 7 → parseFieldDescriptor (TX4 k).2.2.1 = some (tyX4 k) := by decide +kernel
abbrev cX4_init : ByteArray := prog_6_method_1_code
def yX4_init : MethodName := ⟨RX4, "<init>", "(IIIII)V"⟩
def RX5 : String := "RuleArguments$RuleBook"
def TX5 : u_T := fun k => match k with
  | 0 => ("RuleArguments$RuleBook", "kept", "Ljava/util/ArrayList;", true)
  | _ => ("RuleArguments$RuleBook", "missing", "LRuleArguments$Rule;", true)
def tyX5 : Nat → FieldType := fun k => match k with
  | 0 => .object "java/util/ArrayList"
  | _ => .object "RuleArguments$Rule"
abbrev wsX50 : List Cond := u_ws RX5 TX5 2
theorem nmX5 : ∀ a, a < 2 → ∀ b, b < 2 → a ≠ b → (TX5 a).2.1 ≠ (TX5 b).2.1 := by decide +kernel
theorem tyX5_ok : ∀ k, k < 2 → parseFieldDescriptor (TX5 k).2.2.1 = some (tyX5 k) := by decide +kernel
abbrev cX5_init : ByteArray := prog_7_method_1_code
def yX5_init : MethodName := ⟨RX5, "<init>", "()V"⟩
abbrev cX5_size : ByteArray := prog_7_method_2_code
def yX5_size : MethodName := ⟨RX5, "size", "()I"⟩
abbrev cX5_at : ByteArray := prog_7_method_3_code
def yX5_at : MethodName := ⟨RX5, "at", "(I)LRuleArguments$Rule;"⟩
abbrev cX5_put : ByteArray := prog_7_method_4_code
def yX5_put : MethodName := ⟨RX5, "put", "(LRuleArguments$Rule;)V"⟩
def RX6 : String := "RuleArguments$SetList"
def TX6 : u_T := fun k => match k with
  | 0 => ("RuleArguments$SetList", "sets", "[I", true)
  | _ => ("RuleArguments$SetList", "count", "I", false)
def tyX6 : Nat → FieldType := fun k => match k with
  | 0 => .array .int
  | _ => .int
abbrev wsX60 : List Cond := u_ws RX6 TX6 2
theorem nmX6 : ∀ a, a < 2 → ∀ b, b < 2 → a ≠ b → (TX6 a).2.1 ≠ (TX6 b).2.1 := by decide +kernel
theorem tyX6_ok : ∀ k, k < 2 → parseFieldDescriptor (TX6 k).2.2.1 = some (tyX6 k) := by decide +kernel
abbrev cX6_init : ByteArray := prog_8_method_1_code
def yX6_init : MethodName := ⟨RX6, "<init>", "()V"⟩
abbrev cX6_clear : ByteArray := prog_8_method_2_code
def yX6_clear : MethodName := ⟨RX6, "clear", "()V"⟩
abbrev cX6_keep : ByteArray := prog_8_method_3_code
def yX6_keep : MethodName := ⟨RX6, "keep", "(I)V"⟩
abbrev cX6_covers : ByteArray := prog_8_method_4_code
def yX6_covers : MethodName := ⟨RX6, "covers", "(I)Z"⟩
abbrev cX6_contains : ByteArray := prog_8_method_5_code
def yX6_contains : MethodName := ⟨RX6, "contains", "(II)Z"⟩
def RX7 : String := "RuleArguments$SetSearch"
def TX7 : u_T := fun k => match k with
  | 0 => ("RuleArguments$SetSearch", "attackers", "LRuleArguments$UnionTable;", true)
  | 1 => ("RuleArguments$SetSearch", "attacked", "LRuleArguments$UnionTable;", true)
  | 2 => ("RuleArguments$SetSearch", "byTrying", "LRuleArguments$SetList;", true)
  | 3 => ("RuleArguments$SetSearch", "bySweep", "LRuleArguments$SetList;", true)
  | _ => ("RuleArguments$SetSearch", "size", "I", false)
def tyX7 : Nat → FieldType := fun k => match k with
  | 0 => .object "RuleArguments$UnionTable"
  | 1 => .object "RuleArguments$UnionTable"
  | 2 => .object "RuleArguments$SetList"
  | 3 => .object "RuleArguments$SetList"
  | _ => .int
abbrev wsX70 : List Cond := u_ws RX7 TX7 5
theorem nmX7 : ∀ a, a < 5 → ∀ b, b < 5 → a ≠ b → (TX7 a).2.1 ≠ (TX7 b).2.1 := by decide +kernel
theorem tyX7_ok : ∀ k, k < 5 → parseFieldDescriptor (TX7 k).2.2.1 = some (tyX7 k) := by decide +kernel
abbrev cX7_init : ByteArray := prog_9_method_1_code
def yX7_init : MethodName := ⟨RX7, "<init>", "()V"⟩
abbrev cX7_prepare : ByteArray := prog_9_method_2_code
def yX7_prepare : MethodName := ⟨RX7, "prepare", "(LRuleArguments$AttackGraph;I)V"⟩
abbrev cX7_tryAll : ByteArray := prog_9_method_3_code
def yX7_tryAll : MethodName := ⟨RX7, "tryAll", "()V"⟩
abbrev cX7_tryFrom : ByteArray := prog_9_method_4_code
def yX7_tryFrom : MethodName := ⟨RX7, "tryFrom", "(LRuleArguments$SetSearch;II)V"⟩
abbrev cX7_sweep : ByteArray := prog_9_method_5_code
def yX7_sweep : MethodName := ⟨RX7, "sweep", "()V"⟩
abbrev cX7_restFrom : ByteArray := prog_9_method_6_code
def yX7_restFrom : MethodName := ⟨RX7, "restFrom", "(I)I"⟩
abbrev cX7_isPeaceful : ByteArray := prog_9_method_7_code
def yX7_isPeaceful : MethodName := ⟨RX7, "isPeaceful", "(I)Z"⟩
abbrev cX7_canDefend : ByteArray := prog_9_method_8_code
def yX7_canDefend : MethodName := ⟨RX7, "canDefend", "(II)Z"⟩
def RX8 : String := "RuleArguments$UnionTable"
def TX8 : u_T := fun k => match k with
  | 0 => ("RuleArguments$UnionTable", "rows", "[I", true)
  | 1 => ("RuleArguments$UnionTable", "lower", "[I", true)
  | _ => ("RuleArguments$UnionTable", "upper", "[I", true)
def tyX8 : Nat → FieldType := fun k => match k with
  | 0 => .array .int
  | 1 => .array .int
  | _ => .array .int
abbrev wsX80 : List Cond := u_ws RX8 TX8 3
theorem nmX8 : ∀ a, a < 3 → ∀ b, b < 3 → a ≠ b → (TX8 a).2.1 ≠ (TX8 b).2.1 := by decide +kernel
theorem tyX8_ok : ∀ k, k < 3 → parseFieldDescriptor (TX8 k).2.2.1 = some (tyX8 k) := by decide +kernel
abbrev cX8_init : ByteArray := prog_10_method_1_code
def yX8_init : MethodName := ⟨RX8, "<init>", "()V"⟩
abbrev cX8_clearRows : ByteArray := prog_10_method_2_code
def yX8_clearRows : MethodName := ⟨RX8, "clearRows", "()V"⟩
abbrev cX8_addToRow : ByteArray := prog_10_method_3_code
def yX8_addToRow : MethodName := ⟨RX8, "addToRow", "(II)V"⟩
abbrev cX8_fillHalves : ByteArray := prog_10_method_4_code
def yX8_fillHalves : MethodName := ⟨RX8, "fillHalves", "()V"⟩
abbrev cX8_of : ByteArray := prog_10_method_5_code
def yX8_of : MethodName := ⟨RX8, "of", "(I)I"⟩
def RX9 : String := "RuleArguments"
def TX9 : u_T := fun k => match k with
  | 0 => ("RuleArguments", "factBook", "LRuleArguments$FactBook;", true)
  | 1 => ("RuleArguments", "ruleBook", "LRuleArguments$RuleBook;", true)
  | 2 => ("RuleArguments", "list", "LRuleArguments$ArgumentList;", true)
  | 3 => ("RuleArguments", "graph", "LRuleArguments$AttackGraph;", true)
  | 4 => ("RuleArguments", "labelling", "LRuleArguments$Labelling;", true)
  | 5 => ("RuleArguments", "search", "LRuleArguments$SetSearch;", true)
  | 6 => ("RuleArguments", "built", "Z", false)
  | 7 => ("RuleArguments", "tried", "Z", false)
  | _ => ("RuleArguments", "swept", "Z", false)
def tyX9 : Nat → FieldType := fun k => match k with
  | 0 => .object "RuleArguments$FactBook"
  | 1 => .object "RuleArguments$RuleBook"
  | 2 => .object "RuleArguments$ArgumentList"
  | 3 => .object "RuleArguments$AttackGraph"
  | 4 => .object "RuleArguments$Labelling"
  | 5 => .object "RuleArguments$SetSearch"
  | 6 => .boolean
  | 7 => .boolean
  | _ => .boolean
abbrev wsX90 : List Cond := u_ws RX9 TX9 9
theorem nmX9 : ∀ a, a < 9 → ∀ b, b < 9 → a ≠ b → (TX9 a).2.1 ≠ (TX9 b).2.1 := by decide +kernel
theorem tyX9_ok : ∀ k, k < 9 → parseFieldDescriptor (TX9 k).2.2.1 = some (tyX9 k) := by decide +kernel
abbrev cX9_init : ByteArray := prog_1_method_1_code
def yX9_init : MethodName := ⟨RX9, "<init>", "()V"⟩
abbrev cX9_addFact : ByteArray := prog_1_method_2_code
def yX9_addFact : MethodName := ⟨RX9, "addFact", "(I)I"⟩
abbrev cX9_takeBack : ByteArray := prog_1_method_3_code
def yX9_takeBack : MethodName := ⟨RX9, "takeBack", "(I)Z"⟩
abbrev cX9_addRule : ByteArray := prog_1_method_4_code
def yX9_addRule : MethodName := ⟨RX9, "addRule", "(IIIII)I"⟩
abbrev cX9_setPriority : ByteArray := prog_1_method_5_code
def yX9_setPriority : MethodName := ⟨RX9, "setPriority", "(II)I"⟩
abbrev cX9_setException : ByteArray := prog_1_method_6_code
def yX9_setException : MethodName := ⟨RX9, "setException", "(II)I"⟩
abbrev cX9_turn : ByteArray := prog_1_method_7_code
def yX9_turn : MethodName := ⟨RX9, "turn", "(IZ)Z"⟩
abbrev cX9_facts : ByteArray := prog_1_method_8_code
def yX9_facts : MethodName := ⟨RX9, "facts", "()I"⟩
abbrev cX9_rules : ByteArray := prog_1_method_9_code
def yX9_rules : MethodName := ⟨RX9, "rules", "()I"⟩
abbrev cX9_arguments : ByteArray := prog_1_method_10_code
def yX9_arguments : MethodName := ⟨RX9, "arguments", "()I"⟩
abbrev cX9_conclusion : ByteArray := prog_1_method_11_code
def yX9_conclusion : MethodName := ⟨RX9, "conclusion", "(I)I"⟩
abbrev cX9_madeBy : ByteArray := prog_1_method_12_code
def yX9_madeBy : MethodName := ⟨RX9, "madeBy", "(I)I"⟩
abbrev cX9_part : ByteArray := prog_1_method_13_code
def yX9_part : MethodName := ⟨RX9, "part", "(II)I"⟩
abbrev cX9_depth : ByteArray := prog_1_method_14_code
def yX9_depth : MethodName := ⟨RX9, "depth", "(I)I"⟩
abbrev cX9_attacks : ByteArray := prog_1_method_15_code
def yX9_attacks : MethodName := ⟨RX9, "attacks", "(II)Z"⟩
abbrev cX9_label : ByteArray := prog_1_method_16_code
def yX9_label : MethodName := ⟨RX9, "label", "(I)I"⟩
abbrev cX9_round : ByteArray := prog_1_method_17_code
def yX9_round : MethodName := ⟨RX9, "round", "(I)I"⟩
abbrev cX9_holds : ByteArray := prog_1_method_18_code
def yX9_holds : MethodName := ⟨RX9, "holds", "(I)I"⟩
abbrev cX9_reasonFor : ByteArray := prog_1_method_19_code
def yX9_reasonFor : MethodName := ⟨RX9, "reasonFor", "(I)I"⟩
abbrev cX9_reasonAgainst : ByteArray := prog_1_method_20_code
def yX9_reasonAgainst : MethodName := ⟨RX9, "reasonAgainst", "(I)I"⟩
abbrev cX9_preferred : ByteArray := prog_1_method_21_code
def yX9_preferred : MethodName := ⟨RX9, "preferred", "()I"⟩
abbrev cX9_preferredByAllSets : ByteArray := prog_1_method_22_code
def yX9_preferredByAllSets : MethodName := ⟨RX9, "preferredByAllSets", "()I"⟩
abbrev cX9_isInSet : ByteArray := prog_1_method_23_code
def yX9_isInSet : MethodName := ⟨RX9, "isInSet", "(II)Z"⟩
abbrev cX9_setsFor : ByteArray := prog_1_method_24_code
def yX9_setsFor : MethodName := ⟨RX9, "setsFor", "(I)I"⟩
abbrev cX9_isLiteralOrNone : ByteArray := prog_1_method_25_code
def yX9_isLiteralOrNone : MethodName := ⟨RX9, "isLiteralOrNone", "(I)Z"⟩
abbrev cX9_demandLiteral : ByteArray := prog_1_method_26_code
def yX9_demandLiteral : MethodName := ⟨RX9, "demandLiteral", "(I)V"⟩
abbrev cX9_demandLiteralOrNone : ByteArray := prog_1_method_27_code
def yX9_demandLiteralOrNone : MethodName := ⟨RX9, "demandLiteralOrNone", "(I)V"⟩
abbrev cX9_demandPriority : ByteArray := prog_1_method_28_code
def yX9_demandPriority : MethodName := ⟨RX9, "demandPriority", "(I)V"⟩
abbrev cX9_followsInBody : ByteArray := prog_1_method_29_code
def yX9_followsInBody : MethodName := ⟨RX9, "followsInBody", "(II)Z"⟩
abbrev cX9_demandRule : ByteArray := prog_1_method_30_code
def yX9_demandRule : MethodName := ⟨RX9, "demandRule", "(I)V"⟩
abbrev cX9_demandTold : ByteArray := prog_1_method_31_code
def yX9_demandTold : MethodName := ⟨RX9, "demandTold", "()V"⟩
abbrev cX9_demandFew : ByteArray := prog_1_method_32_code
def yX9_demandFew : MethodName := ⟨RX9, "demandFew", "()V"⟩
abbrev cX9_demandArgument : ByteArray := prog_1_method_33_code
def yX9_demandArgument : MethodName := ⟨RX9, "demandArgument", "(I)V"⟩
abbrev cX9_forget : ByteArray := prog_1_method_34_code
def yX9_forget : MethodName := ⟨RX9, "forget", "()V"⟩
abbrev cX9_build : ByteArray := prog_1_method_35_code
def yX9_build : MethodName := ⟨RX9, "build", "()V"⟩
abbrev cX9_trySets : ByteArray := prog_1_method_36_code
def yX9_trySets : MethodName := ⟨RX9, "trySets", "()V"⟩
abbrev cX9_sweepSets : ByteArray := prog_1_method_37_code
def yX9_sweepSets : MethodName := ⟨RX9, "sweepSets", "()V"⟩
abbrev cX9_lowestAttacker : ByteArray := prog_1_method_38_code
def yX9_lowestAttacker : MethodName := ⟨RX9, "lowestAttacker", "(II)I"⟩
abbrev cX9_concludesInSet : ByteArray := prog_1_method_39_code
def yX9_concludesInSet : MethodName := ⟨RX9, "concludesInSet", "(II)Z"⟩
abbrev cX9_setBit : ByteArray := prog_1_method_40_code
def yX9_setBit : MethodName := ⟨RX9, "setBit", "(I)I"⟩
def RX10 : String := "RuleArgumentsModel"
def TX10 : u_T := fun k => match k with
  | 0 => ("RuleArgumentsModel", "thrown", "I", false)
  | 1 => ("RuleArgumentsModel", "isFact", "[Z", true)
  | 2 => ("RuleArgumentsModel", "rules", "I", false)
  | 3 => ("RuleArgumentsModel", "heads", "[I", true)
  | 4 => ("RuleArgumentsModel", "bodies", "[I", true)
  | 5 => ("RuleArgumentsModel", "priorities", "[I", true)
  | 6 => ("RuleArgumentsModel", "exceptions", "[I", true)
  | 7 => ("RuleArgumentsModel", "isOn", "[Z", true)
  | 8 => ("RuleArgumentsModel", "many", "I", false)
  | 9 => ("RuleArgumentsModel", "isTooMany", "Z", false)
  | 10 => ("RuleArgumentsModel", "conclusions", "[I", true)
  | 11 => ("RuleArgumentsModel", "makers", "[I", true)
  | 12 => ("RuleArgumentsModel", "parts", "[I", true)
  | 13 => ("RuleArgumentsModel", "depths", "[I", true)
  | 14 => ("RuleArgumentsModel", "builtOf", "[I", true)
  | 15 => ("RuleArgumentsModel", "attackers", "[I", true)
  | 16 => ("RuleArgumentsModel", "labels", "[I", true)
  | 17 => ("RuleArgumentsModel", "rounds", "[I", true)
  | 18 => ("RuleArgumentsModel", "admissible", "[Z", true)
  | _ => ("RuleArgumentsModel", "extended", "[Z", true)
def tyX10 : Nat → FieldType := fun k => match k with
  | 0 => .int
  | 1 => .array .boolean
  | 2 => .int
  | 3 => .array .int
  | 4 => .array .int
  | 5 => .array .int
  | 6 => .array .int
  | 7 => .array .boolean
  | 8 => .int
  | 9 => .boolean
  | 10 => .array .int
  | 11 => .array .int
  | 12 => .array .int
  | 13 => .array .int
  | 14 => .array .int
  | 15 => .array .int
  | 16 => .array .int
  | 17 => .array .int
  | 18 => .array .boolean
  | _ => .array .boolean
abbrev wsX100 : List Cond := u_ws RX10 TX10 20
theorem nmX10 : ∀ a, a < 20 → ∀ b, b < 20 → a ≠ b → (TX10 a).2.1 ≠ (TX10 b).2.1 := by decide +kernel
theorem tyX10_ok : ∀ k, k < 20 → parseFieldDescriptor (TX10 k).2.2.1 = some (tyX10 k) := by decide +kernel
abbrev cX10_init : ByteArray := prog_12_method_1_code
def yX10_init : MethodName := ⟨RX10, "<init>", "()V"⟩
abbrev cX10_thrown : ByteArray := prog_12_method_2_code
def yX10_thrown : MethodName := ⟨RX10, "thrown", "()I"⟩
abbrev cX10_isLiteral : ByteArray := prog_12_method_3_code
def yX10_isLiteral : MethodName := ⟨RX10, "isLiteral", "(I)Z"⟩
abbrev cX10_isLiteralOrNone : ByteArray := prog_12_method_4_code
def yX10_isLiteralOrNone : MethodName := ⟨RX10, "isLiteralOrNone", "(I)Z"⟩
abbrev cX10_passes : ByteArray := prog_12_method_5_code
def yX10_passes : MethodName := ⟨RX10, "passes", "(I)Z"⟩
abbrev cX10_factsNow : ByteArray := prog_12_method_6_code
def yX10_factsNow : MethodName := ⟨RX10, "factsNow", "()I"⟩
abbrev cX10_addFact : ByteArray := prog_12_method_7_code
def yX10_addFact : MethodName := ⟨RX10, "addFact", "(I)I"⟩
abbrev cX10_takeBack : ByteArray := prog_12_method_8_code
def yX10_takeBack : MethodName := ⟨RX10, "takeBack", "(I)Z"⟩
abbrev cX10_addRule : ByteArray := prog_12_method_9_code
def yX10_addRule : MethodName := ⟨RX10, "addRule", "(IIIII)I"⟩
abbrev cX10_isRule : ByteArray := prog_12_method_10_code
def yX10_isRule : MethodName := ⟨RX10, "isRule", "(I)Z"⟩
abbrev cX10_setPriority : ByteArray := prog_12_method_11_code
def yX10_setPriority : MethodName := ⟨RX10, "setPriority", "(II)I"⟩
abbrev cX10_setException : ByteArray := prog_12_method_12_code
def yX10_setException : MethodName := ⟨RX10, "setException", "(II)I"⟩
abbrev cX10_turn : ByteArray := prog_12_method_13_code
def yX10_turn : MethodName := ⟨RX10, "turn", "(IZ)Z"⟩
abbrev cX10_facts : ByteArray := prog_12_method_14_code
def yX10_facts : MethodName := ⟨RX10, "facts", "()I"⟩
abbrev cX10_rules : ByteArray := prog_12_method_15_code
def yX10_rules : MethodName := ⟨RX10, "rules", "()I"⟩
abbrev cX10_lays : ByteArray := prog_12_method_16_code
def yX10_lays : MethodName := ⟨RX10, "lays", "(IIIIII)V"⟩
abbrev cX10_withAll : ByteArray := prog_12_method_17_code
def yX10_withAll : MethodName := ⟨RX10, "withAll", "(I)I"⟩
abbrev cX10_isPart : ByteArray := prog_12_method_18_code
def yX10_isPart : MethodName := ⟨RX10, "isPart", "(III)Z"⟩
abbrev cX10_isBuiltOf : ByteArray := prog_12_method_19_code
def yX10_isBuiltOf : MethodName := ⟨RX10, "isBuiltOf", "(II)Z"⟩
abbrev cX10_depthOf : ByteArray := prog_12_method_20_code
def yX10_depthOf : MethodName := ⟨RX10, "depthOf", "(I)I"⟩
abbrev cX10_makes : ByteArray := prog_12_method_21_code
def yX10_makes : MethodName := ⟨RX10, "makes", "(III)V"⟩
abbrev cX10_builds : ByteArray := prog_12_method_22_code
def yX10_builds : MethodName := ⟨RX10, "builds", "()V"⟩
abbrev cX10_strengthOf : ByteArray := prog_12_method_23_code
def yX10_strengthOf : MethodName := ⟨RX10, "strengthOf", "(I)I"⟩
abbrev cX10_opposes : ByteArray := prog_12_method_24_code
def yX10_opposes : MethodName := ⟨RX10, "opposes", "(II)Z"⟩
abbrev cX10_laysAttacks : ByteArray := prog_12_method_25_code
def yX10_laysAttacks : MethodName := ⟨RX10, "laysAttacks", "()V"⟩
abbrev cX10_isTold : ByteArray := prog_12_method_26_code
def yX10_isTold : MethodName := ⟨RX10, "isTold", "(I)Z"⟩
abbrev cX10_isArgument : ByteArray := prog_12_method_27_code
def yX10_isArgument : MethodName := ⟨RX10, "isArgument", "(I)Z"⟩
abbrev cX10_arguments : ByteArray := prog_12_method_28_code
def yX10_arguments : MethodName := ⟨RX10, "arguments", "()I"⟩
abbrev cX10_conclusion : ByteArray := prog_12_method_29_code
def yX10_conclusion : MethodName := ⟨RX10, "conclusion", "(I)I"⟩
abbrev cX10_madeBy : ByteArray := prog_12_method_30_code
def yX10_madeBy : MethodName := ⟨RX10, "madeBy", "(I)I"⟩
abbrev cX10_part : ByteArray := prog_12_method_31_code
def yX10_part : MethodName := ⟨RX10, "part", "(II)I"⟩
abbrev cX10_depth : ByteArray := prog_12_method_32_code
def yX10_depth : MethodName := ⟨RX10, "depth", "(I)I"⟩
abbrev cX10_attacks : ByteArray := prog_12_method_33_code
def yX10_attacks : MethodName := ⟨RX10, "attacks", "(II)Z"⟩
abbrev cX10_withLabel : ByteArray := prog_12_method_34_code
def yX10_withLabel : MethodName := ⟨RX10, "withLabel", "(I)I"⟩
abbrev cX10_labelsAll : ByteArray := prog_12_method_35_code
def yX10_labelsAll : MethodName := ⟨RX10, "labelsAll", "()V"⟩
abbrev cX10_label : ByteArray := prog_12_method_36_code
def yX10_label : MethodName := ⟨RX10, "label", "(I)I"⟩
abbrev cX10_round : ByteArray := prog_12_method_37_code
def yX10_round : MethodName := ⟨RX10, "round", "(I)I"⟩
abbrev cX10_isAsked : ByteArray := prog_12_method_38_code
def yX10_isAsked : MethodName := ⟨RX10, "isAsked", "(I)Z"⟩
abbrev cX10_holds : ByteArray := prog_12_method_39_code
def yX10_holds : MethodName := ⟨RX10, "holds", "(I)I"⟩
abbrev cX10_reasonFor : ByteArray := prog_12_method_40_code
def yX10_reasonFor : MethodName := ⟨RX10, "reasonFor", "(I)I"⟩
abbrev cX10_lowest : ByteArray := prog_12_method_41_code
def yX10_lowest : MethodName := ⟨RX10, "lowest", "(I)I"⟩
abbrev cX10_reasonAgainst : ByteArray := prog_12_method_42_code
def yX10_reasonAgainst : MethodName := ⟨RX10, "reasonAgainst", "(I)I"⟩
abbrev cX10_has : ByteArray := prog_12_method_43_code
def yX10_has : MethodName := ⟨RX10, "has", "(II)Z"⟩
abbrev cX10_turned : ByteArray := prog_12_method_44_code
def yX10_turned : MethodName := ⟨RX10, "turned", "(I)I"⟩
abbrev cX10_isAdmissible : ByteArray := prog_12_method_45_code
def yX10_isAdmissible : MethodName := ⟨RX10, "isAdmissible", "(I)Z"⟩
abbrev cX10_prefers : ByteArray := prog_12_method_46_code
def yX10_prefers : MethodName := ⟨RX10, "prefers", "()I"⟩
abbrev cX10_areFew : ByteArray := prog_12_method_47_code
def yX10_areFew : MethodName := ⟨RX10, "areFew", "(I)Z"⟩
abbrev cX10_preferred : ByteArray := prog_12_method_48_code
def yX10_preferred : MethodName := ⟨RX10, "preferred", "()I"⟩
abbrev cX10_preferredByAllSets : ByteArray := prog_12_method_49_code
def yX10_preferredByAllSets : MethodName := ⟨RX10, "preferredByAllSets", "()I"⟩
abbrev cX10_setAt : ByteArray := prog_12_method_50_code
def yX10_setAt : MethodName := ⟨RX10, "setAt", "(I)I"⟩
abbrev cX10_isInSet : ByteArray := prog_12_method_51_code
def yX10_isInSet : MethodName := ⟨RX10, "isInSet", "(II)Z"⟩
abbrev cX10_setsFor : ByteArray := prog_12_method_52_code
def yX10_setsFor : MethodName := ⟨RX10, "setsFor", "(I)I"⟩
def RJx145de : String := "java/io/Serializable"
def TJx145de : u_T := fun k => match k with
  | _ => ("", "", "", false)
def tyJx145de : Nat → FieldType := fun k => match k with
  | _ => .int
abbrev wsJx145de0 : List Cond := u_ws RJx145de TJx145de 0
theorem nmJx145de : ∀ a, a < 0 → ∀ b, b < 0 → a ≠ b → (TJx145de a).2.1 ≠ (TJx145de b).2.1 := by decide +kernel
theorem tyJx145de_ok : ∀ k, k < 0 → parseFieldDescriptor (TJx145de k).2.2.1 = some (tyJx145de k) := by decide +kernel
def RJx8e188 : String := "java/lang/Cloneable"
def TJx8e188 : u_T := fun k => match k with
  | _ => ("", "", "", false)
def tyJx8e188 : Nat → FieldType := fun k => match k with
  | _ => .int
abbrev wsJx8e1880 : List Cond := u_ws RJx8e188 TJx8e188 0
theorem nmJx8e188 : ∀ a, a < 0 → ∀ b, b < 0 → a ≠ b → (TJx8e188 a).2.1 ≠ (TJx8e188 b).2.1 := by decide +kernel
theorem tyJx8e188_ok : ∀ k, k < 0 → parseFieldDescriptor (TJx8e188 k).2.2.1 = some (tyJx8e188 k) := by decide +kernel
def RJxab1ab : String := "java/lang/Iterable"
def TJxab1ab : u_T := fun k => match k with
  | _ => ("", "", "", false)
def tyJxab1ab : Nat → FieldType := fun k => match k with
  | _ => .int
abbrev wsJxab1ab0 : List Cond := u_ws RJxab1ab TJxab1ab 0
theorem nmJxab1ab : ∀ a, a < 0 → ∀ b, b < 0 → a ≠ b → (TJxab1ab a).2.1 ≠ (TJxab1ab b).2.1 := by decide +kernel
theorem tyJxab1ab_ok : ∀ k, k < 0 → parseFieldDescriptor (TJxab1ab k).2.2.1 = some (tyJxab1ab k) := by decide +kernel
def RJ9 : String := "java/lang/Math"
def TJ9 : u_T := fun k => match k with
  | _ => ("", "", "", false)
def tyJ9 : Nat → FieldType := fun k => match k with
  | _ => .int
abbrev wsJ90 : List Cond := u_ws RJ9 TJ9 0
theorem nmJ9 : ∀ a, a < 0 → ∀ b, b < 0 → a ≠ b → (TJ9 a).2.1 ≠ (TJ9 b).2.1 := by decide +kernel
theorem tyJ9_ok : ∀ k, k < 0 → parseFieldDescriptor (TJ9 k).2.2.1 = some (tyJ9 k) := by decide +kernel
abbrev cJ9_max_7cf53 : ByteArray := prog_20_method_65_code
def yJ9_max_7cf53 : MethodName := ⟨RJ9, "max", "(II)I"⟩
abbrev cJ9_min_7cf53 : ByteArray := prog_20_method_69_code
def yJ9_min_7cf53 : MethodName := ⟨RJ9, "min", "(II)I"⟩
def RJ0 : String := "java/lang/String"
def TJ0 : u_T := fun k => match k with
  | _ => ("", "", "", false)
def tyJ0 : Nat → FieldType := fun k => match k with
  | _ => .int
abbrev wsJ00 : List Cond := u_ws RJ0 TJ0 0
theorem nmJ0 : ∀ a, a < 0 → ∀ b, b < 0 → a ≠ b → (TJ0 a).2.1 ≠ (TJ0 b).2.1 := by decide +kernel
theorem tyJ0_ok : ∀ k, k < 0 → parseFieldDescriptor (TJ0 k).2.2.1 = some (tyJ0 k) := by decide +kernel
def RJ10 : String := "java/lang/System"
def TJ10 : u_T := fun k => match k with
  | _ => ("", "", "", false)
def tyJ10 : Nat → FieldType := fun k => match k with
  | _ => .int
abbrev wsJ100 : List Cond := u_ws RJ10 TJ10 0
theorem nmJ10 : ∀ a, a < 0 → ∀ b, b < 0 → a ≠ b → (TJ10 a).2.1 ≠ (TJ10 b).2.1 := by decide +kernel
theorem tyJ10_ok : ∀ k, k < 0 → parseFieldDescriptor (TJ10 k).2.2.1 = some (tyJ10 k) := by decide +kernel
def RJxa1e45 : String := "java/util/AbstractCollection"
def TJxa1e45 : u_T := fun k => match k with
  | _ => ("", "", "", false)
def tyJxa1e45 : Nat → FieldType := fun k => match k with
  | _ => .int
abbrev wsJxa1e450 : List Cond := u_ws RJxa1e45 TJxa1e45 0
theorem nmJxa1e45 : ∀ a, a < 0 → ∀ b, b < 0 → a ≠ b → (TJxa1e45 a).2.1 ≠ (TJxa1e45 b).2.1 := by decide +kernel
theorem tyJxa1e45_ok : ∀ k, k < 0 → parseFieldDescriptor (TJxa1e45 k).2.2.1 = some (tyJxa1e45 k) := by decide +kernel
abbrev cJxa1e45_init_da8c8 : ByteArray := prog_25_method_1_code
def yJxa1e45_init_da8c8 : MethodName := ⟨RJxa1e45, "<init>", "()V"⟩
def RJxc12de : String := "java/util/AbstractList"
def TJxc12de : u_T := fun k => match k with
  | _ => ("", "", "", false)
def tyJxc12de : Nat → FieldType := fun k => match k with
  | _ => .int
abbrev wsJxc12de0 : List Cond := u_ws RJxc12de TJxc12de 0
theorem nmJxc12de : ∀ a, a < 0 → ∀ b, b < 0 → a ≠ b → (TJxc12de a).2.1 ≠ (TJxc12de b).2.1 := by decide +kernel
theorem tyJxc12de_ok : ∀ k, k < 0 → parseFieldDescriptor (TJxc12de k).2.2.1 = some (tyJxc12de k) := by decide +kernel
abbrev cJxc12de_init_da8c8 : ByteArray := prog_26_method_1_code
def yJxc12de_init_da8c8 : MethodName := ⟨RJxc12de, "<init>", "()V"⟩
def RJx4a65c : String := "java/util/ArrayList"
def TJx4a65c : u_T := fun k => match k with
  | 0 => ("java/util/AbstractList", "modCount", "I", false)
  | 1 => ("java/util/ArrayList", "elementData", "[Ljava/lang/Object;", false)
  | _ => ("java/util/ArrayList", "size", "I", false)
def tyJx4a65c : Nat → FieldType := fun k => match k with
  | 0 => .int
  | 1 => .array (.object "java/lang/Object")
  | _ => .int
abbrev wsJx4a65c0 : List Cond := u_ws RJx4a65c TJx4a65c 3
theorem nmJx4a65c : ∀ a, a < 3 → ∀ b, b < 3 → a ≠ b → (TJx4a65c a).2.1 ≠ (TJx4a65c b).2.1 := by decide +kernel
theorem tyJx4a65c_ok : ∀ k, k < 3 → parseFieldDescriptor (TJx4a65c k).2.2.1 = some (tyJx4a65c k) := by decide +kernel
abbrev cJx4a65c_init_da8c8 : ByteArray := prog_27_method_2_code
def yJx4a65c_init_da8c8 : MethodName := ⟨RJx4a65c, "<init>", "()V"⟩
abbrev cJx4a65c_grow_92f84 : ByteArray := prog_27_method_6_code
def yJx4a65c_grow_92f84 : MethodName := ⟨RJx4a65c, "grow", "(I)[Ljava/lang/Object;"⟩
abbrev cJx4a65c_grow_d5877 : ByteArray := prog_27_method_7_code
def yJx4a65c_grow_d5877 : MethodName := ⟨RJx4a65c, "grow", "()[Ljava/lang/Object;"⟩
abbrev cJx4a65c_size_8abf5 : ByteArray := prog_27_method_8_code
def yJx4a65c_size_8abf5 : MethodName := ⟨RJx4a65c, "size", "()I"⟩
abbrev cJx4a65c_elementData_915e3 : ByteArray := prog_27_method_18_code
def yJx4a65c_elementData_915e3 : MethodName := ⟨RJx4a65c, "elementData", "(I)Ljava/lang/Object;"⟩
abbrev cJx4a65c_get_915e3 : ByteArray := prog_27_method_20_code
def yJx4a65c_get_915e3 : MethodName := ⟨RJx4a65c, "get", "(I)Ljava/lang/Object;"⟩
abbrev cJx4a65c_add_72be8 : ByteArray := prog_27_method_24_code
def yJx4a65c_add_72be8 : MethodName := ⟨RJx4a65c, "add", "(Ljava/lang/Object;[Ljava/lang/Object;I)V"⟩
abbrev cJx4a65c_add_9ea2d : ByteArray := prog_27_method_25_code
def yJx4a65c_add_9ea2d : MethodName := ⟨RJx4a65c, "add", "(Ljava/lang/Object;)Z"⟩
def RJ7 : String := "java/util/Arrays"
def TJ7 : u_T := fun k => match k with
  | _ => ("", "", "", false)
def tyJ7 : Nat → FieldType := fun k => match k with
  | _ => .int
abbrev wsJ70 : List Cond := u_ws RJ7 TJ7 0
theorem nmJ7 : ∀ a, a < 0 → ∀ b, b < 0 → a ≠ b → (TJ7 a).2.1 ≠ (TJ7 b).2.1 := by decide +kernel
theorem tyJ7_ok : ∀ k, k < 0 → parseFieldDescriptor (TJ7 k).2.2.1 = some (tyJ7 k) := by decide +kernel
abbrev cJ7_copyOf_1904c : ByteArray := prog_28_method_119_code
def yJ7_copyOf_1904c : MethodName := ⟨RJ7, "copyOf", "([Ljava/lang/Object;I)[Ljava/lang/Object;"⟩
abbrev cJ7_copyOf_6403c : ByteArray := prog_28_method_120_code
def yJ7_copyOf_6403c : MethodName := ⟨RJ7, "copyOf", "([Ljava/lang/Object;ILjava/lang/Class;)[Ljava/lang/Object;"⟩
def RJx5ef63 : String := "java/util/Collection"
def TJx5ef63 : u_T := fun k => match k with
  | _ => ("", "", "", false)
def tyJx5ef63 : Nat → FieldType := fun k => match k with
  | _ => .int
abbrev wsJx5ef630 : List Cond := u_ws RJx5ef63 TJx5ef63 0
theorem nmJx5ef63 : ∀ a, a < 0 → ∀ b, b < 0 → a ≠ b → (TJx5ef63 a).2.1 ≠ (TJx5ef63 b).2.1 := by decide +kernel
theorem tyJx5ef63_ok : ∀ k, k < 0 → parseFieldDescriptor (TJx5ef63 k).2.2.1 = some (tyJx5ef63 k) := by decide +kernel
def RJxbd725 : String := "java/util/List"
def TJxbd725 : u_T := fun k => match k with
  | _ => ("", "", "", false)
def tyJxbd725 : Nat → FieldType := fun k => match k with
  | _ => .int
abbrev wsJxbd7250 : List Cond := u_ws RJxbd725 TJxbd725 0
theorem nmJxbd725 : ∀ a, a < 0 → ∀ b, b < 0 → a ≠ b → (TJxbd725 a).2.1 ≠ (TJxbd725 b).2.1 := by decide +kernel
theorem tyJxbd725_ok : ∀ k, k < 0 → parseFieldDescriptor (TJxbd725 k).2.2.1 = some (tyJxbd725 k) := by decide +kernel
def RJ15 : String := "java/util/Objects"
def TJ15 : u_T := fun k => match k with
  | _ => ("", "", "", false)
def tyJ15 : Nat → FieldType := fun k => match k with
  | _ => .int
abbrev wsJ150 : List Cond := u_ws RJ15 TJ15 0
theorem nmJ15 : ∀ a, a < 0 → ∀ b, b < 0 → a ≠ b → (TJ15 a).2.1 ≠ (TJ15 b).2.1 := by decide +kernel
theorem tyJ15_ok : ∀ k, k < 0 → parseFieldDescriptor (TJ15 k).2.2.1 = some (tyJ15 k) := by decide +kernel
abbrev cJ15_checkIndex_7cf53 : ByteArray := prog_31_method_17_code
def yJ15_checkIndex_7cf53 : MethodName := ⟨RJ15, "checkIndex", "(II)I"⟩
def RJxf0a74 : String := "java/util/RandomAccess"
def TJxf0a74 : u_T := fun k => match k with
  | _ => ("", "", "", false)
def tyJxf0a74 : Nat → FieldType := fun k => match k with
  | _ => .int
abbrev wsJxf0a740 : List Cond := u_ws RJxf0a74 TJxf0a74 0
theorem nmJxf0a74 : ∀ a, a < 0 → ∀ b, b < 0 → a ≠ b → (TJxf0a74 a).2.1 ≠ (TJxf0a74 b).2.1 := by decide +kernel
theorem tyJxf0a74_ok : ∀ k, k < 0 → parseFieldDescriptor (TJxf0a74 k).2.2.1 = some (tyJxf0a74 k) := by decide +kernel
def RJxa66e6 : String := "java/util/SequencedCollection"
def TJxa66e6 : u_T := fun k => match k with
  | _ => ("", "", "", false)
def tyJxa66e6 : Nat → FieldType := fun k => match k with
  | _ => .int
abbrev wsJxa66e60 : List Cond := u_ws RJxa66e6 TJxa66e6 0
theorem nmJxa66e6 : ∀ a, a < 0 → ∀ b, b < 0 → a ≠ b → (TJxa66e6 a).2.1 ≠ (TJxa66e6 b).2.1 := by decide +kernel
theorem tyJxa66e6_ok : ∀ k, k < 0 → parseFieldDescriptor (TJxa66e6 k).2.2.1 = some (tyJxa66e6 k) := by decide +kernel
def RJ8 : String := "jdk/internal/util/ArraysSupport"
def TJ8 : u_T := fun k => match k with
  | _ => ("", "", "", false)
def tyJ8 : Nat → FieldType := fun k => match k with
  | _ => .int
abbrev wsJ80 : List Cond := u_ws RJ8 TJ8 0
theorem nmJ8 : ∀ a, a < 0 → ∀ b, b < 0 → a ≠ b → (TJ8 a).2.1 ≠ (TJ8 b).2.1 := by decide +kernel
theorem tyJ8_ok : ∀ k, k < 0 → parseFieldDescriptor (TJ8 k).2.2.1 = some (tyJ8 k) := by decide +kernel
abbrev cJ8_newLength_cabcc : ByteArray := prog_34_method_27_code
def yJ8_newLength_cabcc : MethodName := ⟨RJ8, "newLength", "(III)I"⟩
abbrev cJ8_hugeLength_7cf53 : ByteArray := prog_34_method_28_code
def yJ8_hugeLength_7cf53 : MethodName := ⟨RJ8, "hugeLength", "(II)I"⟩
def RJ3 : String := "jdk/internal/util/Preconditions"
def TJ3 : u_T := fun k => match k with
  | _ => ("", "", "", false)
def tyJ3 : Nat → FieldType := fun k => match k with
  | _ => .int
abbrev wsJ30 : List Cond := u_ws RJ3 TJ3 0
theorem nmJ3 : ∀ a, a < 0 → ∀ b, b < 0 → a ≠ b → (TJ3 a).2.1 ≠ (TJ3 b).2.1 := by decide +kernel
theorem tyJ3_ok : ∀ k, k < 0 → parseFieldDescriptor (TJ3 k).2.2.1 = some (tyJ3 k) := by decide +kernel
abbrev cJ3_checkIndex_8e157 : ByteArray := prog_35_method_11_code
def yJ3_checkIndex_8e157 : MethodName := ⟨RJ3, "checkIndex", "(IILjava/util/function/BiFunction;)I"⟩
def RL : String := "RuleArgumentsLaw"
abbrev cL_addFact : ByteArray := method_3_code
def yL_addFact : MethodName := ⟨RL, "addFact", "(LRuleArguments;I[J)I"⟩
abbrev cL_takeBack : ByteArray := method_4_code
def yL_takeBack : MethodName := ⟨RL, "takeBack", "(LRuleArguments;I[J)I"⟩
abbrev cL_addRule : ByteArray := method_5_code
def yL_addRule : MethodName := ⟨RL, "addRule", "(LRuleArguments;IIIII[J)I"⟩
abbrev cL_setPriority : ByteArray := method_6_code
def yL_setPriority : MethodName := ⟨RL, "setPriority", "(LRuleArguments;II[J)I"⟩
abbrev cL_setException : ByteArray := method_7_code
def yL_setException : MethodName := ⟨RL, "setException", "(LRuleArguments;II[J)I"⟩
abbrev cL_turn : ByteArray := method_8_code
def yL_turn : MethodName := ⟨RL, "turn", "(LRuleArguments;IZ[J)I"⟩
abbrev cL_conclusion : ByteArray := method_9_code
def yL_conclusion : MethodName := ⟨RL, "conclusion", "(LRuleArguments;I[J)I"⟩
abbrev cL_madeBy : ByteArray := method_10_code
def yL_madeBy : MethodName := ⟨RL, "madeBy", "(LRuleArguments;I[J)I"⟩
abbrev cL_part : ByteArray := method_11_code
def yL_part : MethodName := ⟨RL, "part", "(LRuleArguments;II[J)I"⟩
abbrev cL_depth : ByteArray := method_12_code
def yL_depth : MethodName := ⟨RL, "depth", "(LRuleArguments;I[J)I"⟩
abbrev cL_attacks : ByteArray := method_13_code
def yL_attacks : MethodName := ⟨RL, "attacks", "(LRuleArguments;II[J)I"⟩
abbrev cL_label : ByteArray := method_14_code
def yL_label : MethodName := ⟨RL, "label", "(LRuleArguments;I[J)I"⟩
abbrev cL_round : ByteArray := method_15_code
def yL_round : MethodName := ⟨RL, "round", "(LRuleArguments;I[J)I"⟩
abbrev cL_holds : ByteArray := method_16_code
def yL_holds : MethodName := ⟨RL, "holds", "(LRuleArguments;I[J)I"⟩
abbrev cL_reasonFor : ByteArray := method_17_code
def yL_reasonFor : MethodName := ⟨RL, "reasonFor", "(LRuleArguments;I[J)I"⟩
abbrev cL_reasonAgainst : ByteArray := method_18_code
def yL_reasonAgainst : MethodName := ⟨RL, "reasonAgainst", "(LRuleArguments;I[J)I"⟩
abbrev cL_preferred : ByteArray := method_19_code
def yL_preferred : MethodName := ⟨RL, "preferred", "(LRuleArguments;[J)I"⟩
abbrev cL_preferredByAllSets : ByteArray := method_20_code
def yL_preferredByAllSets : MethodName := ⟨RL, "preferredByAllSets", "(LRuleArguments;[J)I"⟩
abbrev cL_isInSet : ByteArray := method_21_code
def yL_isInSet : MethodName := ⟨RL, "isInSet", "(LRuleArguments;II[J)I"⟩
abbrev cL_setsFor : ByteArray := method_22_code
def yL_setsFor : MethodName := ⟨RL, "setsFor", "(LRuleArguments;I[J)I"⟩
abbrev cL_law : ByteArray := code
def yL_law : MethodName := ⟨RL, "law", "([I)Z"⟩
abbrev vwCl : List vw_C := [(RJx4a65c, TJx4a65c, 3), (RX0, TX0, 7), (RX1, TX1, 1), (RX2, TX2, 2), (RX3, TX3, 3), (RX4, TX4, 7), (RX5, TX5, 2), (RX6, TX6, 2), (RX7, TX7, 5), (RX8, TX8, 3), (RX9, TX9, 9), (RX10, TX10, 20)]
end
section
def wAll_0 : List Cond := [.code yX0_init cX0_init 1 none, .methodLink RX0 3 objectInit, .instanceMethod objectInit, .code objectInit ⟨#[0xb1]⟩ 1 none, .fieldLink RX0 9 "RuleArguments$ArgumentList" "conclusions" "[I", .fieldLink RX0 15 "RuleArguments$ArgumentList" "makers" "[I", .fieldLink RX0 18 "RuleArguments$ArgumentList" "depths" "[I", .fieldLink RX0 21 "RuleArguments$ArgumentList" "parts" "[I", .fieldLink RX0 24 "RuleArguments$ArgumentList" "reached" "[I", .code yX0_conclusionAt cX0_conclusionAt 2 (some .int), .code yX0_makerAt cX0_makerAt 2 (some .int), .code yX0_depthAt cX0_depthAt 2 (some .int), .code yX0_partAt cX0_partAt 3 (some .int), .code yX0_reachedAt cX0_reachedAt 2 (some .int), .code yX9_isLiteralOrNone cX9_isLiteralOrNone 1 (some .boolean), .code yX2_has cX2_has 2 (some .boolean), .fieldLink RX2 9 "RuleArguments$FactBook" "present" "[Z", .static yX9_isLiteralOrNone, .initialized RX9, .code yX0_literalBit cX0_literalBit 1 (some .int), .code yX0_add cX0_add 7 none, .fieldLink RX0 27 "RuleArguments$ArgumentList" "count" "I", .fieldLink RX0 31 "RuleArguments$ArgumentList" "tooMany" "Z", .methodLink RX0 102 yX0_literalBit, .static yX0_literalBit, .initialized RX0, .methodLink RX0 99 yX0_reachedAt, .instanceMethod yX0_reachedAt, .selects RX0 yX0_reachedAt yX0_reachedAt, .code yJx4a65c_size_8abf5 cJx4a65c_size_8abf5 1 (some .int), .fieldLink RJx4a65c 48 "java/util/ArrayList" "size" "I", .code yX5_size cX5_size 1 (some .int), .fieldLink RX5 12 "RuleArguments$RuleBook" "kept" "Ljava/util/ArrayList;", .methodLink RX5 31 yJx4a65c_size_8abf5, .instanceMethod yJx4a65c_size_8abf5, .selects RJx4a65c yJx4a65c_size_8abf5 yJx4a65c_size_8abf5, .initialized RJx4a65c, .code yJ3_checkIndex_8e157 cJ3_checkIndex_8e157 3 (some .int), .code yJ15_checkIndex_7cf53 cJ15_checkIndex_7cf53 2 (some .int), .methodLink RJ15 105 yJ3_checkIndex_8e157]
def wAll_1 : List Cond := [.static yJ3_checkIndex_8e157, .initialized RJ3, .code yJx4a65c_elementData_915e3 cJx4a65c_elementData_915e3 2 (some (.object "java/lang/Object")), .fieldLink RJx4a65c 9 "java/util/ArrayList" "elementData" "[Ljava/lang/Object;", .code yJx4a65c_get_915e3 cJx4a65c_get_915e3 2 (some (.object "java/lang/Object")), .methodLink RJx4a65c 118 yJ15_checkIndex_7cf53, .static yJ15_checkIndex_7cf53, .initialized RJ15, .methodLink RJx4a65c 123 yJx4a65c_elementData_915e3, .instanceMethod yJx4a65c_elementData_915e3, .selects RJx4a65c yJx4a65c_elementData_915e3 yJx4a65c_elementData_915e3, .classLink RX5 18 "RuleArguments$Rule", .fieldLink RX5 23 "RuleArguments$RuleBook" "missing" "LRuleArguments$Rule;", .methodLink RX5 35 yJx4a65c_get_915e3, .instanceMethod yJx4a65c_get_915e3, .selects RJx4a65c yJx4a65c_get_915e3 yJx4a65c_get_915e3, .code yX5_at cX5_at 2 (some (.object "RuleArguments$Rule")), .code yX0_choicesEnd cX0_choicesEnd 2 (some .int), .code yX0_choicesStart cX0_choicesStart 1 (some .int), .code yX0_fits cX0_fits 8 (some .boolean), .methodLink RX0 94 Lib.Math.max.name, .static Lib.Math.max.name, .initialized "java/lang/Math", .code Lib.Math.max.name Lib.Math.max.code 2 (some .int), .methodLink RX0 91 yX0_depthAt, .instanceMethod yX0_depthAt, .selects RX0 yX0_depthAt yX0_depthAt, .methodLink RX0 67 yX0_choicesEnd, .static yX0_choicesEnd, .methodLink RX0 77 yX0_choicesStart, .static yX0_choicesStart, .methodLink RX0 81 yX0_conclusionAt, .instanceMethod yX0_conclusionAt, .selects RX0 yX0_conclusionAt yX0_conclusionAt, .methodLink RX0 87 yX0_fits, .instanceMethod yX0_fits, .selects RX0 yX0_fits yX0_fits, .methodLink RX0 41 yX0_add, .instanceMethod yX0_add, .selects RX0 yX0_add yX0_add]
def wAll_2 : List Cond := [.code yX0_addMadeBy cX0_addMadeBy 11 none, .methodLink RX0 35 yX2_has, .instanceMethod yX2_has, .selects RX2 yX2_has yX2_has, .initialized RX2, .methodLink RX0 45 yX5_size, .instanceMethod yX5_size, .selects RX5 yX5_size yX5_size, .initialized RX5, .methodLink RX0 51 yX5_at, .instanceMethod yX5_at, .selects RX5 yX5_at yX5_at, .methodLink RX0 60 yX0_addMadeBy, .instanceMethod yX0_addMadeBy, .selects RX0 yX0_addMadeBy yX0_addMadeBy, .code yX0_build cX0_build 6 none, .code yX1_init cX1_init 1 none, .methodLink RX1 3 objectInit, .fieldLink RX1 9 "RuleArguments$AttackGraph" "attackers" "[I", .code yX1_attackersOf cX1_attackersOf 2 (some .int), .code yX1_leads cX1_leads 3 (some .boolean), .methodLink RX1 15 yX1_attackersOf, .instanceMethod yX1_attackersOf, .selects RX1 yX1_attackersOf yX1_attackersOf, .initialized RX1, .methodLink RX1 25 yX0_makerAt, .instanceMethod yX0_makerAt, .selects RX0 yX0_makerAt yX0_makerAt, .methodLink RX1 28 yX5_at, .code yX1_strength cX1_strength 4 (some .int), .methodLink RX1 42 yX0_conclusionAt, .methodLink RX1 50 yX1_strength, .static yX1_strength, .code yX1_attackersOfRule cX1_attackersOfRule 7 (some .int), .methodLink RX1 34 yX1_attackersOfRule, .static yX1_attackersOfRule, .methodLink RX1 38 yX0_partAt, .instanceMethod yX0_partAt, .selects RX0 yX0_partAt yX0_partAt, .code yX1_build cX1_build 6 none]
def wAll_3 : List Cond := [.code yX2_init cX2_init 1 none, .methodLink RX2 3 objectInit, .code yX2_put cX2_put 2 none, .fieldLink RX2 22 "RuleArguments$FactBook" "count" "I", .methodLink RX2 19 yX2_has, .code yX2_drop cX2_drop 2 none, .code yX3_init cX3_init 1 none, .methodLink RX3 3 objectInit, .fieldLink RX3 9 "RuleArguments$Labelling" "rounds" "[I", .code yX3_labelAt cX3_labelAt 2 (some .int), .fieldLink RX3 15 "RuleArguments$Labelling" "in" "I", .fieldLink RX3 19 "RuleArguments$Labelling" "out" "I", .code yX3_roundAt cX3_roundAt 2 (some .int), .code yX3_unattacked cX3_unattacked 5 (some .int), .methodLink RX3 33 yX3_labelAt, .instanceMethod yX3_labelAt, .selects RX3 yX3_labelAt yX3_labelAt, .initialized RX3, .methodLink RX3 37 yX1_attackersOf, .code yX3_defeated cX3_defeated 5 (some .int), .code yX3_noteRound cX3_noteRound 4 none, .methodLink RX3 22 yX3_unattacked, .instanceMethod yX3_unattacked, .selects RX3 yX3_unattacked yX3_unattacked, .methodLink RX3 26 yX3_defeated, .instanceMethod yX3_defeated, .selects RX3 yX3_defeated yX3_defeated, .methodLink RX3 29 yX3_noteRound, .instanceMethod yX3_noteRound, .selects RX3 yX3_noteRound yX3_noteRound, .code yX3_build cX3_build 6 none, .code yX4_init cX4_init 6 none, .methodLink RX4 1 objectInit, .fieldLink RX4 7 "RuleArguments$Rule" "head" "I", .fieldLink RX4 13 "RuleArguments$Rule" "first" "I", .fieldLink RX4 16 "RuleArguments$Rule" "second" "I", .fieldLink RX4 19 "RuleArguments$Rule" "third" "I", .fieldLink RX4 22 "RuleArguments$Rule" "priority" "I", .fieldLink RX4 25 "RuleArguments$Rule" "on" "Z", .code yJxa1e45_init_da8c8 cJxa1e45_init_da8c8 1 none]
def wAll_4 : List Cond := [.methodLink RJxa1e45 1 objectInit, .code yJxc12de_init_da8c8 cJxc12de_init_da8c8 1 none, .fieldLink RJxc12de 7 "java/util/AbstractList" "modCount" "I", .methodLink RJxc12de 1 yJxa1e45_init_da8c8, .instanceMethod yJxa1e45_init_da8c8, .initialized RJxa1e45, .code yJx4a65c_init_da8c8 cJx4a65c_init_da8c8 1 none, .fieldLink RJx4a65c 39 "java/util/ArrayList" "DEFAULTCAPACITY_EMPTY_ELEMENTDATA" "[Ljava/lang/Object;", .methodLink RJx4a65c 1 yJxc12de_init_da8c8, .instanceMethod yJxc12de_init_da8c8, .initialized RJxc12de, .methodLink RX5 3 objectInit, .classLink RX5 9 RJx4a65c, .instantiable RJx4a65c 3, .classLink RX5 18 RX4, .instantiable RX4 7, .initialized RX4, .methodLink RX5 11 yJx4a65c_init_da8c8, .instanceMethod yJx4a65c_init_da8c8, .methodLink RX5 20 yX4_init, .instanceMethod yX4_init, .code yX5_init cX5_init 1 none, .code yJ8_hugeLength_7cf53 cJ8_hugeLength_7cf53 3 (some .int), .constant RJ8 200 (2147483639), .code yJ8_newLength_cabcc cJ8_newLength_cabcc 4 (some .int), .methodLink RJ8 194 Lib.Math.max.name, .methodLink RJ8 201 yJ8_hugeLength_7cf53, .static yJ8_hugeLength_7cf53, .initialized RJ8, .code yJ7_copyOf_6403c cJ7_copyOf_6403c 4 (some (.array (.object "java/lang/Object"))), .classLink RJ7 110 "[Ljava/lang/Object;", .classLink RJ7 2 "java/lang/Object", .methodLink RJ7 304 Lib.Math.min.name, .static Lib.Math.min.name, .code Lib.Math.min.name Lib.Math.min.code 2 (some .int), .methodLink RJ7 150 arraycopyName, .native arraycopyName, .static arraycopyName, .initialized "java/lang/System", .code yJ7_copyOf_1904c cJ7_copyOf_1904c 2 (some (.array (.object "java/lang/Object")))]
def wAll_5 : List Cond := [.methodLink RJ7 86 ⟨"java/lang/Object", "getClass", "()Ljava/lang/Class;"⟩, .selects "[Ljava/lang/Object;" ⟨"java/lang/Object", "getClass", "()Ljava/lang/Class;"⟩ ⟨"java/lang/Object", "getClass", "()Ljava/lang/Class;"⟩, .instanceMethod ⟨"java/lang/Object", "getClass", "()Ljava/lang/Class;"⟩, .native ⟨"java/lang/Object", "getClass", "()Ljava/lang/Class;"⟩, .methodLink RJ7 300 yJ7_copyOf_6403c, .static yJ7_copyOf_6403c, .initialized RJ7, .methodLink RJx4a65c 79 Lib.Math.max.name, .classLink RJx4a65c 7 "java/lang/Object", .methodLink RJx4a65c 73 yJ8_newLength_cabcc, .static yJ8_newLength_cabcc, .methodLink RJx4a65c 66 yJ7_copyOf_1904c, .static yJ7_copyOf_1904c, .code yJx4a65c_grow_92f84 cJx4a65c_grow_92f84 4 (some (.array (.object "java/lang/Object"))), .methodLink RJx4a65c 69 yJx4a65c_grow_92f84, .instanceMethod yJx4a65c_grow_92f84, .selects RJx4a65c yJx4a65c_grow_92f84 yJx4a65c_grow_92f84, .code yJx4a65c_grow_d5877 cJx4a65c_grow_d5877 1 (some (.array (.object "java/lang/Object"))), .methodLink RJx4a65c 129 yJx4a65c_grow_d5877, .instanceMethod yJx4a65c_grow_d5877, .selects RJx4a65c yJx4a65c_grow_d5877 yJx4a65c_grow_d5877, .code yJx4a65c_add_72be8 cJx4a65c_add_72be8 4 none, .fieldLink RJx4a65c 63 "java/util/ArrayList" "modCount" "I", .sameField "java/util/ArrayList" "java/util/AbstractList" "modCount" "I", .methodLink RJx4a65c 131 yJx4a65c_add_72be8, .instanceMethod yJx4a65c_add_72be8, .selects RJx4a65c yJx4a65c_add_72be8 yJx4a65c_add_72be8, .code yJx4a65c_add_9ea2d cJx4a65c_add_9ea2d 2 (some .boolean), .methodLink RX5 39 yJx4a65c_add_9ea2d, .instanceMethod yJx4a65c_add_9ea2d, .selects RJx4a65c yJx4a65c_add_9ea2d yJx4a65c_add_9ea2d, .code yX5_put cX5_put 2 none, .code yX6_init cX6_init 1 none, .methodLink RX6 3 objectInit, .fieldLink RX6 9 "RuleArguments$SetList" "sets" "[I", .code yX6_clear cX6_clear 1 none, .fieldLink RX6 15 "RuleArguments$SetList" "count" "I", .code yX6_keep cX6_keep 2 none, .code yX6_covers cX6_covers 3 (some .boolean), .code yX9_setBit cX9_setBit 1 (some .int)]
def wAll_6 : List Cond := [.code yX6_contains cX6_contains 4 (some .boolean), .static yX9_setBit, .code yX8_init cX8_init 1 none, .methodLink RX8 3 objectInit, .fieldLink RX8 9 "RuleArguments$UnionTable" "rows" "[I", .fieldLink RX8 15 "RuleArguments$UnionTable" "lower" "[I", .fieldLink RX8 18 "RuleArguments$UnionTable" "upper" "[I", .code yX7_init cX7_init 1 none, .methodLink RX7 3 objectInit, .classLink RX7 9 RX8, .instantiable RX8 3, .initialized RX8, .fieldLink RX7 12 "RuleArguments$SetSearch" "attackers" "LRuleArguments$UnionTable;", .fieldLink RX7 18 "RuleArguments$SetSearch" "attacked" "LRuleArguments$UnionTable;", .classLink RX7 21 RX6, .instantiable RX6 2, .initialized RX6, .fieldLink RX7 24 "RuleArguments$SetSearch" "byTrying" "LRuleArguments$SetList;", .fieldLink RX7 28 "RuleArguments$SetSearch" "bySweep" "LRuleArguments$SetList;", .instanceMethod yX8_init, .instanceMethod yX6_init, .code yX8_clearRows cX8_clearRows 2 none, .code yX8_addToRow cX8_addToRow 3 none, .code yX8_fillHalves cX8_fillHalves 4 none, .methodLink RX7 31 Lib.Math.min.name, .fieldLink RX7 37 "RuleArguments$SetSearch" "size" "I", .methodLink RX7 41 yX8_clearRows, .instanceMethod yX8_clearRows, .selects RX8 yX8_clearRows yX8_clearRows, .methodLink RX7 44 yX1_leads, .instanceMethod yX1_leads, .selects RX1 yX1_leads yX1_leads, .methodLink RX7 54 yX8_addToRow, .instanceMethod yX8_addToRow, .selects RX8 yX8_addToRow yX8_addToRow, .methodLink RX7 58 yX8_fillHalves, .instanceMethod yX8_fillHalves, .selects RX8 yX8_fillHalves yX8_fillHalves, .code yX7_prepare cX7_prepare 5 none, .code yX7_restFrom cX7_restFrom 3 (some .int)]
def wAll_7 : List Cond := [.code yX8_of cX8_of 2 (some .int), .code yX7_canDefend cX7_canDefend 3 (some .boolean), .methodLink RX7 85 yX8_of, .instanceMethod yX8_of, .selects RX8 yX8_of yX8_of, .code yX7_isPeaceful cX7_isPeaceful 2 (some .boolean), .methodLink RX7 68 yX7_restFrom, .instanceMethod yX7_restFrom, .selects RX7 yX7_restFrom yX7_restFrom, .initialized RX7, .methodLink RX7 71 yX6_covers, .instanceMethod yX6_covers, .selects RX6 yX6_covers yX6_covers, .methodLink RX7 75 yX7_canDefend, .instanceMethod yX7_canDefend, .selects RX7 yX7_canDefend yX7_canDefend, .methodLink RX7 78 yX6_keep, .instanceMethod yX6_keep, .selects RX6 yX6_keep yX6_keep, .methodLink RX7 82 yX7_isPeaceful, .instanceMethod yX7_isPeaceful, .selects RX7 yX7_isPeaceful yX7_isPeaceful, .methodLink RX7 64 yX7_tryFrom, .static yX7_tryFrom, .code yX7_tryFrom cX7_tryFrom 5 none, .methodLink RX7 61 yX6_clear, .instanceMethod yX6_clear, .selects RX6 yX6_clear yX6_clear, .code yX7_tryAll cX7_tryAll 1 none, .code yX7_sweep cX7_sweep 3 none, .methodLink RX9 3 objectInit, .classLink RX9 9 RX2, .instantiable RX2 2, .fieldLink RX9 12 "RuleArguments" "factBook" "LRuleArguments$FactBook;", .classLink RX9 16 RX5, .instantiable RX5 2, .fieldLink RX9 19 "RuleArguments" "ruleBook" "LRuleArguments$RuleBook;", .classLink RX9 23 RX0, .instantiable RX0 7, .fieldLink RX9 26 "RuleArguments" "list" "LRuleArguments$ArgumentList;"]
def wAll_8 : List Cond := [.classLink RX9 30 RX1, .instantiable RX1 1, .fieldLink RX9 33 "RuleArguments" "graph" "LRuleArguments$AttackGraph;", .classLink RX9 37 RX3, .instantiable RX3 3, .fieldLink RX9 40 "RuleArguments" "labelling" "LRuleArguments$Labelling;", .classLink RX9 44 RX7, .instantiable RX7 5, .fieldLink RX9 47 "RuleArguments" "search" "LRuleArguments$SetSearch;", .instanceMethod yX2_init, .methodLink RX9 18 yX5_init, .instanceMethod yX5_init, .instanceMethod yX0_init, .instanceMethod yX1_init, .instanceMethod yX3_init, .instanceMethod yX7_init, .code yX9_init cX9_init 1 none, .code yX9_demandLiteralOrNone cX9_demandLiteralOrNone 1 none, .classLink RX9 89 "java/lang/IllegalArgumentException", .initialized "java/lang/IllegalArgumentException", .methodLink RX9 205 yX9_isLiteralOrNone, .code yX9_demandLiteral cX9_demandLiteral 1 none, .methodLink RX9 79 yX9_demandLiteralOrNone, .static yX9_demandLiteralOrNone, .code yX9_forget cX9_forget 1 none, .fieldLink RX9 220 "RuleArguments" "built" "Z", .fieldLink RX9 223 "RuleArguments" "tried" "Z", .fieldLink RX9 226 "RuleArguments" "swept" "Z", .classLink RX9 59 "java/lang/IllegalStateException", .initialized "java/lang/IllegalStateException", .methodLink RX9 51 yX9_demandLiteral, .static yX9_demandLiteral, .methodLink RX9 55 yX2_has, .methodLink RX9 66 yX2_put, .instanceMethod yX2_put, .selects RX2 yX2_put yX2_put, .methodLink RX9 69 yX9_forget, .instanceMethod yX9_forget, .selects RX9 yX9_forget yX9_forget, .code yX9_addFact cX9_addFact 2 (some .int)]
def wAll_9 : List Cond := [.methodLink RX9 76 yX2_drop, .instanceMethod yX2_drop, .selects RX2 yX2_drop yX2_drop, .code yX9_takeBack cX9_takeBack 2 (some .boolean), .code yX9_demandPriority cX9_demandPriority 1 none, .code yX9_followsInBody cX9_followsInBody 2 (some .boolean), .classLink RX9 102 RX4, .methodLink RX9 82 yX9_demandPriority, .static yX9_demandPriority, .methodLink RX9 85 yX9_followsInBody, .static yX9_followsInBody, .methodLink RX9 96 yX5_size, .methodLink RX9 104 yX4_init, .methodLink RX9 107 yX5_put, .instanceMethod yX5_put, .selects RX5 yX5_put yX5_put, .code yX9_addRule cX9_addRule 6 (some .int), .code yX9_demandRule cX9_demandRule 2 none, .classLink RX9 151 "java/lang/IndexOutOfBoundsException", .initialized "java/lang/IndexOutOfBoundsException", .methodLink RX9 110 yX9_demandRule, .instanceMethod yX9_demandRule, .selects RX9 yX9_demandRule yX9_demandRule, .methodLink RX9 113 yX5_at, .code yX9_setPriority cX9_setPriority 5 (some .int), .code yX9_setException cX9_setException 5 (some .int), .code yX9_turn cX9_turn 5 (some .boolean), .code yX9_facts cX9_facts 1 (some .int), .code yX9_rules cX9_rules 1 (some .int), .methodLink RX9 229 yX0_build, .instanceMethod yX0_build, .selects RX0 yX0_build yX0_build, .methodLink RX9 232 yX1_build, .instanceMethod yX1_build, .selects RX1 yX1_build yX1_build, .methodLink RX9 235 yX3_build, .instanceMethod yX3_build, .selects RX3 yX3_build yX3_build, .methodLink RX9 238 yX7_prepare, .instanceMethod yX7_prepare]
def wAll_10 : List Cond := [.selects RX7 yX7_prepare yX7_prepare, .code yX9_build cX9_build 1 none, .methodLink RX9 127 yX9_build, .instanceMethod yX9_build, .selects RX9 yX9_build yX9_build, .code yX9_arguments cX9_arguments 1 (some .int), .code yX9_demandTold cX9_demandTold 1 none, .code yX9_demandArgument cX9_demandArgument 2 none, .methodLink RX9 134 yX9_demandTold, .instanceMethod yX9_demandTold, .selects RX9 yX9_demandTold yX9_demandTold, .methodLink RX9 137 yX9_demandArgument, .instanceMethod yX9_demandArgument, .selects RX9 yX9_demandArgument yX9_demandArgument, .methodLink RX9 140 yX0_conclusionAt, .code yX9_conclusion cX9_conclusion 2 (some .int), .methodLink RX9 144 yX0_makerAt, .code yX9_madeBy cX9_madeBy 2 (some .int), .methodLink RX9 147 yX0_partAt, .code yX9_part cX9_part 4 (some .int), .methodLink RX9 156 yX0_depthAt, .code yX9_depth cX9_depth 2 (some .int), .methodLink RX9 159 yX1_leads, .code yX9_attacks cX9_attacks 3 (some .boolean), .methodLink RX9 162 yX3_labelAt, .code yX9_label cX9_label 2 (some .int), .methodLink RX9 165 yX3_roundAt, .instanceMethod yX3_roundAt, .selects RX3 yX3_roundAt yX3_roundAt, .code yX9_round cX9_round 2 (some .int), .methodLink RX9 168 Lib.Math.max.name, .code yX9_holds cX9_holds 4 (some .int), .code yX9_reasonFor cX9_reasonFor 3 (some .int), .code yX9_lowestAttacker cX9_lowestAttacker 4 (some .int), .methodLink RX9 173 yX9_lowestAttacker, .instanceMethod yX9_lowestAttacker, .selects RX9 yX9_lowestAttacker yX9_lowestAttacker, .code yX9_reasonAgainst cX9_reasonAgainst 3 (some .int), .code yX9_demandFew cX9_demandFew 1 none, .methodLink RX9 241 yX7_tryAll]
def wAll_11 : List Cond := [.instanceMethod yX7_tryAll, .selects RX7 yX7_tryAll yX7_tryAll, .code yX9_trySets cX9_trySets 1 none, .methodLink RX9 176 yX9_demandFew, .instanceMethod yX9_demandFew, .selects RX9 yX9_demandFew yX9_demandFew, .methodLink RX9 179 yX9_trySets, .instanceMethod yX9_trySets, .selects RX9 yX9_trySets yX9_trySets, .code yX9_preferred cX9_preferred 1 (some .int), .methodLink RX9 244 yX7_sweep, .instanceMethod yX7_sweep, .selects RX7 yX7_sweep yX7_sweep, .code yX9_sweepSets cX9_sweepSets 1 none, .methodLink RX9 189 yX9_sweepSets, .instanceMethod yX9_sweepSets, .selects RX9 yX9_sweepSets yX9_sweepSets, .code yX9_preferredByAllSets cX9_preferredByAllSets 1 (some .int), .methodLink RX9 197 yX6_contains, .instanceMethod yX6_contains, .selects RX6 yX6_contains yX6_contains, .code yX9_isInSet cX9_isInSet 3 (some .boolean), .code yX9_concludesInSet cX9_concludesInSet 4 (some .boolean), .methodLink RX9 200 yX9_concludesInSet, .instanceMethod yX9_concludesInSet, .selects RX9 yX9_concludesInSet yX9_concludesInSet, .code yX9_setsFor cX9_setsFor 4 (some .int), .code yX10_init cX10_init 1 none, .methodLink RX10 1 objectInit, .fieldLink RX10 7 "RuleArgumentsModel" "isFact" "[Z", .fieldLink RX10 13 "RuleArgumentsModel" "heads" "[I", .fieldLink RX10 17 "RuleArgumentsModel" "bodies" "[I", .fieldLink RX10 20 "RuleArgumentsModel" "priorities" "[I", .fieldLink RX10 23 "RuleArgumentsModel" "exceptions" "[I", .fieldLink RX10 26 "RuleArgumentsModel" "isOn" "[Z", .fieldLink RX10 29 "RuleArgumentsModel" "conclusions" "[I", .fieldLink RX10 32 "RuleArgumentsModel" "makers" "[I", .fieldLink RX10 35 "RuleArgumentsModel" "parts" "[I", .fieldLink RX10 38 "RuleArgumentsModel" "depths" "[I", .fieldLink RX10 41 "RuleArgumentsModel" "builtOf" "[I"]
def wAll_12 : List Cond := [.fieldLink RX10 44 "RuleArgumentsModel" "attackers" "[I", .fieldLink RX10 47 "RuleArgumentsModel" "labels" "[I", .fieldLink RX10 50 "RuleArgumentsModel" "rounds" "[I", .fieldLink RX10 53 "RuleArgumentsModel" "admissible" "[Z", .fieldLink RX10 56 "RuleArgumentsModel" "extended" "[Z", .code yX10_thrown cX10_thrown 1 (some .int), .fieldLink RX10 59 "RuleArgumentsModel" "thrown" "I", .code yX10_isLiteral cX10_isLiteral 1 (some .boolean), .code yX10_isLiteralOrNone cX10_isLiteralOrNone 1 (some .boolean), .code yX10_passes cX10_passes 2 (some .boolean), .code yX10_factsNow cX10_factsNow 3 (some .int), .code yX10_addFact cX10_addFact 3 (some .int), .methodLink RX10 63 yX10_isLiteral, .static yX10_isLiteral, .initialized RX10, .methodLink RX10 67 yX10_passes, .instanceMethod yX10_passes, .selects RX10 yX10_passes yX10_passes, .methodLink RX10 70 yX10_factsNow, .instanceMethod yX10_factsNow, .selects RX10 yX10_factsNow yX10_factsNow, .code yX10_takeBack cX10_takeBack 3 (some .boolean), .code yX10_addRule cX10_addRule 9 (some .int), .fieldLink RX10 77 "RuleArgumentsModel" "rules" "I", .methodLink RX10 74 yX10_isLiteralOrNone, .static yX10_isLiteralOrNone, .code yX10_isRule cX10_isRule 2 (some .boolean), .code yX10_setPriority cX10_setPriority 4 (some .int), .methodLink RX10 80 yX10_isRule, .instanceMethod yX10_isRule, .selects RX10 yX10_isRule yX10_isRule, .code yX10_setException cX10_setException 4 (some .int), .code yX10_turn cX10_turn 4 (some .boolean), .code yX10_facts cX10_facts 1 (some .int), .code yX10_rules cX10_rules 1 (some .int), .code yX10_withAll cX10_withAll 2 (some .int), .code yX10_lays cX10_lays 7 none, .fieldLink RX10 83 "RuleArgumentsModel" "many" "I", .fieldLink RX10 86 "RuleArgumentsModel" "isTooMany" "Z", .methodLink RX10 90 yX10_withAll]
def wAll_13 : List Cond := [.instanceMethod yX10_withAll, .selects RX10 yX10_withAll yX10_withAll, .code yX10_isPart cX10_isPart 5 (some .boolean), .code yX10_isBuiltOf cX10_isBuiltOf 5 (some .boolean), .code yX10_depthOf cX10_depthOf 2 (some .int), .methodLink RX10 94 yX10_isPart, .instanceMethod yX10_isPart, .selects RX10 yX10_isPart yX10_isPart, .methodLink RX10 98 yX10_depthOf, .instanceMethod yX10_depthOf, .selects RX10 yX10_depthOf yX10_depthOf, .methodLink RX10 101 yX10_isBuiltOf, .instanceMethod yX10_isBuiltOf, .selects RX10 yX10_isBuiltOf yX10_isBuiltOf, .methodLink RX10 105 yX10_lays, .instanceMethod yX10_lays, .selects RX10 yX10_lays yX10_lays, .code yX10_makes cX10_makes 9 none, .methodLink RX10 109 yX10_makes, .instanceMethod yX10_makes, .selects RX10 yX10_makes yX10_makes, .code yX10_builds cX10_builds 4 none, .code yX10_strengthOf cX10_strengthOf 2 (some .int), .code yX10_opposes cX10_opposes 4 (some .boolean), .methodLink RX10 113 yX10_strengthOf, .instanceMethod yX10_strengthOf, .selects RX10 yX10_strengthOf yX10_strengthOf, .code yX10_laysAttacks cX10_laysAttacks 5 none, .methodLink RX10 116 yX10_opposes, .instanceMethod yX10_opposes, .selects RX10 yX10_opposes yX10_opposes, .methodLink RX10 119 yX10_builds, .instanceMethod yX10_builds, .selects RX10 yX10_builds yX10_builds, .methodLink RX10 122 yX10_laysAttacks, .instanceMethod yX10_laysAttacks, .selects RX10 yX10_laysAttacks yX10_laysAttacks, .code yX10_isTold cX10_isTold 2 (some .boolean), .methodLink RX10 125 yX10_isTold, .instanceMethod yX10_isTold]
def wAll_14 : List Cond := [.selects RX10 yX10_isTold yX10_isTold, .code yX10_isArgument cX10_isArgument 2 (some .boolean), .code yX10_arguments cX10_arguments 1 (some .int), .methodLink RX10 128 yX10_isArgument, .instanceMethod yX10_isArgument, .selects RX10 yX10_isArgument yX10_isArgument, .code yX10_conclusion cX10_conclusion 2 (some .int), .code yX10_madeBy cX10_madeBy 2 (some .int), .code yX10_part cX10_part 4 (some .int), .code yX10_depth cX10_depth 2 (some .int), .code yX10_attacks cX10_attacks 3 (some .boolean), .code yX10_withLabel cX10_withLabel 4 (some .int), .code yX10_labelsAll cX10_labelsAll 6 none, .methodLink RX10 131 yX10_withLabel, .instanceMethod yX10_withLabel, .selects RX10 yX10_withLabel yX10_withLabel, .methodLink RX10 134 yX10_labelsAll, .instanceMethod yX10_labelsAll, .selects RX10 yX10_labelsAll yX10_labelsAll, .code yX10_label cX10_label 2 (some .int), .code yX10_round cX10_round 2 (some .int), .code yX10_isAsked cX10_isAsked 2 (some .boolean), .methodLink RX10 137 yX10_isAsked, .instanceMethod yX10_isAsked, .selects RX10 yX10_isAsked yX10_isAsked, .code yX10_holds cX10_holds 4 (some .int), .code yX10_reasonFor cX10_reasonFor 4 (some .int), .code yX10_lowest cX10_lowest 3 (some .int), .methodLink RX10 140 yX10_lowest, .static yX10_lowest, .code yX10_reasonAgainst cX10_reasonAgainst 3 (some .int), .code yX10_has cX10_has 3 (some .boolean), .code yX10_turned cX10_turned 4 (some .int), .methodLink RX10 143 yX10_has, .instanceMethod yX10_has, .selects RX10 yX10_has yX10_has, .code yX10_isAdmissible cX10_isAdmissible 6 (some .boolean), .methodLink RX10 146 yX10_turned, .instanceMethod yX10_turned, .selects RX10 yX10_turned yX10_turned]
def wAll_15 : List Cond := [.code yX10_prefers cX10_prefers 5 (some .int), .methodLink RX10 149 yX10_isAdmissible, .instanceMethod yX10_isAdmissible, .selects RX10 yX10_isAdmissible yX10_isAdmissible, .code yX10_areFew cX10_areFew 2 (some .boolean), .methodLink RX10 152 yX10_areFew, .instanceMethod yX10_areFew, .selects RX10 yX10_areFew yX10_areFew, .methodLink RX10 155 yX10_prefers, .instanceMethod yX10_prefers, .selects RX10 yX10_prefers yX10_prefers, .code yX10_preferred cX10_preferred 1 (some .int), .code yX10_preferredByAllSets cX10_preferredByAllSets 1 (some .int), .code yX10_setAt cX10_setAt 4 (some .int), .methodLink RX10 158 yX10_setAt, .instanceMethod yX10_setAt, .selects RX10 yX10_setAt yX10_setAt, .code yX10_isInSet cX10_isInSet 4 (some .boolean), .code yX10_setsFor cX10_setsFor 8 (some .int), .code yJ9_max_7cf53 cJ9_max_7cf53 2 (some .int), .code yJ9_min_7cf53 cJ9_min_7cf53 2 (some .int), .classLink RL 13 "java/lang/IllegalArgumentException", .classLink RL 15 "java/lang/IllegalStateException", .methodLink RL 7 yX9_addFact, .instanceMethod yX9_addFact, .selects RX9 yX9_addFact yX9_addFact, .codeWith yL_addFact cL_addFact 4 (some .int) [(0, 9, 12, 13), (0, 9, 15, 15)], .methodLink RL 17 yX9_takeBack, .instanceMethod yX9_takeBack, .selects RX9 yX9_takeBack yX9_takeBack, .codeWith yL_takeBack cL_takeBack 4 (some .int) [(0, 16, 19, 13)], .methodLink RL 21 yX9_addRule, .instanceMethod yX9_addRule, .selects RX9 yX9_addRule yX9_addRule, .codeWith yL_addRule cL_addRule 8 (some .int) [(0, 16, 19, 13), (0, 16, 23, 15)], .classLink RL 29 "java/lang/IndexOutOfBoundsException", .methodLink RL 25 yX9_setPriority, .instanceMethod yX9_setPriority, .selects RX9 yX9_setPriority yX9_setPriority, .codeWith yL_setPriority cL_setPriority 5 (some .int) [(0, 10, 13, 29), (0, 10, 17, 13)]]
def wAll_16 : List Cond := [.methodLink RL 31 yX9_setException, .instanceMethod yX9_setException, .selects RX9 yX9_setException yX9_setException, .codeWith yL_setException cL_setException 5 (some .int) [(0, 10, 13, 29), (0, 10, 17, 13)], .methodLink RL 34 yX9_turn, .instanceMethod yX9_turn, .selects RX9 yX9_turn yX9_turn, .codeWith yL_turn cL_turn 5 (some .int) [(0, 17, 20, 29)], .methodLink RL 38 yX9_conclusion, .instanceMethod yX9_conclusion, .selects RX9 yX9_conclusion yX9_conclusion, .codeWith yL_conclusion cL_conclusion 4 (some .int) [(0, 9, 12, 15), (0, 9, 15, 29)], .methodLink RL 41 yX9_madeBy, .instanceMethod yX9_madeBy, .selects RX9 yX9_madeBy yX9_madeBy, .codeWith yL_madeBy cL_madeBy 4 (some .int) [(0, 9, 12, 15), (0, 9, 15, 29)], .methodLink RL 44 yX9_part, .instanceMethod yX9_part, .selects RX9 yX9_part yX9_part, .codeWith yL_part cL_part 5 (some .int) [(0, 10, 13, 15), (0, 10, 17, 29)], .methodLink RL 47 yX9_depth, .instanceMethod yX9_depth, .selects RX9 yX9_depth yX9_depth, .codeWith yL_depth cL_depth 4 (some .int) [(0, 9, 12, 15), (0, 9, 15, 29)], .methodLink RL 50 yX9_attacks, .instanceMethod yX9_attacks, .selects RX9 yX9_attacks yX9_attacks, .codeWith yL_attacks cL_attacks 5 (some .int) [(0, 17, 20, 15), (0, 17, 24, 29)], .methodLink RL 54 yX9_label, .instanceMethod yX9_label, .selects RX9 yX9_label yX9_label, .codeWith yL_label cL_label 4 (some .int) [(0, 9, 12, 15), (0, 9, 15, 29)], .methodLink RL 57 yX9_round, .instanceMethod yX9_round, .selects RX9 yX9_round yX9_round, .codeWith yL_round cL_round 4 (some .int) [(0, 9, 12, 15), (0, 9, 15, 29)], .methodLink RL 60 yX9_holds, .instanceMethod yX9_holds, .selects RX9 yX9_holds yX9_holds, .codeWith yL_holds cL_holds 4 (some .int) [(0, 9, 12, 13), (0, 9, 15, 15)]]
def wAll_17 : List Cond := [.methodLink RL 63 yX9_reasonFor, .instanceMethod yX9_reasonFor, .selects RX9 yX9_reasonFor yX9_reasonFor, .codeWith yL_reasonFor cL_reasonFor 4 (some .int) [(0, 9, 12, 13), (0, 9, 15, 15)], .methodLink RL 66 yX9_reasonAgainst, .instanceMethod yX9_reasonAgainst, .selects RX9 yX9_reasonAgainst yX9_reasonAgainst, .codeWith yL_reasonAgainst cL_reasonAgainst 4 (some .int) [(0, 9, 12, 15), (0, 9, 15, 29)], .methodLink RL 69 yX9_preferred, .instanceMethod yX9_preferred, .selects RX9 yX9_preferred yX9_preferred, .codeWith yL_preferred cL_preferred 3 (some .int) [(0, 8, 11, 15)], .methodLink RL 73 yX9_preferredByAllSets, .instanceMethod yX9_preferredByAllSets, .selects RX9 yX9_preferredByAllSets yX9_preferredByAllSets, .codeWith yL_preferredByAllSets cL_preferredByAllSets 3 (some .int) [(0, 8, 11, 15)], .methodLink RL 76 yX9_isInSet, .instanceMethod yX9_isInSet, .selects RX9 yX9_isInSet yX9_isInSet, .codeWith yL_isInSet cL_isInSet 5 (some .int) [(0, 17, 20, 15), (0, 17, 24, 29)], .methodLink RL 79 yX9_setsFor, .instanceMethod yX9_setsFor, .selects RX9 yX9_setsFor yX9_setsFor, .codeWith yL_setsFor cL_setsFor 4 (some .int) [(0, 9, 12, 13), (0, 9, 15, 15)], .classLink RL 8 RX9, .instantiable RX9 9, .classLink RL 83 RX10, .instantiable RX10 20, .methodLink RL 82 yX9_init, .instanceMethod yX9_init, .methodLink RL 85 yX10_init, .instanceMethod yX10_init, .methodLink RL 86 yL_addFact, .static yL_addFact, .initialized RL, .methodLink RL 91 yX10_addFact, .instanceMethod yX10_addFact, .selects RX10 yX10_addFact yX10_addFact, .methodLink RL 92 yX10_thrown, .instanceMethod yX10_thrown]
def wAll_18 : List Cond := [.selects RX10 yX10_thrown yX10_thrown, .methodLink RL 95 yL_takeBack, .static yL_takeBack, .methodLink RL 97 yX10_takeBack, .instanceMethod yX10_takeBack, .selects RX10 yX10_takeBack yX10_takeBack, .methodLink RL 98 yL_addRule, .static yL_addRule, .methodLink RL 101 yX10_addRule, .instanceMethod yX10_addRule, .selects RX10 yX10_addRule yX10_addRule, .methodLink RL 102 yL_setPriority, .static yL_setPriority, .methodLink RL 105 yX10_setPriority, .instanceMethod yX10_setPriority, .selects RX10 yX10_setPriority yX10_setPriority, .methodLink RL 106 yL_setException, .static yL_setException, .methodLink RL 108 yX10_setException, .instanceMethod yX10_setException, .selects RX10 yX10_setException yX10_setException, .methodLink RL 109 yL_turn, .static yL_turn, .methodLink RL 112 yX10_turn, .instanceMethod yX10_turn, .selects RX10 yX10_turn yX10_turn, .methodLink RL 113 yX9_facts, .instanceMethod yX9_facts, .selects RX9 yX9_facts yX9_facts, .methodLink RL 116 yX10_facts, .instanceMethod yX10_facts, .selects RX10 yX10_facts yX10_facts, .methodLink RL 117 yX9_rules, .instanceMethod yX9_rules, .selects RX9 yX9_rules yX9_rules, .methodLink RL 120 yX10_rules, .instanceMethod yX10_rules, .selects RX10 yX10_rules yX10_rules, .methodLink RL 121 yX9_arguments, .instanceMethod yX9_arguments]
def wAll_19 : List Cond := [.selects RX9 yX9_arguments yX9_arguments, .methodLink RL 124 yX10_arguments, .instanceMethod yX10_arguments, .selects RX10 yX10_arguments yX10_arguments, .methodLink RL 125 yL_conclusion, .static yL_conclusion, .methodLink RL 127 yX10_conclusion, .instanceMethod yX10_conclusion, .selects RX10 yX10_conclusion yX10_conclusion, .methodLink RL 128 yL_madeBy, .static yL_madeBy, .methodLink RL 130 yX10_madeBy, .instanceMethod yX10_madeBy, .selects RX10 yX10_madeBy yX10_madeBy, .methodLink RL 131 yL_part, .static yL_part, .methodLink RL 133 yX10_part, .instanceMethod yX10_part, .selects RX10 yX10_part yX10_part, .methodLink RL 134 yL_depth, .static yL_depth, .methodLink RL 136 yX10_depth, .instanceMethod yX10_depth, .selects RX10 yX10_depth yX10_depth, .methodLink RL 137 yL_attacks, .static yL_attacks, .methodLink RL 139 yX10_attacks, .instanceMethod yX10_attacks, .selects RX10 yX10_attacks yX10_attacks, .methodLink RL 140 yL_label, .static yL_label, .methodLink RL 142 yX10_label, .instanceMethod yX10_label, .selects RX10 yX10_label yX10_label, .methodLink RL 143 yL_round, .static yL_round, .methodLink RL 145 yX10_round, .instanceMethod yX10_round, .selects RX10 yX10_round yX10_round, .methodLink RL 146 yL_holds]
def wAll_20 : List Cond := [.static yL_holds, .methodLink RL 148 yX10_holds, .instanceMethod yX10_holds, .selects RX10 yX10_holds yX10_holds, .methodLink RL 149 yL_reasonFor, .static yL_reasonFor, .methodLink RL 151 yX10_reasonFor, .instanceMethod yX10_reasonFor, .selects RX10 yX10_reasonFor yX10_reasonFor, .methodLink RL 152 yL_reasonAgainst, .static yL_reasonAgainst, .methodLink RL 154 yX10_reasonAgainst, .instanceMethod yX10_reasonAgainst, .selects RX10 yX10_reasonAgainst yX10_reasonAgainst, .methodLink RL 155 yL_preferred, .static yL_preferred, .methodLink RL 158 yX10_preferred, .instanceMethod yX10_preferred, .selects RX10 yX10_preferred yX10_preferred, .methodLink RL 159 yL_preferredByAllSets, .static yL_preferredByAllSets, .methodLink RL 161 yX10_preferredByAllSets, .instanceMethod yX10_preferredByAllSets, .selects RX10 yX10_preferredByAllSets yX10_preferredByAllSets, .methodLink RL 162 yL_isInSet, .static yL_isInSet, .methodLink RL 164 yX10_isInSet, .instanceMethod yX10_isInSet, .selects RX10 yX10_isInSet yX10_isInSet, .methodLink RL 165 yL_setsFor, .static yL_setsFor, .methodLink RL 167 yX10_setsFor, .instanceMethod yX10_setsFor, .selects RX10 yX10_setsFor yX10_setsFor, .methodLinkNest "RuleArguments" 11 ⟨"RuleArguments$FactBook", "<init>", "()V"⟩ "RuleArguments", .fieldLinkNest "RuleArguments" 72 "RuleArguments$FactBook" "count" "I" "RuleArguments", .fieldLinkNest "RuleArguments$AttackGraph" 45 "RuleArguments$Rule" "head" "I" "RuleArguments", .fieldLinkNest "RuleArguments$ArgumentList" 84 "RuleArguments$Rule" "head" "I" "RuleArguments", .fieldLinkNest "RuleArguments$ArgumentList" 64 "RuleArguments$Rule" "first" "I" "RuleArguments", .fieldLinkNest "RuleArguments$ArgumentList" 71 "RuleArguments$Rule" "second" "I" "RuleArguments"]
def wAll_21 : List Cond := [.fieldLinkNest "RuleArguments$ArgumentList" 74 "RuleArguments$Rule" "third" "I" "RuleArguments", .fieldLinkNest "RuleArguments" 117 "RuleArguments$Rule" "priority" "I" "RuleArguments", .fieldLinkNest "RuleArguments$AttackGraph" 54 "RuleArguments$Rule" "priority" "I" "RuleArguments", .fieldLinkNest "RuleArguments$AttackGraph" 57 "RuleArguments$Rule" "exception" "I" "RuleArguments", .fieldLinkNest "RuleArguments" 120 "RuleArguments$Rule" "exception" "I" "RuleArguments", .fieldLinkNest "RuleArguments$RuleBook" 27 "RuleArguments$Rule" "on" "Z" "RuleArguments", .fieldLinkNest "RuleArguments" 123 "RuleArguments$Rule" "on" "Z" "RuleArguments", .fieldLinkNest "RuleArguments$ArgumentList" 55 "RuleArguments$Rule" "on" "Z" "RuleArguments", .methodLinkNest "RuleArguments" 25 ⟨"RuleArguments$ArgumentList", "<init>", "()V"⟩ "RuleArguments", .fieldLinkNest "RuleArguments$AttackGraph" 19 "RuleArguments$ArgumentList" "count" "I" "RuleArguments", .fieldLinkNest "RuleArguments" 133 "RuleArguments$ArgumentList" "count" "I" "RuleArguments", .fieldLinkNest "RuleArguments" 130 "RuleArguments$ArgumentList" "tooMany" "Z" "RuleArguments", .methodLinkNest "RuleArguments" 32 ⟨"RuleArguments$AttackGraph", "<init>", "()V"⟩ "RuleArguments", .methodLinkNest "RuleArguments" 39 ⟨"RuleArguments$Labelling", "<init>", "()V"⟩ "RuleArguments", .methodLinkNest "RuleArguments" 46 ⟨"RuleArguments$SetSearch", "<init>", "()V"⟩ "RuleArguments", .methodLinkNest "RuleArguments$SetSearch" 11 ⟨"RuleArguments$UnionTable", "<init>", "()V"⟩ "RuleArguments", .methodLinkNest "RuleArguments$SetSearch" 23 ⟨"RuleArguments$SetList", "<init>", "()V"⟩ "RuleArguments", .fieldLinkNest "RuleArguments" 186 "RuleArguments$SetList" "count" "I" "RuleArguments", .fieldLinkNest "RuleArguments" 182 "RuleArguments$SetSearch" "byTrying" "LRuleArguments$SetList;" "RuleArguments", .fieldLinkNest "RuleArguments" 192 "RuleArguments$SetSearch" "bySweep" "LRuleArguments$SetList;" "RuleArguments", .methodLinkNest "RuleArguments$FactBook" 15 ⟨"RuleArguments", "isLiteralOrNone", "(I)Z"⟩ "RuleArguments", .methodLinkNest "RuleArguments$SetSearch" 50 ⟨"RuleArguments", "setBit", "(I)I"⟩ "RuleArguments", .methodLinkNest "RuleArguments$SetList" 19 ⟨"RuleArguments", "setBit", "(I)I"⟩ "RuleArguments"]
def wAll : List Cond := wAll_0 ++ (wAll_1 ++ (wAll_2 ++ (wAll_3 ++ (wAll_4 ++ (wAll_5 ++ (wAll_6 ++ (wAll_7 ++ (wAll_8 ++ (wAll_9 ++ (wAll_10 ++ (wAll_11 ++ (wAll_12 ++ (wAll_13 ++ (wAll_14 ++ (wAll_15 ++ (wAll_16 ++ (wAll_17 ++ (wAll_18 ++ (wAll_19 ++ (wAll_20 ++ (wAll_21)))))))))))))))))))))
theorem wAll_in_0 {w : Cond} (h : w ∈ wAll_0) : w ∈ wAll := List.mem_append_left _ h
theorem wAll_in_1 {w : Cond} (h : w ∈ wAll_1) : w ∈ wAll := List.mem_append_right _ (List.mem_append_left _ h)
theorem wAll_in_2 {w : Cond} (h : w ∈ wAll_2) : w ∈ wAll := List.mem_append_right _ (List.mem_append_right _ (List.mem_append_left _ h))
theorem wAll_in_3 {w : Cond} (h : w ∈ wAll_3) : w ∈ wAll := List.mem_append_right _ (List.mem_append_right _ (List.mem_append_right _ (List.mem_append_left _ h)))
theorem wAll_in_4 {w : Cond} (h : w ∈ wAll_4) : w ∈ wAll := List.mem_append_right _ (List.mem_append_right _ (List.mem_append_right _ (List.mem_append_right _ (List.mem_append_left _ h))))
theorem wAll_in_5 {w : Cond} (h : w ∈ wAll_5) : w ∈ wAll := List.mem_append_right _ (List.mem_append_right _ (List.mem_append_right _ (List.mem_append_right _ (List.mem_append_right _ (List.mem_append_left _ h)))))
theorem wAll_in_6 {w : Cond} (h : w ∈ wAll_6) : w ∈ wAll := List.mem_append_right _ (List.mem_append_right _ (List.mem_append_right _ (List.mem_append_right _ (List.mem_append_right _ (List.mem_append_right _ (List.mem_append_left _ h))))))
theorem wAll_in_7 {w : Cond} (h : w ∈ wAll_7) : w ∈ wAll := List.mem_append_right _ (List.mem_append_right _ (List.mem_append_right _ (List.mem_append_right _ (List.mem_append_right _ (List.mem_append_right _ (List.mem_append_right _ (List.mem_append_left _ h)))))))
theorem wAll_in_8 {w : Cond} (h : w ∈ wAll_8) : w ∈ wAll := List.mem_append_right _ (List.mem_append_right _ (List.mem_append_right _ (List.mem_append_right _ (List.mem_append_right _ (List.mem_append_right _ (List.mem_append_right _ (List.mem_append_right _ (List.mem_append_left _ h))))))))
theorem wAll_in_9 {w : Cond} (h : w ∈ wAll_9) : w ∈ wAll := List.mem_append_right _ (List.mem_append_right _ (List.mem_append_right _ (List.mem_append_right _ (List.mem_append_right _ (List.mem_append_right _ (List.mem_append_right _ (List.mem_append_right _ (List.mem_append_right _ (List.mem_append_left _ h)))))))))
theorem wAll_in_10 {w : Cond} (h : w ∈ wAll_10) : w ∈ wAll := List.mem_append_right _ (List.mem_append_right _ (List.mem_append_right _ (List.mem_append_right _ (List.mem_append_right _ (List.mem_append_right _ (List.mem_append_right _ (List.mem_append_right _ (List.mem_append_right _ (List.mem_append_right _ (List.mem_append_left _ h))))))))))
theorem wAll_in_11 {w : Cond} (h : w ∈ wAll_11) : w ∈ wAll := List.mem_append_right _ (List.mem_append_right _ (List.mem_append_right _ (List.mem_append_right _ (List.mem_append_right _ (List.mem_append_right _ (List.mem_append_right _ (List.mem_append_right _ (List.mem_append_right _ (List.mem_append_right _ (List.mem_append_right _ (List.mem_append_left _ h)))))))))))
theorem wAll_in_12 {w : Cond} (h : w ∈ wAll_12) : w ∈ wAll := List.mem_append_right _ (List.mem_append_right _ (List.mem_append_right _ (List.mem_append_right _ (List.mem_append_right _ (List.mem_append_right _ (List.mem_append_right _ (List.mem_append_right _ (List.mem_append_right _ (List.mem_append_right _ (List.mem_append_right _ (List.mem_append_right _ (List.mem_append_left _ h))))))))))))
theorem wAll_in_13 {w : Cond} (h : w ∈ wAll_13) : w ∈ wAll := List.mem_append_right _ (List.mem_append_right _ (List.mem_append_right _ (List.mem_append_right _ (List.mem_append_right _ (List.mem_append_right _ (List.mem_append_right _ (List.mem_append_right _ (List.mem_append_right _ (List.mem_append_right _ (List.mem_append_right _ (List.mem_append_right _ (List.mem_append_right _ (List.mem_append_left _ h)))))))))))))
theorem wAll_in_14 {w : Cond} (h : w ∈ wAll_14) : w ∈ wAll := List.mem_append_right _ (List.mem_append_right _ (List.mem_append_right _ (List.mem_append_right _ (List.mem_append_right _ (List.mem_append_right _ (List.mem_append_right _ (List.mem_append_right _ (List.mem_append_right _ (List.mem_append_right _ (List.mem_append_right _ (List.mem_append_right _ (List.mem_append_right _ (List.mem_append_right _ (List.mem_append_left _ h))))))))))))))
theorem wAll_in_15 {w : Cond} (h : w ∈ wAll_15) : w ∈ wAll := List.mem_append_right _ (List.mem_append_right _ (List.mem_append_right _ (List.mem_append_right _ (List.mem_append_right _ (List.mem_append_right _ (List.mem_append_right _ (List.mem_append_right _ (List.mem_append_right _ (List.mem_append_right _ (List.mem_append_right _ (List.mem_append_right _ (List.mem_append_right _ (List.mem_append_right _ (List.mem_append_right _ (List.mem_append_left _ h)))))))))))))))
theorem wAll_in_16 {w : Cond} (h : w ∈ wAll_16) : w ∈ wAll := List.mem_append_right _ (List.mem_append_right _ (List.mem_append_right _ (List.mem_append_right _ (List.mem_append_right _ (List.mem_append_right _ (List.mem_append_right _ (List.mem_append_right _ (List.mem_append_right _ (List.mem_append_right _ (List.mem_append_right _ (List.mem_append_right _ (List.mem_append_right _ (List.mem_append_right _ (List.mem_append_right _ (List.mem_append_right _ (List.mem_append_left _ h))))))))))))))))
theorem wAll_in_17 {w : Cond} (h : w ∈ wAll_17) : w ∈ wAll := List.mem_append_right _ (List.mem_append_right _ (List.mem_append_right _ (List.mem_append_right _ (List.mem_append_right _ (List.mem_append_right _ (List.mem_append_right _ (List.mem_append_right _ (List.mem_append_right _ (List.mem_append_right _ (List.mem_append_right _ (List.mem_append_right _ (List.mem_append_right _ (List.mem_append_right _ (List.mem_append_right _ (List.mem_append_right _ (List.mem_append_right _ (List.mem_append_left _ h)))))))))))))))))
theorem wAll_in_18 {w : Cond} (h : w ∈ wAll_18) : w ∈ wAll := List.mem_append_right _ (List.mem_append_right _ (List.mem_append_right _ (List.mem_append_right _ (List.mem_append_right _ (List.mem_append_right _ (List.mem_append_right _ (List.mem_append_right _ (List.mem_append_right _ (List.mem_append_right _ (List.mem_append_right _ (List.mem_append_right _ (List.mem_append_right _ (List.mem_append_right _ (List.mem_append_right _ (List.mem_append_right _ (List.mem_append_right _ (List.mem_append_right _ (List.mem_append_left _ h))))))))))))))))))
theorem wAll_in_19 {w : Cond} (h : w ∈ wAll_19) : w ∈ wAll := List.mem_append_right _ (List.mem_append_right _ (List.mem_append_right _ (List.mem_append_right _ (List.mem_append_right _ (List.mem_append_right _ (List.mem_append_right _ (List.mem_append_right _ (List.mem_append_right _ (List.mem_append_right _ (List.mem_append_right _ (List.mem_append_right _ (List.mem_append_right _ (List.mem_append_right _ (List.mem_append_right _ (List.mem_append_right _ (List.mem_append_right _ (List.mem_append_right _ (List.mem_append_right _ (List.mem_append_left _ h)))))))))))))))))))
theorem wAll_in_20 {w : Cond} (h : w ∈ wAll_20) : w ∈ wAll := List.mem_append_right _ (List.mem_append_right _ (List.mem_append_right _ (List.mem_append_right _ (List.mem_append_right _ (List.mem_append_right _ (List.mem_append_right _ (List.mem_append_right _ (List.mem_append_right _ (List.mem_append_right _ (List.mem_append_right _ (List.mem_append_right _ (List.mem_append_right _ (List.mem_append_right _ (List.mem_append_right _ (List.mem_append_right _ (List.mem_append_right _ (List.mem_append_right _ (List.mem_append_right _ (List.mem_append_right _ (List.mem_append_left _ h))))))))))))))))))))
theorem wAll_in_21 {w : Cond} (h : w ∈ wAll_21) : w ∈ wAll := List.mem_append_right _ (List.mem_append_right _ (List.mem_append_right _ (List.mem_append_right _ (List.mem_append_right _ (List.mem_append_right _ (List.mem_append_right _ (List.mem_append_right _ (List.mem_append_right _ (List.mem_append_right _ (List.mem_append_right _ (List.mem_append_right _ (List.mem_append_right _ (List.mem_append_right _ (List.mem_append_right _ (List.mem_append_right _ (List.mem_append_right _ (List.mem_append_right _ (List.mem_append_right _ (List.mem_append_right _ (List.mem_append_right _ (h)))))))))))))))))))))
theorem k0 : (Cond.code yX0_init cX0_init 1 none) ∈ wAll := wAll_in_0 (List.mem_of_getElem? (i := 0) rfl)
theorem k1 : (Cond.methodLink RX0 3 objectInit) ∈ wAll := wAll_in_0 (List.mem_of_getElem? (i := 1) rfl)
theorem k2 : (Cond.instanceMethod objectInit) ∈ wAll := wAll_in_0 (List.mem_of_getElem? (i := 2) rfl)
theorem k3 : (Cond.code objectInit ⟨#[0xb1]⟩ 1 none) ∈ wAll := wAll_in_0 (List.mem_of_getElem? (i := 3) rfl)
theorem k4 : (Cond.fieldLink RX0 9 "RuleArguments$ArgumentList" "conclusions" "[I") ∈ wAll := wAll_in_0 (List.mem_of_getElem? (i := 4) rfl)
theorem k5 : (Cond.fieldLink RX0 15 "RuleArguments$ArgumentList" "makers" "[I") ∈ wAll := wAll_in_0 (List.mem_of_getElem? (i := 5) rfl)
theorem k6 : (Cond.fieldLink RX0 18 "RuleArguments$ArgumentList" "depths" "[I") ∈ wAll := wAll_in_0 (List.mem_of_getElem? (i := 6) rfl)
theorem k7 : (Cond.fieldLink RX0 21 "RuleArguments$ArgumentList" "parts" "[I") ∈ wAll := wAll_in_0 (List.mem_of_getElem? (i := 7) rfl)
theorem k8 : (Cond.fieldLink RX0 24 "RuleArguments$ArgumentList" "reached" "[I") ∈ wAll := wAll_in_0 (List.mem_of_getElem? (i := 8) rfl)
theorem k9 : (Cond.code yX0_conclusionAt cX0_conclusionAt 2 (some .int)) ∈ wAll := wAll_in_0 (List.mem_of_getElem? (i := 9) rfl)
theorem k10 : (Cond.code yX0_makerAt cX0_makerAt 2 (some .int)) ∈ wAll := wAll_in_0 (List.mem_of_getElem? (i := 10) rfl)
theorem k11 : (Cond.code yX0_depthAt cX0_depthAt 2 (some .int)) ∈ wAll := wAll_in_0 (List.mem_of_getElem? (i := 11) rfl)
theorem k12 : (Cond.code yX0_partAt cX0_partAt 3 (some .int)) ∈ wAll := wAll_in_0 (List.mem_of_getElem? (i := 12) rfl)
theorem k13 : (Cond.code yX0_reachedAt cX0_reachedAt 2 (some .int)) ∈ wAll := wAll_in_0 (List.mem_of_getElem? (i := 13) rfl)
theorem k14 : (Cond.code yX9_isLiteralOrNone cX9_isLiteralOrNone 1 (some .boolean)) ∈ wAll := wAll_in_0 (List.mem_of_getElem? (i := 14) rfl)
theorem k15 : (Cond.code yX2_has cX2_has 2 (some .boolean)) ∈ wAll := wAll_in_0 (List.mem_of_getElem? (i := 15) rfl)
theorem k16 : (Cond.fieldLink RX2 9 "RuleArguments$FactBook" "present" "[Z") ∈ wAll := wAll_in_0 (List.mem_of_getElem? (i := 16) rfl)
theorem k17 : (Cond.static yX9_isLiteralOrNone) ∈ wAll := wAll_in_0 (List.mem_of_getElem? (i := 17) rfl)
theorem k18 : (Cond.initialized RX9) ∈ wAll := wAll_in_0 (List.mem_of_getElem? (i := 18) rfl)
theorem k19 : (Cond.code yX0_literalBit cX0_literalBit 1 (some .int)) ∈ wAll := wAll_in_0 (List.mem_of_getElem? (i := 19) rfl)
theorem k20 : (Cond.code yX0_add cX0_add 7 none) ∈ wAll := wAll_in_0 (List.mem_of_getElem? (i := 20) rfl)
theorem k21 : (Cond.fieldLink RX0 27 "RuleArguments$ArgumentList" "count" "I") ∈ wAll := wAll_in_0 (List.mem_of_getElem? (i := 21) rfl)
theorem k22 : (Cond.fieldLink RX0 31 "RuleArguments$ArgumentList" "tooMany" "Z") ∈ wAll := wAll_in_0 (List.mem_of_getElem? (i := 22) rfl)
theorem k23 : (Cond.methodLink RX0 102 yX0_literalBit) ∈ wAll := wAll_in_0 (List.mem_of_getElem? (i := 23) rfl)
theorem k24 : (Cond.static yX0_literalBit) ∈ wAll := wAll_in_0 (List.mem_of_getElem? (i := 24) rfl)
theorem k25 : (Cond.initialized RX0) ∈ wAll := wAll_in_0 (List.mem_of_getElem? (i := 25) rfl)
theorem k26 : (Cond.methodLink RX0 99 yX0_reachedAt) ∈ wAll := wAll_in_0 (List.mem_of_getElem? (i := 26) rfl)
theorem k27 : (Cond.instanceMethod yX0_reachedAt) ∈ wAll := wAll_in_0 (List.mem_of_getElem? (i := 27) rfl)
theorem k28 : (Cond.selects RX0 yX0_reachedAt yX0_reachedAt) ∈ wAll := wAll_in_0 (List.mem_of_getElem? (i := 28) rfl)
theorem k29 : (Cond.code yJx4a65c_size_8abf5 cJx4a65c_size_8abf5 1 (some .int)) ∈ wAll := wAll_in_0 (List.mem_of_getElem? (i := 29) rfl)
theorem k30 : (Cond.fieldLink RJx4a65c 48 "java/util/ArrayList" "size" "I") ∈ wAll := wAll_in_0 (List.mem_of_getElem? (i := 30) rfl)
theorem k31 : (Cond.code yX5_size cX5_size 1 (some .int)) ∈ wAll := wAll_in_0 (List.mem_of_getElem? (i := 31) rfl)
theorem k32 : (Cond.fieldLink RX5 12 "RuleArguments$RuleBook" "kept" "Ljava/util/ArrayList;") ∈ wAll := wAll_in_0 (List.mem_of_getElem? (i := 32) rfl)
theorem k33 : (Cond.methodLink RX5 31 yJx4a65c_size_8abf5) ∈ wAll := wAll_in_0 (List.mem_of_getElem? (i := 33) rfl)
theorem k34 : (Cond.instanceMethod yJx4a65c_size_8abf5) ∈ wAll := wAll_in_0 (List.mem_of_getElem? (i := 34) rfl)
theorem k35 : (Cond.selects RJx4a65c yJx4a65c_size_8abf5 yJx4a65c_size_8abf5) ∈ wAll := wAll_in_0 (List.mem_of_getElem? (i := 35) rfl)
theorem k36 : (Cond.initialized RJx4a65c) ∈ wAll := wAll_in_0 (List.mem_of_getElem? (i := 36) rfl)
theorem k37 : (Cond.code yJ3_checkIndex_8e157 cJ3_checkIndex_8e157 3 (some .int)) ∈ wAll := wAll_in_0 (List.mem_of_getElem? (i := 37) rfl)
theorem k38 : (Cond.code yJ15_checkIndex_7cf53 cJ15_checkIndex_7cf53 2 (some .int)) ∈ wAll := wAll_in_0 (List.mem_of_getElem? (i := 38) rfl)
theorem k39 : (Cond.methodLink RJ15 105 yJ3_checkIndex_8e157) ∈ wAll := wAll_in_0 (List.mem_of_getElem? (i := 39) rfl)
theorem k40 : (Cond.static yJ3_checkIndex_8e157) ∈ wAll := wAll_in_1 (List.mem_of_getElem? (i := 0) rfl)
theorem k41 : (Cond.initialized RJ3) ∈ wAll := wAll_in_1 (List.mem_of_getElem? (i := 1) rfl)
theorem k42 : (Cond.code yJx4a65c_elementData_915e3 cJx4a65c_elementData_915e3 2 (some (.object "java/lang/Object"))) ∈ wAll := wAll_in_1 (List.mem_of_getElem? (i := 2) rfl)
theorem k43 : (Cond.fieldLink RJx4a65c 9 "java/util/ArrayList" "elementData" "[Ljava/lang/Object;") ∈ wAll := wAll_in_1 (List.mem_of_getElem? (i := 3) rfl)
theorem k44 : (Cond.code yJx4a65c_get_915e3 cJx4a65c_get_915e3 2 (some (.object "java/lang/Object"))) ∈ wAll := wAll_in_1 (List.mem_of_getElem? (i := 4) rfl)
theorem k45 : (Cond.methodLink RJx4a65c 118 yJ15_checkIndex_7cf53) ∈ wAll := wAll_in_1 (List.mem_of_getElem? (i := 5) rfl)
theorem k46 : (Cond.static yJ15_checkIndex_7cf53) ∈ wAll := wAll_in_1 (List.mem_of_getElem? (i := 6) rfl)
theorem k47 : (Cond.initialized RJ15) ∈ wAll := wAll_in_1 (List.mem_of_getElem? (i := 7) rfl)
theorem k48 : (Cond.methodLink RJx4a65c 123 yJx4a65c_elementData_915e3) ∈ wAll := wAll_in_1 (List.mem_of_getElem? (i := 8) rfl)
theorem k49 : (Cond.instanceMethod yJx4a65c_elementData_915e3) ∈ wAll := wAll_in_1 (List.mem_of_getElem? (i := 9) rfl)
theorem k50 : (Cond.selects RJx4a65c yJx4a65c_elementData_915e3 yJx4a65c_elementData_915e3) ∈ wAll := wAll_in_1 (List.mem_of_getElem? (i := 10) rfl)
theorem k51 : (Cond.classLink RX5 18 "RuleArguments$Rule") ∈ wAll := wAll_in_1 (List.mem_of_getElem? (i := 11) rfl)
theorem k52 : (Cond.fieldLink RX5 23 "RuleArguments$RuleBook" "missing" "LRuleArguments$Rule;") ∈ wAll := wAll_in_1 (List.mem_of_getElem? (i := 12) rfl)
theorem k53 : (Cond.methodLink RX5 35 yJx4a65c_get_915e3) ∈ wAll := wAll_in_1 (List.mem_of_getElem? (i := 13) rfl)
theorem k54 : (Cond.instanceMethod yJx4a65c_get_915e3) ∈ wAll := wAll_in_1 (List.mem_of_getElem? (i := 14) rfl)
theorem k55 : (Cond.selects RJx4a65c yJx4a65c_get_915e3 yJx4a65c_get_915e3) ∈ wAll := wAll_in_1 (List.mem_of_getElem? (i := 15) rfl)
theorem k56 : (Cond.code yX5_at cX5_at 2 (some (.object "RuleArguments$Rule"))) ∈ wAll := wAll_in_1 (List.mem_of_getElem? (i := 16) rfl)
theorem k57 : (Cond.code yX0_choicesEnd cX0_choicesEnd 2 (some .int)) ∈ wAll := wAll_in_1 (List.mem_of_getElem? (i := 17) rfl)
theorem k58 : (Cond.code yX0_choicesStart cX0_choicesStart 1 (some .int)) ∈ wAll := wAll_in_1 (List.mem_of_getElem? (i := 18) rfl)
theorem k59 : (Cond.code yX0_fits cX0_fits 8 (some .boolean)) ∈ wAll := wAll_in_1 (List.mem_of_getElem? (i := 19) rfl)
theorem k60 : (Cond.methodLink RX0 94 Lib.Math.max.name) ∈ wAll := wAll_in_1 (List.mem_of_getElem? (i := 20) rfl)
theorem k61 : (Cond.static Lib.Math.max.name) ∈ wAll := wAll_in_1 (List.mem_of_getElem? (i := 21) rfl)
theorem k62 : (Cond.initialized "java/lang/Math") ∈ wAll := wAll_in_1 (List.mem_of_getElem? (i := 22) rfl)
theorem k63 : (Cond.code Lib.Math.max.name Lib.Math.max.code 2 (some .int)) ∈ wAll := wAll_in_1 (List.mem_of_getElem? (i := 23) rfl)
theorem k64 : (Cond.methodLink RX0 91 yX0_depthAt) ∈ wAll := wAll_in_1 (List.mem_of_getElem? (i := 24) rfl)
theorem k65 : (Cond.instanceMethod yX0_depthAt) ∈ wAll := wAll_in_1 (List.mem_of_getElem? (i := 25) rfl)
theorem k66 : (Cond.selects RX0 yX0_depthAt yX0_depthAt) ∈ wAll := wAll_in_1 (List.mem_of_getElem? (i := 26) rfl)
theorem k67 : (Cond.methodLink RX0 67 yX0_choicesEnd) ∈ wAll := wAll_in_1 (List.mem_of_getElem? (i := 27) rfl)
theorem k68 : (Cond.static yX0_choicesEnd) ∈ wAll := wAll_in_1 (List.mem_of_getElem? (i := 28) rfl)
theorem k69 : (Cond.methodLink RX0 77 yX0_choicesStart) ∈ wAll := wAll_in_1 (List.mem_of_getElem? (i := 29) rfl)
theorem k70 : (Cond.static yX0_choicesStart) ∈ wAll := wAll_in_1 (List.mem_of_getElem? (i := 30) rfl)
theorem k71 : (Cond.methodLink RX0 81 yX0_conclusionAt) ∈ wAll := wAll_in_1 (List.mem_of_getElem? (i := 31) rfl)
theorem k72 : (Cond.instanceMethod yX0_conclusionAt) ∈ wAll := wAll_in_1 (List.mem_of_getElem? (i := 32) rfl)
theorem k73 : (Cond.selects RX0 yX0_conclusionAt yX0_conclusionAt) ∈ wAll := wAll_in_1 (List.mem_of_getElem? (i := 33) rfl)
theorem k74 : (Cond.methodLink RX0 87 yX0_fits) ∈ wAll := wAll_in_1 (List.mem_of_getElem? (i := 34) rfl)
theorem k75 : (Cond.instanceMethod yX0_fits) ∈ wAll := wAll_in_1 (List.mem_of_getElem? (i := 35) rfl)
theorem k76 : (Cond.selects RX0 yX0_fits yX0_fits) ∈ wAll := wAll_in_1 (List.mem_of_getElem? (i := 36) rfl)
theorem k77 : (Cond.methodLink RX0 41 yX0_add) ∈ wAll := wAll_in_1 (List.mem_of_getElem? (i := 37) rfl)
theorem k78 : (Cond.instanceMethod yX0_add) ∈ wAll := wAll_in_1 (List.mem_of_getElem? (i := 38) rfl)
theorem k79 : (Cond.selects RX0 yX0_add yX0_add) ∈ wAll := wAll_in_1 (List.mem_of_getElem? (i := 39) rfl)
theorem k80 : (Cond.code yX0_addMadeBy cX0_addMadeBy 11 none) ∈ wAll := wAll_in_2 (List.mem_of_getElem? (i := 0) rfl)
theorem k81 : (Cond.methodLink RX0 35 yX2_has) ∈ wAll := wAll_in_2 (List.mem_of_getElem? (i := 1) rfl)
theorem k82 : (Cond.instanceMethod yX2_has) ∈ wAll := wAll_in_2 (List.mem_of_getElem? (i := 2) rfl)
theorem k83 : (Cond.selects RX2 yX2_has yX2_has) ∈ wAll := wAll_in_2 (List.mem_of_getElem? (i := 3) rfl)
theorem k84 : (Cond.initialized RX2) ∈ wAll := wAll_in_2 (List.mem_of_getElem? (i := 4) rfl)
theorem k85 : (Cond.methodLink RX0 45 yX5_size) ∈ wAll := wAll_in_2 (List.mem_of_getElem? (i := 5) rfl)
theorem k86 : (Cond.instanceMethod yX5_size) ∈ wAll := wAll_in_2 (List.mem_of_getElem? (i := 6) rfl)
theorem k87 : (Cond.selects RX5 yX5_size yX5_size) ∈ wAll := wAll_in_2 (List.mem_of_getElem? (i := 7) rfl)
theorem k88 : (Cond.initialized RX5) ∈ wAll := wAll_in_2 (List.mem_of_getElem? (i := 8) rfl)
theorem k89 : (Cond.methodLink RX0 51 yX5_at) ∈ wAll := wAll_in_2 (List.mem_of_getElem? (i := 9) rfl)
theorem k90 : (Cond.instanceMethod yX5_at) ∈ wAll := wAll_in_2 (List.mem_of_getElem? (i := 10) rfl)
theorem k91 : (Cond.selects RX5 yX5_at yX5_at) ∈ wAll := wAll_in_2 (List.mem_of_getElem? (i := 11) rfl)
theorem k92 : (Cond.methodLink RX0 60 yX0_addMadeBy) ∈ wAll := wAll_in_2 (List.mem_of_getElem? (i := 12) rfl)
theorem k93 : (Cond.instanceMethod yX0_addMadeBy) ∈ wAll := wAll_in_2 (List.mem_of_getElem? (i := 13) rfl)
theorem k94 : (Cond.selects RX0 yX0_addMadeBy yX0_addMadeBy) ∈ wAll := wAll_in_2 (List.mem_of_getElem? (i := 14) rfl)
theorem k95 : (Cond.code yX0_build cX0_build 6 none) ∈ wAll := wAll_in_2 (List.mem_of_getElem? (i := 15) rfl)
theorem k96 : (Cond.code yX1_init cX1_init 1 none) ∈ wAll := wAll_in_2 (List.mem_of_getElem? (i := 16) rfl)
theorem k97 : (Cond.methodLink RX1 3 objectInit) ∈ wAll := wAll_in_2 (List.mem_of_getElem? (i := 17) rfl)
theorem k98 : (Cond.fieldLink RX1 9 "RuleArguments$AttackGraph" "attackers" "[I") ∈ wAll := wAll_in_2 (List.mem_of_getElem? (i := 18) rfl)
theorem k99 : (Cond.code yX1_attackersOf cX1_attackersOf 2 (some .int)) ∈ wAll := wAll_in_2 (List.mem_of_getElem? (i := 19) rfl)
theorem k100 : (Cond.code yX1_leads cX1_leads 3 (some .boolean)) ∈ wAll := wAll_in_2 (List.mem_of_getElem? (i := 20) rfl)
theorem k101 : (Cond.methodLink RX1 15 yX1_attackersOf) ∈ wAll := wAll_in_2 (List.mem_of_getElem? (i := 21) rfl)
theorem k102 : (Cond.instanceMethod yX1_attackersOf) ∈ wAll := wAll_in_2 (List.mem_of_getElem? (i := 22) rfl)
theorem k103 : (Cond.selects RX1 yX1_attackersOf yX1_attackersOf) ∈ wAll := wAll_in_2 (List.mem_of_getElem? (i := 23) rfl)
theorem k104 : (Cond.initialized RX1) ∈ wAll := wAll_in_2 (List.mem_of_getElem? (i := 24) rfl)
theorem k105 : (Cond.methodLink RX1 25 yX0_makerAt) ∈ wAll := wAll_in_2 (List.mem_of_getElem? (i := 25) rfl)
theorem k106 : (Cond.instanceMethod yX0_makerAt) ∈ wAll := wAll_in_2 (List.mem_of_getElem? (i := 26) rfl)
theorem k107 : (Cond.selects RX0 yX0_makerAt yX0_makerAt) ∈ wAll := wAll_in_2 (List.mem_of_getElem? (i := 27) rfl)
theorem k108 : (Cond.methodLink RX1 28 yX5_at) ∈ wAll := wAll_in_2 (List.mem_of_getElem? (i := 28) rfl)
theorem k109 : (Cond.code yX1_strength cX1_strength 4 (some .int)) ∈ wAll := wAll_in_2 (List.mem_of_getElem? (i := 29) rfl)
theorem k110 : (Cond.methodLink RX1 42 yX0_conclusionAt) ∈ wAll := wAll_in_2 (List.mem_of_getElem? (i := 30) rfl)
theorem k111 : (Cond.methodLink RX1 50 yX1_strength) ∈ wAll := wAll_in_2 (List.mem_of_getElem? (i := 31) rfl)
theorem k112 : (Cond.static yX1_strength) ∈ wAll := wAll_in_2 (List.mem_of_getElem? (i := 32) rfl)
theorem k113 : (Cond.code yX1_attackersOfRule cX1_attackersOfRule 7 (some .int)) ∈ wAll := wAll_in_2 (List.mem_of_getElem? (i := 33) rfl)
theorem k114 : (Cond.methodLink RX1 34 yX1_attackersOfRule) ∈ wAll := wAll_in_2 (List.mem_of_getElem? (i := 34) rfl)
theorem k115 : (Cond.static yX1_attackersOfRule) ∈ wAll := wAll_in_2 (List.mem_of_getElem? (i := 35) rfl)
theorem k116 : (Cond.methodLink RX1 38 yX0_partAt) ∈ wAll := wAll_in_2 (List.mem_of_getElem? (i := 36) rfl)
theorem k117 : (Cond.instanceMethod yX0_partAt) ∈ wAll := wAll_in_2 (List.mem_of_getElem? (i := 37) rfl)
theorem k118 : (Cond.selects RX0 yX0_partAt yX0_partAt) ∈ wAll := wAll_in_2 (List.mem_of_getElem? (i := 38) rfl)
theorem k119 : (Cond.code yX1_build cX1_build 6 none) ∈ wAll := wAll_in_2 (List.mem_of_getElem? (i := 39) rfl)
theorem k120 : (Cond.code yX2_init cX2_init 1 none) ∈ wAll := wAll_in_3 (List.mem_of_getElem? (i := 0) rfl)
theorem k121 : (Cond.methodLink RX2 3 objectInit) ∈ wAll := wAll_in_3 (List.mem_of_getElem? (i := 1) rfl)
theorem k122 : (Cond.code yX2_put cX2_put 2 none) ∈ wAll := wAll_in_3 (List.mem_of_getElem? (i := 2) rfl)
theorem k123 : (Cond.fieldLink RX2 22 "RuleArguments$FactBook" "count" "I") ∈ wAll := wAll_in_3 (List.mem_of_getElem? (i := 3) rfl)
theorem k124 : (Cond.methodLink RX2 19 yX2_has) ∈ wAll := wAll_in_3 (List.mem_of_getElem? (i := 4) rfl)
theorem k125 : (Cond.code yX2_drop cX2_drop 2 none) ∈ wAll := wAll_in_3 (List.mem_of_getElem? (i := 5) rfl)
theorem k126 : (Cond.code yX3_init cX3_init 1 none) ∈ wAll := wAll_in_3 (List.mem_of_getElem? (i := 6) rfl)
theorem k127 : (Cond.methodLink RX3 3 objectInit) ∈ wAll := wAll_in_3 (List.mem_of_getElem? (i := 7) rfl)
theorem k128 : (Cond.fieldLink RX3 9 "RuleArguments$Labelling" "rounds" "[I") ∈ wAll := wAll_in_3 (List.mem_of_getElem? (i := 8) rfl)
theorem k129 : (Cond.code yX3_labelAt cX3_labelAt 2 (some .int)) ∈ wAll := wAll_in_3 (List.mem_of_getElem? (i := 9) rfl)
theorem k130 : (Cond.fieldLink RX3 15 "RuleArguments$Labelling" "in" "I") ∈ wAll := wAll_in_3 (List.mem_of_getElem? (i := 10) rfl)
theorem k131 : (Cond.fieldLink RX3 19 "RuleArguments$Labelling" "out" "I") ∈ wAll := wAll_in_3 (List.mem_of_getElem? (i := 11) rfl)
theorem k132 : (Cond.code yX3_roundAt cX3_roundAt 2 (some .int)) ∈ wAll := wAll_in_3 (List.mem_of_getElem? (i := 12) rfl)
theorem k133 : (Cond.code yX3_unattacked cX3_unattacked 5 (some .int)) ∈ wAll := wAll_in_3 (List.mem_of_getElem? (i := 13) rfl)
theorem k134 : (Cond.methodLink RX3 33 yX3_labelAt) ∈ wAll := wAll_in_3 (List.mem_of_getElem? (i := 14) rfl)
theorem k135 : (Cond.instanceMethod yX3_labelAt) ∈ wAll := wAll_in_3 (List.mem_of_getElem? (i := 15) rfl)
theorem k136 : (Cond.selects RX3 yX3_labelAt yX3_labelAt) ∈ wAll := wAll_in_3 (List.mem_of_getElem? (i := 16) rfl)
theorem k137 : (Cond.initialized RX3) ∈ wAll := wAll_in_3 (List.mem_of_getElem? (i := 17) rfl)
theorem k138 : (Cond.methodLink RX3 37 yX1_attackersOf) ∈ wAll := wAll_in_3 (List.mem_of_getElem? (i := 18) rfl)
theorem k139 : (Cond.code yX3_defeated cX3_defeated 5 (some .int)) ∈ wAll := wAll_in_3 (List.mem_of_getElem? (i := 19) rfl)
theorem k140 : (Cond.code yX3_noteRound cX3_noteRound 4 none) ∈ wAll := wAll_in_3 (List.mem_of_getElem? (i := 20) rfl)
theorem k141 : (Cond.methodLink RX3 22 yX3_unattacked) ∈ wAll := wAll_in_3 (List.mem_of_getElem? (i := 21) rfl)
theorem k142 : (Cond.instanceMethod yX3_unattacked) ∈ wAll := wAll_in_3 (List.mem_of_getElem? (i := 22) rfl)
theorem k143 : (Cond.selects RX3 yX3_unattacked yX3_unattacked) ∈ wAll := wAll_in_3 (List.mem_of_getElem? (i := 23) rfl)
theorem k144 : (Cond.methodLink RX3 26 yX3_defeated) ∈ wAll := wAll_in_3 (List.mem_of_getElem? (i := 24) rfl)
theorem k145 : (Cond.instanceMethod yX3_defeated) ∈ wAll := wAll_in_3 (List.mem_of_getElem? (i := 25) rfl)
theorem k146 : (Cond.selects RX3 yX3_defeated yX3_defeated) ∈ wAll := wAll_in_3 (List.mem_of_getElem? (i := 26) rfl)
theorem k147 : (Cond.methodLink RX3 29 yX3_noteRound) ∈ wAll := wAll_in_3 (List.mem_of_getElem? (i := 27) rfl)
theorem k148 : (Cond.instanceMethod yX3_noteRound) ∈ wAll := wAll_in_3 (List.mem_of_getElem? (i := 28) rfl)
theorem k149 : (Cond.selects RX3 yX3_noteRound yX3_noteRound) ∈ wAll := wAll_in_3 (List.mem_of_getElem? (i := 29) rfl)
theorem k150 : (Cond.code yX3_build cX3_build 6 none) ∈ wAll := wAll_in_3 (List.mem_of_getElem? (i := 30) rfl)
theorem k151 : (Cond.code yX4_init cX4_init 6 none) ∈ wAll := wAll_in_3 (List.mem_of_getElem? (i := 31) rfl)
theorem k152 : (Cond.methodLink RX4 1 objectInit) ∈ wAll := wAll_in_3 (List.mem_of_getElem? (i := 32) rfl)
theorem k153 : (Cond.fieldLink RX4 7 "RuleArguments$Rule" "head" "I") ∈ wAll := wAll_in_3 (List.mem_of_getElem? (i := 33) rfl)
theorem k154 : (Cond.fieldLink RX4 13 "RuleArguments$Rule" "first" "I") ∈ wAll := wAll_in_3 (List.mem_of_getElem? (i := 34) rfl)
theorem k155 : (Cond.fieldLink RX4 16 "RuleArguments$Rule" "second" "I") ∈ wAll := wAll_in_3 (List.mem_of_getElem? (i := 35) rfl)
theorem k156 : (Cond.fieldLink RX4 19 "RuleArguments$Rule" "third" "I") ∈ wAll := wAll_in_3 (List.mem_of_getElem? (i := 36) rfl)
theorem k157 : (Cond.fieldLink RX4 22 "RuleArguments$Rule" "priority" "I") ∈ wAll := wAll_in_3 (List.mem_of_getElem? (i := 37) rfl)
theorem k158 : (Cond.fieldLink RX4 25 "RuleArguments$Rule" "on" "Z") ∈ wAll := wAll_in_3 (List.mem_of_getElem? (i := 38) rfl)
theorem k159 : (Cond.code yJxa1e45_init_da8c8 cJxa1e45_init_da8c8 1 none) ∈ wAll := wAll_in_3 (List.mem_of_getElem? (i := 39) rfl)
theorem k160 : (Cond.methodLink RJxa1e45 1 objectInit) ∈ wAll := wAll_in_4 (List.mem_of_getElem? (i := 0) rfl)
theorem k161 : (Cond.code yJxc12de_init_da8c8 cJxc12de_init_da8c8 1 none) ∈ wAll := wAll_in_4 (List.mem_of_getElem? (i := 1) rfl)
theorem k162 : (Cond.fieldLink RJxc12de 7 "java/util/AbstractList" "modCount" "I") ∈ wAll := wAll_in_4 (List.mem_of_getElem? (i := 2) rfl)
theorem k163 : (Cond.methodLink RJxc12de 1 yJxa1e45_init_da8c8) ∈ wAll := wAll_in_4 (List.mem_of_getElem? (i := 3) rfl)
theorem k164 : (Cond.instanceMethod yJxa1e45_init_da8c8) ∈ wAll := wAll_in_4 (List.mem_of_getElem? (i := 4) rfl)
theorem k165 : (Cond.initialized RJxa1e45) ∈ wAll := wAll_in_4 (List.mem_of_getElem? (i := 5) rfl)
theorem k166 : (Cond.code yJx4a65c_init_da8c8 cJx4a65c_init_da8c8 1 none) ∈ wAll := wAll_in_4 (List.mem_of_getElem? (i := 6) rfl)
theorem k167 : (Cond.fieldLink RJx4a65c 39 "java/util/ArrayList" "DEFAULTCAPACITY_EMPTY_ELEMENTDATA" "[Ljava/lang/Object;") ∈ wAll := wAll_in_4 (List.mem_of_getElem? (i := 7) rfl)
theorem k168 : (Cond.methodLink RJx4a65c 1 yJxc12de_init_da8c8) ∈ wAll := wAll_in_4 (List.mem_of_getElem? (i := 8) rfl)
theorem k169 : (Cond.instanceMethod yJxc12de_init_da8c8) ∈ wAll := wAll_in_4 (List.mem_of_getElem? (i := 9) rfl)
theorem k170 : (Cond.initialized RJxc12de) ∈ wAll := wAll_in_4 (List.mem_of_getElem? (i := 10) rfl)
theorem k171 : (Cond.methodLink RX5 3 objectInit) ∈ wAll := wAll_in_4 (List.mem_of_getElem? (i := 11) rfl)
theorem k172 : (Cond.classLink RX5 9 RJx4a65c) ∈ wAll := wAll_in_4 (List.mem_of_getElem? (i := 12) rfl)
theorem k173 : (Cond.instantiable RJx4a65c 3) ∈ wAll := wAll_in_4 (List.mem_of_getElem? (i := 13) rfl)
theorem k174 : (Cond.classLink RX5 18 RX4) ∈ wAll := wAll_in_4 (List.mem_of_getElem? (i := 14) rfl)
theorem k175 : (Cond.instantiable RX4 7) ∈ wAll := wAll_in_4 (List.mem_of_getElem? (i := 15) rfl)
theorem k176 : (Cond.initialized RX4) ∈ wAll := wAll_in_4 (List.mem_of_getElem? (i := 16) rfl)
theorem k177 : (Cond.methodLink RX5 11 yJx4a65c_init_da8c8) ∈ wAll := wAll_in_4 (List.mem_of_getElem? (i := 17) rfl)
theorem k178 : (Cond.instanceMethod yJx4a65c_init_da8c8) ∈ wAll := wAll_in_4 (List.mem_of_getElem? (i := 18) rfl)
theorem k179 : (Cond.methodLink RX5 20 yX4_init) ∈ wAll := wAll_in_4 (List.mem_of_getElem? (i := 19) rfl)
theorem k180 : (Cond.instanceMethod yX4_init) ∈ wAll := wAll_in_4 (List.mem_of_getElem? (i := 20) rfl)
theorem k181 : (Cond.code yX5_init cX5_init 1 none) ∈ wAll := wAll_in_4 (List.mem_of_getElem? (i := 21) rfl)
theorem k182 : (Cond.code yJ8_hugeLength_7cf53 cJ8_hugeLength_7cf53 3 (some .int)) ∈ wAll := wAll_in_4 (List.mem_of_getElem? (i := 22) rfl)
theorem k183 : (Cond.constant RJ8 200 (2147483639)) ∈ wAll := wAll_in_4 (List.mem_of_getElem? (i := 23) rfl)
theorem k184 : (Cond.code yJ8_newLength_cabcc cJ8_newLength_cabcc 4 (some .int)) ∈ wAll := wAll_in_4 (List.mem_of_getElem? (i := 24) rfl)
theorem k185 : (Cond.methodLink RJ8 194 Lib.Math.max.name) ∈ wAll := wAll_in_4 (List.mem_of_getElem? (i := 25) rfl)
theorem k186 : (Cond.methodLink RJ8 201 yJ8_hugeLength_7cf53) ∈ wAll := wAll_in_4 (List.mem_of_getElem? (i := 26) rfl)
theorem k187 : (Cond.static yJ8_hugeLength_7cf53) ∈ wAll := wAll_in_4 (List.mem_of_getElem? (i := 27) rfl)
theorem k188 : (Cond.initialized RJ8) ∈ wAll := wAll_in_4 (List.mem_of_getElem? (i := 28) rfl)
theorem k189 : (Cond.code yJ7_copyOf_6403c cJ7_copyOf_6403c 4 (some (.array (.object "java/lang/Object")))) ∈ wAll := wAll_in_4 (List.mem_of_getElem? (i := 29) rfl)
theorem k190 : (Cond.classLink RJ7 110 "[Ljava/lang/Object;") ∈ wAll := wAll_in_4 (List.mem_of_getElem? (i := 30) rfl)
theorem k191 : (Cond.classLink RJ7 2 "java/lang/Object") ∈ wAll := wAll_in_4 (List.mem_of_getElem? (i := 31) rfl)
theorem k192 : (Cond.methodLink RJ7 304 Lib.Math.min.name) ∈ wAll := wAll_in_4 (List.mem_of_getElem? (i := 32) rfl)
theorem k193 : (Cond.static Lib.Math.min.name) ∈ wAll := wAll_in_4 (List.mem_of_getElem? (i := 33) rfl)
theorem k194 : (Cond.code Lib.Math.min.name Lib.Math.min.code 2 (some .int)) ∈ wAll := wAll_in_4 (List.mem_of_getElem? (i := 34) rfl)
theorem k195 : (Cond.methodLink RJ7 150 arraycopyName) ∈ wAll := wAll_in_4 (List.mem_of_getElem? (i := 35) rfl)
theorem k196 : (Cond.native arraycopyName) ∈ wAll := wAll_in_4 (List.mem_of_getElem? (i := 36) rfl)
theorem k197 : (Cond.static arraycopyName) ∈ wAll := wAll_in_4 (List.mem_of_getElem? (i := 37) rfl)
theorem k198 : (Cond.initialized "java/lang/System") ∈ wAll := wAll_in_4 (List.mem_of_getElem? (i := 38) rfl)
theorem k199 : (Cond.code yJ7_copyOf_1904c cJ7_copyOf_1904c 2 (some (.array (.object "java/lang/Object")))) ∈ wAll := wAll_in_4 (List.mem_of_getElem? (i := 39) rfl)
theorem k200 : (Cond.methodLink RJ7 86 ⟨"java/lang/Object", "getClass", "()Ljava/lang/Class;"⟩) ∈ wAll := wAll_in_5 (List.mem_of_getElem? (i := 0) rfl)
theorem k201 : (Cond.selects "[Ljava/lang/Object;" ⟨"java/lang/Object", "getClass", "()Ljava/lang/Class;"⟩ ⟨"java/lang/Object", "getClass", "()Ljava/lang/Class;"⟩) ∈ wAll := wAll_in_5 (List.mem_of_getElem? (i := 1) rfl)
theorem k202 : (Cond.instanceMethod ⟨"java/lang/Object", "getClass", "()Ljava/lang/Class;"⟩) ∈ wAll := wAll_in_5 (List.mem_of_getElem? (i := 2) rfl)
theorem k203 : (Cond.native ⟨"java/lang/Object", "getClass", "()Ljava/lang/Class;"⟩) ∈ wAll := wAll_in_5 (List.mem_of_getElem? (i := 3) rfl)
theorem k204 : (Cond.methodLink RJ7 300 yJ7_copyOf_6403c) ∈ wAll := wAll_in_5 (List.mem_of_getElem? (i := 4) rfl)
theorem k205 : (Cond.static yJ7_copyOf_6403c) ∈ wAll := wAll_in_5 (List.mem_of_getElem? (i := 5) rfl)
theorem k206 : (Cond.initialized RJ7) ∈ wAll := wAll_in_5 (List.mem_of_getElem? (i := 6) rfl)
theorem k207 : (Cond.methodLink RJx4a65c 79 Lib.Math.max.name) ∈ wAll := wAll_in_5 (List.mem_of_getElem? (i := 7) rfl)
theorem k208 : (Cond.classLink RJx4a65c 7 "java/lang/Object") ∈ wAll := wAll_in_5 (List.mem_of_getElem? (i := 8) rfl)
theorem k209 : (Cond.methodLink RJx4a65c 73 yJ8_newLength_cabcc) ∈ wAll := wAll_in_5 (List.mem_of_getElem? (i := 9) rfl)
theorem k210 : (Cond.static yJ8_newLength_cabcc) ∈ wAll := wAll_in_5 (List.mem_of_getElem? (i := 10) rfl)
theorem k211 : (Cond.methodLink RJx4a65c 66 yJ7_copyOf_1904c) ∈ wAll := wAll_in_5 (List.mem_of_getElem? (i := 11) rfl)
theorem k212 : (Cond.static yJ7_copyOf_1904c) ∈ wAll := wAll_in_5 (List.mem_of_getElem? (i := 12) rfl)
theorem k213 : (Cond.code yJx4a65c_grow_92f84 cJx4a65c_grow_92f84 4 (some (.array (.object "java/lang/Object")))) ∈ wAll := wAll_in_5 (List.mem_of_getElem? (i := 13) rfl)
theorem k214 : (Cond.methodLink RJx4a65c 69 yJx4a65c_grow_92f84) ∈ wAll := wAll_in_5 (List.mem_of_getElem? (i := 14) rfl)
theorem k215 : (Cond.instanceMethod yJx4a65c_grow_92f84) ∈ wAll := wAll_in_5 (List.mem_of_getElem? (i := 15) rfl)
theorem k216 : (Cond.selects RJx4a65c yJx4a65c_grow_92f84 yJx4a65c_grow_92f84) ∈ wAll := wAll_in_5 (List.mem_of_getElem? (i := 16) rfl)
theorem k217 : (Cond.code yJx4a65c_grow_d5877 cJx4a65c_grow_d5877 1 (some (.array (.object "java/lang/Object")))) ∈ wAll := wAll_in_5 (List.mem_of_getElem? (i := 17) rfl)
theorem k218 : (Cond.methodLink RJx4a65c 129 yJx4a65c_grow_d5877) ∈ wAll := wAll_in_5 (List.mem_of_getElem? (i := 18) rfl)
theorem k219 : (Cond.instanceMethod yJx4a65c_grow_d5877) ∈ wAll := wAll_in_5 (List.mem_of_getElem? (i := 19) rfl)
theorem k220 : (Cond.selects RJx4a65c yJx4a65c_grow_d5877 yJx4a65c_grow_d5877) ∈ wAll := wAll_in_5 (List.mem_of_getElem? (i := 20) rfl)
theorem k221 : (Cond.code yJx4a65c_add_72be8 cJx4a65c_add_72be8 4 none) ∈ wAll := wAll_in_5 (List.mem_of_getElem? (i := 21) rfl)
theorem k222 : (Cond.fieldLink RJx4a65c 63 "java/util/ArrayList" "modCount" "I") ∈ wAll := wAll_in_5 (List.mem_of_getElem? (i := 22) rfl)
theorem k223 : (Cond.sameField "java/util/ArrayList" "java/util/AbstractList" "modCount" "I") ∈ wAll := wAll_in_5 (List.mem_of_getElem? (i := 23) rfl)
theorem k224 : (Cond.methodLink RJx4a65c 131 yJx4a65c_add_72be8) ∈ wAll := wAll_in_5 (List.mem_of_getElem? (i := 24) rfl)
theorem k225 : (Cond.instanceMethod yJx4a65c_add_72be8) ∈ wAll := wAll_in_5 (List.mem_of_getElem? (i := 25) rfl)
theorem k226 : (Cond.selects RJx4a65c yJx4a65c_add_72be8 yJx4a65c_add_72be8) ∈ wAll := wAll_in_5 (List.mem_of_getElem? (i := 26) rfl)
theorem k227 : (Cond.code yJx4a65c_add_9ea2d cJx4a65c_add_9ea2d 2 (some .boolean)) ∈ wAll := wAll_in_5 (List.mem_of_getElem? (i := 27) rfl)
theorem k228 : (Cond.methodLink RX5 39 yJx4a65c_add_9ea2d) ∈ wAll := wAll_in_5 (List.mem_of_getElem? (i := 28) rfl)
theorem k229 : (Cond.instanceMethod yJx4a65c_add_9ea2d) ∈ wAll := wAll_in_5 (List.mem_of_getElem? (i := 29) rfl)
theorem k230 : (Cond.selects RJx4a65c yJx4a65c_add_9ea2d yJx4a65c_add_9ea2d) ∈ wAll := wAll_in_5 (List.mem_of_getElem? (i := 30) rfl)
theorem k231 : (Cond.code yX5_put cX5_put 2 none) ∈ wAll := wAll_in_5 (List.mem_of_getElem? (i := 31) rfl)
theorem k232 : (Cond.code yX6_init cX6_init 1 none) ∈ wAll := wAll_in_5 (List.mem_of_getElem? (i := 32) rfl)
theorem k233 : (Cond.methodLink RX6 3 objectInit) ∈ wAll := wAll_in_5 (List.mem_of_getElem? (i := 33) rfl)
theorem k234 : (Cond.fieldLink RX6 9 "RuleArguments$SetList" "sets" "[I") ∈ wAll := wAll_in_5 (List.mem_of_getElem? (i := 34) rfl)
theorem k235 : (Cond.code yX6_clear cX6_clear 1 none) ∈ wAll := wAll_in_5 (List.mem_of_getElem? (i := 35) rfl)
theorem k236 : (Cond.fieldLink RX6 15 "RuleArguments$SetList" "count" "I") ∈ wAll := wAll_in_5 (List.mem_of_getElem? (i := 36) rfl)
theorem k237 : (Cond.code yX6_keep cX6_keep 2 none) ∈ wAll := wAll_in_5 (List.mem_of_getElem? (i := 37) rfl)
theorem k238 : (Cond.code yX6_covers cX6_covers 3 (some .boolean)) ∈ wAll := wAll_in_5 (List.mem_of_getElem? (i := 38) rfl)
theorem k239 : (Cond.code yX9_setBit cX9_setBit 1 (some .int)) ∈ wAll := wAll_in_5 (List.mem_of_getElem? (i := 39) rfl)
theorem k240 : (Cond.code yX6_contains cX6_contains 4 (some .boolean)) ∈ wAll := wAll_in_6 (List.mem_of_getElem? (i := 0) rfl)
theorem k241 : (Cond.static yX9_setBit) ∈ wAll := wAll_in_6 (List.mem_of_getElem? (i := 1) rfl)
theorem k242 : (Cond.code yX8_init cX8_init 1 none) ∈ wAll := wAll_in_6 (List.mem_of_getElem? (i := 2) rfl)
theorem k243 : (Cond.methodLink RX8 3 objectInit) ∈ wAll := wAll_in_6 (List.mem_of_getElem? (i := 3) rfl)
theorem k244 : (Cond.fieldLink RX8 9 "RuleArguments$UnionTable" "rows" "[I") ∈ wAll := wAll_in_6 (List.mem_of_getElem? (i := 4) rfl)
theorem k245 : (Cond.fieldLink RX8 15 "RuleArguments$UnionTable" "lower" "[I") ∈ wAll := wAll_in_6 (List.mem_of_getElem? (i := 5) rfl)
theorem k246 : (Cond.fieldLink RX8 18 "RuleArguments$UnionTable" "upper" "[I") ∈ wAll := wAll_in_6 (List.mem_of_getElem? (i := 6) rfl)
theorem k247 : (Cond.code yX7_init cX7_init 1 none) ∈ wAll := wAll_in_6 (List.mem_of_getElem? (i := 7) rfl)
theorem k248 : (Cond.methodLink RX7 3 objectInit) ∈ wAll := wAll_in_6 (List.mem_of_getElem? (i := 8) rfl)
theorem k249 : (Cond.classLink RX7 9 RX8) ∈ wAll := wAll_in_6 (List.mem_of_getElem? (i := 9) rfl)
theorem k250 : (Cond.instantiable RX8 3) ∈ wAll := wAll_in_6 (List.mem_of_getElem? (i := 10) rfl)
theorem k251 : (Cond.initialized RX8) ∈ wAll := wAll_in_6 (List.mem_of_getElem? (i := 11) rfl)
theorem k252 : (Cond.fieldLink RX7 12 "RuleArguments$SetSearch" "attackers" "LRuleArguments$UnionTable;") ∈ wAll := wAll_in_6 (List.mem_of_getElem? (i := 12) rfl)
theorem k253 : (Cond.fieldLink RX7 18 "RuleArguments$SetSearch" "attacked" "LRuleArguments$UnionTable;") ∈ wAll := wAll_in_6 (List.mem_of_getElem? (i := 13) rfl)
theorem k254 : (Cond.classLink RX7 21 RX6) ∈ wAll := wAll_in_6 (List.mem_of_getElem? (i := 14) rfl)
theorem k255 : (Cond.instantiable RX6 2) ∈ wAll := wAll_in_6 (List.mem_of_getElem? (i := 15) rfl)
theorem k256 : (Cond.initialized RX6) ∈ wAll := wAll_in_6 (List.mem_of_getElem? (i := 16) rfl)
theorem k257 : (Cond.fieldLink RX7 24 "RuleArguments$SetSearch" "byTrying" "LRuleArguments$SetList;") ∈ wAll := wAll_in_6 (List.mem_of_getElem? (i := 17) rfl)
theorem k258 : (Cond.fieldLink RX7 28 "RuleArguments$SetSearch" "bySweep" "LRuleArguments$SetList;") ∈ wAll := wAll_in_6 (List.mem_of_getElem? (i := 18) rfl)
theorem k259 : (Cond.instanceMethod yX8_init) ∈ wAll := wAll_in_6 (List.mem_of_getElem? (i := 19) rfl)
theorem k260 : (Cond.instanceMethod yX6_init) ∈ wAll := wAll_in_6 (List.mem_of_getElem? (i := 20) rfl)
theorem k261 : (Cond.code yX8_clearRows cX8_clearRows 2 none) ∈ wAll := wAll_in_6 (List.mem_of_getElem? (i := 21) rfl)
theorem k262 : (Cond.code yX8_addToRow cX8_addToRow 3 none) ∈ wAll := wAll_in_6 (List.mem_of_getElem? (i := 22) rfl)
theorem k263 : (Cond.code yX8_fillHalves cX8_fillHalves 4 none) ∈ wAll := wAll_in_6 (List.mem_of_getElem? (i := 23) rfl)
theorem k264 : (Cond.methodLink RX7 31 Lib.Math.min.name) ∈ wAll := wAll_in_6 (List.mem_of_getElem? (i := 24) rfl)
theorem k265 : (Cond.fieldLink RX7 37 "RuleArguments$SetSearch" "size" "I") ∈ wAll := wAll_in_6 (List.mem_of_getElem? (i := 25) rfl)
theorem k266 : (Cond.methodLink RX7 41 yX8_clearRows) ∈ wAll := wAll_in_6 (List.mem_of_getElem? (i := 26) rfl)
theorem k267 : (Cond.instanceMethod yX8_clearRows) ∈ wAll := wAll_in_6 (List.mem_of_getElem? (i := 27) rfl)
theorem k268 : (Cond.selects RX8 yX8_clearRows yX8_clearRows) ∈ wAll := wAll_in_6 (List.mem_of_getElem? (i := 28) rfl)
theorem k269 : (Cond.methodLink RX7 44 yX1_leads) ∈ wAll := wAll_in_6 (List.mem_of_getElem? (i := 29) rfl)
theorem k270 : (Cond.instanceMethod yX1_leads) ∈ wAll := wAll_in_6 (List.mem_of_getElem? (i := 30) rfl)
theorem k271 : (Cond.selects RX1 yX1_leads yX1_leads) ∈ wAll := wAll_in_6 (List.mem_of_getElem? (i := 31) rfl)
theorem k272 : (Cond.methodLink RX7 54 yX8_addToRow) ∈ wAll := wAll_in_6 (List.mem_of_getElem? (i := 32) rfl)
theorem k273 : (Cond.instanceMethod yX8_addToRow) ∈ wAll := wAll_in_6 (List.mem_of_getElem? (i := 33) rfl)
theorem k274 : (Cond.selects RX8 yX8_addToRow yX8_addToRow) ∈ wAll := wAll_in_6 (List.mem_of_getElem? (i := 34) rfl)
theorem k275 : (Cond.methodLink RX7 58 yX8_fillHalves) ∈ wAll := wAll_in_6 (List.mem_of_getElem? (i := 35) rfl)
theorem k276 : (Cond.instanceMethod yX8_fillHalves) ∈ wAll := wAll_in_6 (List.mem_of_getElem? (i := 36) rfl)
theorem k277 : (Cond.selects RX8 yX8_fillHalves yX8_fillHalves) ∈ wAll := wAll_in_6 (List.mem_of_getElem? (i := 37) rfl)
theorem k278 : (Cond.code yX7_prepare cX7_prepare 5 none) ∈ wAll := wAll_in_6 (List.mem_of_getElem? (i := 38) rfl)
theorem k279 : (Cond.code yX7_restFrom cX7_restFrom 3 (some .int)) ∈ wAll := wAll_in_6 (List.mem_of_getElem? (i := 39) rfl)
theorem k280 : (Cond.code yX8_of cX8_of 2 (some .int)) ∈ wAll := wAll_in_7 (List.mem_of_getElem? (i := 0) rfl)
theorem k281 : (Cond.code yX7_canDefend cX7_canDefend 3 (some .boolean)) ∈ wAll := wAll_in_7 (List.mem_of_getElem? (i := 1) rfl)
theorem k282 : (Cond.methodLink RX7 85 yX8_of) ∈ wAll := wAll_in_7 (List.mem_of_getElem? (i := 2) rfl)
theorem k283 : (Cond.instanceMethod yX8_of) ∈ wAll := wAll_in_7 (List.mem_of_getElem? (i := 3) rfl)
theorem k284 : (Cond.selects RX8 yX8_of yX8_of) ∈ wAll := wAll_in_7 (List.mem_of_getElem? (i := 4) rfl)
theorem k285 : (Cond.code yX7_isPeaceful cX7_isPeaceful 2 (some .boolean)) ∈ wAll := wAll_in_7 (List.mem_of_getElem? (i := 5) rfl)
theorem k286 : (Cond.methodLink RX7 68 yX7_restFrom) ∈ wAll := wAll_in_7 (List.mem_of_getElem? (i := 6) rfl)
theorem k287 : (Cond.instanceMethod yX7_restFrom) ∈ wAll := wAll_in_7 (List.mem_of_getElem? (i := 7) rfl)
theorem k288 : (Cond.selects RX7 yX7_restFrom yX7_restFrom) ∈ wAll := wAll_in_7 (List.mem_of_getElem? (i := 8) rfl)
theorem k289 : (Cond.initialized RX7) ∈ wAll := wAll_in_7 (List.mem_of_getElem? (i := 9) rfl)
theorem k290 : (Cond.methodLink RX7 71 yX6_covers) ∈ wAll := wAll_in_7 (List.mem_of_getElem? (i := 10) rfl)
theorem k291 : (Cond.instanceMethod yX6_covers) ∈ wAll := wAll_in_7 (List.mem_of_getElem? (i := 11) rfl)
theorem k292 : (Cond.selects RX6 yX6_covers yX6_covers) ∈ wAll := wAll_in_7 (List.mem_of_getElem? (i := 12) rfl)
theorem k293 : (Cond.methodLink RX7 75 yX7_canDefend) ∈ wAll := wAll_in_7 (List.mem_of_getElem? (i := 13) rfl)
theorem k294 : (Cond.instanceMethod yX7_canDefend) ∈ wAll := wAll_in_7 (List.mem_of_getElem? (i := 14) rfl)
theorem k295 : (Cond.selects RX7 yX7_canDefend yX7_canDefend) ∈ wAll := wAll_in_7 (List.mem_of_getElem? (i := 15) rfl)
theorem k296 : (Cond.methodLink RX7 78 yX6_keep) ∈ wAll := wAll_in_7 (List.mem_of_getElem? (i := 16) rfl)
theorem k297 : (Cond.instanceMethod yX6_keep) ∈ wAll := wAll_in_7 (List.mem_of_getElem? (i := 17) rfl)
theorem k298 : (Cond.selects RX6 yX6_keep yX6_keep) ∈ wAll := wAll_in_7 (List.mem_of_getElem? (i := 18) rfl)
theorem k299 : (Cond.methodLink RX7 82 yX7_isPeaceful) ∈ wAll := wAll_in_7 (List.mem_of_getElem? (i := 19) rfl)
theorem k300 : (Cond.instanceMethod yX7_isPeaceful) ∈ wAll := wAll_in_7 (List.mem_of_getElem? (i := 20) rfl)
theorem k301 : (Cond.selects RX7 yX7_isPeaceful yX7_isPeaceful) ∈ wAll := wAll_in_7 (List.mem_of_getElem? (i := 21) rfl)
theorem k302 : (Cond.methodLink RX7 64 yX7_tryFrom) ∈ wAll := wAll_in_7 (List.mem_of_getElem? (i := 22) rfl)
theorem k303 : (Cond.static yX7_tryFrom) ∈ wAll := wAll_in_7 (List.mem_of_getElem? (i := 23) rfl)
theorem k304 : (Cond.code yX7_tryFrom cX7_tryFrom 5 none) ∈ wAll := wAll_in_7 (List.mem_of_getElem? (i := 24) rfl)
theorem k305 : (Cond.methodLink RX7 61 yX6_clear) ∈ wAll := wAll_in_7 (List.mem_of_getElem? (i := 25) rfl)
theorem k306 : (Cond.instanceMethod yX6_clear) ∈ wAll := wAll_in_7 (List.mem_of_getElem? (i := 26) rfl)
theorem k307 : (Cond.selects RX6 yX6_clear yX6_clear) ∈ wAll := wAll_in_7 (List.mem_of_getElem? (i := 27) rfl)
theorem k308 : (Cond.code yX7_tryAll cX7_tryAll 1 none) ∈ wAll := wAll_in_7 (List.mem_of_getElem? (i := 28) rfl)
theorem k309 : (Cond.code yX7_sweep cX7_sweep 3 none) ∈ wAll := wAll_in_7 (List.mem_of_getElem? (i := 29) rfl)
theorem k310 : (Cond.methodLink RX9 3 objectInit) ∈ wAll := wAll_in_7 (List.mem_of_getElem? (i := 30) rfl)
theorem k311 : (Cond.classLink RX9 9 RX2) ∈ wAll := wAll_in_7 (List.mem_of_getElem? (i := 31) rfl)
theorem k312 : (Cond.instantiable RX2 2) ∈ wAll := wAll_in_7 (List.mem_of_getElem? (i := 32) rfl)
theorem k313 : (Cond.fieldLink RX9 12 "RuleArguments" "factBook" "LRuleArguments$FactBook;") ∈ wAll := wAll_in_7 (List.mem_of_getElem? (i := 33) rfl)
theorem k314 : (Cond.classLink RX9 16 RX5) ∈ wAll := wAll_in_7 (List.mem_of_getElem? (i := 34) rfl)
theorem k315 : (Cond.instantiable RX5 2) ∈ wAll := wAll_in_7 (List.mem_of_getElem? (i := 35) rfl)
theorem k316 : (Cond.fieldLink RX9 19 "RuleArguments" "ruleBook" "LRuleArguments$RuleBook;") ∈ wAll := wAll_in_7 (List.mem_of_getElem? (i := 36) rfl)
theorem k317 : (Cond.classLink RX9 23 RX0) ∈ wAll := wAll_in_7 (List.mem_of_getElem? (i := 37) rfl)
theorem k318 : (Cond.instantiable RX0 7) ∈ wAll := wAll_in_7 (List.mem_of_getElem? (i := 38) rfl)
theorem k319 : (Cond.fieldLink RX9 26 "RuleArguments" "list" "LRuleArguments$ArgumentList;") ∈ wAll := wAll_in_7 (List.mem_of_getElem? (i := 39) rfl)
theorem k320 : (Cond.classLink RX9 30 RX1) ∈ wAll := wAll_in_8 (List.mem_of_getElem? (i := 0) rfl)
theorem k321 : (Cond.instantiable RX1 1) ∈ wAll := wAll_in_8 (List.mem_of_getElem? (i := 1) rfl)
theorem k322 : (Cond.fieldLink RX9 33 "RuleArguments" "graph" "LRuleArguments$AttackGraph;") ∈ wAll := wAll_in_8 (List.mem_of_getElem? (i := 2) rfl)
theorem k323 : (Cond.classLink RX9 37 RX3) ∈ wAll := wAll_in_8 (List.mem_of_getElem? (i := 3) rfl)
theorem k324 : (Cond.instantiable RX3 3) ∈ wAll := wAll_in_8 (List.mem_of_getElem? (i := 4) rfl)
theorem k325 : (Cond.fieldLink RX9 40 "RuleArguments" "labelling" "LRuleArguments$Labelling;") ∈ wAll := wAll_in_8 (List.mem_of_getElem? (i := 5) rfl)
theorem k326 : (Cond.classLink RX9 44 RX7) ∈ wAll := wAll_in_8 (List.mem_of_getElem? (i := 6) rfl)
theorem k327 : (Cond.instantiable RX7 5) ∈ wAll := wAll_in_8 (List.mem_of_getElem? (i := 7) rfl)
theorem k328 : (Cond.fieldLink RX9 47 "RuleArguments" "search" "LRuleArguments$SetSearch;") ∈ wAll := wAll_in_8 (List.mem_of_getElem? (i := 8) rfl)
theorem k329 : (Cond.instanceMethod yX2_init) ∈ wAll := wAll_in_8 (List.mem_of_getElem? (i := 9) rfl)
theorem k330 : (Cond.methodLink RX9 18 yX5_init) ∈ wAll := wAll_in_8 (List.mem_of_getElem? (i := 10) rfl)
theorem k331 : (Cond.instanceMethod yX5_init) ∈ wAll := wAll_in_8 (List.mem_of_getElem? (i := 11) rfl)
theorem k332 : (Cond.instanceMethod yX0_init) ∈ wAll := wAll_in_8 (List.mem_of_getElem? (i := 12) rfl)
theorem k333 : (Cond.instanceMethod yX1_init) ∈ wAll := wAll_in_8 (List.mem_of_getElem? (i := 13) rfl)
theorem k334 : (Cond.instanceMethod yX3_init) ∈ wAll := wAll_in_8 (List.mem_of_getElem? (i := 14) rfl)
theorem k335 : (Cond.instanceMethod yX7_init) ∈ wAll := wAll_in_8 (List.mem_of_getElem? (i := 15) rfl)
theorem k336 : (Cond.code yX9_init cX9_init 1 none) ∈ wAll := wAll_in_8 (List.mem_of_getElem? (i := 16) rfl)
theorem k337 : (Cond.code yX9_demandLiteralOrNone cX9_demandLiteralOrNone 1 none) ∈ wAll := wAll_in_8 (List.mem_of_getElem? (i := 17) rfl)
theorem k338 : (Cond.classLink RX9 89 "java/lang/IllegalArgumentException") ∈ wAll := wAll_in_8 (List.mem_of_getElem? (i := 18) rfl)
theorem k339 : (Cond.initialized "java/lang/IllegalArgumentException") ∈ wAll := wAll_in_8 (List.mem_of_getElem? (i := 19) rfl)
theorem k340 : (Cond.methodLink RX9 205 yX9_isLiteralOrNone) ∈ wAll := wAll_in_8 (List.mem_of_getElem? (i := 20) rfl)
theorem k341 : (Cond.code yX9_demandLiteral cX9_demandLiteral 1 none) ∈ wAll := wAll_in_8 (List.mem_of_getElem? (i := 21) rfl)
theorem k342 : (Cond.methodLink RX9 79 yX9_demandLiteralOrNone) ∈ wAll := wAll_in_8 (List.mem_of_getElem? (i := 22) rfl)
theorem k343 : (Cond.static yX9_demandLiteralOrNone) ∈ wAll := wAll_in_8 (List.mem_of_getElem? (i := 23) rfl)
theorem k344 : (Cond.code yX9_forget cX9_forget 1 none) ∈ wAll := wAll_in_8 (List.mem_of_getElem? (i := 24) rfl)
theorem k345 : (Cond.fieldLink RX9 220 "RuleArguments" "built" "Z") ∈ wAll := wAll_in_8 (List.mem_of_getElem? (i := 25) rfl)
theorem k346 : (Cond.fieldLink RX9 223 "RuleArguments" "tried" "Z") ∈ wAll := wAll_in_8 (List.mem_of_getElem? (i := 26) rfl)
theorem k347 : (Cond.fieldLink RX9 226 "RuleArguments" "swept" "Z") ∈ wAll := wAll_in_8 (List.mem_of_getElem? (i := 27) rfl)
theorem k348 : (Cond.classLink RX9 59 "java/lang/IllegalStateException") ∈ wAll := wAll_in_8 (List.mem_of_getElem? (i := 28) rfl)
theorem k349 : (Cond.initialized "java/lang/IllegalStateException") ∈ wAll := wAll_in_8 (List.mem_of_getElem? (i := 29) rfl)
theorem k350 : (Cond.methodLink RX9 51 yX9_demandLiteral) ∈ wAll := wAll_in_8 (List.mem_of_getElem? (i := 30) rfl)
theorem k351 : (Cond.static yX9_demandLiteral) ∈ wAll := wAll_in_8 (List.mem_of_getElem? (i := 31) rfl)
theorem k352 : (Cond.methodLink RX9 55 yX2_has) ∈ wAll := wAll_in_8 (List.mem_of_getElem? (i := 32) rfl)
theorem k353 : (Cond.methodLink RX9 66 yX2_put) ∈ wAll := wAll_in_8 (List.mem_of_getElem? (i := 33) rfl)
theorem k354 : (Cond.instanceMethod yX2_put) ∈ wAll := wAll_in_8 (List.mem_of_getElem? (i := 34) rfl)
theorem k355 : (Cond.selects RX2 yX2_put yX2_put) ∈ wAll := wAll_in_8 (List.mem_of_getElem? (i := 35) rfl)
theorem k356 : (Cond.methodLink RX9 69 yX9_forget) ∈ wAll := wAll_in_8 (List.mem_of_getElem? (i := 36) rfl)
theorem k357 : (Cond.instanceMethod yX9_forget) ∈ wAll := wAll_in_8 (List.mem_of_getElem? (i := 37) rfl)
theorem k358 : (Cond.selects RX9 yX9_forget yX9_forget) ∈ wAll := wAll_in_8 (List.mem_of_getElem? (i := 38) rfl)
theorem k359 : (Cond.code yX9_addFact cX9_addFact 2 (some .int)) ∈ wAll := wAll_in_8 (List.mem_of_getElem? (i := 39) rfl)
theorem k360 : (Cond.methodLink RX9 76 yX2_drop) ∈ wAll := wAll_in_9 (List.mem_of_getElem? (i := 0) rfl)
theorem k361 : (Cond.instanceMethod yX2_drop) ∈ wAll := wAll_in_9 (List.mem_of_getElem? (i := 1) rfl)
theorem k362 : (Cond.selects RX2 yX2_drop yX2_drop) ∈ wAll := wAll_in_9 (List.mem_of_getElem? (i := 2) rfl)
theorem k363 : (Cond.code yX9_takeBack cX9_takeBack 2 (some .boolean)) ∈ wAll := wAll_in_9 (List.mem_of_getElem? (i := 3) rfl)
theorem k364 : (Cond.code yX9_demandPriority cX9_demandPriority 1 none) ∈ wAll := wAll_in_9 (List.mem_of_getElem? (i := 4) rfl)
theorem k365 : (Cond.code yX9_followsInBody cX9_followsInBody 2 (some .boolean)) ∈ wAll := wAll_in_9 (List.mem_of_getElem? (i := 5) rfl)
theorem k366 : (Cond.classLink RX9 102 RX4) ∈ wAll := wAll_in_9 (List.mem_of_getElem? (i := 6) rfl)
theorem k367 : (Cond.methodLink RX9 82 yX9_demandPriority) ∈ wAll := wAll_in_9 (List.mem_of_getElem? (i := 7) rfl)
theorem k368 : (Cond.static yX9_demandPriority) ∈ wAll := wAll_in_9 (List.mem_of_getElem? (i := 8) rfl)
theorem k369 : (Cond.methodLink RX9 85 yX9_followsInBody) ∈ wAll := wAll_in_9 (List.mem_of_getElem? (i := 9) rfl)
theorem k370 : (Cond.static yX9_followsInBody) ∈ wAll := wAll_in_9 (List.mem_of_getElem? (i := 10) rfl)
theorem k371 : (Cond.methodLink RX9 96 yX5_size) ∈ wAll := wAll_in_9 (List.mem_of_getElem? (i := 11) rfl)
theorem k372 : (Cond.methodLink RX9 104 yX4_init) ∈ wAll := wAll_in_9 (List.mem_of_getElem? (i := 12) rfl)
theorem k373 : (Cond.methodLink RX9 107 yX5_put) ∈ wAll := wAll_in_9 (List.mem_of_getElem? (i := 13) rfl)
theorem k374 : (Cond.instanceMethod yX5_put) ∈ wAll := wAll_in_9 (List.mem_of_getElem? (i := 14) rfl)
theorem k375 : (Cond.selects RX5 yX5_put yX5_put) ∈ wAll := wAll_in_9 (List.mem_of_getElem? (i := 15) rfl)
theorem k376 : (Cond.code yX9_addRule cX9_addRule 6 (some .int)) ∈ wAll := wAll_in_9 (List.mem_of_getElem? (i := 16) rfl)
theorem k377 : (Cond.code yX9_demandRule cX9_demandRule 2 none) ∈ wAll := wAll_in_9 (List.mem_of_getElem? (i := 17) rfl)
theorem k378 : (Cond.classLink RX9 151 "java/lang/IndexOutOfBoundsException") ∈ wAll := wAll_in_9 (List.mem_of_getElem? (i := 18) rfl)
theorem k379 : (Cond.initialized "java/lang/IndexOutOfBoundsException") ∈ wAll := wAll_in_9 (List.mem_of_getElem? (i := 19) rfl)
theorem k380 : (Cond.methodLink RX9 110 yX9_demandRule) ∈ wAll := wAll_in_9 (List.mem_of_getElem? (i := 20) rfl)
theorem k381 : (Cond.instanceMethod yX9_demandRule) ∈ wAll := wAll_in_9 (List.mem_of_getElem? (i := 21) rfl)
theorem k382 : (Cond.selects RX9 yX9_demandRule yX9_demandRule) ∈ wAll := wAll_in_9 (List.mem_of_getElem? (i := 22) rfl)
theorem k383 : (Cond.methodLink RX9 113 yX5_at) ∈ wAll := wAll_in_9 (List.mem_of_getElem? (i := 23) rfl)
theorem k384 : (Cond.code yX9_setPriority cX9_setPriority 5 (some .int)) ∈ wAll := wAll_in_9 (List.mem_of_getElem? (i := 24) rfl)
theorem k385 : (Cond.code yX9_setException cX9_setException 5 (some .int)) ∈ wAll := wAll_in_9 (List.mem_of_getElem? (i := 25) rfl)
theorem k386 : (Cond.code yX9_turn cX9_turn 5 (some .boolean)) ∈ wAll := wAll_in_9 (List.mem_of_getElem? (i := 26) rfl)
theorem k387 : (Cond.code yX9_facts cX9_facts 1 (some .int)) ∈ wAll := wAll_in_9 (List.mem_of_getElem? (i := 27) rfl)
theorem k388 : (Cond.code yX9_rules cX9_rules 1 (some .int)) ∈ wAll := wAll_in_9 (List.mem_of_getElem? (i := 28) rfl)
theorem k389 : (Cond.methodLink RX9 229 yX0_build) ∈ wAll := wAll_in_9 (List.mem_of_getElem? (i := 29) rfl)
theorem k390 : (Cond.instanceMethod yX0_build) ∈ wAll := wAll_in_9 (List.mem_of_getElem? (i := 30) rfl)
theorem k391 : (Cond.selects RX0 yX0_build yX0_build) ∈ wAll := wAll_in_9 (List.mem_of_getElem? (i := 31) rfl)
theorem k392 : (Cond.methodLink RX9 232 yX1_build) ∈ wAll := wAll_in_9 (List.mem_of_getElem? (i := 32) rfl)
theorem k393 : (Cond.instanceMethod yX1_build) ∈ wAll := wAll_in_9 (List.mem_of_getElem? (i := 33) rfl)
theorem k394 : (Cond.selects RX1 yX1_build yX1_build) ∈ wAll := wAll_in_9 (List.mem_of_getElem? (i := 34) rfl)
theorem k395 : (Cond.methodLink RX9 235 yX3_build) ∈ wAll := wAll_in_9 (List.mem_of_getElem? (i := 35) rfl)
theorem k396 : (Cond.instanceMethod yX3_build) ∈ wAll := wAll_in_9 (List.mem_of_getElem? (i := 36) rfl)
theorem k397 : (Cond.selects RX3 yX3_build yX3_build) ∈ wAll := wAll_in_9 (List.mem_of_getElem? (i := 37) rfl)
theorem k398 : (Cond.methodLink RX9 238 yX7_prepare) ∈ wAll := wAll_in_9 (List.mem_of_getElem? (i := 38) rfl)
theorem k399 : (Cond.instanceMethod yX7_prepare) ∈ wAll := wAll_in_9 (List.mem_of_getElem? (i := 39) rfl)
theorem k400 : (Cond.selects RX7 yX7_prepare yX7_prepare) ∈ wAll := wAll_in_10 (List.mem_of_getElem? (i := 0) rfl)
theorem k401 : (Cond.code yX9_build cX9_build 1 none) ∈ wAll := wAll_in_10 (List.mem_of_getElem? (i := 1) rfl)
theorem k402 : (Cond.methodLink RX9 127 yX9_build) ∈ wAll := wAll_in_10 (List.mem_of_getElem? (i := 2) rfl)
theorem k403 : (Cond.instanceMethod yX9_build) ∈ wAll := wAll_in_10 (List.mem_of_getElem? (i := 3) rfl)
theorem k404 : (Cond.selects RX9 yX9_build yX9_build) ∈ wAll := wAll_in_10 (List.mem_of_getElem? (i := 4) rfl)
theorem k405 : (Cond.code yX9_arguments cX9_arguments 1 (some .int)) ∈ wAll := wAll_in_10 (List.mem_of_getElem? (i := 5) rfl)
theorem k406 : (Cond.code yX9_demandTold cX9_demandTold 1 none) ∈ wAll := wAll_in_10 (List.mem_of_getElem? (i := 6) rfl)
theorem k407 : (Cond.code yX9_demandArgument cX9_demandArgument 2 none) ∈ wAll := wAll_in_10 (List.mem_of_getElem? (i := 7) rfl)
theorem k408 : (Cond.methodLink RX9 134 yX9_demandTold) ∈ wAll := wAll_in_10 (List.mem_of_getElem? (i := 8) rfl)
theorem k409 : (Cond.instanceMethod yX9_demandTold) ∈ wAll := wAll_in_10 (List.mem_of_getElem? (i := 9) rfl)
theorem k410 : (Cond.selects RX9 yX9_demandTold yX9_demandTold) ∈ wAll := wAll_in_10 (List.mem_of_getElem? (i := 10) rfl)
theorem k411 : (Cond.methodLink RX9 137 yX9_demandArgument) ∈ wAll := wAll_in_10 (List.mem_of_getElem? (i := 11) rfl)
theorem k412 : (Cond.instanceMethod yX9_demandArgument) ∈ wAll := wAll_in_10 (List.mem_of_getElem? (i := 12) rfl)
theorem k413 : (Cond.selects RX9 yX9_demandArgument yX9_demandArgument) ∈ wAll := wAll_in_10 (List.mem_of_getElem? (i := 13) rfl)
theorem k414 : (Cond.methodLink RX9 140 yX0_conclusionAt) ∈ wAll := wAll_in_10 (List.mem_of_getElem? (i := 14) rfl)
theorem k415 : (Cond.code yX9_conclusion cX9_conclusion 2 (some .int)) ∈ wAll := wAll_in_10 (List.mem_of_getElem? (i := 15) rfl)
theorem k416 : (Cond.methodLink RX9 144 yX0_makerAt) ∈ wAll := wAll_in_10 (List.mem_of_getElem? (i := 16) rfl)
theorem k417 : (Cond.code yX9_madeBy cX9_madeBy 2 (some .int)) ∈ wAll := wAll_in_10 (List.mem_of_getElem? (i := 17) rfl)
theorem k418 : (Cond.methodLink RX9 147 yX0_partAt) ∈ wAll := wAll_in_10 (List.mem_of_getElem? (i := 18) rfl)
theorem k419 : (Cond.code yX9_part cX9_part 4 (some .int)) ∈ wAll := wAll_in_10 (List.mem_of_getElem? (i := 19) rfl)
theorem k420 : (Cond.methodLink RX9 156 yX0_depthAt) ∈ wAll := wAll_in_10 (List.mem_of_getElem? (i := 20) rfl)
theorem k421 : (Cond.code yX9_depth cX9_depth 2 (some .int)) ∈ wAll := wAll_in_10 (List.mem_of_getElem? (i := 21) rfl)
theorem k422 : (Cond.methodLink RX9 159 yX1_leads) ∈ wAll := wAll_in_10 (List.mem_of_getElem? (i := 22) rfl)
theorem k423 : (Cond.code yX9_attacks cX9_attacks 3 (some .boolean)) ∈ wAll := wAll_in_10 (List.mem_of_getElem? (i := 23) rfl)
theorem k424 : (Cond.methodLink RX9 162 yX3_labelAt) ∈ wAll := wAll_in_10 (List.mem_of_getElem? (i := 24) rfl)
theorem k425 : (Cond.code yX9_label cX9_label 2 (some .int)) ∈ wAll := wAll_in_10 (List.mem_of_getElem? (i := 25) rfl)
theorem k426 : (Cond.methodLink RX9 165 yX3_roundAt) ∈ wAll := wAll_in_10 (List.mem_of_getElem? (i := 26) rfl)
theorem k427 : (Cond.instanceMethod yX3_roundAt) ∈ wAll := wAll_in_10 (List.mem_of_getElem? (i := 27) rfl)
theorem k428 : (Cond.selects RX3 yX3_roundAt yX3_roundAt) ∈ wAll := wAll_in_10 (List.mem_of_getElem? (i := 28) rfl)
theorem k429 : (Cond.code yX9_round cX9_round 2 (some .int)) ∈ wAll := wAll_in_10 (List.mem_of_getElem? (i := 29) rfl)
theorem k430 : (Cond.methodLink RX9 168 Lib.Math.max.name) ∈ wAll := wAll_in_10 (List.mem_of_getElem? (i := 30) rfl)
theorem k431 : (Cond.code yX9_holds cX9_holds 4 (some .int)) ∈ wAll := wAll_in_10 (List.mem_of_getElem? (i := 31) rfl)
theorem k432 : (Cond.code yX9_reasonFor cX9_reasonFor 3 (some .int)) ∈ wAll := wAll_in_10 (List.mem_of_getElem? (i := 32) rfl)
theorem k433 : (Cond.code yX9_lowestAttacker cX9_lowestAttacker 4 (some .int)) ∈ wAll := wAll_in_10 (List.mem_of_getElem? (i := 33) rfl)
theorem k434 : (Cond.methodLink RX9 173 yX9_lowestAttacker) ∈ wAll := wAll_in_10 (List.mem_of_getElem? (i := 34) rfl)
theorem k435 : (Cond.instanceMethod yX9_lowestAttacker) ∈ wAll := wAll_in_10 (List.mem_of_getElem? (i := 35) rfl)
theorem k436 : (Cond.selects RX9 yX9_lowestAttacker yX9_lowestAttacker) ∈ wAll := wAll_in_10 (List.mem_of_getElem? (i := 36) rfl)
theorem k437 : (Cond.code yX9_reasonAgainst cX9_reasonAgainst 3 (some .int)) ∈ wAll := wAll_in_10 (List.mem_of_getElem? (i := 37) rfl)
theorem k438 : (Cond.code yX9_demandFew cX9_demandFew 1 none) ∈ wAll := wAll_in_10 (List.mem_of_getElem? (i := 38) rfl)
theorem k439 : (Cond.methodLink RX9 241 yX7_tryAll) ∈ wAll := wAll_in_10 (List.mem_of_getElem? (i := 39) rfl)
theorem k440 : (Cond.instanceMethod yX7_tryAll) ∈ wAll := wAll_in_11 (List.mem_of_getElem? (i := 0) rfl)
theorem k441 : (Cond.selects RX7 yX7_tryAll yX7_tryAll) ∈ wAll := wAll_in_11 (List.mem_of_getElem? (i := 1) rfl)
theorem k442 : (Cond.code yX9_trySets cX9_trySets 1 none) ∈ wAll := wAll_in_11 (List.mem_of_getElem? (i := 2) rfl)
theorem k443 : (Cond.methodLink RX9 176 yX9_demandFew) ∈ wAll := wAll_in_11 (List.mem_of_getElem? (i := 3) rfl)
theorem k444 : (Cond.instanceMethod yX9_demandFew) ∈ wAll := wAll_in_11 (List.mem_of_getElem? (i := 4) rfl)
theorem k445 : (Cond.selects RX9 yX9_demandFew yX9_demandFew) ∈ wAll := wAll_in_11 (List.mem_of_getElem? (i := 5) rfl)
theorem k446 : (Cond.methodLink RX9 179 yX9_trySets) ∈ wAll := wAll_in_11 (List.mem_of_getElem? (i := 6) rfl)
theorem k447 : (Cond.instanceMethod yX9_trySets) ∈ wAll := wAll_in_11 (List.mem_of_getElem? (i := 7) rfl)
theorem k448 : (Cond.selects RX9 yX9_trySets yX9_trySets) ∈ wAll := wAll_in_11 (List.mem_of_getElem? (i := 8) rfl)
theorem k449 : (Cond.code yX9_preferred cX9_preferred 1 (some .int)) ∈ wAll := wAll_in_11 (List.mem_of_getElem? (i := 9) rfl)
theorem k450 : (Cond.methodLink RX9 244 yX7_sweep) ∈ wAll := wAll_in_11 (List.mem_of_getElem? (i := 10) rfl)
theorem k451 : (Cond.instanceMethod yX7_sweep) ∈ wAll := wAll_in_11 (List.mem_of_getElem? (i := 11) rfl)
theorem k452 : (Cond.selects RX7 yX7_sweep yX7_sweep) ∈ wAll := wAll_in_11 (List.mem_of_getElem? (i := 12) rfl)
theorem k453 : (Cond.code yX9_sweepSets cX9_sweepSets 1 none) ∈ wAll := wAll_in_11 (List.mem_of_getElem? (i := 13) rfl)
theorem k454 : (Cond.methodLink RX9 189 yX9_sweepSets) ∈ wAll := wAll_in_11 (List.mem_of_getElem? (i := 14) rfl)
theorem k455 : (Cond.instanceMethod yX9_sweepSets) ∈ wAll := wAll_in_11 (List.mem_of_getElem? (i := 15) rfl)
theorem k456 : (Cond.selects RX9 yX9_sweepSets yX9_sweepSets) ∈ wAll := wAll_in_11 (List.mem_of_getElem? (i := 16) rfl)
theorem k457 : (Cond.code yX9_preferredByAllSets cX9_preferredByAllSets 1 (some .int)) ∈ wAll := wAll_in_11 (List.mem_of_getElem? (i := 17) rfl)
theorem k458 : (Cond.methodLink RX9 197 yX6_contains) ∈ wAll := wAll_in_11 (List.mem_of_getElem? (i := 18) rfl)
theorem k459 : (Cond.instanceMethod yX6_contains) ∈ wAll := wAll_in_11 (List.mem_of_getElem? (i := 19) rfl)
theorem k460 : (Cond.selects RX6 yX6_contains yX6_contains) ∈ wAll := wAll_in_11 (List.mem_of_getElem? (i := 20) rfl)
theorem k461 : (Cond.code yX9_isInSet cX9_isInSet 3 (some .boolean)) ∈ wAll := wAll_in_11 (List.mem_of_getElem? (i := 21) rfl)
theorem k462 : (Cond.code yX9_concludesInSet cX9_concludesInSet 4 (some .boolean)) ∈ wAll := wAll_in_11 (List.mem_of_getElem? (i := 22) rfl)
theorem k463 : (Cond.methodLink RX9 200 yX9_concludesInSet) ∈ wAll := wAll_in_11 (List.mem_of_getElem? (i := 23) rfl)
theorem k464 : (Cond.instanceMethod yX9_concludesInSet) ∈ wAll := wAll_in_11 (List.mem_of_getElem? (i := 24) rfl)
theorem k465 : (Cond.selects RX9 yX9_concludesInSet yX9_concludesInSet) ∈ wAll := wAll_in_11 (List.mem_of_getElem? (i := 25) rfl)
theorem k466 : (Cond.code yX9_setsFor cX9_setsFor 4 (some .int)) ∈ wAll := wAll_in_11 (List.mem_of_getElem? (i := 26) rfl)
theorem k467 : (Cond.code yX10_init cX10_init 1 none) ∈ wAll := wAll_in_11 (List.mem_of_getElem? (i := 27) rfl)
theorem k468 : (Cond.methodLink RX10 1 objectInit) ∈ wAll := wAll_in_11 (List.mem_of_getElem? (i := 28) rfl)
theorem k469 : (Cond.fieldLink RX10 7 "RuleArgumentsModel" "isFact" "[Z") ∈ wAll := wAll_in_11 (List.mem_of_getElem? (i := 29) rfl)
theorem k470 : (Cond.fieldLink RX10 13 "RuleArgumentsModel" "heads" "[I") ∈ wAll := wAll_in_11 (List.mem_of_getElem? (i := 30) rfl)
theorem k471 : (Cond.fieldLink RX10 17 "RuleArgumentsModel" "bodies" "[I") ∈ wAll := wAll_in_11 (List.mem_of_getElem? (i := 31) rfl)
theorem k472 : (Cond.fieldLink RX10 20 "RuleArgumentsModel" "priorities" "[I") ∈ wAll := wAll_in_11 (List.mem_of_getElem? (i := 32) rfl)
theorem k473 : (Cond.fieldLink RX10 23 "RuleArgumentsModel" "exceptions" "[I") ∈ wAll := wAll_in_11 (List.mem_of_getElem? (i := 33) rfl)
theorem k474 : (Cond.fieldLink RX10 26 "RuleArgumentsModel" "isOn" "[Z") ∈ wAll := wAll_in_11 (List.mem_of_getElem? (i := 34) rfl)
theorem k475 : (Cond.fieldLink RX10 29 "RuleArgumentsModel" "conclusions" "[I") ∈ wAll := wAll_in_11 (List.mem_of_getElem? (i := 35) rfl)
theorem k476 : (Cond.fieldLink RX10 32 "RuleArgumentsModel" "makers" "[I") ∈ wAll := wAll_in_11 (List.mem_of_getElem? (i := 36) rfl)
theorem k477 : (Cond.fieldLink RX10 35 "RuleArgumentsModel" "parts" "[I") ∈ wAll := wAll_in_11 (List.mem_of_getElem? (i := 37) rfl)
theorem k478 : (Cond.fieldLink RX10 38 "RuleArgumentsModel" "depths" "[I") ∈ wAll := wAll_in_11 (List.mem_of_getElem? (i := 38) rfl)
theorem k479 : (Cond.fieldLink RX10 41 "RuleArgumentsModel" "builtOf" "[I") ∈ wAll := wAll_in_11 (List.mem_of_getElem? (i := 39) rfl)
theorem k480 : (Cond.fieldLink RX10 44 "RuleArgumentsModel" "attackers" "[I") ∈ wAll := wAll_in_12 (List.mem_of_getElem? (i := 0) rfl)
theorem k481 : (Cond.fieldLink RX10 47 "RuleArgumentsModel" "labels" "[I") ∈ wAll := wAll_in_12 (List.mem_of_getElem? (i := 1) rfl)
theorem k482 : (Cond.fieldLink RX10 50 "RuleArgumentsModel" "rounds" "[I") ∈ wAll := wAll_in_12 (List.mem_of_getElem? (i := 2) rfl)
theorem k483 : (Cond.fieldLink RX10 53 "RuleArgumentsModel" "admissible" "[Z") ∈ wAll := wAll_in_12 (List.mem_of_getElem? (i := 3) rfl)
theorem k484 : (Cond.fieldLink RX10 56 "RuleArgumentsModel" "extended" "[Z") ∈ wAll := wAll_in_12 (List.mem_of_getElem? (i := 4) rfl)
theorem k485 : (Cond.code yX10_thrown cX10_thrown 1 (some .int)) ∈ wAll := wAll_in_12 (List.mem_of_getElem? (i := 5) rfl)
theorem k486 : (Cond.fieldLink RX10 59 "RuleArgumentsModel" "thrown" "I") ∈ wAll := wAll_in_12 (List.mem_of_getElem? (i := 6) rfl)
theorem k487 : (Cond.code yX10_isLiteral cX10_isLiteral 1 (some .boolean)) ∈ wAll := wAll_in_12 (List.mem_of_getElem? (i := 7) rfl)
theorem k488 : (Cond.code yX10_isLiteralOrNone cX10_isLiteralOrNone 1 (some .boolean)) ∈ wAll := wAll_in_12 (List.mem_of_getElem? (i := 8) rfl)
theorem k489 : (Cond.code yX10_passes cX10_passes 2 (some .boolean)) ∈ wAll := wAll_in_12 (List.mem_of_getElem? (i := 9) rfl)
theorem k490 : (Cond.code yX10_factsNow cX10_factsNow 3 (some .int)) ∈ wAll := wAll_in_12 (List.mem_of_getElem? (i := 10) rfl)
theorem k491 : (Cond.code yX10_addFact cX10_addFact 3 (some .int)) ∈ wAll := wAll_in_12 (List.mem_of_getElem? (i := 11) rfl)
theorem k492 : (Cond.methodLink RX10 63 yX10_isLiteral) ∈ wAll := wAll_in_12 (List.mem_of_getElem? (i := 12) rfl)
theorem k493 : (Cond.static yX10_isLiteral) ∈ wAll := wAll_in_12 (List.mem_of_getElem? (i := 13) rfl)
theorem k494 : (Cond.initialized RX10) ∈ wAll := wAll_in_12 (List.mem_of_getElem? (i := 14) rfl)
theorem k495 : (Cond.methodLink RX10 67 yX10_passes) ∈ wAll := wAll_in_12 (List.mem_of_getElem? (i := 15) rfl)
theorem k496 : (Cond.instanceMethod yX10_passes) ∈ wAll := wAll_in_12 (List.mem_of_getElem? (i := 16) rfl)
theorem k497 : (Cond.selects RX10 yX10_passes yX10_passes) ∈ wAll := wAll_in_12 (List.mem_of_getElem? (i := 17) rfl)
theorem k498 : (Cond.methodLink RX10 70 yX10_factsNow) ∈ wAll := wAll_in_12 (List.mem_of_getElem? (i := 18) rfl)
theorem k499 : (Cond.instanceMethod yX10_factsNow) ∈ wAll := wAll_in_12 (List.mem_of_getElem? (i := 19) rfl)
theorem k500 : (Cond.selects RX10 yX10_factsNow yX10_factsNow) ∈ wAll := wAll_in_12 (List.mem_of_getElem? (i := 20) rfl)
theorem k501 : (Cond.code yX10_takeBack cX10_takeBack 3 (some .boolean)) ∈ wAll := wAll_in_12 (List.mem_of_getElem? (i := 21) rfl)
theorem k502 : (Cond.code yX10_addRule cX10_addRule 9 (some .int)) ∈ wAll := wAll_in_12 (List.mem_of_getElem? (i := 22) rfl)
theorem k503 : (Cond.fieldLink RX10 77 "RuleArgumentsModel" "rules" "I") ∈ wAll := wAll_in_12 (List.mem_of_getElem? (i := 23) rfl)
theorem k504 : (Cond.methodLink RX10 74 yX10_isLiteralOrNone) ∈ wAll := wAll_in_12 (List.mem_of_getElem? (i := 24) rfl)
theorem k505 : (Cond.static yX10_isLiteralOrNone) ∈ wAll := wAll_in_12 (List.mem_of_getElem? (i := 25) rfl)
theorem k506 : (Cond.code yX10_isRule cX10_isRule 2 (some .boolean)) ∈ wAll := wAll_in_12 (List.mem_of_getElem? (i := 26) rfl)
theorem k507 : (Cond.code yX10_setPriority cX10_setPriority 4 (some .int)) ∈ wAll := wAll_in_12 (List.mem_of_getElem? (i := 27) rfl)
theorem k508 : (Cond.methodLink RX10 80 yX10_isRule) ∈ wAll := wAll_in_12 (List.mem_of_getElem? (i := 28) rfl)
theorem k509 : (Cond.instanceMethod yX10_isRule) ∈ wAll := wAll_in_12 (List.mem_of_getElem? (i := 29) rfl)
theorem k510 : (Cond.selects RX10 yX10_isRule yX10_isRule) ∈ wAll := wAll_in_12 (List.mem_of_getElem? (i := 30) rfl)
theorem k511 : (Cond.code yX10_setException cX10_setException 4 (some .int)) ∈ wAll := wAll_in_12 (List.mem_of_getElem? (i := 31) rfl)
theorem k512 : (Cond.code yX10_turn cX10_turn 4 (some .boolean)) ∈ wAll := wAll_in_12 (List.mem_of_getElem? (i := 32) rfl)
theorem k513 : (Cond.code yX10_facts cX10_facts 1 (some .int)) ∈ wAll := wAll_in_12 (List.mem_of_getElem? (i := 33) rfl)
theorem k514 : (Cond.code yX10_rules cX10_rules 1 (some .int)) ∈ wAll := wAll_in_12 (List.mem_of_getElem? (i := 34) rfl)
theorem k515 : (Cond.code yX10_withAll cX10_withAll 2 (some .int)) ∈ wAll := wAll_in_12 (List.mem_of_getElem? (i := 35) rfl)
theorem k516 : (Cond.code yX10_lays cX10_lays 7 none) ∈ wAll := wAll_in_12 (List.mem_of_getElem? (i := 36) rfl)
theorem k517 : (Cond.fieldLink RX10 83 "RuleArgumentsModel" "many" "I") ∈ wAll := wAll_in_12 (List.mem_of_getElem? (i := 37) rfl)
theorem k518 : (Cond.fieldLink RX10 86 "RuleArgumentsModel" "isTooMany" "Z") ∈ wAll := wAll_in_12 (List.mem_of_getElem? (i := 38) rfl)
theorem k519 : (Cond.methodLink RX10 90 yX10_withAll) ∈ wAll := wAll_in_12 (List.mem_of_getElem? (i := 39) rfl)
theorem k520 : (Cond.instanceMethod yX10_withAll) ∈ wAll := wAll_in_13 (List.mem_of_getElem? (i := 0) rfl)
theorem k521 : (Cond.selects RX10 yX10_withAll yX10_withAll) ∈ wAll := wAll_in_13 (List.mem_of_getElem? (i := 1) rfl)
theorem k522 : (Cond.code yX10_isPart cX10_isPart 5 (some .boolean)) ∈ wAll := wAll_in_13 (List.mem_of_getElem? (i := 2) rfl)
theorem k523 : (Cond.code yX10_isBuiltOf cX10_isBuiltOf 5 (some .boolean)) ∈ wAll := wAll_in_13 (List.mem_of_getElem? (i := 3) rfl)
theorem k524 : (Cond.code yX10_depthOf cX10_depthOf 2 (some .int)) ∈ wAll := wAll_in_13 (List.mem_of_getElem? (i := 4) rfl)
theorem k525 : (Cond.methodLink RX10 94 yX10_isPart) ∈ wAll := wAll_in_13 (List.mem_of_getElem? (i := 5) rfl)
theorem k526 : (Cond.instanceMethod yX10_isPart) ∈ wAll := wAll_in_13 (List.mem_of_getElem? (i := 6) rfl)
theorem k527 : (Cond.selects RX10 yX10_isPart yX10_isPart) ∈ wAll := wAll_in_13 (List.mem_of_getElem? (i := 7) rfl)
theorem k528 : (Cond.methodLink RX10 98 yX10_depthOf) ∈ wAll := wAll_in_13 (List.mem_of_getElem? (i := 8) rfl)
theorem k529 : (Cond.instanceMethod yX10_depthOf) ∈ wAll := wAll_in_13 (List.mem_of_getElem? (i := 9) rfl)
theorem k530 : (Cond.selects RX10 yX10_depthOf yX10_depthOf) ∈ wAll := wAll_in_13 (List.mem_of_getElem? (i := 10) rfl)
theorem k531 : (Cond.methodLink RX10 101 yX10_isBuiltOf) ∈ wAll := wAll_in_13 (List.mem_of_getElem? (i := 11) rfl)
theorem k532 : (Cond.instanceMethod yX10_isBuiltOf) ∈ wAll := wAll_in_13 (List.mem_of_getElem? (i := 12) rfl)
theorem k533 : (Cond.selects RX10 yX10_isBuiltOf yX10_isBuiltOf) ∈ wAll := wAll_in_13 (List.mem_of_getElem? (i := 13) rfl)
theorem k534 : (Cond.methodLink RX10 105 yX10_lays) ∈ wAll := wAll_in_13 (List.mem_of_getElem? (i := 14) rfl)
theorem k535 : (Cond.instanceMethod yX10_lays) ∈ wAll := wAll_in_13 (List.mem_of_getElem? (i := 15) rfl)
theorem k536 : (Cond.selects RX10 yX10_lays yX10_lays) ∈ wAll := wAll_in_13 (List.mem_of_getElem? (i := 16) rfl)
theorem k537 : (Cond.code yX10_makes cX10_makes 9 none) ∈ wAll := wAll_in_13 (List.mem_of_getElem? (i := 17) rfl)
theorem k538 : (Cond.methodLink RX10 109 yX10_makes) ∈ wAll := wAll_in_13 (List.mem_of_getElem? (i := 18) rfl)
theorem k539 : (Cond.instanceMethod yX10_makes) ∈ wAll := wAll_in_13 (List.mem_of_getElem? (i := 19) rfl)
theorem k540 : (Cond.selects RX10 yX10_makes yX10_makes) ∈ wAll := wAll_in_13 (List.mem_of_getElem? (i := 20) rfl)
theorem k541 : (Cond.code yX10_builds cX10_builds 4 none) ∈ wAll := wAll_in_13 (List.mem_of_getElem? (i := 21) rfl)
theorem k542 : (Cond.code yX10_strengthOf cX10_strengthOf 2 (some .int)) ∈ wAll := wAll_in_13 (List.mem_of_getElem? (i := 22) rfl)
theorem k543 : (Cond.code yX10_opposes cX10_opposes 4 (some .boolean)) ∈ wAll := wAll_in_13 (List.mem_of_getElem? (i := 23) rfl)
theorem k544 : (Cond.methodLink RX10 113 yX10_strengthOf) ∈ wAll := wAll_in_13 (List.mem_of_getElem? (i := 24) rfl)
theorem k545 : (Cond.instanceMethod yX10_strengthOf) ∈ wAll := wAll_in_13 (List.mem_of_getElem? (i := 25) rfl)
theorem k546 : (Cond.selects RX10 yX10_strengthOf yX10_strengthOf) ∈ wAll := wAll_in_13 (List.mem_of_getElem? (i := 26) rfl)
theorem k547 : (Cond.code yX10_laysAttacks cX10_laysAttacks 5 none) ∈ wAll := wAll_in_13 (List.mem_of_getElem? (i := 27) rfl)
theorem k548 : (Cond.methodLink RX10 116 yX10_opposes) ∈ wAll := wAll_in_13 (List.mem_of_getElem? (i := 28) rfl)
theorem k549 : (Cond.instanceMethod yX10_opposes) ∈ wAll := wAll_in_13 (List.mem_of_getElem? (i := 29) rfl)
theorem k550 : (Cond.selects RX10 yX10_opposes yX10_opposes) ∈ wAll := wAll_in_13 (List.mem_of_getElem? (i := 30) rfl)
theorem k551 : (Cond.methodLink RX10 119 yX10_builds) ∈ wAll := wAll_in_13 (List.mem_of_getElem? (i := 31) rfl)
theorem k552 : (Cond.instanceMethod yX10_builds) ∈ wAll := wAll_in_13 (List.mem_of_getElem? (i := 32) rfl)
theorem k553 : (Cond.selects RX10 yX10_builds yX10_builds) ∈ wAll := wAll_in_13 (List.mem_of_getElem? (i := 33) rfl)
theorem k554 : (Cond.methodLink RX10 122 yX10_laysAttacks) ∈ wAll := wAll_in_13 (List.mem_of_getElem? (i := 34) rfl)
theorem k555 : (Cond.instanceMethod yX10_laysAttacks) ∈ wAll := wAll_in_13 (List.mem_of_getElem? (i := 35) rfl)
theorem k556 : (Cond.selects RX10 yX10_laysAttacks yX10_laysAttacks) ∈ wAll := wAll_in_13 (List.mem_of_getElem? (i := 36) rfl)
theorem k557 : (Cond.code yX10_isTold cX10_isTold 2 (some .boolean)) ∈ wAll := wAll_in_13 (List.mem_of_getElem? (i := 37) rfl)
theorem k558 : (Cond.methodLink RX10 125 yX10_isTold) ∈ wAll := wAll_in_13 (List.mem_of_getElem? (i := 38) rfl)
theorem k559 : (Cond.instanceMethod yX10_isTold) ∈ wAll := wAll_in_13 (List.mem_of_getElem? (i := 39) rfl)
theorem k560 : (Cond.selects RX10 yX10_isTold yX10_isTold) ∈ wAll := wAll_in_14 (List.mem_of_getElem? (i := 0) rfl)
theorem k561 : (Cond.code yX10_isArgument cX10_isArgument 2 (some .boolean)) ∈ wAll := wAll_in_14 (List.mem_of_getElem? (i := 1) rfl)
theorem k562 : (Cond.code yX10_arguments cX10_arguments 1 (some .int)) ∈ wAll := wAll_in_14 (List.mem_of_getElem? (i := 2) rfl)
theorem k563 : (Cond.methodLink RX10 128 yX10_isArgument) ∈ wAll := wAll_in_14 (List.mem_of_getElem? (i := 3) rfl)
theorem k564 : (Cond.instanceMethod yX10_isArgument) ∈ wAll := wAll_in_14 (List.mem_of_getElem? (i := 4) rfl)
theorem k565 : (Cond.selects RX10 yX10_isArgument yX10_isArgument) ∈ wAll := wAll_in_14 (List.mem_of_getElem? (i := 5) rfl)
theorem k566 : (Cond.code yX10_conclusion cX10_conclusion 2 (some .int)) ∈ wAll := wAll_in_14 (List.mem_of_getElem? (i := 6) rfl)
theorem k567 : (Cond.code yX10_madeBy cX10_madeBy 2 (some .int)) ∈ wAll := wAll_in_14 (List.mem_of_getElem? (i := 7) rfl)
theorem k568 : (Cond.code yX10_part cX10_part 4 (some .int)) ∈ wAll := wAll_in_14 (List.mem_of_getElem? (i := 8) rfl)
theorem k569 : (Cond.code yX10_depth cX10_depth 2 (some .int)) ∈ wAll := wAll_in_14 (List.mem_of_getElem? (i := 9) rfl)
theorem k570 : (Cond.code yX10_attacks cX10_attacks 3 (some .boolean)) ∈ wAll := wAll_in_14 (List.mem_of_getElem? (i := 10) rfl)
theorem k571 : (Cond.code yX10_withLabel cX10_withLabel 4 (some .int)) ∈ wAll := wAll_in_14 (List.mem_of_getElem? (i := 11) rfl)
theorem k572 : (Cond.code yX10_labelsAll cX10_labelsAll 6 none) ∈ wAll := wAll_in_14 (List.mem_of_getElem? (i := 12) rfl)
theorem k573 : (Cond.methodLink RX10 131 yX10_withLabel) ∈ wAll := wAll_in_14 (List.mem_of_getElem? (i := 13) rfl)
theorem k574 : (Cond.instanceMethod yX10_withLabel) ∈ wAll := wAll_in_14 (List.mem_of_getElem? (i := 14) rfl)
theorem k575 : (Cond.selects RX10 yX10_withLabel yX10_withLabel) ∈ wAll := wAll_in_14 (List.mem_of_getElem? (i := 15) rfl)
theorem k576 : (Cond.methodLink RX10 134 yX10_labelsAll) ∈ wAll := wAll_in_14 (List.mem_of_getElem? (i := 16) rfl)
theorem k577 : (Cond.instanceMethod yX10_labelsAll) ∈ wAll := wAll_in_14 (List.mem_of_getElem? (i := 17) rfl)
theorem k578 : (Cond.selects RX10 yX10_labelsAll yX10_labelsAll) ∈ wAll := wAll_in_14 (List.mem_of_getElem? (i := 18) rfl)
theorem k579 : (Cond.code yX10_label cX10_label 2 (some .int)) ∈ wAll := wAll_in_14 (List.mem_of_getElem? (i := 19) rfl)
theorem k580 : (Cond.code yX10_round cX10_round 2 (some .int)) ∈ wAll := wAll_in_14 (List.mem_of_getElem? (i := 20) rfl)
theorem k581 : (Cond.code yX10_isAsked cX10_isAsked 2 (some .boolean)) ∈ wAll := wAll_in_14 (List.mem_of_getElem? (i := 21) rfl)
theorem k582 : (Cond.methodLink RX10 137 yX10_isAsked) ∈ wAll := wAll_in_14 (List.mem_of_getElem? (i := 22) rfl)
theorem k583 : (Cond.instanceMethod yX10_isAsked) ∈ wAll := wAll_in_14 (List.mem_of_getElem? (i := 23) rfl)
theorem k584 : (Cond.selects RX10 yX10_isAsked yX10_isAsked) ∈ wAll := wAll_in_14 (List.mem_of_getElem? (i := 24) rfl)
theorem k585 : (Cond.code yX10_holds cX10_holds 4 (some .int)) ∈ wAll := wAll_in_14 (List.mem_of_getElem? (i := 25) rfl)
theorem k586 : (Cond.code yX10_reasonFor cX10_reasonFor 4 (some .int)) ∈ wAll := wAll_in_14 (List.mem_of_getElem? (i := 26) rfl)
theorem k587 : (Cond.code yX10_lowest cX10_lowest 3 (some .int)) ∈ wAll := wAll_in_14 (List.mem_of_getElem? (i := 27) rfl)
theorem k588 : (Cond.methodLink RX10 140 yX10_lowest) ∈ wAll := wAll_in_14 (List.mem_of_getElem? (i := 28) rfl)
theorem k589 : (Cond.static yX10_lowest) ∈ wAll := wAll_in_14 (List.mem_of_getElem? (i := 29) rfl)
theorem k590 : (Cond.code yX10_reasonAgainst cX10_reasonAgainst 3 (some .int)) ∈ wAll := wAll_in_14 (List.mem_of_getElem? (i := 30) rfl)
theorem k591 : (Cond.code yX10_has cX10_has 3 (some .boolean)) ∈ wAll := wAll_in_14 (List.mem_of_getElem? (i := 31) rfl)
theorem k592 : (Cond.code yX10_turned cX10_turned 4 (some .int)) ∈ wAll := wAll_in_14 (List.mem_of_getElem? (i := 32) rfl)
theorem k593 : (Cond.methodLink RX10 143 yX10_has) ∈ wAll := wAll_in_14 (List.mem_of_getElem? (i := 33) rfl)
theorem k594 : (Cond.instanceMethod yX10_has) ∈ wAll := wAll_in_14 (List.mem_of_getElem? (i := 34) rfl)
theorem k595 : (Cond.selects RX10 yX10_has yX10_has) ∈ wAll := wAll_in_14 (List.mem_of_getElem? (i := 35) rfl)
theorem k596 : (Cond.code yX10_isAdmissible cX10_isAdmissible 6 (some .boolean)) ∈ wAll := wAll_in_14 (List.mem_of_getElem? (i := 36) rfl)
theorem k597 : (Cond.methodLink RX10 146 yX10_turned) ∈ wAll := wAll_in_14 (List.mem_of_getElem? (i := 37) rfl)
theorem k598 : (Cond.instanceMethod yX10_turned) ∈ wAll := wAll_in_14 (List.mem_of_getElem? (i := 38) rfl)
theorem k599 : (Cond.selects RX10 yX10_turned yX10_turned) ∈ wAll := wAll_in_14 (List.mem_of_getElem? (i := 39) rfl)
theorem k600 : (Cond.code yX10_prefers cX10_prefers 5 (some .int)) ∈ wAll := wAll_in_15 (List.mem_of_getElem? (i := 0) rfl)
theorem k601 : (Cond.methodLink RX10 149 yX10_isAdmissible) ∈ wAll := wAll_in_15 (List.mem_of_getElem? (i := 1) rfl)
theorem k602 : (Cond.instanceMethod yX10_isAdmissible) ∈ wAll := wAll_in_15 (List.mem_of_getElem? (i := 2) rfl)
theorem k603 : (Cond.selects RX10 yX10_isAdmissible yX10_isAdmissible) ∈ wAll := wAll_in_15 (List.mem_of_getElem? (i := 3) rfl)
theorem k604 : (Cond.code yX10_areFew cX10_areFew 2 (some .boolean)) ∈ wAll := wAll_in_15 (List.mem_of_getElem? (i := 4) rfl)
theorem k605 : (Cond.methodLink RX10 152 yX10_areFew) ∈ wAll := wAll_in_15 (List.mem_of_getElem? (i := 5) rfl)
theorem k606 : (Cond.instanceMethod yX10_areFew) ∈ wAll := wAll_in_15 (List.mem_of_getElem? (i := 6) rfl)
theorem k607 : (Cond.selects RX10 yX10_areFew yX10_areFew) ∈ wAll := wAll_in_15 (List.mem_of_getElem? (i := 7) rfl)
theorem k608 : (Cond.methodLink RX10 155 yX10_prefers) ∈ wAll := wAll_in_15 (List.mem_of_getElem? (i := 8) rfl)
theorem k609 : (Cond.instanceMethod yX10_prefers) ∈ wAll := wAll_in_15 (List.mem_of_getElem? (i := 9) rfl)
theorem k610 : (Cond.selects RX10 yX10_prefers yX10_prefers) ∈ wAll := wAll_in_15 (List.mem_of_getElem? (i := 10) rfl)
theorem k611 : (Cond.code yX10_preferred cX10_preferred 1 (some .int)) ∈ wAll := wAll_in_15 (List.mem_of_getElem? (i := 11) rfl)
theorem k612 : (Cond.code yX10_preferredByAllSets cX10_preferredByAllSets 1 (some .int)) ∈ wAll := wAll_in_15 (List.mem_of_getElem? (i := 12) rfl)
theorem k613 : (Cond.code yX10_setAt cX10_setAt 4 (some .int)) ∈ wAll := wAll_in_15 (List.mem_of_getElem? (i := 13) rfl)
theorem k614 : (Cond.methodLink RX10 158 yX10_setAt) ∈ wAll := wAll_in_15 (List.mem_of_getElem? (i := 14) rfl)
theorem k615 : (Cond.instanceMethod yX10_setAt) ∈ wAll := wAll_in_15 (List.mem_of_getElem? (i := 15) rfl)
theorem k616 : (Cond.selects RX10 yX10_setAt yX10_setAt) ∈ wAll := wAll_in_15 (List.mem_of_getElem? (i := 16) rfl)
theorem k617 : (Cond.code yX10_isInSet cX10_isInSet 4 (some .boolean)) ∈ wAll := wAll_in_15 (List.mem_of_getElem? (i := 17) rfl)
theorem k618 : (Cond.code yX10_setsFor cX10_setsFor 8 (some .int)) ∈ wAll := wAll_in_15 (List.mem_of_getElem? (i := 18) rfl)
theorem k619 : (Cond.code yJ9_max_7cf53 cJ9_max_7cf53 2 (some .int)) ∈ wAll := wAll_in_15 (List.mem_of_getElem? (i := 19) rfl)
theorem k620 : (Cond.code yJ9_min_7cf53 cJ9_min_7cf53 2 (some .int)) ∈ wAll := wAll_in_15 (List.mem_of_getElem? (i := 20) rfl)
theorem k621 : (Cond.classLink RL 13 "java/lang/IllegalArgumentException") ∈ wAll := wAll_in_15 (List.mem_of_getElem? (i := 21) rfl)
theorem k622 : (Cond.classLink RL 15 "java/lang/IllegalStateException") ∈ wAll := wAll_in_15 (List.mem_of_getElem? (i := 22) rfl)
theorem k623 : (Cond.methodLink RL 7 yX9_addFact) ∈ wAll := wAll_in_15 (List.mem_of_getElem? (i := 23) rfl)
theorem k624 : (Cond.instanceMethod yX9_addFact) ∈ wAll := wAll_in_15 (List.mem_of_getElem? (i := 24) rfl)
theorem k625 : (Cond.selects RX9 yX9_addFact yX9_addFact) ∈ wAll := wAll_in_15 (List.mem_of_getElem? (i := 25) rfl)
theorem k626 : (Cond.codeWith yL_addFact cL_addFact 4 (some .int) [(0, 9, 12, 13), (0, 9, 15, 15)]) ∈ wAll := wAll_in_15 (List.mem_of_getElem? (i := 26) rfl)
theorem k627 : (Cond.methodLink RL 17 yX9_takeBack) ∈ wAll := wAll_in_15 (List.mem_of_getElem? (i := 27) rfl)
theorem k628 : (Cond.instanceMethod yX9_takeBack) ∈ wAll := wAll_in_15 (List.mem_of_getElem? (i := 28) rfl)
theorem k629 : (Cond.selects RX9 yX9_takeBack yX9_takeBack) ∈ wAll := wAll_in_15 (List.mem_of_getElem? (i := 29) rfl)
theorem k630 : (Cond.codeWith yL_takeBack cL_takeBack 4 (some .int) [(0, 16, 19, 13)]) ∈ wAll := wAll_in_15 (List.mem_of_getElem? (i := 30) rfl)
theorem k631 : (Cond.methodLink RL 21 yX9_addRule) ∈ wAll := wAll_in_15 (List.mem_of_getElem? (i := 31) rfl)
theorem k632 : (Cond.instanceMethod yX9_addRule) ∈ wAll := wAll_in_15 (List.mem_of_getElem? (i := 32) rfl)
theorem k633 : (Cond.selects RX9 yX9_addRule yX9_addRule) ∈ wAll := wAll_in_15 (List.mem_of_getElem? (i := 33) rfl)
theorem k634 : (Cond.codeWith yL_addRule cL_addRule 8 (some .int) [(0, 16, 19, 13), (0, 16, 23, 15)]) ∈ wAll := wAll_in_15 (List.mem_of_getElem? (i := 34) rfl)
theorem k635 : (Cond.classLink RL 29 "java/lang/IndexOutOfBoundsException") ∈ wAll := wAll_in_15 (List.mem_of_getElem? (i := 35) rfl)
theorem k636 : (Cond.methodLink RL 25 yX9_setPriority) ∈ wAll := wAll_in_15 (List.mem_of_getElem? (i := 36) rfl)
theorem k637 : (Cond.instanceMethod yX9_setPriority) ∈ wAll := wAll_in_15 (List.mem_of_getElem? (i := 37) rfl)
theorem k638 : (Cond.selects RX9 yX9_setPriority yX9_setPriority) ∈ wAll := wAll_in_15 (List.mem_of_getElem? (i := 38) rfl)
theorem k639 : (Cond.codeWith yL_setPriority cL_setPriority 5 (some .int) [(0, 10, 13, 29), (0, 10, 17, 13)]) ∈ wAll := wAll_in_15 (List.mem_of_getElem? (i := 39) rfl)
theorem k640 : (Cond.methodLink RL 31 yX9_setException) ∈ wAll := wAll_in_16 (List.mem_of_getElem? (i := 0) rfl)
theorem k641 : (Cond.instanceMethod yX9_setException) ∈ wAll := wAll_in_16 (List.mem_of_getElem? (i := 1) rfl)
theorem k642 : (Cond.selects RX9 yX9_setException yX9_setException) ∈ wAll := wAll_in_16 (List.mem_of_getElem? (i := 2) rfl)
theorem k643 : (Cond.codeWith yL_setException cL_setException 5 (some .int) [(0, 10, 13, 29), (0, 10, 17, 13)]) ∈ wAll := wAll_in_16 (List.mem_of_getElem? (i := 3) rfl)
theorem k644 : (Cond.methodLink RL 34 yX9_turn) ∈ wAll := wAll_in_16 (List.mem_of_getElem? (i := 4) rfl)
theorem k645 : (Cond.instanceMethod yX9_turn) ∈ wAll := wAll_in_16 (List.mem_of_getElem? (i := 5) rfl)
theorem k646 : (Cond.selects RX9 yX9_turn yX9_turn) ∈ wAll := wAll_in_16 (List.mem_of_getElem? (i := 6) rfl)
theorem k647 : (Cond.codeWith yL_turn cL_turn 5 (some .int) [(0, 17, 20, 29)]) ∈ wAll := wAll_in_16 (List.mem_of_getElem? (i := 7) rfl)
theorem k648 : (Cond.methodLink RL 38 yX9_conclusion) ∈ wAll := wAll_in_16 (List.mem_of_getElem? (i := 8) rfl)
theorem k649 : (Cond.instanceMethod yX9_conclusion) ∈ wAll := wAll_in_16 (List.mem_of_getElem? (i := 9) rfl)
theorem k650 : (Cond.selects RX9 yX9_conclusion yX9_conclusion) ∈ wAll := wAll_in_16 (List.mem_of_getElem? (i := 10) rfl)
theorem k651 : (Cond.codeWith yL_conclusion cL_conclusion 4 (some .int) [(0, 9, 12, 15), (0, 9, 15, 29)]) ∈ wAll := wAll_in_16 (List.mem_of_getElem? (i := 11) rfl)
theorem k652 : (Cond.methodLink RL 41 yX9_madeBy) ∈ wAll := wAll_in_16 (List.mem_of_getElem? (i := 12) rfl)
theorem k653 : (Cond.instanceMethod yX9_madeBy) ∈ wAll := wAll_in_16 (List.mem_of_getElem? (i := 13) rfl)
theorem k654 : (Cond.selects RX9 yX9_madeBy yX9_madeBy) ∈ wAll := wAll_in_16 (List.mem_of_getElem? (i := 14) rfl)
theorem k655 : (Cond.codeWith yL_madeBy cL_madeBy 4 (some .int) [(0, 9, 12, 15), (0, 9, 15, 29)]) ∈ wAll := wAll_in_16 (List.mem_of_getElem? (i := 15) rfl)
theorem k656 : (Cond.methodLink RL 44 yX9_part) ∈ wAll := wAll_in_16 (List.mem_of_getElem? (i := 16) rfl)
theorem k657 : (Cond.instanceMethod yX9_part) ∈ wAll := wAll_in_16 (List.mem_of_getElem? (i := 17) rfl)
theorem k658 : (Cond.selects RX9 yX9_part yX9_part) ∈ wAll := wAll_in_16 (List.mem_of_getElem? (i := 18) rfl)
theorem k659 : (Cond.codeWith yL_part cL_part 5 (some .int) [(0, 10, 13, 15), (0, 10, 17, 29)]) ∈ wAll := wAll_in_16 (List.mem_of_getElem? (i := 19) rfl)
theorem k660 : (Cond.methodLink RL 47 yX9_depth) ∈ wAll := wAll_in_16 (List.mem_of_getElem? (i := 20) rfl)
theorem k661 : (Cond.instanceMethod yX9_depth) ∈ wAll := wAll_in_16 (List.mem_of_getElem? (i := 21) rfl)
theorem k662 : (Cond.selects RX9 yX9_depth yX9_depth) ∈ wAll := wAll_in_16 (List.mem_of_getElem? (i := 22) rfl)
theorem k663 : (Cond.codeWith yL_depth cL_depth 4 (some .int) [(0, 9, 12, 15), (0, 9, 15, 29)]) ∈ wAll := wAll_in_16 (List.mem_of_getElem? (i := 23) rfl)
theorem k664 : (Cond.methodLink RL 50 yX9_attacks) ∈ wAll := wAll_in_16 (List.mem_of_getElem? (i := 24) rfl)
theorem k665 : (Cond.instanceMethod yX9_attacks) ∈ wAll := wAll_in_16 (List.mem_of_getElem? (i := 25) rfl)
theorem k666 : (Cond.selects RX9 yX9_attacks yX9_attacks) ∈ wAll := wAll_in_16 (List.mem_of_getElem? (i := 26) rfl)
theorem k667 : (Cond.codeWith yL_attacks cL_attacks 5 (some .int) [(0, 17, 20, 15), (0, 17, 24, 29)]) ∈ wAll := wAll_in_16 (List.mem_of_getElem? (i := 27) rfl)
theorem k668 : (Cond.methodLink RL 54 yX9_label) ∈ wAll := wAll_in_16 (List.mem_of_getElem? (i := 28) rfl)
theorem k669 : (Cond.instanceMethod yX9_label) ∈ wAll := wAll_in_16 (List.mem_of_getElem? (i := 29) rfl)
theorem k670 : (Cond.selects RX9 yX9_label yX9_label) ∈ wAll := wAll_in_16 (List.mem_of_getElem? (i := 30) rfl)
theorem k671 : (Cond.codeWith yL_label cL_label 4 (some .int) [(0, 9, 12, 15), (0, 9, 15, 29)]) ∈ wAll := wAll_in_16 (List.mem_of_getElem? (i := 31) rfl)
theorem k672 : (Cond.methodLink RL 57 yX9_round) ∈ wAll := wAll_in_16 (List.mem_of_getElem? (i := 32) rfl)
theorem k673 : (Cond.instanceMethod yX9_round) ∈ wAll := wAll_in_16 (List.mem_of_getElem? (i := 33) rfl)
theorem k674 : (Cond.selects RX9 yX9_round yX9_round) ∈ wAll := wAll_in_16 (List.mem_of_getElem? (i := 34) rfl)
theorem k675 : (Cond.codeWith yL_round cL_round 4 (some .int) [(0, 9, 12, 15), (0, 9, 15, 29)]) ∈ wAll := wAll_in_16 (List.mem_of_getElem? (i := 35) rfl)
theorem k676 : (Cond.methodLink RL 60 yX9_holds) ∈ wAll := wAll_in_16 (List.mem_of_getElem? (i := 36) rfl)
theorem k677 : (Cond.instanceMethod yX9_holds) ∈ wAll := wAll_in_16 (List.mem_of_getElem? (i := 37) rfl)
theorem k678 : (Cond.selects RX9 yX9_holds yX9_holds) ∈ wAll := wAll_in_16 (List.mem_of_getElem? (i := 38) rfl)
theorem k679 : (Cond.codeWith yL_holds cL_holds 4 (some .int) [(0, 9, 12, 13), (0, 9, 15, 15)]) ∈ wAll := wAll_in_16 (List.mem_of_getElem? (i := 39) rfl)
theorem k680 : (Cond.methodLink RL 63 yX9_reasonFor) ∈ wAll := wAll_in_17 (List.mem_of_getElem? (i := 0) rfl)
theorem k681 : (Cond.instanceMethod yX9_reasonFor) ∈ wAll := wAll_in_17 (List.mem_of_getElem? (i := 1) rfl)
theorem k682 : (Cond.selects RX9 yX9_reasonFor yX9_reasonFor) ∈ wAll := wAll_in_17 (List.mem_of_getElem? (i := 2) rfl)
theorem k683 : (Cond.codeWith yL_reasonFor cL_reasonFor 4 (some .int) [(0, 9, 12, 13), (0, 9, 15, 15)]) ∈ wAll := wAll_in_17 (List.mem_of_getElem? (i := 3) rfl)
theorem k684 : (Cond.methodLink RL 66 yX9_reasonAgainst) ∈ wAll := wAll_in_17 (List.mem_of_getElem? (i := 4) rfl)
theorem k685 : (Cond.instanceMethod yX9_reasonAgainst) ∈ wAll := wAll_in_17 (List.mem_of_getElem? (i := 5) rfl)
theorem k686 : (Cond.selects RX9 yX9_reasonAgainst yX9_reasonAgainst) ∈ wAll := wAll_in_17 (List.mem_of_getElem? (i := 6) rfl)
theorem k687 : (Cond.codeWith yL_reasonAgainst cL_reasonAgainst 4 (some .int) [(0, 9, 12, 15), (0, 9, 15, 29)]) ∈ wAll := wAll_in_17 (List.mem_of_getElem? (i := 7) rfl)
theorem k688 : (Cond.methodLink RL 69 yX9_preferred) ∈ wAll := wAll_in_17 (List.mem_of_getElem? (i := 8) rfl)
theorem k689 : (Cond.instanceMethod yX9_preferred) ∈ wAll := wAll_in_17 (List.mem_of_getElem? (i := 9) rfl)
theorem k690 : (Cond.selects RX9 yX9_preferred yX9_preferred) ∈ wAll := wAll_in_17 (List.mem_of_getElem? (i := 10) rfl)
theorem k691 : (Cond.codeWith yL_preferred cL_preferred 3 (some .int) [(0, 8, 11, 15)]) ∈ wAll := wAll_in_17 (List.mem_of_getElem? (i := 11) rfl)
theorem k692 : (Cond.methodLink RL 73 yX9_preferredByAllSets) ∈ wAll := wAll_in_17 (List.mem_of_getElem? (i := 12) rfl)
theorem k693 : (Cond.instanceMethod yX9_preferredByAllSets) ∈ wAll := wAll_in_17 (List.mem_of_getElem? (i := 13) rfl)
theorem k694 : (Cond.selects RX9 yX9_preferredByAllSets yX9_preferredByAllSets) ∈ wAll := wAll_in_17 (List.mem_of_getElem? (i := 14) rfl)
theorem k695 : (Cond.codeWith yL_preferredByAllSets cL_preferredByAllSets 3 (some .int) [(0, 8, 11, 15)]) ∈ wAll := wAll_in_17 (List.mem_of_getElem? (i := 15) rfl)
theorem k696 : (Cond.methodLink RL 76 yX9_isInSet) ∈ wAll := wAll_in_17 (List.mem_of_getElem? (i := 16) rfl)
theorem k697 : (Cond.instanceMethod yX9_isInSet) ∈ wAll := wAll_in_17 (List.mem_of_getElem? (i := 17) rfl)
theorem k698 : (Cond.selects RX9 yX9_isInSet yX9_isInSet) ∈ wAll := wAll_in_17 (List.mem_of_getElem? (i := 18) rfl)
theorem k699 : (Cond.codeWith yL_isInSet cL_isInSet 5 (some .int) [(0, 17, 20, 15), (0, 17, 24, 29)]) ∈ wAll := wAll_in_17 (List.mem_of_getElem? (i := 19) rfl)
theorem k700 : (Cond.methodLink RL 79 yX9_setsFor) ∈ wAll := wAll_in_17 (List.mem_of_getElem? (i := 20) rfl)
theorem k701 : (Cond.instanceMethod yX9_setsFor) ∈ wAll := wAll_in_17 (List.mem_of_getElem? (i := 21) rfl)
theorem k702 : (Cond.selects RX9 yX9_setsFor yX9_setsFor) ∈ wAll := wAll_in_17 (List.mem_of_getElem? (i := 22) rfl)
theorem k703 : (Cond.codeWith yL_setsFor cL_setsFor 4 (some .int) [(0, 9, 12, 13), (0, 9, 15, 15)]) ∈ wAll := wAll_in_17 (List.mem_of_getElem? (i := 23) rfl)
theorem k704 : (Cond.classLink RL 8 RX9) ∈ wAll := wAll_in_17 (List.mem_of_getElem? (i := 24) rfl)
theorem k705 : (Cond.instantiable RX9 9) ∈ wAll := wAll_in_17 (List.mem_of_getElem? (i := 25) rfl)
theorem k706 : (Cond.classLink RL 83 RX10) ∈ wAll := wAll_in_17 (List.mem_of_getElem? (i := 26) rfl)
theorem k707 : (Cond.instantiable RX10 20) ∈ wAll := wAll_in_17 (List.mem_of_getElem? (i := 27) rfl)
theorem k708 : (Cond.methodLink RL 82 yX9_init) ∈ wAll := wAll_in_17 (List.mem_of_getElem? (i := 28) rfl)
theorem k709 : (Cond.instanceMethod yX9_init) ∈ wAll := wAll_in_17 (List.mem_of_getElem? (i := 29) rfl)
theorem k710 : (Cond.methodLink RL 85 yX10_init) ∈ wAll := wAll_in_17 (List.mem_of_getElem? (i := 30) rfl)
theorem k711 : (Cond.instanceMethod yX10_init) ∈ wAll := wAll_in_17 (List.mem_of_getElem? (i := 31) rfl)
theorem k712 : (Cond.methodLink RL 86 yL_addFact) ∈ wAll := wAll_in_17 (List.mem_of_getElem? (i := 32) rfl)
theorem k713 : (Cond.static yL_addFact) ∈ wAll := wAll_in_17 (List.mem_of_getElem? (i := 33) rfl)
theorem k714 : (Cond.initialized RL) ∈ wAll := wAll_in_17 (List.mem_of_getElem? (i := 34) rfl)
theorem k715 : (Cond.methodLink RL 91 yX10_addFact) ∈ wAll := wAll_in_17 (List.mem_of_getElem? (i := 35) rfl)
theorem k716 : (Cond.instanceMethod yX10_addFact) ∈ wAll := wAll_in_17 (List.mem_of_getElem? (i := 36) rfl)
theorem k717 : (Cond.selects RX10 yX10_addFact yX10_addFact) ∈ wAll := wAll_in_17 (List.mem_of_getElem? (i := 37) rfl)
theorem k718 : (Cond.methodLink RL 92 yX10_thrown) ∈ wAll := wAll_in_17 (List.mem_of_getElem? (i := 38) rfl)
theorem k719 : (Cond.instanceMethod yX10_thrown) ∈ wAll := wAll_in_17 (List.mem_of_getElem? (i := 39) rfl)
theorem k720 : (Cond.selects RX10 yX10_thrown yX10_thrown) ∈ wAll := wAll_in_18 (List.mem_of_getElem? (i := 0) rfl)
theorem k721 : (Cond.methodLink RL 95 yL_takeBack) ∈ wAll := wAll_in_18 (List.mem_of_getElem? (i := 1) rfl)
theorem k722 : (Cond.static yL_takeBack) ∈ wAll := wAll_in_18 (List.mem_of_getElem? (i := 2) rfl)
theorem k723 : (Cond.methodLink RL 97 yX10_takeBack) ∈ wAll := wAll_in_18 (List.mem_of_getElem? (i := 3) rfl)
theorem k724 : (Cond.instanceMethod yX10_takeBack) ∈ wAll := wAll_in_18 (List.mem_of_getElem? (i := 4) rfl)
theorem k725 : (Cond.selects RX10 yX10_takeBack yX10_takeBack) ∈ wAll := wAll_in_18 (List.mem_of_getElem? (i := 5) rfl)
theorem k726 : (Cond.methodLink RL 98 yL_addRule) ∈ wAll := wAll_in_18 (List.mem_of_getElem? (i := 6) rfl)
theorem k727 : (Cond.static yL_addRule) ∈ wAll := wAll_in_18 (List.mem_of_getElem? (i := 7) rfl)
theorem k728 : (Cond.methodLink RL 101 yX10_addRule) ∈ wAll := wAll_in_18 (List.mem_of_getElem? (i := 8) rfl)
theorem k729 : (Cond.instanceMethod yX10_addRule) ∈ wAll := wAll_in_18 (List.mem_of_getElem? (i := 9) rfl)
theorem k730 : (Cond.selects RX10 yX10_addRule yX10_addRule) ∈ wAll := wAll_in_18 (List.mem_of_getElem? (i := 10) rfl)
theorem k731 : (Cond.methodLink RL 102 yL_setPriority) ∈ wAll := wAll_in_18 (List.mem_of_getElem? (i := 11) rfl)
theorem k732 : (Cond.static yL_setPriority) ∈ wAll := wAll_in_18 (List.mem_of_getElem? (i := 12) rfl)
theorem k733 : (Cond.methodLink RL 105 yX10_setPriority) ∈ wAll := wAll_in_18 (List.mem_of_getElem? (i := 13) rfl)
theorem k734 : (Cond.instanceMethod yX10_setPriority) ∈ wAll := wAll_in_18 (List.mem_of_getElem? (i := 14) rfl)
theorem k735 : (Cond.selects RX10 yX10_setPriority yX10_setPriority) ∈ wAll := wAll_in_18 (List.mem_of_getElem? (i := 15) rfl)
theorem k736 : (Cond.methodLink RL 106 yL_setException) ∈ wAll := wAll_in_18 (List.mem_of_getElem? (i := 16) rfl)
theorem k737 : (Cond.static yL_setException) ∈ wAll := wAll_in_18 (List.mem_of_getElem? (i := 17) rfl)
theorem k738 : (Cond.methodLink RL 108 yX10_setException) ∈ wAll := wAll_in_18 (List.mem_of_getElem? (i := 18) rfl)
theorem k739 : (Cond.instanceMethod yX10_setException) ∈ wAll := wAll_in_18 (List.mem_of_getElem? (i := 19) rfl)
theorem k740 : (Cond.selects RX10 yX10_setException yX10_setException) ∈ wAll := wAll_in_18 (List.mem_of_getElem? (i := 20) rfl)
theorem k741 : (Cond.methodLink RL 109 yL_turn) ∈ wAll := wAll_in_18 (List.mem_of_getElem? (i := 21) rfl)
theorem k742 : (Cond.static yL_turn) ∈ wAll := wAll_in_18 (List.mem_of_getElem? (i := 22) rfl)
theorem k743 : (Cond.methodLink RL 112 yX10_turn) ∈ wAll := wAll_in_18 (List.mem_of_getElem? (i := 23) rfl)
theorem k744 : (Cond.instanceMethod yX10_turn) ∈ wAll := wAll_in_18 (List.mem_of_getElem? (i := 24) rfl)
theorem k745 : (Cond.selects RX10 yX10_turn yX10_turn) ∈ wAll := wAll_in_18 (List.mem_of_getElem? (i := 25) rfl)
theorem k746 : (Cond.methodLink RL 113 yX9_facts) ∈ wAll := wAll_in_18 (List.mem_of_getElem? (i := 26) rfl)
theorem k747 : (Cond.instanceMethod yX9_facts) ∈ wAll := wAll_in_18 (List.mem_of_getElem? (i := 27) rfl)
theorem k748 : (Cond.selects RX9 yX9_facts yX9_facts) ∈ wAll := wAll_in_18 (List.mem_of_getElem? (i := 28) rfl)
theorem k749 : (Cond.methodLink RL 116 yX10_facts) ∈ wAll := wAll_in_18 (List.mem_of_getElem? (i := 29) rfl)
theorem k750 : (Cond.instanceMethod yX10_facts) ∈ wAll := wAll_in_18 (List.mem_of_getElem? (i := 30) rfl)
theorem k751 : (Cond.selects RX10 yX10_facts yX10_facts) ∈ wAll := wAll_in_18 (List.mem_of_getElem? (i := 31) rfl)
theorem k752 : (Cond.methodLink RL 117 yX9_rules) ∈ wAll := wAll_in_18 (List.mem_of_getElem? (i := 32) rfl)
theorem k753 : (Cond.instanceMethod yX9_rules) ∈ wAll := wAll_in_18 (List.mem_of_getElem? (i := 33) rfl)
theorem k754 : (Cond.selects RX9 yX9_rules yX9_rules) ∈ wAll := wAll_in_18 (List.mem_of_getElem? (i := 34) rfl)
theorem k755 : (Cond.methodLink RL 120 yX10_rules) ∈ wAll := wAll_in_18 (List.mem_of_getElem? (i := 35) rfl)
theorem k756 : (Cond.instanceMethod yX10_rules) ∈ wAll := wAll_in_18 (List.mem_of_getElem? (i := 36) rfl)
theorem k757 : (Cond.selects RX10 yX10_rules yX10_rules) ∈ wAll := wAll_in_18 (List.mem_of_getElem? (i := 37) rfl)
theorem k758 : (Cond.methodLink RL 121 yX9_arguments) ∈ wAll := wAll_in_18 (List.mem_of_getElem? (i := 38) rfl)
theorem k759 : (Cond.instanceMethod yX9_arguments) ∈ wAll := wAll_in_18 (List.mem_of_getElem? (i := 39) rfl)
theorem k760 : (Cond.selects RX9 yX9_arguments yX9_arguments) ∈ wAll := wAll_in_19 (List.mem_of_getElem? (i := 0) rfl)
theorem k761 : (Cond.methodLink RL 124 yX10_arguments) ∈ wAll := wAll_in_19 (List.mem_of_getElem? (i := 1) rfl)
theorem k762 : (Cond.instanceMethod yX10_arguments) ∈ wAll := wAll_in_19 (List.mem_of_getElem? (i := 2) rfl)
theorem k763 : (Cond.selects RX10 yX10_arguments yX10_arguments) ∈ wAll := wAll_in_19 (List.mem_of_getElem? (i := 3) rfl)
theorem k764 : (Cond.methodLink RL 125 yL_conclusion) ∈ wAll := wAll_in_19 (List.mem_of_getElem? (i := 4) rfl)
theorem k765 : (Cond.static yL_conclusion) ∈ wAll := wAll_in_19 (List.mem_of_getElem? (i := 5) rfl)
theorem k766 : (Cond.methodLink RL 127 yX10_conclusion) ∈ wAll := wAll_in_19 (List.mem_of_getElem? (i := 6) rfl)
theorem k767 : (Cond.instanceMethod yX10_conclusion) ∈ wAll := wAll_in_19 (List.mem_of_getElem? (i := 7) rfl)
theorem k768 : (Cond.selects RX10 yX10_conclusion yX10_conclusion) ∈ wAll := wAll_in_19 (List.mem_of_getElem? (i := 8) rfl)
theorem k769 : (Cond.methodLink RL 128 yL_madeBy) ∈ wAll := wAll_in_19 (List.mem_of_getElem? (i := 9) rfl)
theorem k770 : (Cond.static yL_madeBy) ∈ wAll := wAll_in_19 (List.mem_of_getElem? (i := 10) rfl)
theorem k771 : (Cond.methodLink RL 130 yX10_madeBy) ∈ wAll := wAll_in_19 (List.mem_of_getElem? (i := 11) rfl)
theorem k772 : (Cond.instanceMethod yX10_madeBy) ∈ wAll := wAll_in_19 (List.mem_of_getElem? (i := 12) rfl)
theorem k773 : (Cond.selects RX10 yX10_madeBy yX10_madeBy) ∈ wAll := wAll_in_19 (List.mem_of_getElem? (i := 13) rfl)
theorem k774 : (Cond.methodLink RL 131 yL_part) ∈ wAll := wAll_in_19 (List.mem_of_getElem? (i := 14) rfl)
theorem k775 : (Cond.static yL_part) ∈ wAll := wAll_in_19 (List.mem_of_getElem? (i := 15) rfl)
theorem k776 : (Cond.methodLink RL 133 yX10_part) ∈ wAll := wAll_in_19 (List.mem_of_getElem? (i := 16) rfl)
theorem k777 : (Cond.instanceMethod yX10_part) ∈ wAll := wAll_in_19 (List.mem_of_getElem? (i := 17) rfl)
theorem k778 : (Cond.selects RX10 yX10_part yX10_part) ∈ wAll := wAll_in_19 (List.mem_of_getElem? (i := 18) rfl)
theorem k779 : (Cond.methodLink RL 134 yL_depth) ∈ wAll := wAll_in_19 (List.mem_of_getElem? (i := 19) rfl)
theorem k780 : (Cond.static yL_depth) ∈ wAll := wAll_in_19 (List.mem_of_getElem? (i := 20) rfl)
theorem k781 : (Cond.methodLink RL 136 yX10_depth) ∈ wAll := wAll_in_19 (List.mem_of_getElem? (i := 21) rfl)
theorem k782 : (Cond.instanceMethod yX10_depth) ∈ wAll := wAll_in_19 (List.mem_of_getElem? (i := 22) rfl)
theorem k783 : (Cond.selects RX10 yX10_depth yX10_depth) ∈ wAll := wAll_in_19 (List.mem_of_getElem? (i := 23) rfl)
theorem k784 : (Cond.methodLink RL 137 yL_attacks) ∈ wAll := wAll_in_19 (List.mem_of_getElem? (i := 24) rfl)
theorem k785 : (Cond.static yL_attacks) ∈ wAll := wAll_in_19 (List.mem_of_getElem? (i := 25) rfl)
theorem k786 : (Cond.methodLink RL 139 yX10_attacks) ∈ wAll := wAll_in_19 (List.mem_of_getElem? (i := 26) rfl)
theorem k787 : (Cond.instanceMethod yX10_attacks) ∈ wAll := wAll_in_19 (List.mem_of_getElem? (i := 27) rfl)
theorem k788 : (Cond.selects RX10 yX10_attacks yX10_attacks) ∈ wAll := wAll_in_19 (List.mem_of_getElem? (i := 28) rfl)
theorem k789 : (Cond.methodLink RL 140 yL_label) ∈ wAll := wAll_in_19 (List.mem_of_getElem? (i := 29) rfl)
theorem k790 : (Cond.static yL_label) ∈ wAll := wAll_in_19 (List.mem_of_getElem? (i := 30) rfl)
theorem k791 : (Cond.methodLink RL 142 yX10_label) ∈ wAll := wAll_in_19 (List.mem_of_getElem? (i := 31) rfl)
theorem k792 : (Cond.instanceMethod yX10_label) ∈ wAll := wAll_in_19 (List.mem_of_getElem? (i := 32) rfl)
theorem k793 : (Cond.selects RX10 yX10_label yX10_label) ∈ wAll := wAll_in_19 (List.mem_of_getElem? (i := 33) rfl)
theorem k794 : (Cond.methodLink RL 143 yL_round) ∈ wAll := wAll_in_19 (List.mem_of_getElem? (i := 34) rfl)
theorem k795 : (Cond.static yL_round) ∈ wAll := wAll_in_19 (List.mem_of_getElem? (i := 35) rfl)
theorem k796 : (Cond.methodLink RL 145 yX10_round) ∈ wAll := wAll_in_19 (List.mem_of_getElem? (i := 36) rfl)
theorem k797 : (Cond.instanceMethod yX10_round) ∈ wAll := wAll_in_19 (List.mem_of_getElem? (i := 37) rfl)
theorem k798 : (Cond.selects RX10 yX10_round yX10_round) ∈ wAll := wAll_in_19 (List.mem_of_getElem? (i := 38) rfl)
theorem k799 : (Cond.methodLink RL 146 yL_holds) ∈ wAll := wAll_in_19 (List.mem_of_getElem? (i := 39) rfl)
theorem k800 : (Cond.static yL_holds) ∈ wAll := wAll_in_20 (List.mem_of_getElem? (i := 0) rfl)
theorem k801 : (Cond.methodLink RL 148 yX10_holds) ∈ wAll := wAll_in_20 (List.mem_of_getElem? (i := 1) rfl)
theorem k802 : (Cond.instanceMethod yX10_holds) ∈ wAll := wAll_in_20 (List.mem_of_getElem? (i := 2) rfl)
theorem k803 : (Cond.selects RX10 yX10_holds yX10_holds) ∈ wAll := wAll_in_20 (List.mem_of_getElem? (i := 3) rfl)
theorem k804 : (Cond.methodLink RL 149 yL_reasonFor) ∈ wAll := wAll_in_20 (List.mem_of_getElem? (i := 4) rfl)
theorem k805 : (Cond.static yL_reasonFor) ∈ wAll := wAll_in_20 (List.mem_of_getElem? (i := 5) rfl)
theorem k806 : (Cond.methodLink RL 151 yX10_reasonFor) ∈ wAll := wAll_in_20 (List.mem_of_getElem? (i := 6) rfl)
theorem k807 : (Cond.instanceMethod yX10_reasonFor) ∈ wAll := wAll_in_20 (List.mem_of_getElem? (i := 7) rfl)
theorem k808 : (Cond.selects RX10 yX10_reasonFor yX10_reasonFor) ∈ wAll := wAll_in_20 (List.mem_of_getElem? (i := 8) rfl)
theorem k809 : (Cond.methodLink RL 152 yL_reasonAgainst) ∈ wAll := wAll_in_20 (List.mem_of_getElem? (i := 9) rfl)
theorem k810 : (Cond.static yL_reasonAgainst) ∈ wAll := wAll_in_20 (List.mem_of_getElem? (i := 10) rfl)
theorem k811 : (Cond.methodLink RL 154 yX10_reasonAgainst) ∈ wAll := wAll_in_20 (List.mem_of_getElem? (i := 11) rfl)
theorem k812 : (Cond.instanceMethod yX10_reasonAgainst) ∈ wAll := wAll_in_20 (List.mem_of_getElem? (i := 12) rfl)
theorem k813 : (Cond.selects RX10 yX10_reasonAgainst yX10_reasonAgainst) ∈ wAll := wAll_in_20 (List.mem_of_getElem? (i := 13) rfl)
theorem k814 : (Cond.methodLink RL 155 yL_preferred) ∈ wAll := wAll_in_20 (List.mem_of_getElem? (i := 14) rfl)
theorem k815 : (Cond.static yL_preferred) ∈ wAll := wAll_in_20 (List.mem_of_getElem? (i := 15) rfl)
theorem k816 : (Cond.methodLink RL 158 yX10_preferred) ∈ wAll := wAll_in_20 (List.mem_of_getElem? (i := 16) rfl)
theorem k817 : (Cond.instanceMethod yX10_preferred) ∈ wAll := wAll_in_20 (List.mem_of_getElem? (i := 17) rfl)
theorem k818 : (Cond.selects RX10 yX10_preferred yX10_preferred) ∈ wAll := wAll_in_20 (List.mem_of_getElem? (i := 18) rfl)
theorem k819 : (Cond.methodLink RL 159 yL_preferredByAllSets) ∈ wAll := wAll_in_20 (List.mem_of_getElem? (i := 19) rfl)
theorem k820 : (Cond.static yL_preferredByAllSets) ∈ wAll := wAll_in_20 (List.mem_of_getElem? (i := 20) rfl)
theorem k821 : (Cond.methodLink RL 161 yX10_preferredByAllSets) ∈ wAll := wAll_in_20 (List.mem_of_getElem? (i := 21) rfl)
theorem k822 : (Cond.instanceMethod yX10_preferredByAllSets) ∈ wAll := wAll_in_20 (List.mem_of_getElem? (i := 22) rfl)
theorem k823 : (Cond.selects RX10 yX10_preferredByAllSets yX10_preferredByAllSets) ∈ wAll := wAll_in_20 (List.mem_of_getElem? (i := 23) rfl)
theorem k824 : (Cond.methodLink RL 162 yL_isInSet) ∈ wAll := wAll_in_20 (List.mem_of_getElem? (i := 24) rfl)
theorem k825 : (Cond.static yL_isInSet) ∈ wAll := wAll_in_20 (List.mem_of_getElem? (i := 25) rfl)
theorem k826 : (Cond.methodLink RL 164 yX10_isInSet) ∈ wAll := wAll_in_20 (List.mem_of_getElem? (i := 26) rfl)
theorem k827 : (Cond.instanceMethod yX10_isInSet) ∈ wAll := wAll_in_20 (List.mem_of_getElem? (i := 27) rfl)
theorem k828 : (Cond.selects RX10 yX10_isInSet yX10_isInSet) ∈ wAll := wAll_in_20 (List.mem_of_getElem? (i := 28) rfl)
theorem k829 : (Cond.methodLink RL 165 yL_setsFor) ∈ wAll := wAll_in_20 (List.mem_of_getElem? (i := 29) rfl)
theorem k830 : (Cond.static yL_setsFor) ∈ wAll := wAll_in_20 (List.mem_of_getElem? (i := 30) rfl)
theorem k831 : (Cond.methodLink RL 167 yX10_setsFor) ∈ wAll := wAll_in_20 (List.mem_of_getElem? (i := 31) rfl)
theorem k832 : (Cond.instanceMethod yX10_setsFor) ∈ wAll := wAll_in_20 (List.mem_of_getElem? (i := 32) rfl)
theorem k833 : (Cond.selects RX10 yX10_setsFor yX10_setsFor) ∈ wAll := wAll_in_20 (List.mem_of_getElem? (i := 33) rfl)
theorem k834 : (Cond.methodLinkNest "RuleArguments" 11 ⟨"RuleArguments$FactBook", "<init>", "()V"⟩ "RuleArguments") ∈ wAll := wAll_in_20 (List.mem_of_getElem? (i := 34) rfl)
theorem k835 : (Cond.fieldLinkNest "RuleArguments" 72 "RuleArguments$FactBook" "count" "I" "RuleArguments") ∈ wAll := wAll_in_20 (List.mem_of_getElem? (i := 35) rfl)
theorem k836 : (Cond.fieldLinkNest "RuleArguments$AttackGraph" 45 "RuleArguments$Rule" "head" "I" "RuleArguments") ∈ wAll := wAll_in_20 (List.mem_of_getElem? (i := 36) rfl)
theorem k837 : (Cond.fieldLinkNest "RuleArguments$ArgumentList" 84 "RuleArguments$Rule" "head" "I" "RuleArguments") ∈ wAll := wAll_in_20 (List.mem_of_getElem? (i := 37) rfl)
theorem k838 : (Cond.fieldLinkNest "RuleArguments$ArgumentList" 64 "RuleArguments$Rule" "first" "I" "RuleArguments") ∈ wAll := wAll_in_20 (List.mem_of_getElem? (i := 38) rfl)
theorem k839 : (Cond.fieldLinkNest "RuleArguments$ArgumentList" 71 "RuleArguments$Rule" "second" "I" "RuleArguments") ∈ wAll := wAll_in_20 (List.mem_of_getElem? (i := 39) rfl)
theorem k840 : (Cond.fieldLinkNest "RuleArguments$ArgumentList" 74 "RuleArguments$Rule" "third" "I" "RuleArguments") ∈ wAll := wAll_in_21 (List.mem_of_getElem? (i := 0) rfl)
theorem k841 : (Cond.fieldLinkNest "RuleArguments" 117 "RuleArguments$Rule" "priority" "I" "RuleArguments") ∈ wAll := wAll_in_21 (List.mem_of_getElem? (i := 1) rfl)
theorem k842 : (Cond.fieldLinkNest "RuleArguments$AttackGraph" 54 "RuleArguments$Rule" "priority" "I" "RuleArguments") ∈ wAll := wAll_in_21 (List.mem_of_getElem? (i := 2) rfl)
theorem k843 : (Cond.fieldLinkNest "RuleArguments$AttackGraph" 57 "RuleArguments$Rule" "exception" "I" "RuleArguments") ∈ wAll := wAll_in_21 (List.mem_of_getElem? (i := 3) rfl)
theorem k844 : (Cond.fieldLinkNest "RuleArguments" 120 "RuleArguments$Rule" "exception" "I" "RuleArguments") ∈ wAll := wAll_in_21 (List.mem_of_getElem? (i := 4) rfl)
theorem k845 : (Cond.fieldLinkNest "RuleArguments$RuleBook" 27 "RuleArguments$Rule" "on" "Z" "RuleArguments") ∈ wAll := wAll_in_21 (List.mem_of_getElem? (i := 5) rfl)
theorem k846 : (Cond.fieldLinkNest "RuleArguments" 123 "RuleArguments$Rule" "on" "Z" "RuleArguments") ∈ wAll := wAll_in_21 (List.mem_of_getElem? (i := 6) rfl)
theorem k847 : (Cond.fieldLinkNest "RuleArguments$ArgumentList" 55 "RuleArguments$Rule" "on" "Z" "RuleArguments") ∈ wAll := wAll_in_21 (List.mem_of_getElem? (i := 7) rfl)
theorem k848 : (Cond.methodLinkNest "RuleArguments" 25 ⟨"RuleArguments$ArgumentList", "<init>", "()V"⟩ "RuleArguments") ∈ wAll := wAll_in_21 (List.mem_of_getElem? (i := 8) rfl)
theorem k849 : (Cond.fieldLinkNest "RuleArguments$AttackGraph" 19 "RuleArguments$ArgumentList" "count" "I" "RuleArguments") ∈ wAll := wAll_in_21 (List.mem_of_getElem? (i := 9) rfl)
theorem k850 : (Cond.fieldLinkNest "RuleArguments" 133 "RuleArguments$ArgumentList" "count" "I" "RuleArguments") ∈ wAll := wAll_in_21 (List.mem_of_getElem? (i := 10) rfl)
theorem k851 : (Cond.fieldLinkNest "RuleArguments" 130 "RuleArguments$ArgumentList" "tooMany" "Z" "RuleArguments") ∈ wAll := wAll_in_21 (List.mem_of_getElem? (i := 11) rfl)
theorem k852 : (Cond.methodLinkNest "RuleArguments" 32 ⟨"RuleArguments$AttackGraph", "<init>", "()V"⟩ "RuleArguments") ∈ wAll := wAll_in_21 (List.mem_of_getElem? (i := 12) rfl)
theorem k853 : (Cond.methodLinkNest "RuleArguments" 39 ⟨"RuleArguments$Labelling", "<init>", "()V"⟩ "RuleArguments") ∈ wAll := wAll_in_21 (List.mem_of_getElem? (i := 13) rfl)
theorem k854 : (Cond.methodLinkNest "RuleArguments" 46 ⟨"RuleArguments$SetSearch", "<init>", "()V"⟩ "RuleArguments") ∈ wAll := wAll_in_21 (List.mem_of_getElem? (i := 14) rfl)
theorem k855 : (Cond.methodLinkNest "RuleArguments$SetSearch" 11 ⟨"RuleArguments$UnionTable", "<init>", "()V"⟩ "RuleArguments") ∈ wAll := wAll_in_21 (List.mem_of_getElem? (i := 15) rfl)
theorem k856 : (Cond.methodLinkNest "RuleArguments$SetSearch" 23 ⟨"RuleArguments$SetList", "<init>", "()V"⟩ "RuleArguments") ∈ wAll := wAll_in_21 (List.mem_of_getElem? (i := 16) rfl)
theorem k857 : (Cond.fieldLinkNest "RuleArguments" 186 "RuleArguments$SetList" "count" "I" "RuleArguments") ∈ wAll := wAll_in_21 (List.mem_of_getElem? (i := 17) rfl)
theorem k858 : (Cond.fieldLinkNest "RuleArguments" 182 "RuleArguments$SetSearch" "byTrying" "LRuleArguments$SetList;" "RuleArguments") ∈ wAll := wAll_in_21 (List.mem_of_getElem? (i := 18) rfl)
theorem k859 : (Cond.fieldLinkNest "RuleArguments" 192 "RuleArguments$SetSearch" "bySweep" "LRuleArguments$SetList;" "RuleArguments") ∈ wAll := wAll_in_21 (List.mem_of_getElem? (i := 19) rfl)
theorem k860 : (Cond.methodLinkNest "RuleArguments$FactBook" 15 ⟨"RuleArguments", "isLiteralOrNone", "(I)Z"⟩ "RuleArguments") ∈ wAll := wAll_in_21 (List.mem_of_getElem? (i := 20) rfl)
theorem k861 : (Cond.methodLinkNest "RuleArguments$SetSearch" 50 ⟨"RuleArguments", "setBit", "(I)I"⟩ "RuleArguments") ∈ wAll := wAll_in_21 (List.mem_of_getElem? (i := 21) rfl)
theorem k862 : (Cond.methodLinkNest "RuleArguments$SetList" 19 ⟨"RuleArguments", "setBit", "(I)I"⟩ "RuleArguments") ∈ wAll := wAll_in_21 (List.mem_of_getElem? (i := 22) rfl)
end
section
theorem dX0_init_0 : decode cX0_init 0 = .ok (.aload_n 0, 1) := by decide +kernel
theorem dX0_init_1 : decode cX0_init 1 = .ok (.invokespecial 3, 3) := by decide +kernel
theorem dX0_init_4 : decode cX0_init 4 = .ok (.aload_n 0, 1) := by decide +kernel
theorem dX0_init_5 : decode cX0_init 5 = .ok (.bipush 24, 2) := by decide +kernel
theorem dX0_init_7 : decode cX0_init 7 = .ok (.newarray .int, 2) := by decide +kernel
theorem dX0_init_9 : decode cX0_init 9 = .ok (.putfield 9, 3) := by decide +kernel
theorem dX0_init_12 : decode cX0_init 12 = .ok (.aload_n 0, 1) := by decide +kernel
theorem dX0_init_13 : decode cX0_init 13 = .ok (.bipush 24, 2) := by decide +kernel
theorem dX0_init_15 : decode cX0_init 15 = .ok (.newarray .int, 2) := by decide +kernel
theorem dX0_init_17 : decode cX0_init 17 = .ok (.putfield 15, 3) := by decide +kernel
theorem dX0_init_20 : decode cX0_init 20 = .ok (.aload_n 0, 1) := by decide +kernel
theorem dX0_init_21 : decode cX0_init 21 = .ok (.bipush 24, 2) := by decide +kernel
theorem dX0_init_23 : decode cX0_init 23 = .ok (.newarray .int, 2) := by decide +kernel
theorem dX0_init_25 : decode cX0_init 25 = .ok (.putfield 18, 3) := by decide +kernel
theorem dX0_init_28 : decode cX0_init 28 = .ok (.aload_n 0, 1) := by decide +kernel
theorem dX0_init_29 : decode cX0_init 29 = .ok (.bipush 72, 2) := by decide +kernel
theorem dX0_init_31 : decode cX0_init 31 = .ok (.newarray .int, 2) := by decide +kernel
theorem dX0_init_33 : decode cX0_init 33 = .ok (.putfield 21, 3) := by decide +kernel
theorem dX0_init_36 : decode cX0_init 36 = .ok (.aload_n 0, 1) := by decide +kernel
theorem dX0_init_37 : decode cX0_init 37 = .ok (.bipush 24, 2) := by decide +kernel
theorem dX0_init_39 : decode cX0_init 39 = .ok (.newarray .int, 2) := by decide +kernel
theorem dX0_init_41 : decode cX0_init 41 = .ok (.putfield 24, 3) := by decide +kernel
theorem dX0_init_44 : decode cX0_init 44 = .ok (.return_, 1) := by decide +kernel
theorem dX0_conclusionAt_0 : decode cX0_conclusionAt 0 = .ok (.iload_n 1, 1) := by decide +kernel
theorem dX0_conclusionAt_1 : decode cX0_conclusionAt 1 = .ok (.ifCond .lt 18, 3) := by decide +kernel
theorem dX0_conclusionAt_4 : decode cX0_conclusionAt 4 = .ok (.iload_n 1, 1) := by decide +kernel
theorem dX0_conclusionAt_5 : decode cX0_conclusionAt 5 = .ok (.bipush 24, 2) := by decide +kernel
theorem dX0_conclusionAt_7 : decode cX0_conclusionAt 7 = .ok (.if_icmp .ge 12, 3) := by decide +kernel
theorem dX0_conclusionAt_10 : decode cX0_conclusionAt 10 = .ok (.aload_n 0, 1) := by decide +kernel
theorem dX0_conclusionAt_11 : decode cX0_conclusionAt 11 = .ok (.getfield 9, 3) := by decide +kernel
theorem dX0_conclusionAt_14 : decode cX0_conclusionAt 14 = .ok (.iload_n 1, 1) := by decide +kernel
theorem dX0_conclusionAt_15 : decode cX0_conclusionAt 15 = .ok (.iaload, 1) := by decide +kernel
theorem dX0_conclusionAt_16 : decode cX0_conclusionAt 16 = .ok (.goto 4, 3) := by decide +kernel
theorem dX0_conclusionAt_19 : decode cX0_conclusionAt 19 = .ok (.iconst 0, 1) := by decide +kernel
theorem dX0_conclusionAt_20 : decode cX0_conclusionAt 20 = .ok (.ireturn, 1) := by decide +kernel
theorem dX0_makerAt_0 : decode cX0_makerAt 0 = .ok (.iload_n 1, 1) := by decide +kernel
theorem dX0_makerAt_1 : decode cX0_makerAt 1 = .ok (.ifCond .lt 18, 3) := by decide +kernel
theorem dX0_makerAt_4 : decode cX0_makerAt 4 = .ok (.iload_n 1, 1) := by decide +kernel
theorem dX0_makerAt_5 : decode cX0_makerAt 5 = .ok (.bipush 24, 2) := by decide +kernel
theorem dX0_makerAt_7 : decode cX0_makerAt 7 = .ok (.if_icmp .ge 12, 3) := by decide +kernel
theorem dX0_makerAt_10 : decode cX0_makerAt 10 = .ok (.aload_n 0, 1) := by decide +kernel
theorem dX0_makerAt_11 : decode cX0_makerAt 11 = .ok (.getfield 15, 3) := by decide +kernel
theorem dX0_makerAt_14 : decode cX0_makerAt 14 = .ok (.iload_n 1, 1) := by decide +kernel
theorem dX0_makerAt_15 : decode cX0_makerAt 15 = .ok (.iaload, 1) := by decide +kernel
theorem dX0_makerAt_16 : decode cX0_makerAt 16 = .ok (.goto 4, 3) := by decide +kernel
theorem dX0_makerAt_19 : decode cX0_makerAt 19 = .ok (.iconst (-1), 1) := by decide +kernel
theorem dX0_makerAt_20 : decode cX0_makerAt 20 = .ok (.ireturn, 1) := by decide +kernel
theorem dX0_depthAt_0 : decode cX0_depthAt 0 = .ok (.iload_n 1, 1) := by decide +kernel
theorem dX0_depthAt_1 : decode cX0_depthAt 1 = .ok (.ifCond .lt 18, 3) := by decide +kernel
theorem dX0_depthAt_4 : decode cX0_depthAt 4 = .ok (.iload_n 1, 1) := by decide +kernel
theorem dX0_depthAt_5 : decode cX0_depthAt 5 = .ok (.bipush 24, 2) := by decide +kernel
theorem dX0_depthAt_7 : decode cX0_depthAt 7 = .ok (.if_icmp .ge 12, 3) := by decide +kernel
theorem dX0_depthAt_10 : decode cX0_depthAt 10 = .ok (.aload_n 0, 1) := by decide +kernel
theorem dX0_depthAt_11 : decode cX0_depthAt 11 = .ok (.getfield 18, 3) := by decide +kernel
theorem dX0_depthAt_14 : decode cX0_depthAt 14 = .ok (.iload_n 1, 1) := by decide +kernel
theorem dX0_depthAt_15 : decode cX0_depthAt 15 = .ok (.iaload, 1) := by decide +kernel
theorem dX0_depthAt_16 : decode cX0_depthAt 16 = .ok (.goto 4, 3) := by decide +kernel
theorem dX0_depthAt_19 : decode cX0_depthAt 19 = .ok (.iconst 0, 1) := by decide +kernel
theorem dX0_depthAt_20 : decode cX0_depthAt 20 = .ok (.ireturn, 1) := by decide +kernel
theorem dX0_partAt_0 : decode cX0_partAt 0 = .ok (.iload_n 1, 1) := by decide +kernel
theorem dX0_partAt_1 : decode cX0_partAt 1 = .ok (.ifCond .lt 18, 3) := by decide +kernel
theorem dX0_partAt_4 : decode cX0_partAt 4 = .ok (.iload_n 1, 1) := by decide +kernel
theorem dX0_partAt_5 : decode cX0_partAt 5 = .ok (.bipush 24, 2) := by decide +kernel
theorem dX0_partAt_7 : decode cX0_partAt 7 = .ok (.if_icmp .ge 12, 3) := by decide +kernel
theorem dX0_partAt_10 : decode cX0_partAt 10 = .ok (.iload_n 2, 1) := by decide +kernel
theorem dX0_partAt_11 : decode cX0_partAt 11 = .ok (.ifCond .lt 8, 3) := by decide +kernel
theorem dX0_partAt_14 : decode cX0_partAt 14 = .ok (.iload_n 2, 1) := by decide +kernel
theorem dX0_partAt_15 : decode cX0_partAt 15 = .ok (.iconst 3, 1) := by decide +kernel
theorem dX0_partAt_16 : decode cX0_partAt 16 = .ok (.if_icmp .lt 5, 3) := by decide +kernel
theorem dX0_partAt_19 : decode cX0_partAt 19 = .ok (.iconst (-1), 1) := by decide +kernel
theorem dX0_partAt_20 : decode cX0_partAt 20 = .ok (.ireturn, 1) := by decide +kernel
theorem dX0_partAt_21 : decode cX0_partAt 21 = .ok (.aload_n 0, 1) := by decide +kernel
theorem dX0_partAt_22 : decode cX0_partAt 22 = .ok (.getfield 21, 3) := by decide +kernel
theorem dX0_partAt_25 : decode cX0_partAt 25 = .ok (.iload_n 1, 1) := by decide +kernel
theorem dX0_partAt_26 : decode cX0_partAt 26 = .ok (.iconst 3, 1) := by decide +kernel
theorem dX0_partAt_27 : decode cX0_partAt 27 = .ok (.imul, 1) := by decide +kernel
theorem dX0_partAt_28 : decode cX0_partAt 28 = .ok (.iload_n 2, 1) := by decide +kernel
theorem dX0_partAt_29 : decode cX0_partAt 29 = .ok (.iadd, 1) := by decide +kernel
theorem dX0_partAt_30 : decode cX0_partAt 30 = .ok (.iaload, 1) := by decide +kernel
theorem dX0_partAt_31 : decode cX0_partAt 31 = .ok (.ireturn, 1) := by decide +kernel
theorem dX0_reachedAt_0 : decode cX0_reachedAt 0 = .ok (.iload_n 1, 1) := by decide +kernel
theorem dX0_reachedAt_1 : decode cX0_reachedAt 1 = .ok (.ifCond .lt 18, 3) := by decide +kernel
theorem dX0_reachedAt_4 : decode cX0_reachedAt 4 = .ok (.iload_n 1, 1) := by decide +kernel
theorem dX0_reachedAt_5 : decode cX0_reachedAt 5 = .ok (.bipush 24, 2) := by decide +kernel
theorem dX0_reachedAt_7 : decode cX0_reachedAt 7 = .ok (.if_icmp .ge 12, 3) := by decide +kernel
theorem dX0_reachedAt_10 : decode cX0_reachedAt 10 = .ok (.aload_n 0, 1) := by decide +kernel
theorem dX0_reachedAt_11 : decode cX0_reachedAt 11 = .ok (.getfield 24, 3) := by decide +kernel
theorem dX0_reachedAt_14 : decode cX0_reachedAt 14 = .ok (.iload_n 1, 1) := by decide +kernel
theorem dX0_reachedAt_15 : decode cX0_reachedAt 15 = .ok (.iaload, 1) := by decide +kernel
theorem dX0_reachedAt_16 : decode cX0_reachedAt 16 = .ok (.goto 4, 3) := by decide +kernel
theorem dX0_reachedAt_19 : decode cX0_reachedAt 19 = .ok (.iconst 0, 1) := by decide +kernel
theorem dX0_reachedAt_20 : decode cX0_reachedAt 20 = .ok (.ireturn, 1) := by decide +kernel
theorem dX0_build_0 : decode cX0_build 0 = .ok (.aload_n 0, 1) := by decide +kernel
theorem dX0_build_1 : decode cX0_build 1 = .ok (.iconst 0, 1) := by decide +kernel
theorem dX0_build_2 : decode cX0_build 2 = .ok (.putfield 27, 3) := by decide +kernel
theorem dX0_build_5 : decode cX0_build 5 = .ok (.aload_n 0, 1) := by decide +kernel
theorem dX0_build_6 : decode cX0_build 6 = .ok (.iconst 0, 1) := by decide +kernel
theorem dX0_build_7 : decode cX0_build 7 = .ok (.putfield 31, 3) := by decide +kernel
theorem dX0_build_10 : decode cX0_build 10 = .ok (.bipush (-10), 2) := by decide +kernel
theorem dX0_build_12 : decode cX0_build 12 = .ok (.istore_n 3, 1) := by decide +kernel
theorem dX0_build_13 : decode cX0_build 13 = .ok (.iload_n 3, 1) := by decide +kernel
theorem dX0_build_14 : decode cX0_build 14 = .ok (.bipush 10, 2) := by decide +kernel
theorem dX0_build_16 : decode cX0_build 16 = .ok (.if_icmp .gt 27, 3) := by decide +kernel
theorem dX0_build_19 : decode cX0_build 19 = .ok (.aload_n 1, 1) := by decide +kernel
theorem dX0_build_20 : decode cX0_build 20 = .ok (.iload_n 3, 1) := by decide +kernel
theorem dX0_build_21 : decode cX0_build 21 = .ok (.invokevirtual 35, 3) := by decide +kernel
theorem dX0_build_24 : decode cX0_build 24 = .ok (.ifCond .eq 13, 3) := by decide +kernel
theorem dX0_build_27 : decode cX0_build 27 = .ok (.aload_n 0, 1) := by decide +kernel
theorem dX0_build_28 : decode cX0_build 28 = .ok (.iload_n 3, 1) := by decide +kernel
theorem dX0_build_29 : decode cX0_build 29 = .ok (.iconst (-1), 1) := by decide +kernel
theorem dX0_build_30 : decode cX0_build 30 = .ok (.iconst 0, 1) := by decide +kernel
theorem dX0_build_31 : decode cX0_build 31 = .ok (.iconst (-1), 1) := by decide +kernel
theorem dX0_build_32 : decode cX0_build 32 = .ok (.iconst (-1), 1) := by decide +kernel
theorem dX0_build_33 : decode cX0_build 33 = .ok (.iconst (-1), 1) := by decide +kernel
theorem dX0_build_34 : decode cX0_build 34 = .ok (.invokevirtual 41, 3) := by decide +kernel
theorem dX0_build_37 : decode cX0_build 37 = .ok (.iinc 3 1, 3) := by decide +kernel
theorem dX0_build_40 : decode cX0_build 40 = .ok (.goto (-27), 3) := by decide +kernel
theorem dX0_build_43 : decode cX0_build 43 = .ok (.iconst 1, 1) := by decide +kernel
theorem dX0_build_44 : decode cX0_build 44 = .ok (.istore_n 3, 1) := by decide +kernel
theorem dX0_build_45 : decode cX0_build 45 = .ok (.iload_n 3, 1) := by decide +kernel
theorem dX0_build_46 : decode cX0_build 46 = .ok (.bipush 12, 2) := by decide +kernel
theorem dX0_build_48 : decode cX0_build 48 = .ok (.if_icmp .gt 84, 3) := by decide +kernel
theorem dX0_build_51 : decode cX0_build 51 = .ok (.aload_n 0, 1) := by decide +kernel
theorem dX0_build_52 : decode cX0_build 52 = .ok (.getfield 31, 3) := by decide +kernel
theorem dX0_build_55 : decode cX0_build 55 = .ok (.ifCond .ne 77, 3) := by decide +kernel
theorem dX0_build_58 : decode cX0_build 58 = .ok (.aload_n 0, 1) := by decide +kernel
theorem dX0_build_59 : decode cX0_build 59 = .ok (.getfield 27, 3) := by decide +kernel
theorem dX0_build_62 : decode cX0_build 62 = .ok (.istore 4, 2) := by decide +kernel
theorem dX0_build_64 : decode cX0_build 64 = .ok (.iconst 0, 1) := by decide +kernel
theorem dX0_build_65 : decode cX0_build 65 = .ok (.istore 5, 2) := by decide +kernel
theorem dX0_build_67 : decode cX0_build 67 = .ok (.iload 5, 2) := by decide +kernel
theorem dX0_build_69 : decode cX0_build 69 = .ok (.aload_n 2, 1) := by decide +kernel
theorem dX0_build_70 : decode cX0_build 70 = .ok (.invokevirtual 45, 3) := by decide +kernel
theorem dX0_build_73 : decode cX0_build 73 = .ok (.if_icmp .ge 43, 3) := by decide +kernel
theorem dX0_build_76 : decode cX0_build 76 = .ok (.aload_n 0, 1) := by decide +kernel
theorem dX0_build_77 : decode cX0_build 77 = .ok (.getfield 31, 3) := by decide +kernel
theorem dX0_build_80 : decode cX0_build 80 = .ok (.ifCond .ne 36, 3) := by decide +kernel
theorem dX0_build_83 : decode cX0_build 83 = .ok (.aload_n 2, 1) := by decide +kernel
theorem dX0_build_84 : decode cX0_build 84 = .ok (.iload 5, 2) := by decide +kernel
theorem dX0_build_86 : decode cX0_build 86 = .ok (.invokevirtual 51, 3) := by decide +kernel
theorem dX0_build_89 : decode cX0_build 89 = .ok (.getfield 55, 3) := by decide +kernel
theorem dX0_build_92 : decode cX0_build 92 = .ok (.ifCond .eq 18, 3) := by decide +kernel
theorem dX0_build_95 : decode cX0_build 95 = .ok (.aload_n 0, 1) := by decide +kernel
theorem dX0_build_96 : decode cX0_build 96 = .ok (.iload 5, 2) := by decide +kernel
theorem dX0_build_98 : decode cX0_build 98 = .ok (.aload_n 2, 1) := by decide +kernel
theorem dX0_build_99 : decode cX0_build 99 = .ok (.iload 5, 2) := by decide +kernel
theorem dX0_build_101 : decode cX0_build 101 = .ok (.invokevirtual 51, 3) := by decide +kernel
theorem dX0_build_104 : decode cX0_build 104 = .ok (.iload_n 3, 1) := by decide +kernel
theorem dX0_build_105 : decode cX0_build 105 = .ok (.iload 4, 2) := by decide +kernel
theorem dX0_build_107 : decode cX0_build 107 = .ok (.invokevirtual 60, 3) := by decide +kernel
theorem dX0_build_110 : decode cX0_build 110 = .ok (.iinc 5 1, 3) := by decide +kernel
theorem dX0_build_113 : decode cX0_build 113 = .ok (.goto (-46), 3) := by decide +kernel
theorem dX0_build_116 : decode cX0_build 116 = .ok (.aload_n 0, 1) := by decide +kernel
theorem dX0_build_117 : decode cX0_build 117 = .ok (.getfield 27, 3) := by decide +kernel
theorem dX0_build_120 : decode cX0_build 120 = .ok (.iload 4, 2) := by decide +kernel
theorem dX0_build_122 : decode cX0_build 122 = .ok (.if_icmp .ne 4, 3) := by decide +kernel
theorem dX0_build_125 : decode cX0_build 125 = .ok (.return_, 1) := by decide +kernel
theorem dX0_build_126 : decode cX0_build 126 = .ok (.iinc 3 1, 3) := by decide +kernel
theorem dX0_build_129 : decode cX0_build 129 = .ok (.goto (-84), 3) := by decide +kernel
theorem dX0_build_132 : decode cX0_build 132 = .ok (.return_, 1) := by decide +kernel
theorem dX0_addMadeBy_0 : decode cX0_addMadeBy 0 = .ok (.aload_n 2, 1) := by decide +kernel
theorem dX0_addMadeBy_1 : decode cX0_addMadeBy 1 = .ok (.getfield 64, 3) := by decide +kernel
theorem dX0_addMadeBy_4 : decode cX0_addMadeBy 4 = .ok (.iload 4, 2) := by decide +kernel
theorem dX0_addMadeBy_6 : decode cX0_addMadeBy 6 = .ok (.invokestatic 67, 3) := by decide +kernel
theorem dX0_addMadeBy_9 : decode cX0_addMadeBy 9 = .ok (.istore 5, 2) := by decide +kernel
theorem dX0_addMadeBy_11 : decode cX0_addMadeBy 11 = .ok (.aload_n 2, 1) := by decide +kernel
theorem dX0_addMadeBy_12 : decode cX0_addMadeBy 12 = .ok (.getfield 71, 3) := by decide +kernel
theorem dX0_addMadeBy_15 : decode cX0_addMadeBy 15 = .ok (.iload 4, 2) := by decide +kernel
theorem dX0_addMadeBy_17 : decode cX0_addMadeBy 17 = .ok (.invokestatic 67, 3) := by decide +kernel
theorem dX0_addMadeBy_20 : decode cX0_addMadeBy 20 = .ok (.istore 6, 2) := by decide +kernel
theorem dX0_addMadeBy_22 : decode cX0_addMadeBy 22 = .ok (.aload_n 2, 1) := by decide +kernel
theorem dX0_addMadeBy_23 : decode cX0_addMadeBy 23 = .ok (.getfield 74, 3) := by decide +kernel
theorem dX0_addMadeBy_26 : decode cX0_addMadeBy 26 = .ok (.iload 4, 2) := by decide +kernel
theorem dX0_addMadeBy_28 : decode cX0_addMadeBy 28 = .ok (.invokestatic 67, 3) := by decide +kernel
theorem dX0_addMadeBy_31 : decode cX0_addMadeBy 31 = .ok (.istore 7, 2) := by decide +kernel
theorem dX0_addMadeBy_33 : decode cX0_addMadeBy 33 = .ok (.aload_n 2, 1) := by decide +kernel
theorem dX0_addMadeBy_34 : decode cX0_addMadeBy 34 = .ok (.getfield 64, 3) := by decide +kernel
theorem dX0_addMadeBy_37 : decode cX0_addMadeBy 37 = .ok (.invokestatic 77, 3) := by decide +kernel
theorem dX0_addMadeBy_40 : decode cX0_addMadeBy 40 = .ok (.istore 8, 2) := by decide +kernel
theorem dX0_addMadeBy_42 : decode cX0_addMadeBy 42 = .ok (.iload 8, 2) := by decide +kernel
theorem dX0_addMadeBy_44 : decode cX0_addMadeBy 44 = .ok (.iload 5, 2) := by decide +kernel
theorem dX0_addMadeBy_46 : decode cX0_addMadeBy 46 = .ok (.if_icmp .ge 132, 3) := by decide +kernel
theorem dX0_addMadeBy_49 : decode cX0_addMadeBy 49 = .ok (.aload_n 0, 1) := by decide +kernel
theorem dX0_addMadeBy_50 : decode cX0_addMadeBy 50 = .ok (.iload 8, 2) := by decide +kernel
theorem dX0_addMadeBy_52 : decode cX0_addMadeBy 52 = .ok (.invokevirtual 81, 3) := by decide +kernel
theorem dX0_addMadeBy_55 : decode cX0_addMadeBy 55 = .ok (.aload_n 2, 1) := by decide +kernel
theorem dX0_addMadeBy_56 : decode cX0_addMadeBy 56 = .ok (.getfield 64, 3) := by decide +kernel
theorem dX0_addMadeBy_59 : decode cX0_addMadeBy 59 = .ok (.if_icmp .eq 6, 3) := by decide +kernel
theorem dX0_addMadeBy_62 : decode cX0_addMadeBy 62 = .ok (.goto 110, 3) := by decide +kernel
theorem dX0_addMadeBy_65 : decode cX0_addMadeBy 65 = .ok (.aload_n 2, 1) := by decide +kernel
theorem dX0_addMadeBy_66 : decode cX0_addMadeBy 66 = .ok (.getfield 71, 3) := by decide +kernel
theorem dX0_addMadeBy_69 : decode cX0_addMadeBy 69 = .ok (.invokestatic 77, 3) := by decide +kernel
theorem dX0_addMadeBy_72 : decode cX0_addMadeBy 72 = .ok (.istore 9, 2) := by decide +kernel
theorem dX0_addMadeBy_74 : decode cX0_addMadeBy 74 = .ok (.iload 9, 2) := by decide +kernel
theorem dX0_addMadeBy_76 : decode cX0_addMadeBy 76 = .ok (.iload 6, 2) := by decide +kernel
theorem dX0_addMadeBy_78 : decode cX0_addMadeBy 78 = .ok (.if_icmp .ge 94, 3) := by decide +kernel
theorem dX0_addMadeBy_81 : decode cX0_addMadeBy 81 = .ok (.aload_n 0, 1) := by decide +kernel
theorem dX0_addMadeBy_82 : decode cX0_addMadeBy 82 = .ok (.iload 9, 2) := by decide +kernel
theorem dX0_addMadeBy_84 : decode cX0_addMadeBy 84 = .ok (.invokevirtual 81, 3) := by decide +kernel
theorem dX0_addMadeBy_87 : decode cX0_addMadeBy 87 = .ok (.aload_n 2, 1) := by decide +kernel
theorem dX0_addMadeBy_88 : decode cX0_addMadeBy 88 = .ok (.getfield 71, 3) := by decide +kernel
theorem dX0_addMadeBy_91 : decode cX0_addMadeBy 91 = .ok (.if_icmp .eq 6, 3) := by decide +kernel
theorem dX0_addMadeBy_94 : decode cX0_addMadeBy 94 = .ok (.goto 72, 3) := by decide +kernel
theorem dX0_addMadeBy_97 : decode cX0_addMadeBy 97 = .ok (.aload_n 2, 1) := by decide +kernel
theorem dX0_addMadeBy_98 : decode cX0_addMadeBy 98 = .ok (.getfield 74, 3) := by decide +kernel
theorem dX0_addMadeBy_101 : decode cX0_addMadeBy 101 = .ok (.invokestatic 77, 3) := by decide +kernel
theorem dX0_addMadeBy_104 : decode cX0_addMadeBy 104 = .ok (.istore 10, 2) := by decide +kernel
theorem dX0_addMadeBy_106 : decode cX0_addMadeBy 106 = .ok (.iload 10, 2) := by decide +kernel
theorem dX0_addMadeBy_108 : decode cX0_addMadeBy 108 = .ok (.iload 7, 2) := by decide +kernel
theorem dX0_addMadeBy_110 : decode cX0_addMadeBy 110 = .ok (.if_icmp .ge 56, 3) := by decide +kernel
theorem dX0_addMadeBy_113 : decode cX0_addMadeBy 113 = .ok (.aload_n 0, 1) := by decide +kernel
theorem dX0_addMadeBy_114 : decode cX0_addMadeBy 114 = .ok (.iload 10, 2) := by decide +kernel
theorem dX0_addMadeBy_116 : decode cX0_addMadeBy 116 = .ok (.invokevirtual 81, 3) := by decide +kernel
theorem dX0_addMadeBy_119 : decode cX0_addMadeBy 119 = .ok (.aload_n 2, 1) := by decide +kernel
theorem dX0_addMadeBy_120 : decode cX0_addMadeBy 120 = .ok (.getfield 74, 3) := by decide +kernel
theorem dX0_addMadeBy_123 : decode cX0_addMadeBy 123 = .ok (.if_icmp .ne 37, 3) := by decide +kernel
theorem dX0_addMadeBy_126 : decode cX0_addMadeBy 126 = .ok (.aload_n 0, 1) := by decide +kernel
theorem dX0_addMadeBy_127 : decode cX0_addMadeBy 127 = .ok (.aload_n 2, 1) := by decide +kernel
theorem dX0_addMadeBy_128 : decode cX0_addMadeBy 128 = .ok (.getfield 84, 3) := by decide +kernel
theorem dX0_addMadeBy_131 : decode cX0_addMadeBy 131 = .ok (.iload 8, 2) := by decide +kernel
theorem dX0_addMadeBy_133 : decode cX0_addMadeBy 133 = .ok (.iload 9, 2) := by decide +kernel
theorem dX0_addMadeBy_135 : decode cX0_addMadeBy 135 = .ok (.iload 10, 2) := by decide +kernel
theorem dX0_addMadeBy_137 : decode cX0_addMadeBy 137 = .ok (.iload_n 3, 1) := by decide +kernel
theorem dX0_addMadeBy_138 : decode cX0_addMadeBy 138 = .ok (.invokevirtual 87, 3) := by decide +kernel
theorem dX0_addMadeBy_141 : decode cX0_addMadeBy 141 = .ok (.ifCond .eq 19, 3) := by decide +kernel
theorem dX0_addMadeBy_144 : decode cX0_addMadeBy 144 = .ok (.aload_n 0, 1) := by decide +kernel
theorem dX0_addMadeBy_145 : decode cX0_addMadeBy 145 = .ok (.aload_n 2, 1) := by decide +kernel
theorem dX0_addMadeBy_146 : decode cX0_addMadeBy 146 = .ok (.getfield 84, 3) := by decide +kernel
theorem dX0_addMadeBy_149 : decode cX0_addMadeBy 149 = .ok (.iload_n 1, 1) := by decide +kernel
theorem dX0_addMadeBy_150 : decode cX0_addMadeBy 150 = .ok (.iload_n 3, 1) := by decide +kernel
theorem dX0_addMadeBy_151 : decode cX0_addMadeBy 151 = .ok (.iload 8, 2) := by decide +kernel
theorem dX0_addMadeBy_153 : decode cX0_addMadeBy 153 = .ok (.iload 9, 2) := by decide +kernel
theorem dX0_addMadeBy_155 : decode cX0_addMadeBy 155 = .ok (.iload 10, 2) := by decide +kernel
theorem dX0_addMadeBy_157 : decode cX0_addMadeBy 157 = .ok (.invokevirtual 41, 3) := by decide +kernel
theorem dX0_addMadeBy_160 : decode cX0_addMadeBy 160 = .ok (.iinc 10 1, 3) := by decide +kernel
theorem dX0_addMadeBy_163 : decode cX0_addMadeBy 163 = .ok (.goto (-57), 3) := by decide +kernel
theorem dX0_addMadeBy_166 : decode cX0_addMadeBy 166 = .ok (.iinc 9 1, 3) := by decide +kernel
theorem dX0_addMadeBy_169 : decode cX0_addMadeBy 169 = .ok (.goto (-95), 3) := by decide +kernel
theorem dX0_addMadeBy_172 : decode cX0_addMadeBy 172 = .ok (.iinc 8 1, 3) := by decide +kernel
theorem dX0_addMadeBy_175 : decode cX0_addMadeBy 175 = .ok (.goto (-133), 3) := by decide +kernel
theorem dX0_addMadeBy_178 : decode cX0_addMadeBy 178 = .ok (.return_, 1) := by decide +kernel
theorem dX0_choicesStart_0 : decode cX0_choicesStart 0 = .ok (.iload_n 0, 1) := by decide +kernel
theorem dX0_choicesStart_1 : decode cX0_choicesStart 1 = .ok (.ifCond .ne 7, 3) := by decide +kernel
theorem dX0_choicesStart_4 : decode cX0_choicesStart 4 = .ok (.iconst (-1), 1) := by decide +kernel
theorem dX0_choicesStart_5 : decode cX0_choicesStart 5 = .ok (.goto 4, 3) := by decide +kernel
theorem dX0_choicesStart_8 : decode cX0_choicesStart 8 = .ok (.iconst 0, 1) := by decide +kernel
theorem dX0_choicesStart_9 : decode cX0_choicesStart 9 = .ok (.ireturn, 1) := by decide +kernel
theorem dX0_choicesEnd_0 : decode cX0_choicesEnd 0 = .ok (.iload_n 0, 1) := by decide +kernel
theorem dX0_choicesEnd_1 : decode cX0_choicesEnd 1 = .ok (.ifCond .ne 7, 3) := by decide +kernel
theorem dX0_choicesEnd_4 : decode cX0_choicesEnd 4 = .ok (.iconst 0, 1) := by decide +kernel
theorem dX0_choicesEnd_5 : decode cX0_choicesEnd 5 = .ok (.goto 4, 3) := by decide +kernel
theorem dX0_choicesEnd_8 : decode cX0_choicesEnd 8 = .ok (.iload_n 1, 1) := by decide +kernel
theorem dX0_choicesEnd_9 : decode cX0_choicesEnd 9 = .ok (.ireturn, 1) := by decide +kernel
theorem dX0_fits_0 : decode cX0_fits 0 = .ok (.aload_n 0, 1) := by decide +kernel
theorem dX0_fits_1 : decode cX0_fits 1 = .ok (.iload_n 2, 1) := by decide +kernel
theorem dX0_fits_2 : decode cX0_fits 2 = .ok (.invokevirtual 91, 3) := by decide +kernel
theorem dX0_fits_5 : decode cX0_fits 5 = .ok (.aload_n 0, 1) := by decide +kernel
theorem dX0_fits_6 : decode cX0_fits 6 = .ok (.iload_n 3, 1) := by decide +kernel
theorem dX0_fits_7 : decode cX0_fits 7 = .ok (.invokevirtual 91, 3) := by decide +kernel
theorem dX0_fits_10 : decode cX0_fits 10 = .ok (.aload_n 0, 1) := by decide +kernel
theorem dX0_fits_11 : decode cX0_fits 11 = .ok (.iload 4, 2) := by decide +kernel
theorem dX0_fits_13 : decode cX0_fits 13 = .ok (.invokevirtual 91, 3) := by decide +kernel
theorem dX0_fits_16 : decode cX0_fits 16 = .ok (.invokestatic 94, 3) := by decide +kernel
theorem dX0_fits_19 : decode cX0_fits 19 = .ok (.invokestatic 94, 3) := by decide +kernel
theorem dX0_fits_22 : decode cX0_fits 22 = .ok (.istore 6, 2) := by decide +kernel
theorem dX0_fits_24 : decode cX0_fits 24 = .ok (.aload_n 0, 1) := by decide +kernel
theorem dX0_fits_25 : decode cX0_fits 25 = .ok (.iload_n 2, 1) := by decide +kernel
theorem dX0_fits_26 : decode cX0_fits 26 = .ok (.invokevirtual 99, 3) := by decide +kernel
theorem dX0_fits_29 : decode cX0_fits 29 = .ok (.aload_n 0, 1) := by decide +kernel
theorem dX0_fits_30 : decode cX0_fits 30 = .ok (.iload_n 3, 1) := by decide +kernel
theorem dX0_fits_31 : decode cX0_fits 31 = .ok (.invokevirtual 99, 3) := by decide +kernel
theorem dX0_fits_34 : decode cX0_fits 34 = .ok (.ior, 1) := by decide +kernel
theorem dX0_fits_35 : decode cX0_fits 35 = .ok (.aload_n 0, 1) := by decide +kernel
theorem dX0_fits_36 : decode cX0_fits 36 = .ok (.iload 4, 2) := by decide +kernel
theorem dX0_fits_38 : decode cX0_fits 38 = .ok (.invokevirtual 99, 3) := by decide +kernel
theorem dX0_fits_41 : decode cX0_fits 41 = .ok (.ior, 1) := by decide +kernel
theorem dX0_fits_42 : decode cX0_fits 42 = .ok (.istore 7, 2) := by decide +kernel
theorem dX0_fits_44 : decode cX0_fits 44 = .ok (.iload 6, 2) := by decide +kernel
theorem dX0_fits_46 : decode cX0_fits 46 = .ok (.iconst 1, 1) := by decide +kernel
theorem dX0_fits_47 : decode cX0_fits 47 = .ok (.iadd, 1) := by decide +kernel
theorem dX0_fits_48 : decode cX0_fits 48 = .ok (.iload 5, 2) := by decide +kernel
theorem dX0_fits_50 : decode cX0_fits 50 = .ok (.if_icmp .ne 17, 3) := by decide +kernel
theorem dX0_fits_53 : decode cX0_fits 53 = .ok (.iload 7, 2) := by decide +kernel
theorem dX0_fits_55 : decode cX0_fits 55 = .ok (.iload_n 1, 1) := by decide +kernel
theorem dX0_fits_56 : decode cX0_fits 56 = .ok (.invokestatic 102, 3) := by decide +kernel
theorem dX0_fits_59 : decode cX0_fits 59 = .ok (.iand, 1) := by decide +kernel
theorem dX0_fits_60 : decode cX0_fits 60 = .ok (.ifCond .ne 7, 3) := by decide +kernel
theorem dX0_fits_63 : decode cX0_fits 63 = .ok (.iconst 1, 1) := by decide +kernel
theorem dX0_fits_64 : decode cX0_fits 64 = .ok (.goto 4, 3) := by decide +kernel
theorem dX0_fits_67 : decode cX0_fits 67 = .ok (.iconst 0, 1) := by decide +kernel
theorem dX0_fits_68 : decode cX0_fits 68 = .ok (.ireturn, 1) := by decide +kernel
theorem dX0_literalBit_0 : decode cX0_literalBit 0 = .ok (.iconst 1, 1) := by decide +kernel
theorem dX0_literalBit_1 : decode cX0_literalBit 1 = .ok (.iload_n 0, 1) := by decide +kernel
theorem dX0_literalBit_2 : decode cX0_literalBit 2 = .ok (.bipush 10, 2) := by decide +kernel
theorem dX0_literalBit_4 : decode cX0_literalBit 4 = .ok (.iadd, 1) := by decide +kernel
theorem dX0_literalBit_5 : decode cX0_literalBit 5 = .ok (.ishl, 1) := by decide +kernel
theorem dX0_literalBit_6 : decode cX0_literalBit 6 = .ok (.ireturn, 1) := by decide +kernel
theorem dX0_add_0 : decode cX0_add 0 = .ok (.aload_n 0, 1) := by decide +kernel
theorem dX0_add_1 : decode cX0_add 1 = .ok (.getfield 27, 3) := by decide +kernel
theorem dX0_add_4 : decode cX0_add 4 = .ok (.bipush 24, 2) := by decide +kernel
theorem dX0_add_6 : decode cX0_add 6 = .ok (.if_icmp .lt 9, 3) := by decide +kernel
theorem dX0_add_9 : decode cX0_add 9 = .ok (.aload_n 0, 1) := by decide +kernel
theorem dX0_add_10 : decode cX0_add 10 = .ok (.iconst 1, 1) := by decide +kernel
theorem dX0_add_11 : decode cX0_add 11 = .ok (.putfield 31, 3) := by decide +kernel
theorem dX0_add_14 : decode cX0_add 14 = .ok (.return_, 1) := by decide +kernel
theorem dX0_add_15 : decode cX0_add 15 = .ok (.aload_n 0, 1) := by decide +kernel
theorem dX0_add_16 : decode cX0_add 16 = .ok (.getfield 9, 3) := by decide +kernel
theorem dX0_add_19 : decode cX0_add 19 = .ok (.aload_n 0, 1) := by decide +kernel
theorem dX0_add_20 : decode cX0_add 20 = .ok (.getfield 27, 3) := by decide +kernel
theorem dX0_add_23 : decode cX0_add 23 = .ok (.iload_n 1, 1) := by decide +kernel
theorem dX0_add_24 : decode cX0_add 24 = .ok (.iastore, 1) := by decide +kernel
theorem dX0_add_25 : decode cX0_add 25 = .ok (.aload_n 0, 1) := by decide +kernel
theorem dX0_add_26 : decode cX0_add 26 = .ok (.getfield 15, 3) := by decide +kernel
theorem dX0_add_29 : decode cX0_add 29 = .ok (.aload_n 0, 1) := by decide +kernel
theorem dX0_add_30 : decode cX0_add 30 = .ok (.getfield 27, 3) := by decide +kernel
theorem dX0_add_33 : decode cX0_add 33 = .ok (.iload_n 2, 1) := by decide +kernel
theorem dX0_add_34 : decode cX0_add 34 = .ok (.iastore, 1) := by decide +kernel
theorem dX0_add_35 : decode cX0_add 35 = .ok (.aload_n 0, 1) := by decide +kernel
theorem dX0_add_36 : decode cX0_add 36 = .ok (.getfield 18, 3) := by decide +kernel
theorem dX0_add_39 : decode cX0_add 39 = .ok (.aload_n 0, 1) := by decide +kernel
theorem dX0_add_40 : decode cX0_add 40 = .ok (.getfield 27, 3) := by decide +kernel
theorem dX0_add_43 : decode cX0_add 43 = .ok (.iload_n 3, 1) := by decide +kernel
theorem dX0_add_44 : decode cX0_add 44 = .ok (.iastore, 1) := by decide +kernel
theorem dX0_add_45 : decode cX0_add 45 = .ok (.aload_n 0, 1) := by decide +kernel
theorem dX0_add_46 : decode cX0_add 46 = .ok (.getfield 21, 3) := by decide +kernel
theorem dX0_add_49 : decode cX0_add 49 = .ok (.aload_n 0, 1) := by decide +kernel
theorem dX0_add_50 : decode cX0_add 50 = .ok (.getfield 27, 3) := by decide +kernel
theorem dX0_add_53 : decode cX0_add 53 = .ok (.iconst 3, 1) := by decide +kernel
theorem dX0_add_54 : decode cX0_add 54 = .ok (.imul, 1) := by decide +kernel
theorem dX0_add_55 : decode cX0_add 55 = .ok (.iload 4, 2) := by decide +kernel
theorem dX0_add_57 : decode cX0_add 57 = .ok (.iastore, 1) := by decide +kernel
theorem dX0_add_58 : decode cX0_add 58 = .ok (.aload_n 0, 1) := by decide +kernel
theorem dX0_add_59 : decode cX0_add 59 = .ok (.getfield 21, 3) := by decide +kernel
theorem dX0_add_62 : decode cX0_add 62 = .ok (.aload_n 0, 1) := by decide +kernel
theorem dX0_add_63 : decode cX0_add 63 = .ok (.getfield 27, 3) := by decide +kernel
theorem dX0_add_66 : decode cX0_add 66 = .ok (.iconst 3, 1) := by decide +kernel
theorem dX0_add_67 : decode cX0_add 67 = .ok (.imul, 1) := by decide +kernel
theorem dX0_add_68 : decode cX0_add 68 = .ok (.iconst 1, 1) := by decide +kernel
theorem dX0_add_69 : decode cX0_add 69 = .ok (.iadd, 1) := by decide +kernel
theorem dX0_add_70 : decode cX0_add 70 = .ok (.iload 5, 2) := by decide +kernel
theorem dX0_add_72 : decode cX0_add 72 = .ok (.iastore, 1) := by decide +kernel
theorem dX0_add_73 : decode cX0_add 73 = .ok (.aload_n 0, 1) := by decide +kernel
theorem dX0_add_74 : decode cX0_add 74 = .ok (.getfield 21, 3) := by decide +kernel
theorem dX0_add_77 : decode cX0_add 77 = .ok (.aload_n 0, 1) := by decide +kernel
theorem dX0_add_78 : decode cX0_add 78 = .ok (.getfield 27, 3) := by decide +kernel
theorem dX0_add_81 : decode cX0_add 81 = .ok (.iconst 3, 1) := by decide +kernel
theorem dX0_add_82 : decode cX0_add 82 = .ok (.imul, 1) := by decide +kernel
theorem dX0_add_83 : decode cX0_add 83 = .ok (.iconst 2, 1) := by decide +kernel
theorem dX0_add_84 : decode cX0_add 84 = .ok (.iadd, 1) := by decide +kernel
theorem dX0_add_85 : decode cX0_add 85 = .ok (.iload 6, 2) := by decide +kernel
theorem dX0_add_87 : decode cX0_add 87 = .ok (.iastore, 1) := by decide +kernel
theorem dX0_add_88 : decode cX0_add 88 = .ok (.aload_n 0, 1) := by decide +kernel
theorem dX0_add_89 : decode cX0_add 89 = .ok (.getfield 24, 3) := by decide +kernel
theorem dX0_add_92 : decode cX0_add 92 = .ok (.aload_n 0, 1) := by decide +kernel
theorem dX0_add_93 : decode cX0_add 93 = .ok (.getfield 27, 3) := by decide +kernel
theorem dX0_add_96 : decode cX0_add 96 = .ok (.iload_n 1, 1) := by decide +kernel
theorem dX0_add_97 : decode cX0_add 97 = .ok (.invokestatic 102, 3) := by decide +kernel
theorem dX0_add_100 : decode cX0_add 100 = .ok (.aload_n 0, 1) := by decide +kernel
theorem dX0_add_101 : decode cX0_add 101 = .ok (.iload 4, 2) := by decide +kernel
theorem dX0_add_103 : decode cX0_add 103 = .ok (.invokevirtual 99, 3) := by decide +kernel
theorem dX0_add_106 : decode cX0_add 106 = .ok (.ior, 1) := by decide +kernel
theorem dX0_add_107 : decode cX0_add 107 = .ok (.aload_n 0, 1) := by decide +kernel
theorem dX0_add_108 : decode cX0_add 108 = .ok (.iload 5, 2) := by decide +kernel
theorem dX0_add_110 : decode cX0_add 110 = .ok (.invokevirtual 99, 3) := by decide +kernel
theorem dX0_add_113 : decode cX0_add 113 = .ok (.ior, 1) := by decide +kernel
theorem dX0_add_114 : decode cX0_add 114 = .ok (.aload_n 0, 1) := by decide +kernel
theorem dX0_add_115 : decode cX0_add 115 = .ok (.iload 6, 2) := by decide +kernel
theorem dX0_add_117 : decode cX0_add 117 = .ok (.invokevirtual 99, 3) := by decide +kernel
theorem dX0_add_120 : decode cX0_add 120 = .ok (.ior, 1) := by decide +kernel
theorem dX0_add_121 : decode cX0_add 121 = .ok (.iastore, 1) := by decide +kernel
theorem dX0_add_122 : decode cX0_add 122 = .ok (.aload_n 0, 1) := by decide +kernel
theorem dX0_add_123 : decode cX0_add 123 = .ok (.dup, 1) := by decide +kernel
theorem dX0_add_124 : decode cX0_add 124 = .ok (.getfield 27, 3) := by decide +kernel
theorem dX0_add_127 : decode cX0_add 127 = .ok (.iconst 1, 1) := by decide +kernel
theorem dX0_add_128 : decode cX0_add 128 = .ok (.iadd, 1) := by decide +kernel
theorem dX0_add_129 : decode cX0_add 129 = .ok (.putfield 27, 3) := by decide +kernel
theorem dX0_add_132 : decode cX0_add 132 = .ok (.return_, 1) := by decide +kernel
theorem dX1_init_0 : decode cX1_init 0 = .ok (.aload_n 0, 1) := by decide +kernel
theorem dX1_init_1 : decode cX1_init 1 = .ok (.invokespecial 3, 3) := by decide +kernel
theorem dX1_init_4 : decode cX1_init 4 = .ok (.aload_n 0, 1) := by decide +kernel
theorem dX1_init_5 : decode cX1_init 5 = .ok (.bipush 24, 2) := by decide +kernel
theorem dX1_init_7 : decode cX1_init 7 = .ok (.newarray .int, 2) := by decide +kernel
theorem dX1_init_9 : decode cX1_init 9 = .ok (.putfield 9, 3) := by decide +kernel
theorem dX1_init_12 : decode cX1_init 12 = .ok (.return_, 1) := by decide +kernel
theorem dX1_attackersOf_0 : decode cX1_attackersOf 0 = .ok (.iload_n 1, 1) := by decide +kernel
theorem dX1_attackersOf_1 : decode cX1_attackersOf 1 = .ok (.ifCond .lt 18, 3) := by decide +kernel
theorem dX1_attackersOf_4 : decode cX1_attackersOf 4 = .ok (.iload_n 1, 1) := by decide +kernel
theorem dX1_attackersOf_5 : decode cX1_attackersOf 5 = .ok (.bipush 24, 2) := by decide +kernel
theorem dX1_attackersOf_7 : decode cX1_attackersOf 7 = .ok (.if_icmp .ge 12, 3) := by decide +kernel
theorem dX1_attackersOf_10 : decode cX1_attackersOf 10 = .ok (.aload_n 0, 1) := by decide +kernel
theorem dX1_attackersOf_11 : decode cX1_attackersOf 11 = .ok (.getfield 9, 3) := by decide +kernel
theorem dX1_attackersOf_14 : decode cX1_attackersOf 14 = .ok (.iload_n 1, 1) := by decide +kernel
theorem dX1_attackersOf_15 : decode cX1_attackersOf 15 = .ok (.iaload, 1) := by decide +kernel
theorem dX1_attackersOf_16 : decode cX1_attackersOf 16 = .ok (.goto 4, 3) := by decide +kernel
theorem dX1_attackersOf_19 : decode cX1_attackersOf 19 = .ok (.iconst 0, 1) := by decide +kernel
theorem dX1_attackersOf_20 : decode cX1_attackersOf 20 = .ok (.ireturn, 1) := by decide +kernel
theorem dX1_leads_0 : decode cX1_leads 0 = .ok (.aload_n 0, 1) := by decide +kernel
theorem dX1_leads_1 : decode cX1_leads 1 = .ok (.iload_n 2, 1) := by decide +kernel
theorem dX1_leads_2 : decode cX1_leads 2 = .ok (.invokevirtual 15, 3) := by decide +kernel
theorem dX1_leads_5 : decode cX1_leads 5 = .ok (.iload_n 1, 1) := by decide +kernel
theorem dX1_leads_6 : decode cX1_leads 6 = .ok (.ishr, 1) := by decide +kernel
theorem dX1_leads_7 : decode cX1_leads 7 = .ok (.iconst 1, 1) := by decide +kernel
theorem dX1_leads_8 : decode cX1_leads 8 = .ok (.iand, 1) := by decide +kernel
theorem dX1_leads_9 : decode cX1_leads 9 = .ok (.ifCond .eq 7, 3) := by decide +kernel
theorem dX1_leads_12 : decode cX1_leads 12 = .ok (.iconst 1, 1) := by decide +kernel
theorem dX1_leads_13 : decode cX1_leads 13 = .ok (.goto 4, 3) := by decide +kernel
theorem dX1_leads_16 : decode cX1_leads 16 = .ok (.iconst 0, 1) := by decide +kernel
theorem dX1_leads_17 : decode cX1_leads 17 = .ok (.ireturn, 1) := by decide +kernel
theorem dX1_build_0 : decode cX1_build 0 = .ok (.iconst 0, 1) := by decide +kernel
theorem dX1_build_1 : decode cX1_build 1 = .ok (.istore_n 3, 1) := by decide +kernel
theorem dX1_build_2 : decode cX1_build 2 = .ok (.iload_n 3, 1) := by decide +kernel
theorem dX1_build_3 : decode cX1_build 3 = .ok (.aload_n 1, 1) := by decide +kernel
theorem dX1_build_4 : decode cX1_build 4 = .ok (.getfield 19, 3) := by decide +kernel
theorem dX1_build_7 : decode cX1_build 7 = .ok (.if_icmp .ge 82, 3) := by decide +kernel
theorem dX1_build_10 : decode cX1_build 10 = .ok (.iload_n 3, 1) := by decide +kernel
theorem dX1_build_11 : decode cX1_build 11 = .ok (.bipush 24, 2) := by decide +kernel
theorem dX1_build_13 : decode cX1_build 13 = .ok (.if_icmp .ge 76, 3) := by decide +kernel
theorem dX1_build_16 : decode cX1_build 16 = .ok (.iconst 0, 1) := by decide +kernel
theorem dX1_build_17 : decode cX1_build 17 = .ok (.istore 4, 2) := by decide +kernel
theorem dX1_build_19 : decode cX1_build 19 = .ok (.aload_n 1, 1) := by decide +kernel
theorem dX1_build_20 : decode cX1_build 20 = .ok (.iload_n 3, 1) := by decide +kernel
theorem dX1_build_21 : decode cX1_build 21 = .ok (.invokevirtual 25, 3) := by decide +kernel
theorem dX1_build_24 : decode cX1_build 24 = .ok (.iconst (-1), 1) := by decide +kernel
theorem dX1_build_25 : decode cX1_build 25 = .ok (.if_icmp .eq 19, 3) := by decide +kernel
theorem dX1_build_28 : decode cX1_build 28 = .ok (.aload_n 1, 1) := by decide +kernel
theorem dX1_build_29 : decode cX1_build 29 = .ok (.aload_n 2, 1) := by decide +kernel
theorem dX1_build_30 : decode cX1_build 30 = .ok (.aload_n 2, 1) := by decide +kernel
theorem dX1_build_31 : decode cX1_build 31 = .ok (.aload_n 1, 1) := by decide +kernel
theorem dX1_build_32 : decode cX1_build 32 = .ok (.iload_n 3, 1) := by decide +kernel
theorem dX1_build_33 : decode cX1_build 33 = .ok (.invokevirtual 25, 3) := by decide +kernel
theorem dX1_build_36 : decode cX1_build 36 = .ok (.invokevirtual 28, 3) := by decide +kernel
theorem dX1_build_39 : decode cX1_build 39 = .ok (.invokestatic 34, 3) := by decide +kernel
theorem dX1_build_42 : decode cX1_build 42 = .ok (.istore 4, 2) := by decide +kernel
theorem dX1_build_44 : decode cX1_build 44 = .ok (.iconst 0, 1) := by decide +kernel
theorem dX1_build_45 : decode cX1_build 45 = .ok (.istore 5, 2) := by decide +kernel
theorem dX1_build_47 : decode cX1_build 47 = .ok (.iload 5, 2) := by decide +kernel
theorem dX1_build_49 : decode cX1_build 49 = .ok (.iconst 3, 1) := by decide +kernel
theorem dX1_build_50 : decode cX1_build 50 = .ok (.if_icmp .ge 25, 3) := by decide +kernel
theorem dX1_build_53 : decode cX1_build 53 = .ok (.iload 4, 2) := by decide +kernel
theorem dX1_build_55 : decode cX1_build 55 = .ok (.aload_n 0, 1) := by decide +kernel
theorem dX1_build_56 : decode cX1_build 56 = .ok (.aload_n 1, 1) := by decide +kernel
theorem dX1_build_57 : decode cX1_build 57 = .ok (.iload_n 3, 1) := by decide +kernel
theorem dX1_build_58 : decode cX1_build 58 = .ok (.iload 5, 2) := by decide +kernel
theorem dX1_build_60 : decode cX1_build 60 = .ok (.invokevirtual 38, 3) := by decide +kernel
theorem dX1_build_63 : decode cX1_build 63 = .ok (.invokevirtual 15, 3) := by decide +kernel
theorem dX1_build_66 : decode cX1_build 66 = .ok (.ior, 1) := by decide +kernel
theorem dX1_build_67 : decode cX1_build 67 = .ok (.istore 4, 2) := by decide +kernel
theorem dX1_build_69 : decode cX1_build 69 = .ok (.iinc 5 1, 3) := by decide +kernel
theorem dX1_build_72 : decode cX1_build 72 = .ok (.goto (-25), 3) := by decide +kernel
theorem dX1_build_75 : decode cX1_build 75 = .ok (.aload_n 0, 1) := by decide +kernel
theorem dX1_build_76 : decode cX1_build 76 = .ok (.getfield 9, 3) := by decide +kernel
theorem dX1_build_79 : decode cX1_build 79 = .ok (.iload_n 3, 1) := by decide +kernel
theorem dX1_build_80 : decode cX1_build 80 = .ok (.iload 4, 2) := by decide +kernel
theorem dX1_build_82 : decode cX1_build 82 = .ok (.iastore, 1) := by decide +kernel
theorem dX1_build_83 : decode cX1_build 83 = .ok (.iinc 3 1, 3) := by decide +kernel
theorem dX1_build_86 : decode cX1_build 86 = .ok (.goto (-84), 3) := by decide +kernel
theorem dX1_build_89 : decode cX1_build 89 = .ok (.return_, 1) := by decide +kernel
theorem dX1_attackersOfRule_0 : decode cX1_attackersOfRule 0 = .ok (.iconst 0, 1) := by decide +kernel
theorem dX1_attackersOfRule_1 : decode cX1_attackersOfRule 1 = .ok (.istore_n 3, 1) := by decide +kernel
theorem dX1_attackersOfRule_2 : decode cX1_attackersOfRule 2 = .ok (.iconst 0, 1) := by decide +kernel
theorem dX1_attackersOfRule_3 : decode cX1_attackersOfRule 3 = .ok (.istore 4, 2) := by decide +kernel
theorem dX1_attackersOfRule_5 : decode cX1_attackersOfRule 5 = .ok (.iload 4, 2) := by decide +kernel
theorem dX1_attackersOfRule_7 : decode cX1_attackersOfRule 7 = .ok (.aload_n 0, 1) := by decide +kernel
theorem dX1_attackersOfRule_8 : decode cX1_attackersOfRule 8 = .ok (.getfield 19, 3) := by decide +kernel
theorem dX1_attackersOfRule_11 : decode cX1_attackersOfRule 11 = .ok (.if_icmp .ge 69, 3) := by decide +kernel
theorem dX1_attackersOfRule_14 : decode cX1_attackersOfRule 14 = .ok (.aload_n 0, 1) := by decide +kernel
theorem dX1_attackersOfRule_15 : decode cX1_attackersOfRule 15 = .ok (.iload 4, 2) := by decide +kernel
theorem dX1_attackersOfRule_17 : decode cX1_attackersOfRule 17 = .ok (.invokevirtual 42, 3) := by decide +kernel
theorem dX1_attackersOfRule_20 : decode cX1_attackersOfRule 20 = .ok (.istore 5, 2) := by decide +kernel
theorem dX1_attackersOfRule_22 : decode cX1_attackersOfRule 22 = .ok (.iload 5, 2) := by decide +kernel
theorem dX1_attackersOfRule_24 : decode cX1_attackersOfRule 24 = .ok (.aload_n 2, 1) := by decide +kernel
theorem dX1_attackersOfRule_25 : decode cX1_attackersOfRule 25 = .ok (.getfield 45, 3) := by decide +kernel
theorem dX1_attackersOfRule_28 : decode cX1_attackersOfRule 28 = .ok (.ineg, 1) := by decide +kernel
theorem dX1_attackersOfRule_29 : decode cX1_attackersOfRule 29 = .ok (.if_icmp .ne 21, 3) := by decide +kernel
theorem dX1_attackersOfRule_32 : decode cX1_attackersOfRule 32 = .ok (.aload_n 0, 1) := by decide +kernel
theorem dX1_attackersOfRule_33 : decode cX1_attackersOfRule 33 = .ok (.aload_n 1, 1) := by decide +kernel
theorem dX1_attackersOfRule_34 : decode cX1_attackersOfRule 34 = .ok (.iload 4, 2) := by decide +kernel
theorem dX1_attackersOfRule_36 : decode cX1_attackersOfRule 36 = .ok (.invokestatic 50, 3) := by decide +kernel
theorem dX1_attackersOfRule_39 : decode cX1_attackersOfRule 39 = .ok (.aload_n 2, 1) := by decide +kernel
theorem dX1_attackersOfRule_40 : decode cX1_attackersOfRule 40 = .ok (.getfield 54, 3) := by decide +kernel
theorem dX1_attackersOfRule_43 : decode cX1_attackersOfRule 43 = .ok (.if_icmp .lt 7, 3) := by decide +kernel
theorem dX1_attackersOfRule_46 : decode cX1_attackersOfRule 46 = .ok (.iconst 1, 1) := by decide +kernel
theorem dX1_attackersOfRule_47 : decode cX1_attackersOfRule 47 = .ok (.goto 4, 3) := by decide +kernel
theorem dX1_attackersOfRule_50 : decode cX1_attackersOfRule 50 = .ok (.iconst 0, 1) := by decide +kernel
theorem dX1_attackersOfRule_51 : decode cX1_attackersOfRule 51 = .ok (.istore 6, 2) := by decide +kernel
theorem dX1_attackersOfRule_53 : decode cX1_attackersOfRule 53 = .ok (.iload 6, 2) := by decide +kernel
theorem dX1_attackersOfRule_55 : decode cX1_attackersOfRule 55 = .ok (.ifCond .ne 12, 3) := by decide +kernel
theorem dX1_attackersOfRule_58 : decode cX1_attackersOfRule 58 = .ok (.iload 5, 2) := by decide +kernel
theorem dX1_attackersOfRule_60 : decode cX1_attackersOfRule 60 = .ok (.aload_n 2, 1) := by decide +kernel
theorem dX1_attackersOfRule_61 : decode cX1_attackersOfRule 61 = .ok (.getfield 57, 3) := by decide +kernel
theorem dX1_attackersOfRule_64 : decode cX1_attackersOfRule 64 = .ok (.if_icmp .ne 10, 3) := by decide +kernel
theorem dX1_attackersOfRule_67 : decode cX1_attackersOfRule 67 = .ok (.iload_n 3, 1) := by decide +kernel
theorem dX1_attackersOfRule_68 : decode cX1_attackersOfRule 68 = .ok (.iconst 1, 1) := by decide +kernel
theorem dX1_attackersOfRule_69 : decode cX1_attackersOfRule 69 = .ok (.iload 4, 2) := by decide +kernel
theorem dX1_attackersOfRule_71 : decode cX1_attackersOfRule 71 = .ok (.ishl, 1) := by decide +kernel
theorem dX1_attackersOfRule_72 : decode cX1_attackersOfRule 72 = .ok (.ior, 1) := by decide +kernel
theorem dX1_attackersOfRule_73 : decode cX1_attackersOfRule 73 = .ok (.istore_n 3, 1) := by decide +kernel
theorem dX1_attackersOfRule_74 : decode cX1_attackersOfRule 74 = .ok (.iinc 4 1, 3) := by decide +kernel
theorem dX1_attackersOfRule_77 : decode cX1_attackersOfRule 77 = .ok (.goto (-72), 3) := by decide +kernel
theorem dX1_attackersOfRule_80 : decode cX1_attackersOfRule 80 = .ok (.iload_n 3, 1) := by decide +kernel
theorem dX1_attackersOfRule_81 : decode cX1_attackersOfRule 81 = .ok (.ireturn, 1) := by decide +kernel
theorem dX1_strength_0 : decode cX1_strength 0 = .ok (.aload_n 0, 1) := by decide +kernel
theorem dX1_strength_1 : decode cX1_strength 1 = .ok (.iload_n 2, 1) := by decide +kernel
theorem dX1_strength_2 : decode cX1_strength 2 = .ok (.invokevirtual 25, 3) := by decide +kernel
theorem dX1_strength_5 : decode cX1_strength 5 = .ok (.istore_n 3, 1) := by decide +kernel
theorem dX1_strength_6 : decode cX1_strength 6 = .ok (.iload_n 3, 1) := by decide +kernel
theorem dX1_strength_7 : decode cX1_strength 7 = .ok (.iconst (-1), 1) := by decide +kernel
theorem dX1_strength_8 : decode cX1_strength 8 = .ok (.if_icmp .ne 8, 3) := by decide +kernel
theorem dX1_strength_11 : decode cX1_strength 11 = .ok (.bipush 10, 2) := by decide +kernel
theorem dX1_strength_13 : decode cX1_strength 13 = .ok (.goto 11, 3) := by decide +kernel
theorem dX1_strength_16 : decode cX1_strength 16 = .ok (.aload_n 1, 1) := by decide +kernel
theorem dX1_strength_17 : decode cX1_strength 17 = .ok (.iload_n 3, 1) := by decide +kernel
theorem dX1_strength_18 : decode cX1_strength 18 = .ok (.invokevirtual 28, 3) := by decide +kernel
theorem dX1_strength_21 : decode cX1_strength 21 = .ok (.getfield 54, 3) := by decide +kernel
theorem dX1_strength_24 : decode cX1_strength 24 = .ok (.ireturn, 1) := by decide +kernel
theorem dX2_init_0 : decode cX2_init 0 = .ok (.aload_n 0, 1) := by decide +kernel
theorem dX2_init_1 : decode cX2_init 1 = .ok (.invokespecial 3, 3) := by decide +kernel
theorem dX2_init_4 : decode cX2_init 4 = .ok (.aload_n 0, 1) := by decide +kernel
theorem dX2_init_5 : decode cX2_init 5 = .ok (.bipush 21, 2) := by decide +kernel
theorem dX2_init_7 : decode cX2_init 7 = .ok (.newarray .boolean, 2) := by decide +kernel
theorem dX2_init_9 : decode cX2_init 9 = .ok (.putfield 9, 3) := by decide +kernel
theorem dX2_init_12 : decode cX2_init 12 = .ok (.return_, 1) := by decide +kernel
theorem dX2_has_0 : decode cX2_has 0 = .ok (.iload_n 1, 1) := by decide +kernel
theorem dX2_has_1 : decode cX2_has 1 = .ok (.invokestatic 15, 3) := by decide +kernel
theorem dX2_has_4 : decode cX2_has 4 = .ok (.ifCond .eq 19, 3) := by decide +kernel
theorem dX2_has_7 : decode cX2_has 7 = .ok (.aload_n 0, 1) := by decide +kernel
theorem dX2_has_8 : decode cX2_has 8 = .ok (.getfield 9, 3) := by decide +kernel
theorem dX2_has_11 : decode cX2_has 11 = .ok (.iload_n 1, 1) := by decide +kernel
theorem dX2_has_12 : decode cX2_has 12 = .ok (.bipush 10, 2) := by decide +kernel
theorem dX2_has_14 : decode cX2_has 14 = .ok (.iadd, 1) := by decide +kernel
theorem dX2_has_15 : decode cX2_has 15 = .ok (.baload, 1) := by decide +kernel
theorem dX2_has_16 : decode cX2_has 16 = .ok (.ifCond .eq 7, 3) := by decide +kernel
theorem dX2_has_19 : decode cX2_has 19 = .ok (.iconst 1, 1) := by decide +kernel
theorem dX2_has_20 : decode cX2_has 20 = .ok (.goto 4, 3) := by decide +kernel
theorem dX2_has_23 : decode cX2_has 23 = .ok (.iconst 0, 1) := by decide +kernel
theorem dX2_has_24 : decode cX2_has 24 = .ok (.ireturn, 1) := by decide +kernel
theorem dX2_put_0 : decode cX2_put 0 = .ok (.iload_n 1, 1) := by decide +kernel
theorem dX2_put_1 : decode cX2_put 1 = .ok (.invokestatic 15, 3) := by decide +kernel
theorem dX2_put_4 : decode cX2_put 4 = .ok (.ifCond .eq 31, 3) := by decide +kernel
theorem dX2_put_7 : decode cX2_put 7 = .ok (.aload_n 0, 1) := by decide +kernel
theorem dX2_put_8 : decode cX2_put 8 = .ok (.iload_n 1, 1) := by decide +kernel
theorem dX2_put_9 : decode cX2_put 9 = .ok (.invokevirtual 19, 3) := by decide +kernel
theorem dX2_put_12 : decode cX2_put 12 = .ok (.ifCond .ne 23, 3) := by decide +kernel
theorem dX2_put_15 : decode cX2_put 15 = .ok (.aload_n 0, 1) := by decide +kernel
theorem dX2_put_16 : decode cX2_put 16 = .ok (.getfield 9, 3) := by decide +kernel
theorem dX2_put_19 : decode cX2_put 19 = .ok (.iload_n 1, 1) := by decide +kernel
theorem dX2_put_20 : decode cX2_put 20 = .ok (.bipush 10, 2) := by decide +kernel
theorem dX2_put_22 : decode cX2_put 22 = .ok (.iadd, 1) := by decide +kernel
theorem dX2_put_23 : decode cX2_put 23 = .ok (.iconst 1, 1) := by decide +kernel
theorem dX2_put_24 : decode cX2_put 24 = .ok (.bastore, 1) := by decide +kernel
theorem dX2_put_25 : decode cX2_put 25 = .ok (.aload_n 0, 1) := by decide +kernel
theorem dX2_put_26 : decode cX2_put 26 = .ok (.dup, 1) := by decide +kernel
theorem dX2_put_27 : decode cX2_put 27 = .ok (.getfield 22, 3) := by decide +kernel
theorem dX2_put_30 : decode cX2_put 30 = .ok (.iconst 1, 1) := by decide +kernel
theorem dX2_put_31 : decode cX2_put 31 = .ok (.iadd, 1) := by decide +kernel
theorem dX2_put_32 : decode cX2_put 32 = .ok (.putfield 22, 3) := by decide +kernel
theorem dX2_put_35 : decode cX2_put 35 = .ok (.return_, 1) := by decide +kernel
theorem dX2_drop_0 : decode cX2_drop 0 = .ok (.aload_n 0, 1) := by decide +kernel
theorem dX2_drop_1 : decode cX2_drop 1 = .ok (.iload_n 1, 1) := by decide +kernel
theorem dX2_drop_2 : decode cX2_drop 2 = .ok (.invokevirtual 19, 3) := by decide +kernel
theorem dX2_drop_5 : decode cX2_drop 5 = .ok (.ifCond .eq 23, 3) := by decide +kernel
theorem dX2_drop_8 : decode cX2_drop 8 = .ok (.aload_n 0, 1) := by decide +kernel
theorem dX2_drop_9 : decode cX2_drop 9 = .ok (.getfield 9, 3) := by decide +kernel
theorem dX2_drop_12 : decode cX2_drop 12 = .ok (.iload_n 1, 1) := by decide +kernel
theorem dX2_drop_13 : decode cX2_drop 13 = .ok (.bipush 10, 2) := by decide +kernel
theorem dX2_drop_15 : decode cX2_drop 15 = .ok (.iadd, 1) := by decide +kernel
theorem dX2_drop_16 : decode cX2_drop 16 = .ok (.iconst 0, 1) := by decide +kernel
theorem dX2_drop_17 : decode cX2_drop 17 = .ok (.bastore, 1) := by decide +kernel
theorem dX2_drop_18 : decode cX2_drop 18 = .ok (.aload_n 0, 1) := by decide +kernel
theorem dX2_drop_19 : decode cX2_drop 19 = .ok (.dup, 1) := by decide +kernel
theorem dX2_drop_20 : decode cX2_drop 20 = .ok (.getfield 22, 3) := by decide +kernel
theorem dX2_drop_23 : decode cX2_drop 23 = .ok (.iconst 1, 1) := by decide +kernel
theorem dX2_drop_24 : decode cX2_drop 24 = .ok (.isub, 1) := by decide +kernel
theorem dX2_drop_25 : decode cX2_drop 25 = .ok (.putfield 22, 3) := by decide +kernel
theorem dX2_drop_28 : decode cX2_drop 28 = .ok (.return_, 1) := by decide +kernel
theorem dX3_init_0 : decode cX3_init 0 = .ok (.aload_n 0, 1) := by decide +kernel
theorem dX3_init_1 : decode cX3_init 1 = .ok (.invokespecial 3, 3) := by decide +kernel
theorem dX3_init_4 : decode cX3_init 4 = .ok (.aload_n 0, 1) := by decide +kernel
theorem dX3_init_5 : decode cX3_init 5 = .ok (.bipush 24, 2) := by decide +kernel
theorem dX3_init_7 : decode cX3_init 7 = .ok (.newarray .int, 2) := by decide +kernel
theorem dX3_init_9 : decode cX3_init 9 = .ok (.putfield 9, 3) := by decide +kernel
theorem dX3_init_12 : decode cX3_init 12 = .ok (.return_, 1) := by decide +kernel
theorem dX3_labelAt_0 : decode cX3_labelAt 0 = .ok (.aload_n 0, 1) := by decide +kernel
theorem dX3_labelAt_1 : decode cX3_labelAt 1 = .ok (.getfield 15, 3) := by decide +kernel
theorem dX3_labelAt_4 : decode cX3_labelAt 4 = .ok (.iload_n 1, 1) := by decide +kernel
theorem dX3_labelAt_5 : decode cX3_labelAt 5 = .ok (.ishr, 1) := by decide +kernel
theorem dX3_labelAt_6 : decode cX3_labelAt 6 = .ok (.iconst 1, 1) := by decide +kernel
theorem dX3_labelAt_7 : decode cX3_labelAt 7 = .ok (.iand, 1) := by decide +kernel
theorem dX3_labelAt_8 : decode cX3_labelAt 8 = .ok (.ifCond .eq 5, 3) := by decide +kernel
theorem dX3_labelAt_11 : decode cX3_labelAt 11 = .ok (.iconst 2, 1) := by decide +kernel
theorem dX3_labelAt_12 : decode cX3_labelAt 12 = .ok (.ireturn, 1) := by decide +kernel
theorem dX3_labelAt_13 : decode cX3_labelAt 13 = .ok (.aload_n 0, 1) := by decide +kernel
theorem dX3_labelAt_14 : decode cX3_labelAt 14 = .ok (.getfield 19, 3) := by decide +kernel
theorem dX3_labelAt_17 : decode cX3_labelAt 17 = .ok (.iload_n 1, 1) := by decide +kernel
theorem dX3_labelAt_18 : decode cX3_labelAt 18 = .ok (.ishr, 1) := by decide +kernel
theorem dX3_labelAt_19 : decode cX3_labelAt 19 = .ok (.iconst 1, 1) := by decide +kernel
theorem dX3_labelAt_20 : decode cX3_labelAt 20 = .ok (.iand, 1) := by decide +kernel
theorem dX3_labelAt_21 : decode cX3_labelAt 21 = .ok (.ifCond .eq 7, 3) := by decide +kernel
theorem dX3_labelAt_24 : decode cX3_labelAt 24 = .ok (.iconst 0, 1) := by decide +kernel
theorem dX3_labelAt_25 : decode cX3_labelAt 25 = .ok (.goto 4, 3) := by decide +kernel
theorem dX3_labelAt_28 : decode cX3_labelAt 28 = .ok (.iconst 1, 1) := by decide +kernel
theorem dX3_labelAt_29 : decode cX3_labelAt 29 = .ok (.ireturn, 1) := by decide +kernel
theorem dX3_roundAt_0 : decode cX3_roundAt 0 = .ok (.iload_n 1, 1) := by decide +kernel
theorem dX3_roundAt_1 : decode cX3_roundAt 1 = .ok (.ifCond .lt 18, 3) := by decide +kernel
theorem dX3_roundAt_4 : decode cX3_roundAt 4 = .ok (.iload_n 1, 1) := by decide +kernel
theorem dX3_roundAt_5 : decode cX3_roundAt 5 = .ok (.bipush 24, 2) := by decide +kernel
theorem dX3_roundAt_7 : decode cX3_roundAt 7 = .ok (.if_icmp .ge 12, 3) := by decide +kernel
theorem dX3_roundAt_10 : decode cX3_roundAt 10 = .ok (.aload_n 0, 1) := by decide +kernel
theorem dX3_roundAt_11 : decode cX3_roundAt 11 = .ok (.getfield 9, 3) := by decide +kernel
theorem dX3_roundAt_14 : decode cX3_roundAt 14 = .ok (.iload_n 1, 1) := by decide +kernel
theorem dX3_roundAt_15 : decode cX3_roundAt 15 = .ok (.iaload, 1) := by decide +kernel
theorem dX3_roundAt_16 : decode cX3_roundAt 16 = .ok (.goto 4, 3) := by decide +kernel
theorem dX3_roundAt_19 : decode cX3_roundAt 19 = .ok (.iconst 0, 1) := by decide +kernel
theorem dX3_roundAt_20 : decode cX3_roundAt 20 = .ok (.ireturn, 1) := by decide +kernel
theorem dX3_build_0 : decode cX3_build 0 = .ok (.aload_n 0, 1) := by decide +kernel
theorem dX3_build_1 : decode cX3_build 1 = .ok (.iconst 0, 1) := by decide +kernel
theorem dX3_build_2 : decode cX3_build 2 = .ok (.putfield 15, 3) := by decide +kernel
theorem dX3_build_5 : decode cX3_build 5 = .ok (.aload_n 0, 1) := by decide +kernel
theorem dX3_build_6 : decode cX3_build 6 = .ok (.iconst 0, 1) := by decide +kernel
theorem dX3_build_7 : decode cX3_build 7 = .ok (.putfield 19, 3) := by decide +kernel
theorem dX3_build_10 : decode cX3_build 10 = .ok (.iconst 0, 1) := by decide +kernel
theorem dX3_build_11 : decode cX3_build 11 = .ok (.istore_n 3, 1) := by decide +kernel
theorem dX3_build_12 : decode cX3_build 12 = .ok (.iload_n 3, 1) := by decide +kernel
theorem dX3_build_13 : decode cX3_build 13 = .ok (.bipush 24, 2) := by decide +kernel
theorem dX3_build_15 : decode cX3_build 15 = .ok (.if_icmp .ge 16, 3) := by decide +kernel
theorem dX3_build_18 : decode cX3_build 18 = .ok (.aload_n 0, 1) := by decide +kernel
theorem dX3_build_19 : decode cX3_build 19 = .ok (.getfield 9, 3) := by decide +kernel
theorem dX3_build_22 : decode cX3_build 22 = .ok (.iload_n 3, 1) := by decide +kernel
theorem dX3_build_23 : decode cX3_build 23 = .ok (.iconst 0, 1) := by decide +kernel
theorem dX3_build_24 : decode cX3_build 24 = .ok (.iastore, 1) := by decide +kernel
theorem dX3_build_25 : decode cX3_build 25 = .ok (.iinc 3 1, 3) := by decide +kernel
theorem dX3_build_28 : decode cX3_build 28 = .ok (.goto (-16), 3) := by decide +kernel
theorem dX3_build_31 : decode cX3_build 31 = .ok (.iconst 1, 1) := by decide +kernel
theorem dX3_build_32 : decode cX3_build 32 = .ok (.istore_n 3, 1) := by decide +kernel
theorem dX3_build_33 : decode cX3_build 33 = .ok (.iload_n 3, 1) := by decide +kernel
theorem dX3_build_34 : decode cX3_build 34 = .ok (.bipush 24, 2) := by decide +kernel
theorem dX3_build_36 : decode cX3_build 36 = .ok (.if_icmp .gt 79, 3) := by decide +kernel
theorem dX3_build_39 : decode cX3_build 39 = .ok (.aload_n 0, 1) := by decide +kernel
theorem dX3_build_40 : decode cX3_build 40 = .ok (.getfield 15, 3) := by decide +kernel
theorem dX3_build_43 : decode cX3_build 43 = .ok (.aload_n 0, 1) := by decide +kernel
theorem dX3_build_44 : decode cX3_build 44 = .ok (.getfield 19, 3) := by decide +kernel
theorem dX3_build_47 : decode cX3_build 47 = .ok (.ior, 1) := by decide +kernel
theorem dX3_build_48 : decode cX3_build 48 = .ok (.istore 4, 2) := by decide +kernel
theorem dX3_build_50 : decode cX3_build 50 = .ok (.aload_n 0, 1) := by decide +kernel
theorem dX3_build_51 : decode cX3_build 51 = .ok (.dup, 1) := by decide +kernel
theorem dX3_build_52 : decode cX3_build 52 = .ok (.getfield 15, 3) := by decide +kernel
theorem dX3_build_55 : decode cX3_build 55 = .ok (.aload_n 0, 1) := by decide +kernel
theorem dX3_build_56 : decode cX3_build 56 = .ok (.aload_n 1, 1) := by decide +kernel
theorem dX3_build_57 : decode cX3_build 57 = .ok (.iload_n 2, 1) := by decide +kernel
theorem dX3_build_58 : decode cX3_build 58 = .ok (.invokevirtual 22, 3) := by decide +kernel
theorem dX3_build_61 : decode cX3_build 61 = .ok (.ior, 1) := by decide +kernel
theorem dX3_build_62 : decode cX3_build 62 = .ok (.putfield 15, 3) := by decide +kernel
theorem dX3_build_65 : decode cX3_build 65 = .ok (.aload_n 0, 1) := by decide +kernel
theorem dX3_build_66 : decode cX3_build 66 = .ok (.dup, 1) := by decide +kernel
theorem dX3_build_67 : decode cX3_build 67 = .ok (.getfield 19, 3) := by decide +kernel
theorem dX3_build_70 : decode cX3_build 70 = .ok (.aload_n 0, 1) := by decide +kernel
theorem dX3_build_71 : decode cX3_build 71 = .ok (.aload_n 1, 1) := by decide +kernel
theorem dX3_build_72 : decode cX3_build 72 = .ok (.iload_n 2, 1) := by decide +kernel
theorem dX3_build_73 : decode cX3_build 73 = .ok (.invokevirtual 26, 3) := by decide +kernel
theorem dX3_build_76 : decode cX3_build 76 = .ok (.ior, 1) := by decide +kernel
theorem dX3_build_77 : decode cX3_build 77 = .ok (.putfield 19, 3) := by decide +kernel
theorem dX3_build_80 : decode cX3_build 80 = .ok (.aload_n 0, 1) := by decide +kernel
theorem dX3_build_81 : decode cX3_build 81 = .ok (.getfield 15, 3) := by decide +kernel
theorem dX3_build_84 : decode cX3_build 84 = .ok (.aload_n 0, 1) := by decide +kernel
theorem dX3_build_85 : decode cX3_build 85 = .ok (.getfield 19, 3) := by decide +kernel
theorem dX3_build_88 : decode cX3_build 88 = .ok (.ior, 1) := by decide +kernel
theorem dX3_build_89 : decode cX3_build 89 = .ok (.iload 4, 2) := by decide +kernel
theorem dX3_build_91 : decode cX3_build 91 = .ok (.iconst (-1), 1) := by decide +kernel
theorem dX3_build_92 : decode cX3_build 92 = .ok (.ixor, 1) := by decide +kernel
theorem dX3_build_93 : decode cX3_build 93 = .ok (.iand, 1) := by decide +kernel
theorem dX3_build_94 : decode cX3_build 94 = .ok (.istore 5, 2) := by decide +kernel
theorem dX3_build_96 : decode cX3_build 96 = .ok (.iload 5, 2) := by decide +kernel
theorem dX3_build_98 : decode cX3_build 98 = .ok (.ifCond .ne 4, 3) := by decide +kernel
theorem dX3_build_101 : decode cX3_build 101 = .ok (.return_, 1) := by decide +kernel
theorem dX3_build_102 : decode cX3_build 102 = .ok (.aload_n 0, 1) := by decide +kernel
theorem dX3_build_103 : decode cX3_build 103 = .ok (.iload_n 3, 1) := by decide +kernel
theorem dX3_build_104 : decode cX3_build 104 = .ok (.iload 5, 2) := by decide +kernel
theorem dX3_build_106 : decode cX3_build 106 = .ok (.invokevirtual 29, 3) := by decide +kernel
theorem dX3_build_109 : decode cX3_build 109 = .ok (.iinc 3 1, 3) := by decide +kernel
theorem dX3_build_112 : decode cX3_build 112 = .ok (.goto (-79), 3) := by decide +kernel
theorem dX3_build_115 : decode cX3_build 115 = .ok (.return_, 1) := by decide +kernel
theorem dX3_unattacked_0 : decode cX3_unattacked 0 = .ok (.iconst 0, 1) := by decide +kernel
theorem dX3_unattacked_1 : decode cX3_unattacked 1 = .ok (.istore_n 3, 1) := by decide +kernel
theorem dX3_unattacked_2 : decode cX3_unattacked 2 = .ok (.iconst 0, 1) := by decide +kernel
theorem dX3_unattacked_3 : decode cX3_unattacked 3 = .ok (.istore 4, 2) := by decide +kernel
theorem dX3_unattacked_5 : decode cX3_unattacked 5 = .ok (.iload 4, 2) := by decide +kernel
theorem dX3_unattacked_7 : decode cX3_unattacked 7 = .ok (.iload_n 2, 1) := by decide +kernel
theorem dX3_unattacked_8 : decode cX3_unattacked 8 = .ok (.if_icmp .ge 42, 3) := by decide +kernel
theorem dX3_unattacked_11 : decode cX3_unattacked 11 = .ok (.aload_n 0, 1) := by decide +kernel
theorem dX3_unattacked_12 : decode cX3_unattacked 12 = .ok (.iload 4, 2) := by decide +kernel
theorem dX3_unattacked_14 : decode cX3_unattacked 14 = .ok (.invokevirtual 33, 3) := by decide +kernel
theorem dX3_unattacked_17 : decode cX3_unattacked 17 = .ok (.iconst 1, 1) := by decide +kernel
theorem dX3_unattacked_18 : decode cX3_unattacked 18 = .ok (.if_icmp .ne 26, 3) := by decide +kernel
theorem dX3_unattacked_21 : decode cX3_unattacked 21 = .ok (.aload_n 1, 1) := by decide +kernel
theorem dX3_unattacked_22 : decode cX3_unattacked 22 = .ok (.iload 4, 2) := by decide +kernel
theorem dX3_unattacked_24 : decode cX3_unattacked 24 = .ok (.invokevirtual 37, 3) := by decide +kernel
theorem dX3_unattacked_27 : decode cX3_unattacked 27 = .ok (.aload_n 0, 1) := by decide +kernel
theorem dX3_unattacked_28 : decode cX3_unattacked 28 = .ok (.getfield 19, 3) := by decide +kernel
theorem dX3_unattacked_31 : decode cX3_unattacked 31 = .ok (.iconst (-1), 1) := by decide +kernel
theorem dX3_unattacked_32 : decode cX3_unattacked 32 = .ok (.ixor, 1) := by decide +kernel
theorem dX3_unattacked_33 : decode cX3_unattacked 33 = .ok (.iand, 1) := by decide +kernel
theorem dX3_unattacked_34 : decode cX3_unattacked 34 = .ok (.ifCond .ne 10, 3) := by decide +kernel
theorem dX3_unattacked_37 : decode cX3_unattacked 37 = .ok (.iload_n 3, 1) := by decide +kernel
theorem dX3_unattacked_38 : decode cX3_unattacked 38 = .ok (.iconst 1, 1) := by decide +kernel
theorem dX3_unattacked_39 : decode cX3_unattacked 39 = .ok (.iload 4, 2) := by decide +kernel
theorem dX3_unattacked_41 : decode cX3_unattacked 41 = .ok (.ishl, 1) := by decide +kernel
theorem dX3_unattacked_42 : decode cX3_unattacked 42 = .ok (.ior, 1) := by decide +kernel
theorem dX3_unattacked_43 : decode cX3_unattacked 43 = .ok (.istore_n 3, 1) := by decide +kernel
theorem dX3_unattacked_44 : decode cX3_unattacked 44 = .ok (.iinc 4 1, 3) := by decide +kernel
theorem dX3_unattacked_47 : decode cX3_unattacked 47 = .ok (.goto (-42), 3) := by decide +kernel
theorem dX3_unattacked_50 : decode cX3_unattacked 50 = .ok (.iload_n 3, 1) := by decide +kernel
theorem dX3_unattacked_51 : decode cX3_unattacked 51 = .ok (.ireturn, 1) := by decide +kernel
theorem dX3_defeated_0 : decode cX3_defeated 0 = .ok (.iconst 0, 1) := by decide +kernel
theorem dX3_defeated_1 : decode cX3_defeated 1 = .ok (.istore_n 3, 1) := by decide +kernel
theorem dX3_defeated_2 : decode cX3_defeated 2 = .ok (.iconst 0, 1) := by decide +kernel
theorem dX3_defeated_3 : decode cX3_defeated 3 = .ok (.istore 4, 2) := by decide +kernel
theorem dX3_defeated_5 : decode cX3_defeated 5 = .ok (.iload 4, 2) := by decide +kernel
theorem dX3_defeated_7 : decode cX3_defeated 7 = .ok (.iload_n 2, 1) := by decide +kernel
theorem dX3_defeated_8 : decode cX3_defeated 8 = .ok (.if_icmp .ge 40, 3) := by decide +kernel
theorem dX3_defeated_11 : decode cX3_defeated 11 = .ok (.aload_n 0, 1) := by decide +kernel
theorem dX3_defeated_12 : decode cX3_defeated 12 = .ok (.iload 4, 2) := by decide +kernel
theorem dX3_defeated_14 : decode cX3_defeated 14 = .ok (.invokevirtual 33, 3) := by decide +kernel
theorem dX3_defeated_17 : decode cX3_defeated 17 = .ok (.iconst 1, 1) := by decide +kernel
theorem dX3_defeated_18 : decode cX3_defeated 18 = .ok (.if_icmp .ne 24, 3) := by decide +kernel
theorem dX3_defeated_21 : decode cX3_defeated 21 = .ok (.aload_n 1, 1) := by decide +kernel
theorem dX3_defeated_22 : decode cX3_defeated 22 = .ok (.iload 4, 2) := by decide +kernel
theorem dX3_defeated_24 : decode cX3_defeated 24 = .ok (.invokevirtual 37, 3) := by decide +kernel
theorem dX3_defeated_27 : decode cX3_defeated 27 = .ok (.aload_n 0, 1) := by decide +kernel
theorem dX3_defeated_28 : decode cX3_defeated 28 = .ok (.getfield 15, 3) := by decide +kernel
theorem dX3_defeated_31 : decode cX3_defeated 31 = .ok (.iand, 1) := by decide +kernel
theorem dX3_defeated_32 : decode cX3_defeated 32 = .ok (.ifCond .eq 10, 3) := by decide +kernel
theorem dX3_defeated_35 : decode cX3_defeated 35 = .ok (.iload_n 3, 1) := by decide +kernel
theorem dX3_defeated_36 : decode cX3_defeated 36 = .ok (.iconst 1, 1) := by decide +kernel
theorem dX3_defeated_37 : decode cX3_defeated 37 = .ok (.iload 4, 2) := by decide +kernel
theorem dX3_defeated_39 : decode cX3_defeated 39 = .ok (.ishl, 1) := by decide +kernel
theorem dX3_defeated_40 : decode cX3_defeated 40 = .ok (.ior, 1) := by decide +kernel
theorem dX3_defeated_41 : decode cX3_defeated 41 = .ok (.istore_n 3, 1) := by decide +kernel
theorem dX3_defeated_42 : decode cX3_defeated 42 = .ok (.iinc 4 1, 3) := by decide +kernel
theorem dX3_defeated_45 : decode cX3_defeated 45 = .ok (.goto (-40), 3) := by decide +kernel
theorem dX3_defeated_48 : decode cX3_defeated 48 = .ok (.iload_n 3, 1) := by decide +kernel
theorem dX3_defeated_49 : decode cX3_defeated 49 = .ok (.ireturn, 1) := by decide +kernel
theorem dX3_noteRound_0 : decode cX3_noteRound 0 = .ok (.iconst 0, 1) := by decide +kernel
theorem dX3_noteRound_1 : decode cX3_noteRound 1 = .ok (.istore_n 3, 1) := by decide +kernel
theorem dX3_noteRound_2 : decode cX3_noteRound 2 = .ok (.iload_n 3, 1) := by decide +kernel
theorem dX3_noteRound_3 : decode cX3_noteRound 3 = .ok (.bipush 24, 2) := by decide +kernel
theorem dX3_noteRound_5 : decode cX3_noteRound 5 = .ok (.if_icmp .ge 24, 3) := by decide +kernel
theorem dX3_noteRound_8 : decode cX3_noteRound 8 = .ok (.iload_n 2, 1) := by decide +kernel
theorem dX3_noteRound_9 : decode cX3_noteRound 9 = .ok (.iload_n 3, 1) := by decide +kernel
theorem dX3_noteRound_10 : decode cX3_noteRound 10 = .ok (.ishr, 1) := by decide +kernel
theorem dX3_noteRound_11 : decode cX3_noteRound 11 = .ok (.iconst 1, 1) := by decide +kernel
theorem dX3_noteRound_12 : decode cX3_noteRound 12 = .ok (.iand, 1) := by decide +kernel
theorem dX3_noteRound_13 : decode cX3_noteRound 13 = .ok (.ifCond .eq 10, 3) := by decide +kernel
theorem dX3_noteRound_16 : decode cX3_noteRound 16 = .ok (.aload_n 0, 1) := by decide +kernel
theorem dX3_noteRound_17 : decode cX3_noteRound 17 = .ok (.getfield 9, 3) := by decide +kernel
theorem dX3_noteRound_20 : decode cX3_noteRound 20 = .ok (.iload_n 3, 1) := by decide +kernel
theorem dX3_noteRound_21 : decode cX3_noteRound 21 = .ok (.iload_n 1, 1) := by decide +kernel
theorem dX3_noteRound_22 : decode cX3_noteRound 22 = .ok (.iastore, 1) := by decide +kernel
theorem dX3_noteRound_23 : decode cX3_noteRound 23 = .ok (.iinc 3 1, 3) := by decide +kernel
theorem dX3_noteRound_26 : decode cX3_noteRound 26 = .ok (.goto (-24), 3) := by decide +kernel
theorem dX3_noteRound_29 : decode cX3_noteRound 29 = .ok (.return_, 1) := by decide +kernel
theorem dX4_init_0 : decode cX4_init 0 = .ok (.aload_n 0, 1) := by decide +kernel
theorem dX4_init_1 : decode cX4_init 1 = .ok (.invokespecial 1, 3) := by decide +kernel
theorem dX4_init_4 : decode cX4_init 4 = .ok (.aload_n 0, 1) := by decide +kernel
theorem dX4_init_5 : decode cX4_init 5 = .ok (.iload_n 1, 1) := by decide +kernel
theorem dX4_init_6 : decode cX4_init 6 = .ok (.putfield 7, 3) := by decide +kernel
theorem dX4_init_9 : decode cX4_init 9 = .ok (.aload_n 0, 1) := by decide +kernel
theorem dX4_init_10 : decode cX4_init 10 = .ok (.iload_n 2, 1) := by decide +kernel
theorem dX4_init_11 : decode cX4_init 11 = .ok (.putfield 13, 3) := by decide +kernel
theorem dX4_init_14 : decode cX4_init 14 = .ok (.aload_n 0, 1) := by decide +kernel
theorem dX4_init_15 : decode cX4_init 15 = .ok (.iload_n 3, 1) := by decide +kernel
theorem dX4_init_16 : decode cX4_init 16 = .ok (.putfield 16, 3) := by decide +kernel
theorem dX4_init_19 : decode cX4_init 19 = .ok (.aload_n 0, 1) := by decide +kernel
theorem dX4_init_20 : decode cX4_init 20 = .ok (.iload 4, 2) := by decide +kernel
theorem dX4_init_22 : decode cX4_init 22 = .ok (.putfield 19, 3) := by decide +kernel
theorem dX4_init_25 : decode cX4_init 25 = .ok (.aload_n 0, 1) := by decide +kernel
theorem dX4_init_26 : decode cX4_init 26 = .ok (.iload 5, 2) := by decide +kernel
theorem dX4_init_28 : decode cX4_init 28 = .ok (.putfield 22, 3) := by decide +kernel
theorem dX4_init_31 : decode cX4_init 31 = .ok (.aload_n 0, 1) := by decide +kernel
theorem dX4_init_32 : decode cX4_init 32 = .ok (.iconst 1, 1) := by decide +kernel
theorem dX4_init_33 : decode cX4_init 33 = .ok (.putfield 25, 3) := by decide +kernel
theorem dX4_init_36 : decode cX4_init 36 = .ok (.return_, 1) := by decide +kernel
theorem dX5_init_0 : decode cX5_init 0 = .ok (.aload_n 0, 1) := by decide +kernel
theorem dX5_init_1 : decode cX5_init 1 = .ok (.invokespecial 3, 3) := by decide +kernel
theorem dX5_init_4 : decode cX5_init 4 = .ok (.aload_n 0, 1) := by decide +kernel
theorem dX5_init_5 : decode cX5_init 5 = .ok (.new 9, 3) := by decide +kernel
theorem dX5_init_8 : decode cX5_init 8 = .ok (.dup, 1) := by decide +kernel
theorem dX5_init_9 : decode cX5_init 9 = .ok (.invokespecial 11, 3) := by decide +kernel
theorem dX5_init_12 : decode cX5_init 12 = .ok (.putfield 12, 3) := by decide +kernel
theorem dX5_init_15 : decode cX5_init 15 = .ok (.aload_n 0, 1) := by decide +kernel
theorem dX5_init_16 : decode cX5_init 16 = .ok (.new 18, 3) := by decide +kernel
theorem dX5_init_19 : decode cX5_init 19 = .ok (.dup, 1) := by decide +kernel
theorem dX5_init_20 : decode cX5_init 20 = .ok (.iconst 0, 1) := by decide +kernel
theorem dX5_init_21 : decode cX5_init 21 = .ok (.iconst 0, 1) := by decide +kernel
theorem dX5_init_22 : decode cX5_init 22 = .ok (.iconst 0, 1) := by decide +kernel
theorem dX5_init_23 : decode cX5_init 23 = .ok (.iconst 0, 1) := by decide +kernel
theorem dX5_init_24 : decode cX5_init 24 = .ok (.iconst 0, 1) := by decide +kernel
theorem dX5_init_25 : decode cX5_init 25 = .ok (.invokespecial 20, 3) := by decide +kernel
theorem dX5_init_28 : decode cX5_init 28 = .ok (.putfield 23, 3) := by decide +kernel
theorem dX5_init_31 : decode cX5_init 31 = .ok (.aload_n 0, 1) := by decide +kernel
theorem dX5_init_32 : decode cX5_init 32 = .ok (.getfield 23, 3) := by decide +kernel
theorem dX5_init_35 : decode cX5_init 35 = .ok (.iconst 0, 1) := by decide +kernel
theorem dX5_init_36 : decode cX5_init 36 = .ok (.putfield 27, 3) := by decide +kernel
theorem dX5_init_39 : decode cX5_init 39 = .ok (.return_, 1) := by decide +kernel
theorem dX5_size_0 : decode cX5_size 0 = .ok (.aload_n 0, 1) := by decide +kernel
theorem dX5_size_1 : decode cX5_size 1 = .ok (.getfield 12, 3) := by decide +kernel
theorem dX5_size_4 : decode cX5_size 4 = .ok (.invokevirtual 31, 3) := by decide +kernel
theorem dX5_size_7 : decode cX5_size 7 = .ok (.ireturn, 1) := by decide +kernel
theorem dX5_at_0 : decode cX5_at 0 = .ok (.iload_n 1, 1) := by decide +kernel
theorem dX5_at_1 : decode cX5_at 1 = .ok (.ifCond .lt 28, 3) := by decide +kernel
theorem dX5_at_4 : decode cX5_at 4 = .ok (.iload_n 1, 1) := by decide +kernel
theorem dX5_at_5 : decode cX5_at 5 = .ok (.aload_n 0, 1) := by decide +kernel
theorem dX5_at_6 : decode cX5_at 6 = .ok (.getfield 12, 3) := by decide +kernel
theorem dX5_at_9 : decode cX5_at 9 = .ok (.invokevirtual 31, 3) := by decide +kernel
theorem dX5_at_12 : decode cX5_at 12 = .ok (.if_icmp .ge 17, 3) := by decide +kernel
theorem dX5_at_15 : decode cX5_at 15 = .ok (.aload_n 0, 1) := by decide +kernel
theorem dX5_at_16 : decode cX5_at 16 = .ok (.getfield 12, 3) := by decide +kernel
theorem dX5_at_19 : decode cX5_at 19 = .ok (.iload_n 1, 1) := by decide +kernel
theorem dX5_at_20 : decode cX5_at 20 = .ok (.invokevirtual 35, 3) := by decide +kernel
theorem dX5_at_23 : decode cX5_at 23 = .ok (.checkcast 18, 3) := by decide +kernel
theorem dX5_at_26 : decode cX5_at 26 = .ok (.goto 7, 3) := by decide +kernel
theorem dX5_at_29 : decode cX5_at 29 = .ok (.aload_n 0, 1) := by decide +kernel
theorem dX5_at_30 : decode cX5_at 30 = .ok (.getfield 23, 3) := by decide +kernel
theorem dX5_at_33 : decode cX5_at 33 = .ok (.areturn, 1) := by decide +kernel
theorem dX5_put_0 : decode cX5_put 0 = .ok (.aload_n 0, 1) := by decide +kernel
theorem dX5_put_1 : decode cX5_put 1 = .ok (.getfield 12, 3) := by decide +kernel
theorem dX5_put_4 : decode cX5_put 4 = .ok (.invokevirtual 31, 3) := by decide +kernel
theorem dX5_put_7 : decode cX5_put 7 = .ok (.bipush 12, 2) := by decide +kernel
theorem dX5_put_9 : decode cX5_put 9 = .ok (.if_icmp .ge 12, 3) := by decide +kernel
theorem dX5_put_12 : decode cX5_put 12 = .ok (.aload_n 0, 1) := by decide +kernel
theorem dX5_put_13 : decode cX5_put 13 = .ok (.getfield 12, 3) := by decide +kernel
theorem dX5_put_16 : decode cX5_put 16 = .ok (.aload_n 1, 1) := by decide +kernel
theorem dX5_put_17 : decode cX5_put 17 = .ok (.invokevirtual 39, 3) := by decide +kernel
theorem dX5_put_20 : decode cX5_put 20 = .ok (.pop, 1) := by decide +kernel
theorem dX5_put_21 : decode cX5_put 21 = .ok (.return_, 1) := by decide +kernel
theorem dX6_init_0 : decode cX6_init 0 = .ok (.aload_n 0, 1) := by decide +kernel
theorem dX6_init_1 : decode cX6_init 1 = .ok (.invokespecial 3, 3) := by decide +kernel
theorem dX6_init_4 : decode cX6_init 4 = .ok (.aload_n 0, 1) := by decide +kernel
theorem dX6_init_5 : decode cX6_init 5 = .ok (.sipush 162, 3) := by decide +kernel
theorem dX6_init_8 : decode cX6_init 8 = .ok (.newarray .int, 2) := by decide +kernel
theorem dX6_init_10 : decode cX6_init 10 = .ok (.putfield 9, 3) := by decide +kernel
theorem dX6_init_13 : decode cX6_init 13 = .ok (.return_, 1) := by decide +kernel
theorem dX6_clear_0 : decode cX6_clear 0 = .ok (.aload_n 0, 1) := by decide +kernel
theorem dX6_clear_1 : decode cX6_clear 1 = .ok (.iconst 0, 1) := by decide +kernel
theorem dX6_clear_2 : decode cX6_clear 2 = .ok (.putfield 15, 3) := by decide +kernel
theorem dX6_clear_5 : decode cX6_clear 5 = .ok (.return_, 1) := by decide +kernel
theorem dX6_keep_0 : decode cX6_keep 0 = .ok (.aload_n 0, 1) := by decide +kernel
theorem dX6_keep_1 : decode cX6_keep 1 = .ok (.getfield 15, 3) := by decide +kernel
theorem dX6_keep_4 : decode cX6_keep 4 = .ok (.sipush 162, 3) := by decide +kernel
theorem dX6_keep_7 : decode cX6_keep 7 = .ok (.if_icmp .ge 23, 3) := by decide +kernel
theorem dX6_keep_10 : decode cX6_keep 10 = .ok (.aload_n 0, 1) := by decide +kernel
theorem dX6_keep_11 : decode cX6_keep 11 = .ok (.getfield 9, 3) := by decide +kernel
theorem dX6_keep_14 : decode cX6_keep 14 = .ok (.aload_n 0, 1) := by decide +kernel
theorem dX6_keep_15 : decode cX6_keep 15 = .ok (.getfield 15, 3) := by decide +kernel
theorem dX6_keep_18 : decode cX6_keep 18 = .ok (.iload_n 1, 1) := by decide +kernel
theorem dX6_keep_19 : decode cX6_keep 19 = .ok (.iastore, 1) := by decide +kernel
theorem dX6_keep_20 : decode cX6_keep 20 = .ok (.aload_n 0, 1) := by decide +kernel
theorem dX6_keep_21 : decode cX6_keep 21 = .ok (.dup, 1) := by decide +kernel
theorem dX6_keep_22 : decode cX6_keep 22 = .ok (.getfield 15, 3) := by decide +kernel
theorem dX6_keep_25 : decode cX6_keep 25 = .ok (.iconst 1, 1) := by decide +kernel
theorem dX6_keep_26 : decode cX6_keep 26 = .ok (.iadd, 1) := by decide +kernel
theorem dX6_keep_27 : decode cX6_keep 27 = .ok (.putfield 15, 3) := by decide +kernel
theorem dX6_keep_30 : decode cX6_keep 30 = .ok (.return_, 1) := by decide +kernel
theorem dX6_covers_0 : decode cX6_covers 0 = .ok (.iconst 0, 1) := by decide +kernel
theorem dX6_covers_1 : decode cX6_covers 1 = .ok (.istore_n 2, 1) := by decide +kernel
theorem dX6_covers_2 : decode cX6_covers 2 = .ok (.iload_n 2, 1) := by decide +kernel
theorem dX6_covers_3 : decode cX6_covers 3 = .ok (.aload_n 0, 1) := by decide +kernel
theorem dX6_covers_4 : decode cX6_covers 4 = .ok (.getfield 15, 3) := by decide +kernel
theorem dX6_covers_7 : decode cX6_covers 7 = .ok (.if_icmp .ge 31, 3) := by decide +kernel
theorem dX6_covers_10 : decode cX6_covers 10 = .ok (.iload_n 2, 1) := by decide +kernel
theorem dX6_covers_11 : decode cX6_covers 11 = .ok (.sipush 162, 3) := by decide +kernel
theorem dX6_covers_14 : decode cX6_covers 14 = .ok (.if_icmp .ge 24, 3) := by decide +kernel
theorem dX6_covers_17 : decode cX6_covers 17 = .ok (.iload_n 1, 1) := by decide +kernel
theorem dX6_covers_18 : decode cX6_covers 18 = .ok (.aload_n 0, 1) := by decide +kernel
theorem dX6_covers_19 : decode cX6_covers 19 = .ok (.getfield 9, 3) := by decide +kernel
theorem dX6_covers_22 : decode cX6_covers 22 = .ok (.iload_n 2, 1) := by decide +kernel
theorem dX6_covers_23 : decode cX6_covers 23 = .ok (.iaload, 1) := by decide +kernel
theorem dX6_covers_24 : decode cX6_covers 24 = .ok (.iconst (-1), 1) := by decide +kernel
theorem dX6_covers_25 : decode cX6_covers 25 = .ok (.ixor, 1) := by decide +kernel
theorem dX6_covers_26 : decode cX6_covers 26 = .ok (.iand, 1) := by decide +kernel
theorem dX6_covers_27 : decode cX6_covers 27 = .ok (.ifCond .ne 5, 3) := by decide +kernel
theorem dX6_covers_30 : decode cX6_covers 30 = .ok (.iconst 1, 1) := by decide +kernel
theorem dX6_covers_31 : decode cX6_covers 31 = .ok (.ireturn, 1) := by decide +kernel
theorem dX6_covers_32 : decode cX6_covers 32 = .ok (.iinc 2 1, 3) := by decide +kernel
theorem dX6_covers_35 : decode cX6_covers 35 = .ok (.goto (-33), 3) := by decide +kernel
theorem dX6_covers_38 : decode cX6_covers 38 = .ok (.iconst 0, 1) := by decide +kernel
theorem dX6_covers_39 : decode cX6_covers 39 = .ok (.ireturn, 1) := by decide +kernel
theorem dX6_contains_0 : decode cX6_contains 0 = .ok (.iload_n 1, 1) := by decide +kernel
theorem dX6_contains_1 : decode cX6_contains 1 = .ok (.ifCond .lt 22, 3) := by decide +kernel
theorem dX6_contains_4 : decode cX6_contains 4 = .ok (.iload_n 1, 1) := by decide +kernel
theorem dX6_contains_5 : decode cX6_contains 5 = .ok (.aload_n 0, 1) := by decide +kernel
theorem dX6_contains_6 : decode cX6_contains 6 = .ok (.getfield 15, 3) := by decide +kernel
theorem dX6_contains_9 : decode cX6_contains 9 = .ok (.if_icmp .ge 14, 3) := by decide +kernel
theorem dX6_contains_12 : decode cX6_contains 12 = .ok (.iload_n 1, 1) := by decide +kernel
theorem dX6_contains_13 : decode cX6_contains 13 = .ok (.sipush 162, 3) := by decide +kernel
theorem dX6_contains_16 : decode cX6_contains 16 = .ok (.if_icmp .ge 7, 3) := by decide +kernel
theorem dX6_contains_19 : decode cX6_contains 19 = .ok (.iconst 1, 1) := by decide +kernel
theorem dX6_contains_20 : decode cX6_contains 20 = .ok (.goto 4, 3) := by decide +kernel
theorem dX6_contains_23 : decode cX6_contains 23 = .ok (.iconst 0, 1) := by decide +kernel
theorem dX6_contains_24 : decode cX6_contains 24 = .ok (.istore_n 3, 1) := by decide +kernel
theorem dX6_contains_25 : decode cX6_contains 25 = .ok (.iload_n 3, 1) := by decide +kernel
theorem dX6_contains_26 : decode cX6_contains 26 = .ok (.ifCond .eq 21, 3) := by decide +kernel
theorem dX6_contains_29 : decode cX6_contains 29 = .ok (.aload_n 0, 1) := by decide +kernel
theorem dX6_contains_30 : decode cX6_contains 30 = .ok (.getfield 9, 3) := by decide +kernel
theorem dX6_contains_33 : decode cX6_contains 33 = .ok (.iload_n 1, 1) := by decide +kernel
theorem dX6_contains_34 : decode cX6_contains 34 = .ok (.iaload, 1) := by decide +kernel
theorem dX6_contains_35 : decode cX6_contains 35 = .ok (.iload_n 2, 1) := by decide +kernel
theorem dX6_contains_36 : decode cX6_contains 36 = .ok (.invokestatic 19, 3) := by decide +kernel
theorem dX6_contains_39 : decode cX6_contains 39 = .ok (.iand, 1) := by decide +kernel
theorem dX6_contains_40 : decode cX6_contains 40 = .ok (.ifCond .eq 7, 3) := by decide +kernel
theorem dX6_contains_43 : decode cX6_contains 43 = .ok (.iconst 1, 1) := by decide +kernel
theorem dX6_contains_44 : decode cX6_contains 44 = .ok (.goto 4, 3) := by decide +kernel
theorem dX6_contains_47 : decode cX6_contains 47 = .ok (.iconst 0, 1) := by decide +kernel
theorem dX6_contains_48 : decode cX6_contains 48 = .ok (.ireturn, 1) := by decide +kernel
theorem dX7_init_0 : decode cX7_init 0 = .ok (.aload_n 0, 1) := by decide +kernel
theorem dX7_init_1 : decode cX7_init 1 = .ok (.invokespecial 3, 3) := by decide +kernel
theorem dX7_init_4 : decode cX7_init 4 = .ok (.aload_n 0, 1) := by decide +kernel
theorem dX7_init_5 : decode cX7_init 5 = .ok (.new 9, 3) := by decide +kernel
theorem dX7_init_8 : decode cX7_init 8 = .ok (.dup, 1) := by decide +kernel
theorem dX7_init_9 : decode cX7_init 9 = .ok (.invokespecial 11, 3) := by decide +kernel
theorem dX7_init_12 : decode cX7_init 12 = .ok (.putfield 12, 3) := by decide +kernel
theorem dX7_init_15 : decode cX7_init 15 = .ok (.aload_n 0, 1) := by decide +kernel
theorem dX7_init_16 : decode cX7_init 16 = .ok (.new 9, 3) := by decide +kernel
theorem dX7_init_19 : decode cX7_init 19 = .ok (.dup, 1) := by decide +kernel
theorem dX7_init_20 : decode cX7_init 20 = .ok (.invokespecial 11, 3) := by decide +kernel
theorem dX7_init_23 : decode cX7_init 23 = .ok (.putfield 18, 3) := by decide +kernel
theorem dX7_init_26 : decode cX7_init 26 = .ok (.aload_n 0, 1) := by decide +kernel
theorem dX7_init_27 : decode cX7_init 27 = .ok (.new 21, 3) := by decide +kernel
theorem dX7_init_30 : decode cX7_init 30 = .ok (.dup, 1) := by decide +kernel
theorem dX7_init_31 : decode cX7_init 31 = .ok (.invokespecial 23, 3) := by decide +kernel
theorem dX7_init_34 : decode cX7_init 34 = .ok (.putfield 24, 3) := by decide +kernel
theorem dX7_init_37 : decode cX7_init 37 = .ok (.aload_n 0, 1) := by decide +kernel
theorem dX7_init_38 : decode cX7_init 38 = .ok (.new 21, 3) := by decide +kernel
theorem dX7_init_41 : decode cX7_init 41 = .ok (.dup, 1) := by decide +kernel
theorem dX7_init_42 : decode cX7_init 42 = .ok (.invokespecial 23, 3) := by decide +kernel
theorem dX7_init_45 : decode cX7_init 45 = .ok (.putfield 28, 3) := by decide +kernel
theorem dX7_init_48 : decode cX7_init 48 = .ok (.return_, 1) := by decide +kernel
theorem dX7_prepare_0 : decode cX7_prepare 0 = .ok (.aload_n 0, 1) := by decide +kernel
theorem dX7_prepare_1 : decode cX7_prepare 1 = .ok (.iload_n 2, 1) := by decide +kernel
theorem dX7_prepare_2 : decode cX7_prepare 2 = .ok (.bipush 14, 2) := by decide +kernel
theorem dX7_prepare_4 : decode cX7_prepare 4 = .ok (.invokestatic 31, 3) := by decide +kernel
theorem dX7_prepare_7 : decode cX7_prepare 7 = .ok (.putfield 37, 3) := by decide +kernel
theorem dX7_prepare_10 : decode cX7_prepare 10 = .ok (.aload_n 0, 1) := by decide +kernel
theorem dX7_prepare_11 : decode cX7_prepare 11 = .ok (.getfield 12, 3) := by decide +kernel
theorem dX7_prepare_14 : decode cX7_prepare 14 = .ok (.invokevirtual 41, 3) := by decide +kernel
theorem dX7_prepare_17 : decode cX7_prepare 17 = .ok (.aload_n 0, 1) := by decide +kernel
theorem dX7_prepare_18 : decode cX7_prepare 18 = .ok (.getfield 18, 3) := by decide +kernel
theorem dX7_prepare_21 : decode cX7_prepare 21 = .ok (.invokevirtual 41, 3) := by decide +kernel
theorem dX7_prepare_24 : decode cX7_prepare 24 = .ok (.iconst 0, 1) := by decide +kernel
theorem dX7_prepare_25 : decode cX7_prepare 25 = .ok (.istore_n 3, 1) := by decide +kernel
theorem dX7_prepare_26 : decode cX7_prepare 26 = .ok (.iload_n 3, 1) := by decide +kernel
theorem dX7_prepare_27 : decode cX7_prepare 27 = .ok (.aload_n 0, 1) := by decide +kernel
theorem dX7_prepare_28 : decode cX7_prepare 28 = .ok (.getfield 37, 3) := by decide +kernel
theorem dX7_prepare_31 : decode cX7_prepare 31 = .ok (.if_icmp .ge 63, 3) := by decide +kernel
theorem dX7_prepare_34 : decode cX7_prepare 34 = .ok (.iconst 0, 1) := by decide +kernel
theorem dX7_prepare_35 : decode cX7_prepare 35 = .ok (.istore 4, 2) := by decide +kernel
theorem dX7_prepare_37 : decode cX7_prepare 37 = .ok (.iload 4, 2) := by decide +kernel
theorem dX7_prepare_39 : decode cX7_prepare 39 = .ok (.aload_n 0, 1) := by decide +kernel
theorem dX7_prepare_40 : decode cX7_prepare 40 = .ok (.getfield 37, 3) := by decide +kernel
theorem dX7_prepare_43 : decode cX7_prepare 43 = .ok (.if_icmp .ge 45, 3) := by decide +kernel
theorem dX7_prepare_46 : decode cX7_prepare 46 = .ok (.aload_n 1, 1) := by decide +kernel
theorem dX7_prepare_47 : decode cX7_prepare 47 = .ok (.iload_n 3, 1) := by decide +kernel
theorem dX7_prepare_48 : decode cX7_prepare 48 = .ok (.iload 4, 2) := by decide +kernel
theorem dX7_prepare_50 : decode cX7_prepare 50 = .ok (.invokevirtual 44, 3) := by decide +kernel
theorem dX7_prepare_53 : decode cX7_prepare 53 = .ok (.ifCond .eq 29, 3) := by decide +kernel
theorem dX7_prepare_56 : decode cX7_prepare 56 = .ok (.aload_n 0, 1) := by decide +kernel
theorem dX7_prepare_57 : decode cX7_prepare 57 = .ok (.getfield 12, 3) := by decide +kernel
theorem dX7_prepare_60 : decode cX7_prepare 60 = .ok (.iload 4, 2) := by decide +kernel
theorem dX7_prepare_62 : decode cX7_prepare 62 = .ok (.iload_n 3, 1) := by decide +kernel
theorem dX7_prepare_63 : decode cX7_prepare 63 = .ok (.invokestatic 50, 3) := by decide +kernel
theorem dX7_prepare_66 : decode cX7_prepare 66 = .ok (.invokevirtual 54, 3) := by decide +kernel
theorem dX7_prepare_69 : decode cX7_prepare 69 = .ok (.aload_n 0, 1) := by decide +kernel
theorem dX7_prepare_70 : decode cX7_prepare 70 = .ok (.getfield 18, 3) := by decide +kernel
theorem dX7_prepare_73 : decode cX7_prepare 73 = .ok (.iload_n 3, 1) := by decide +kernel
theorem dX7_prepare_74 : decode cX7_prepare 74 = .ok (.iload 4, 2) := by decide +kernel
theorem dX7_prepare_76 : decode cX7_prepare 76 = .ok (.invokestatic 50, 3) := by decide +kernel
theorem dX7_prepare_79 : decode cX7_prepare 79 = .ok (.invokevirtual 54, 3) := by decide +kernel
theorem dX7_prepare_82 : decode cX7_prepare 82 = .ok (.iinc 4 1, 3) := by decide +kernel
theorem dX7_prepare_85 : decode cX7_prepare 85 = .ok (.goto (-48), 3) := by decide +kernel
theorem dX7_prepare_88 : decode cX7_prepare 88 = .ok (.iinc 3 1, 3) := by decide +kernel
theorem dX7_prepare_91 : decode cX7_prepare 91 = .ok (.goto (-65), 3) := by decide +kernel
theorem dX7_prepare_94 : decode cX7_prepare 94 = .ok (.aload_n 0, 1) := by decide +kernel
theorem dX7_prepare_95 : decode cX7_prepare 95 = .ok (.getfield 12, 3) := by decide +kernel
theorem dX7_prepare_98 : decode cX7_prepare 98 = .ok (.invokevirtual 58, 3) := by decide +kernel
theorem dX7_prepare_101 : decode cX7_prepare 101 = .ok (.aload_n 0, 1) := by decide +kernel
theorem dX7_prepare_102 : decode cX7_prepare 102 = .ok (.getfield 18, 3) := by decide +kernel
theorem dX7_prepare_105 : decode cX7_prepare 105 = .ok (.invokevirtual 58, 3) := by decide +kernel
theorem dX7_prepare_108 : decode cX7_prepare 108 = .ok (.return_, 1) := by decide +kernel
theorem dX7_tryAll_0 : decode cX7_tryAll 0 = .ok (.aload_n 0, 1) := by decide +kernel
theorem dX7_tryAll_1 : decode cX7_tryAll 1 = .ok (.getfield 24, 3) := by decide +kernel
theorem dX7_tryAll_4 : decode cX7_tryAll 4 = .ok (.invokevirtual 61, 3) := by decide +kernel
theorem dX7_tryAll_7 : decode cX7_tryAll 7 = .ok (.aload_n 0, 1) := by decide +kernel
theorem dX7_tryAll_8 : decode cX7_tryAll 8 = .ok (.iconst 0, 1) := by decide +kernel
theorem dX7_tryAll_9 : decode cX7_tryAll 9 = .ok (.iconst 0, 1) := by decide +kernel
theorem dX7_tryAll_10 : decode cX7_tryAll 10 = .ok (.invokestatic 64, 3) := by decide +kernel
theorem dX7_tryAll_13 : decode cX7_tryAll 13 = .ok (.return_, 1) := by decide +kernel
theorem dX7_tryFrom_0 : decode cX7_tryFrom 0 = .ok (.iload_n 1, 1) := by decide +kernel
theorem dX7_tryFrom_1 : decode cX7_tryFrom 1 = .ok (.aload_n 0, 1) := by decide +kernel
theorem dX7_tryFrom_2 : decode cX7_tryFrom 2 = .ok (.getfield 37, 3) := by decide +kernel
theorem dX7_tryFrom_5 : decode cX7_tryFrom 5 = .ok (.if_icmp .gt 9, 3) := by decide +kernel
theorem dX7_tryFrom_8 : decode cX7_tryFrom 8 = .ok (.iload_n 1, 1) := by decide +kernel
theorem dX7_tryFrom_9 : decode cX7_tryFrom 9 = .ok (.bipush 14, 2) := by decide +kernel
theorem dX7_tryFrom_11 : decode cX7_tryFrom 11 = .ok (.if_icmp .le 4, 3) := by decide +kernel
theorem dX7_tryFrom_14 : decode cX7_tryFrom 14 = .ok (.return_, 1) := by decide +kernel
theorem dX7_tryFrom_15 : decode cX7_tryFrom 15 = .ok (.iload_n 2, 1) := by decide +kernel
theorem dX7_tryFrom_16 : decode cX7_tryFrom 16 = .ok (.aload_n 0, 1) := by decide +kernel
theorem dX7_tryFrom_17 : decode cX7_tryFrom 17 = .ok (.iload_n 1, 1) := by decide +kernel
theorem dX7_tryFrom_18 : decode cX7_tryFrom 18 = .ok (.invokevirtual 68, 3) := by decide +kernel
theorem dX7_tryFrom_21 : decode cX7_tryFrom 21 = .ok (.ior, 1) := by decide +kernel
theorem dX7_tryFrom_22 : decode cX7_tryFrom 22 = .ok (.istore_n 3, 1) := by decide +kernel
theorem dX7_tryFrom_23 : decode cX7_tryFrom 23 = .ok (.aload_n 0, 1) := by decide +kernel
theorem dX7_tryFrom_24 : decode cX7_tryFrom 24 = .ok (.getfield 24, 3) := by decide +kernel
theorem dX7_tryFrom_27 : decode cX7_tryFrom 27 = .ok (.iload_n 3, 1) := by decide +kernel
theorem dX7_tryFrom_28 : decode cX7_tryFrom 28 = .ok (.invokevirtual 71, 3) := by decide +kernel
theorem dX7_tryFrom_31 : decode cX7_tryFrom 31 = .ok (.ifCond .ne 12, 3) := by decide +kernel
theorem dX7_tryFrom_34 : decode cX7_tryFrom 34 = .ok (.aload_n 0, 1) := by decide +kernel
theorem dX7_tryFrom_35 : decode cX7_tryFrom 35 = .ok (.iload_n 2, 1) := by decide +kernel
theorem dX7_tryFrom_36 : decode cX7_tryFrom 36 = .ok (.iload_n 3, 1) := by decide +kernel
theorem dX7_tryFrom_37 : decode cX7_tryFrom 37 = .ok (.invokevirtual 75, 3) := by decide +kernel
theorem dX7_tryFrom_40 : decode cX7_tryFrom 40 = .ok (.ifCond .ne 4, 3) := by decide +kernel
theorem dX7_tryFrom_43 : decode cX7_tryFrom 43 = .ok (.return_, 1) := by decide +kernel
theorem dX7_tryFrom_44 : decode cX7_tryFrom 44 = .ok (.iload_n 1, 1) := by decide +kernel
theorem dX7_tryFrom_45 : decode cX7_tryFrom 45 = .ok (.aload_n 0, 1) := by decide +kernel
theorem dX7_tryFrom_46 : decode cX7_tryFrom 46 = .ok (.getfield 37, 3) := by decide +kernel
theorem dX7_tryFrom_49 : decode cX7_tryFrom 49 = .ok (.if_icmp .ne 12, 3) := by decide +kernel
theorem dX7_tryFrom_52 : decode cX7_tryFrom 52 = .ok (.aload_n 0, 1) := by decide +kernel
theorem dX7_tryFrom_53 : decode cX7_tryFrom 53 = .ok (.getfield 24, 3) := by decide +kernel
theorem dX7_tryFrom_56 : decode cX7_tryFrom 56 = .ok (.iload_n 2, 1) := by decide +kernel
theorem dX7_tryFrom_57 : decode cX7_tryFrom 57 = .ok (.invokevirtual 78, 3) := by decide +kernel
theorem dX7_tryFrom_60 : decode cX7_tryFrom 60 = .ok (.return_, 1) := by decide +kernel
theorem dX7_tryFrom_61 : decode cX7_tryFrom 61 = .ok (.iload_n 2, 1) := by decide +kernel
theorem dX7_tryFrom_62 : decode cX7_tryFrom 62 = .ok (.iload_n 1, 1) := by decide +kernel
theorem dX7_tryFrom_63 : decode cX7_tryFrom 63 = .ok (.invokestatic 50, 3) := by decide +kernel
theorem dX7_tryFrom_66 : decode cX7_tryFrom 66 = .ok (.ior, 1) := by decide +kernel
theorem dX7_tryFrom_67 : decode cX7_tryFrom 67 = .ok (.istore 4, 2) := by decide +kernel
theorem dX7_tryFrom_69 : decode cX7_tryFrom 69 = .ok (.aload_n 0, 1) := by decide +kernel
theorem dX7_tryFrom_70 : decode cX7_tryFrom 70 = .ok (.iload 4, 2) := by decide +kernel
theorem dX7_tryFrom_72 : decode cX7_tryFrom 72 = .ok (.invokevirtual 82, 3) := by decide +kernel
theorem dX7_tryFrom_75 : decode cX7_tryFrom 75 = .ok (.ifCond .eq 12, 3) := by decide +kernel
theorem dX7_tryFrom_78 : decode cX7_tryFrom 78 = .ok (.aload_n 0, 1) := by decide +kernel
theorem dX7_tryFrom_79 : decode cX7_tryFrom 79 = .ok (.iload_n 1, 1) := by decide +kernel
theorem dX7_tryFrom_80 : decode cX7_tryFrom 80 = .ok (.iconst 1, 1) := by decide +kernel
theorem dX7_tryFrom_81 : decode cX7_tryFrom 81 = .ok (.iadd, 1) := by decide +kernel
theorem dX7_tryFrom_82 : decode cX7_tryFrom 82 = .ok (.iload 4, 2) := by decide +kernel
theorem dX7_tryFrom_84 : decode cX7_tryFrom 84 = .ok (.invokestatic 64, 3) := by decide +kernel
theorem dX7_tryFrom_87 : decode cX7_tryFrom 87 = .ok (.aload_n 0, 1) := by decide +kernel
theorem dX7_tryFrom_88 : decode cX7_tryFrom 88 = .ok (.iload_n 1, 1) := by decide +kernel
theorem dX7_tryFrom_89 : decode cX7_tryFrom 89 = .ok (.iconst 1, 1) := by decide +kernel
theorem dX7_tryFrom_90 : decode cX7_tryFrom 90 = .ok (.iadd, 1) := by decide +kernel
theorem dX7_tryFrom_91 : decode cX7_tryFrom 91 = .ok (.iload_n 2, 1) := by decide +kernel
theorem dX7_tryFrom_92 : decode cX7_tryFrom 92 = .ok (.invokestatic 64, 3) := by decide +kernel
theorem dX7_tryFrom_95 : decode cX7_tryFrom 95 = .ok (.return_, 1) := by decide +kernel
theorem dX7_sweep_0 : decode cX7_sweep 0 = .ok (.aload_n 0, 1) := by decide +kernel
theorem dX7_sweep_1 : decode cX7_sweep 1 = .ok (.getfield 28, 3) := by decide +kernel
theorem dX7_sweep_4 : decode cX7_sweep 4 = .ok (.invokevirtual 61, 3) := by decide +kernel
theorem dX7_sweep_7 : decode cX7_sweep 7 = .ok (.iconst 1, 1) := by decide +kernel
theorem dX7_sweep_8 : decode cX7_sweep 8 = .ok (.aload_n 0, 1) := by decide +kernel
theorem dX7_sweep_9 : decode cX7_sweep 9 = .ok (.getfield 37, 3) := by decide +kernel
theorem dX7_sweep_12 : decode cX7_sweep 12 = .ok (.ishl, 1) := by decide +kernel
theorem dX7_sweep_13 : decode cX7_sweep 13 = .ok (.iconst 1, 1) := by decide +kernel
theorem dX7_sweep_14 : decode cX7_sweep 14 = .ok (.isub, 1) := by decide +kernel
theorem dX7_sweep_15 : decode cX7_sweep 15 = .ok (.istore_n 1, 1) := by decide +kernel
theorem dX7_sweep_16 : decode cX7_sweep 16 = .ok (.iload_n 1, 1) := by decide +kernel
theorem dX7_sweep_17 : decode cX7_sweep 17 = .ok (.ifCond .lt 55, 3) := by decide +kernel
theorem dX7_sweep_20 : decode cX7_sweep 20 = .ok (.iload_n 1, 1) := by decide +kernel
theorem dX7_sweep_21 : decode cX7_sweep 21 = .ok (.bipush 14, 2) := by decide +kernel
theorem dX7_sweep_23 : decode cX7_sweep 23 = .ok (.aload_n 0, 1) := by decide +kernel
theorem dX7_sweep_24 : decode cX7_sweep 24 = .ok (.getfield 37, 3) := by decide +kernel
theorem dX7_sweep_27 : decode cX7_sweep 27 = .ok (.isub, 1) := by decide +kernel
theorem dX7_sweep_28 : decode cX7_sweep 28 = .ok (.ishl, 1) := by decide +kernel
theorem dX7_sweep_29 : decode cX7_sweep 29 = .ok (.istore_n 2, 1) := by decide +kernel
theorem dX7_sweep_30 : decode cX7_sweep 30 = .ok (.aload_n 0, 1) := by decide +kernel
theorem dX7_sweep_31 : decode cX7_sweep 31 = .ok (.iload_n 2, 1) := by decide +kernel
theorem dX7_sweep_32 : decode cX7_sweep 32 = .ok (.invokevirtual 82, 3) := by decide +kernel
theorem dX7_sweep_35 : decode cX7_sweep 35 = .ok (.ifCond .eq 31, 3) := by decide +kernel
theorem dX7_sweep_38 : decode cX7_sweep 38 = .ok (.aload_n 0, 1) := by decide +kernel
theorem dX7_sweep_39 : decode cX7_sweep 39 = .ok (.iload_n 2, 1) := by decide +kernel
theorem dX7_sweep_40 : decode cX7_sweep 40 = .ok (.iload_n 2, 1) := by decide +kernel
theorem dX7_sweep_41 : decode cX7_sweep 41 = .ok (.invokevirtual 75, 3) := by decide +kernel
theorem dX7_sweep_44 : decode cX7_sweep 44 = .ok (.ifCond .eq 22, 3) := by decide +kernel
theorem dX7_sweep_47 : decode cX7_sweep 47 = .ok (.aload_n 0, 1) := by decide +kernel
theorem dX7_sweep_48 : decode cX7_sweep 48 = .ok (.getfield 28, 3) := by decide +kernel
theorem dX7_sweep_51 : decode cX7_sweep 51 = .ok (.iload_n 2, 1) := by decide +kernel
theorem dX7_sweep_52 : decode cX7_sweep 52 = .ok (.invokevirtual 71, 3) := by decide +kernel
theorem dX7_sweep_55 : decode cX7_sweep 55 = .ok (.ifCond .ne 11, 3) := by decide +kernel
theorem dX7_sweep_58 : decode cX7_sweep 58 = .ok (.aload_n 0, 1) := by decide +kernel
theorem dX7_sweep_59 : decode cX7_sweep 59 = .ok (.getfield 28, 3) := by decide +kernel
theorem dX7_sweep_62 : decode cX7_sweep 62 = .ok (.iload_n 2, 1) := by decide +kernel
theorem dX7_sweep_63 : decode cX7_sweep 63 = .ok (.invokevirtual 78, 3) := by decide +kernel
theorem dX7_sweep_66 : decode cX7_sweep 66 = .ok (.iinc 1 (-1), 3) := by decide +kernel
theorem dX7_sweep_69 : decode cX7_sweep 69 = .ok (.goto (-53), 3) := by decide +kernel
theorem dX7_sweep_72 : decode cX7_sweep 72 = .ok (.return_, 1) := by decide +kernel
theorem dX7_restFrom_0 : decode cX7_restFrom 0 = .ok (.iconst 1, 1) := by decide +kernel
theorem dX7_restFrom_1 : decode cX7_restFrom 1 = .ok (.aload_n 0, 1) := by decide +kernel
theorem dX7_restFrom_2 : decode cX7_restFrom 2 = .ok (.getfield 37, 3) := by decide +kernel
theorem dX7_restFrom_5 : decode cX7_restFrom 5 = .ok (.ishl, 1) := by decide +kernel
theorem dX7_restFrom_6 : decode cX7_restFrom 6 = .ok (.iconst 1, 1) := by decide +kernel
theorem dX7_restFrom_7 : decode cX7_restFrom 7 = .ok (.isub, 1) := by decide +kernel
theorem dX7_restFrom_8 : decode cX7_restFrom 8 = .ok (.bipush 14, 2) := by decide +kernel
theorem dX7_restFrom_10 : decode cX7_restFrom 10 = .ok (.aload_n 0, 1) := by decide +kernel
theorem dX7_restFrom_11 : decode cX7_restFrom 11 = .ok (.getfield 37, 3) := by decide +kernel
theorem dX7_restFrom_14 : decode cX7_restFrom 14 = .ok (.isub, 1) := by decide +kernel
theorem dX7_restFrom_15 : decode cX7_restFrom 15 = .ok (.ishl, 1) := by decide +kernel
theorem dX7_restFrom_16 : decode cX7_restFrom 16 = .ok (.istore_n 2, 1) := by decide +kernel
theorem dX7_restFrom_17 : decode cX7_restFrom 17 = .ok (.iload_n 2, 1) := by decide +kernel
theorem dX7_restFrom_18 : decode cX7_restFrom 18 = .ok (.iconst 1, 1) := by decide +kernel
theorem dX7_restFrom_19 : decode cX7_restFrom 19 = .ok (.bipush 14, 2) := by decide +kernel
theorem dX7_restFrom_21 : decode cX7_restFrom 21 = .ok (.iload_n 1, 1) := by decide +kernel
theorem dX7_restFrom_22 : decode cX7_restFrom 22 = .ok (.isub, 1) := by decide +kernel
theorem dX7_restFrom_23 : decode cX7_restFrom 23 = .ok (.ishl, 1) := by decide +kernel
theorem dX7_restFrom_24 : decode cX7_restFrom 24 = .ok (.iconst 1, 1) := by decide +kernel
theorem dX7_restFrom_25 : decode cX7_restFrom 25 = .ok (.isub, 1) := by decide +kernel
theorem dX7_restFrom_26 : decode cX7_restFrom 26 = .ok (.iand, 1) := by decide +kernel
theorem dX7_restFrom_27 : decode cX7_restFrom 27 = .ok (.ireturn, 1) := by decide +kernel
theorem dX7_isPeaceful_0 : decode cX7_isPeaceful 0 = .ok (.aload_n 0, 1) := by decide +kernel
theorem dX7_isPeaceful_1 : decode cX7_isPeaceful 1 = .ok (.getfield 12, 3) := by decide +kernel
theorem dX7_isPeaceful_4 : decode cX7_isPeaceful 4 = .ok (.iload_n 1, 1) := by decide +kernel
theorem dX7_isPeaceful_5 : decode cX7_isPeaceful 5 = .ok (.invokevirtual 85, 3) := by decide +kernel
theorem dX7_isPeaceful_8 : decode cX7_isPeaceful 8 = .ok (.iload_n 1, 1) := by decide +kernel
theorem dX7_isPeaceful_9 : decode cX7_isPeaceful 9 = .ok (.iand, 1) := by decide +kernel
theorem dX7_isPeaceful_10 : decode cX7_isPeaceful 10 = .ok (.ifCond .ne 7, 3) := by decide +kernel
theorem dX7_isPeaceful_13 : decode cX7_isPeaceful 13 = .ok (.iconst 1, 1) := by decide +kernel
theorem dX7_isPeaceful_14 : decode cX7_isPeaceful 14 = .ok (.goto 4, 3) := by decide +kernel
theorem dX7_isPeaceful_17 : decode cX7_isPeaceful 17 = .ok (.iconst 0, 1) := by decide +kernel
theorem dX7_isPeaceful_18 : decode cX7_isPeaceful 18 = .ok (.ireturn, 1) := by decide +kernel
theorem dX7_canDefend_0 : decode cX7_canDefend 0 = .ok (.aload_n 0, 1) := by decide +kernel
theorem dX7_canDefend_1 : decode cX7_canDefend 1 = .ok (.getfield 12, 3) := by decide +kernel
theorem dX7_canDefend_4 : decode cX7_canDefend 4 = .ok (.iload_n 1, 1) := by decide +kernel
theorem dX7_canDefend_5 : decode cX7_canDefend 5 = .ok (.invokevirtual 85, 3) := by decide +kernel
theorem dX7_canDefend_8 : decode cX7_canDefend 8 = .ok (.aload_n 0, 1) := by decide +kernel
theorem dX7_canDefend_9 : decode cX7_canDefend 9 = .ok (.getfield 18, 3) := by decide +kernel
theorem dX7_canDefend_12 : decode cX7_canDefend 12 = .ok (.iload_n 2, 1) := by decide +kernel
theorem dX7_canDefend_13 : decode cX7_canDefend 13 = .ok (.invokevirtual 85, 3) := by decide +kernel
theorem dX7_canDefend_16 : decode cX7_canDefend 16 = .ok (.iconst (-1), 1) := by decide +kernel
theorem dX7_canDefend_17 : decode cX7_canDefend 17 = .ok (.ixor, 1) := by decide +kernel
theorem dX7_canDefend_18 : decode cX7_canDefend 18 = .ok (.iand, 1) := by decide +kernel
theorem dX7_canDefend_19 : decode cX7_canDefend 19 = .ok (.ifCond .ne 7, 3) := by decide +kernel
theorem dX7_canDefend_22 : decode cX7_canDefend 22 = .ok (.iconst 1, 1) := by decide +kernel
theorem dX7_canDefend_23 : decode cX7_canDefend 23 = .ok (.goto 4, 3) := by decide +kernel
theorem dX7_canDefend_26 : decode cX7_canDefend 26 = .ok (.iconst 0, 1) := by decide +kernel
theorem dX7_canDefend_27 : decode cX7_canDefend 27 = .ok (.ireturn, 1) := by decide +kernel
theorem dX8_init_0 : decode cX8_init 0 = .ok (.aload_n 0, 1) := by decide +kernel
theorem dX8_init_1 : decode cX8_init 1 = .ok (.invokespecial 3, 3) := by decide +kernel
theorem dX8_init_4 : decode cX8_init 4 = .ok (.aload_n 0, 1) := by decide +kernel
theorem dX8_init_5 : decode cX8_init 5 = .ok (.bipush 14, 2) := by decide +kernel
theorem dX8_init_7 : decode cX8_init 7 = .ok (.newarray .int, 2) := by decide +kernel
theorem dX8_init_9 : decode cX8_init 9 = .ok (.putfield 9, 3) := by decide +kernel
theorem dX8_init_12 : decode cX8_init 12 = .ok (.aload_n 0, 1) := by decide +kernel
theorem dX8_init_13 : decode cX8_init 13 = .ok (.sipush 128, 3) := by decide +kernel
theorem dX8_init_16 : decode cX8_init 16 = .ok (.newarray .int, 2) := by decide +kernel
theorem dX8_init_18 : decode cX8_init 18 = .ok (.putfield 15, 3) := by decide +kernel
theorem dX8_init_21 : decode cX8_init 21 = .ok (.aload_n 0, 1) := by decide +kernel
theorem dX8_init_22 : decode cX8_init 22 = .ok (.sipush 128, 3) := by decide +kernel
theorem dX8_init_25 : decode cX8_init 25 = .ok (.newarray .int, 2) := by decide +kernel
theorem dX8_init_27 : decode cX8_init 27 = .ok (.putfield 18, 3) := by decide +kernel
theorem dX8_init_30 : decode cX8_init 30 = .ok (.return_, 1) := by decide +kernel
theorem dX8_clearRows_0 : decode cX8_clearRows 0 = .ok (.iconst 0, 1) := by decide +kernel
theorem dX8_clearRows_1 : decode cX8_clearRows 1 = .ok (.istore_n 1, 1) := by decide +kernel
theorem dX8_clearRows_2 : decode cX8_clearRows 2 = .ok (.iload_n 1, 1) := by decide +kernel
theorem dX8_clearRows_3 : decode cX8_clearRows 3 = .ok (.bipush 14, 2) := by decide +kernel
theorem dX8_clearRows_5 : decode cX8_clearRows 5 = .ok (.if_icmp .ge 16, 3) := by decide +kernel
theorem dX8_clearRows_8 : decode cX8_clearRows 8 = .ok (.aload_n 0, 1) := by decide +kernel
theorem dX8_clearRows_9 : decode cX8_clearRows 9 = .ok (.getfield 9, 3) := by decide +kernel
theorem dX8_clearRows_12 : decode cX8_clearRows 12 = .ok (.iload_n 1, 1) := by decide +kernel
theorem dX8_clearRows_13 : decode cX8_clearRows 13 = .ok (.iconst 0, 1) := by decide +kernel
theorem dX8_clearRows_14 : decode cX8_clearRows 14 = .ok (.iastore, 1) := by decide +kernel
theorem dX8_clearRows_15 : decode cX8_clearRows 15 = .ok (.iinc 1 1, 3) := by decide +kernel
theorem dX8_clearRows_18 : decode cX8_clearRows 18 = .ok (.goto (-16), 3) := by decide +kernel
theorem dX8_clearRows_21 : decode cX8_clearRows 21 = .ok (.return_, 1) := by decide +kernel
theorem dX8_addToRow_0 : decode cX8_addToRow 0 = .ok (.iload_n 1, 1) := by decide +kernel
theorem dX8_addToRow_1 : decode cX8_addToRow 1 = .ok (.ifCond .lt 22, 3) := by decide +kernel
theorem dX8_addToRow_4 : decode cX8_addToRow 4 = .ok (.iload_n 1, 1) := by decide +kernel
theorem dX8_addToRow_5 : decode cX8_addToRow 5 = .ok (.bipush 14, 2) := by decide +kernel
theorem dX8_addToRow_7 : decode cX8_addToRow 7 = .ok (.if_icmp .ge 16, 3) := by decide +kernel
theorem dX8_addToRow_10 : decode cX8_addToRow 10 = .ok (.aload_n 0, 1) := by decide +kernel
theorem dX8_addToRow_11 : decode cX8_addToRow 11 = .ok (.getfield 9, 3) := by decide +kernel
theorem dX8_addToRow_14 : decode cX8_addToRow 14 = .ok (.bipush 13, 2) := by decide +kernel
theorem dX8_addToRow_16 : decode cX8_addToRow 16 = .ok (.iload_n 1, 1) := by decide +kernel
theorem dX8_addToRow_17 : decode cX8_addToRow 17 = .ok (.isub, 1) := by decide +kernel
theorem dX8_addToRow_18 : decode cX8_addToRow 18 = .ok (.dup2, 1) := by decide +kernel
theorem dX8_addToRow_19 : decode cX8_addToRow 19 = .ok (.iaload, 1) := by decide +kernel
theorem dX8_addToRow_20 : decode cX8_addToRow 20 = .ok (.iload_n 2, 1) := by decide +kernel
theorem dX8_addToRow_21 : decode cX8_addToRow 21 = .ok (.ior, 1) := by decide +kernel
theorem dX8_addToRow_22 : decode cX8_addToRow 22 = .ok (.iastore, 1) := by decide +kernel
theorem dX8_addToRow_23 : decode cX8_addToRow 23 = .ok (.return_, 1) := by decide +kernel
theorem dX8_fillHalves_0 : decode cX8_fillHalves 0 = .ok (.iconst 0, 1) := by decide +kernel
theorem dX8_fillHalves_1 : decode cX8_fillHalves 1 = .ok (.istore_n 1, 1) := by decide +kernel
theorem dX8_fillHalves_2 : decode cX8_fillHalves 2 = .ok (.iload_n 1, 1) := by decide +kernel
theorem dX8_fillHalves_3 : decode cX8_fillHalves 3 = .ok (.bipush 7, 2) := by decide +kernel
theorem dX8_fillHalves_5 : decode cX8_fillHalves 5 = .ok (.if_icmp .ge 71, 3) := by decide +kernel
theorem dX8_fillHalves_8 : decode cX8_fillHalves 8 = .ok (.iconst 1, 1) := by decide +kernel
theorem dX8_fillHalves_9 : decode cX8_fillHalves 9 = .ok (.iload_n 1, 1) := by decide +kernel
theorem dX8_fillHalves_10 : decode cX8_fillHalves 10 = .ok (.ishl, 1) := by decide +kernel
theorem dX8_fillHalves_11 : decode cX8_fillHalves 11 = .ok (.istore_n 2, 1) := by decide +kernel
theorem dX8_fillHalves_12 : decode cX8_fillHalves 12 = .ok (.iconst 0, 1) := by decide +kernel
theorem dX8_fillHalves_13 : decode cX8_fillHalves 13 = .ok (.istore_n 3, 1) := by decide +kernel
theorem dX8_fillHalves_14 : decode cX8_fillHalves 14 = .ok (.iload_n 3, 1) := by decide +kernel
theorem dX8_fillHalves_15 : decode cX8_fillHalves 15 = .ok (.iload_n 2, 1) := by decide +kernel
theorem dX8_fillHalves_16 : decode cX8_fillHalves 16 = .ok (.if_icmp .ge 54, 3) := by decide +kernel
theorem dX8_fillHalves_19 : decode cX8_fillHalves 19 = .ok (.aload_n 0, 1) := by decide +kernel
theorem dX8_fillHalves_20 : decode cX8_fillHalves 20 = .ok (.getfield 15, 3) := by decide +kernel
theorem dX8_fillHalves_23 : decode cX8_fillHalves 23 = .ok (.iload_n 2, 1) := by decide +kernel
theorem dX8_fillHalves_24 : decode cX8_fillHalves 24 = .ok (.iload_n 3, 1) := by decide +kernel
theorem dX8_fillHalves_25 : decode cX8_fillHalves 25 = .ok (.iadd, 1) := by decide +kernel
theorem dX8_fillHalves_26 : decode cX8_fillHalves 26 = .ok (.aload_n 0, 1) := by decide +kernel
theorem dX8_fillHalves_27 : decode cX8_fillHalves 27 = .ok (.getfield 15, 3) := by decide +kernel
theorem dX8_fillHalves_30 : decode cX8_fillHalves 30 = .ok (.iload_n 3, 1) := by decide +kernel
theorem dX8_fillHalves_31 : decode cX8_fillHalves 31 = .ok (.iaload, 1) := by decide +kernel
theorem dX8_fillHalves_32 : decode cX8_fillHalves 32 = .ok (.aload_n 0, 1) := by decide +kernel
theorem dX8_fillHalves_33 : decode cX8_fillHalves 33 = .ok (.getfield 9, 3) := by decide +kernel
theorem dX8_fillHalves_36 : decode cX8_fillHalves 36 = .ok (.iload_n 1, 1) := by decide +kernel
theorem dX8_fillHalves_37 : decode cX8_fillHalves 37 = .ok (.iaload, 1) := by decide +kernel
theorem dX8_fillHalves_38 : decode cX8_fillHalves 38 = .ok (.ior, 1) := by decide +kernel
theorem dX8_fillHalves_39 : decode cX8_fillHalves 39 = .ok (.iastore, 1) := by decide +kernel
theorem dX8_fillHalves_40 : decode cX8_fillHalves 40 = .ok (.aload_n 0, 1) := by decide +kernel
theorem dX8_fillHalves_41 : decode cX8_fillHalves 41 = .ok (.getfield 18, 3) := by decide +kernel
theorem dX8_fillHalves_44 : decode cX8_fillHalves 44 = .ok (.iload_n 2, 1) := by decide +kernel
theorem dX8_fillHalves_45 : decode cX8_fillHalves 45 = .ok (.iload_n 3, 1) := by decide +kernel
theorem dX8_fillHalves_46 : decode cX8_fillHalves 46 = .ok (.iadd, 1) := by decide +kernel
theorem dX8_fillHalves_47 : decode cX8_fillHalves 47 = .ok (.aload_n 0, 1) := by decide +kernel
theorem dX8_fillHalves_48 : decode cX8_fillHalves 48 = .ok (.getfield 18, 3) := by decide +kernel
theorem dX8_fillHalves_51 : decode cX8_fillHalves 51 = .ok (.iload_n 3, 1) := by decide +kernel
theorem dX8_fillHalves_52 : decode cX8_fillHalves 52 = .ok (.iaload, 1) := by decide +kernel
theorem dX8_fillHalves_53 : decode cX8_fillHalves 53 = .ok (.aload_n 0, 1) := by decide +kernel
theorem dX8_fillHalves_54 : decode cX8_fillHalves 54 = .ok (.getfield 9, 3) := by decide +kernel
theorem dX8_fillHalves_57 : decode cX8_fillHalves 57 = .ok (.iload_n 1, 1) := by decide +kernel
theorem dX8_fillHalves_58 : decode cX8_fillHalves 58 = .ok (.bipush 7, 2) := by decide +kernel
theorem dX8_fillHalves_60 : decode cX8_fillHalves 60 = .ok (.iadd, 1) := by decide +kernel
theorem dX8_fillHalves_61 : decode cX8_fillHalves 61 = .ok (.iaload, 1) := by decide +kernel
theorem dX8_fillHalves_62 : decode cX8_fillHalves 62 = .ok (.ior, 1) := by decide +kernel
theorem dX8_fillHalves_63 : decode cX8_fillHalves 63 = .ok (.iastore, 1) := by decide +kernel
theorem dX8_fillHalves_64 : decode cX8_fillHalves 64 = .ok (.iinc 3 1, 3) := by decide +kernel
theorem dX8_fillHalves_67 : decode cX8_fillHalves 67 = .ok (.goto (-53), 3) := by decide +kernel
theorem dX8_fillHalves_70 : decode cX8_fillHalves 70 = .ok (.iinc 1 1, 3) := by decide +kernel
theorem dX8_fillHalves_73 : decode cX8_fillHalves 73 = .ok (.goto (-71), 3) := by decide +kernel
theorem dX8_fillHalves_76 : decode cX8_fillHalves 76 = .ok (.return_, 1) := by decide +kernel
theorem dX8_of_0 : decode cX8_of 0 = .ok (.aload_n 0, 1) := by decide +kernel
theorem dX8_of_1 : decode cX8_of 1 = .ok (.getfield 15, 3) := by decide +kernel
theorem dX8_of_4 : decode cX8_of 4 = .ok (.iload_n 1, 1) := by decide +kernel
theorem dX8_of_5 : decode cX8_of 5 = .ok (.bipush 127, 2) := by decide +kernel
theorem dX8_of_7 : decode cX8_of 7 = .ok (.iand, 1) := by decide +kernel
theorem dX8_of_8 : decode cX8_of 8 = .ok (.iaload, 1) := by decide +kernel
theorem dX8_of_9 : decode cX8_of 9 = .ok (.aload_n 0, 1) := by decide +kernel
theorem dX8_of_10 : decode cX8_of 10 = .ok (.getfield 18, 3) := by decide +kernel
theorem dX8_of_13 : decode cX8_of 13 = .ok (.iload_n 1, 1) := by decide +kernel
theorem dX8_of_14 : decode cX8_of 14 = .ok (.bipush 7, 2) := by decide +kernel
theorem dX8_of_16 : decode cX8_of 16 = .ok (.ishr, 1) := by decide +kernel
theorem dX8_of_17 : decode cX8_of 17 = .ok (.bipush 127, 2) := by decide +kernel
theorem dX8_of_19 : decode cX8_of 19 = .ok (.iand, 1) := by decide +kernel
theorem dX8_of_20 : decode cX8_of 20 = .ok (.iaload, 1) := by decide +kernel
theorem dX8_of_21 : decode cX8_of 21 = .ok (.ior, 1) := by decide +kernel
theorem dX8_of_22 : decode cX8_of 22 = .ok (.ireturn, 1) := by decide +kernel
theorem dX9_init_0 : decode cX9_init 0 = .ok (.aload_n 0, 1) := by decide +kernel
theorem dX9_init_1 : decode cX9_init 1 = .ok (.invokespecial 3, 3) := by decide +kernel
theorem dX9_init_4 : decode cX9_init 4 = .ok (.aload_n 0, 1) := by decide +kernel
theorem dX9_init_5 : decode cX9_init 5 = .ok (.new 9, 3) := by decide +kernel
theorem dX9_init_8 : decode cX9_init 8 = .ok (.dup, 1) := by decide +kernel
theorem dX9_init_9 : decode cX9_init 9 = .ok (.invokespecial 11, 3) := by decide +kernel
theorem dX9_init_12 : decode cX9_init 12 = .ok (.putfield 12, 3) := by decide +kernel
theorem dX9_init_15 : decode cX9_init 15 = .ok (.aload_n 0, 1) := by decide +kernel
theorem dX9_init_16 : decode cX9_init 16 = .ok (.new 16, 3) := by decide +kernel
theorem dX9_init_19 : decode cX9_init 19 = .ok (.dup, 1) := by decide +kernel
theorem dX9_init_20 : decode cX9_init 20 = .ok (.invokespecial 18, 3) := by decide +kernel
theorem dX9_init_23 : decode cX9_init 23 = .ok (.putfield 19, 3) := by decide +kernel
theorem dX9_init_26 : decode cX9_init 26 = .ok (.aload_n 0, 1) := by decide +kernel
theorem dX9_init_27 : decode cX9_init 27 = .ok (.new 23, 3) := by decide +kernel
theorem dX9_init_30 : decode cX9_init 30 = .ok (.dup, 1) := by decide +kernel
theorem dX9_init_31 : decode cX9_init 31 = .ok (.invokespecial 25, 3) := by decide +kernel
theorem dX9_init_34 : decode cX9_init 34 = .ok (.putfield 26, 3) := by decide +kernel
theorem dX9_init_37 : decode cX9_init 37 = .ok (.aload_n 0, 1) := by decide +kernel
theorem dX9_init_38 : decode cX9_init 38 = .ok (.new 30, 3) := by decide +kernel
theorem dX9_init_41 : decode cX9_init 41 = .ok (.dup, 1) := by decide +kernel
theorem dX9_init_42 : decode cX9_init 42 = .ok (.invokespecial 32, 3) := by decide +kernel
theorem dX9_init_45 : decode cX9_init 45 = .ok (.putfield 33, 3) := by decide +kernel
theorem dX9_init_48 : decode cX9_init 48 = .ok (.aload_n 0, 1) := by decide +kernel
theorem dX9_init_49 : decode cX9_init 49 = .ok (.new 37, 3) := by decide +kernel
theorem dX9_init_52 : decode cX9_init 52 = .ok (.dup, 1) := by decide +kernel
theorem dX9_init_53 : decode cX9_init 53 = .ok (.invokespecial 39, 3) := by decide +kernel
theorem dX9_init_56 : decode cX9_init 56 = .ok (.putfield 40, 3) := by decide +kernel
theorem dX9_init_59 : decode cX9_init 59 = .ok (.aload_n 0, 1) := by decide +kernel
theorem dX9_init_60 : decode cX9_init 60 = .ok (.new 44, 3) := by decide +kernel
theorem dX9_init_63 : decode cX9_init 63 = .ok (.dup, 1) := by decide +kernel
theorem dX9_init_64 : decode cX9_init 64 = .ok (.invokespecial 46, 3) := by decide +kernel
theorem dX9_init_67 : decode cX9_init 67 = .ok (.putfield 47, 3) := by decide +kernel
theorem dX9_init_70 : decode cX9_init 70 = .ok (.return_, 1) := by decide +kernel
theorem dX9_addFact_0 : decode cX9_addFact 0 = .ok (.iload_n 1, 1) := by decide +kernel
theorem dX9_addFact_1 : decode cX9_addFact 1 = .ok (.invokestatic 51, 3) := by decide +kernel
theorem dX9_addFact_4 : decode cX9_addFact 4 = .ok (.aload_n 0, 1) := by decide +kernel
theorem dX9_addFact_5 : decode cX9_addFact 5 = .ok (.getfield 12, 3) := by decide +kernel
theorem dX9_addFact_8 : decode cX9_addFact 8 = .ok (.iload_n 1, 1) := by decide +kernel
theorem dX9_addFact_9 : decode cX9_addFact 9 = .ok (.invokevirtual 55, 3) := by decide +kernel
theorem dX9_addFact_12 : decode cX9_addFact 12 = .ok (.ifCond .ne 15, 3) := by decide +kernel
theorem dX9_addFact_15 : decode cX9_addFact 15 = .ok (.aload_n 0, 1) := by decide +kernel
theorem dX9_addFact_16 : decode cX9_addFact 16 = .ok (.getfield 12, 3) := by decide +kernel
theorem dX9_addFact_19 : decode cX9_addFact 19 = .ok (.iload_n 1, 1) := by decide +kernel
theorem dX9_addFact_20 : decode cX9_addFact 20 = .ok (.ineg, 1) := by decide +kernel
theorem dX9_addFact_21 : decode cX9_addFact 21 = .ok (.invokevirtual 55, 3) := by decide +kernel
theorem dX9_addFact_24 : decode cX9_addFact 24 = .ok (.ifCond .eq 13, 3) := by decide +kernel
theorem dX9_addFact_27 : decode cX9_addFact 27 = .ok (.new 59, 3) := by decide +kernel
theorem dX9_addFact_30 : decode cX9_addFact 30 = .ok (.dup, 1) := by decide +kernel
theorem dX9_addFact_31 : decode cX9_addFact 31 = .ok (.ldc 61, 2) := by decide +kernel
theorem dX9_addFact_33 : decode cX9_addFact 33 = .ok (.invokespecial 63, 3) := by decide +kernel
theorem dX9_addFact_36 : decode cX9_addFact 36 = .ok (.athrow, 1) := by decide +kernel
theorem dX9_addFact_37 : decode cX9_addFact 37 = .ok (.aload_n 0, 1) := by decide +kernel
theorem dX9_addFact_38 : decode cX9_addFact 38 = .ok (.getfield 12, 3) := by decide +kernel
theorem dX9_addFact_41 : decode cX9_addFact 41 = .ok (.iload_n 1, 1) := by decide +kernel
theorem dX9_addFact_42 : decode cX9_addFact 42 = .ok (.invokevirtual 66, 3) := by decide +kernel
theorem dX9_addFact_45 : decode cX9_addFact 45 = .ok (.aload_n 0, 1) := by decide +kernel
theorem dX9_addFact_46 : decode cX9_addFact 46 = .ok (.invokevirtual 69, 3) := by decide +kernel
theorem dX9_addFact_49 : decode cX9_addFact 49 = .ok (.aload_n 0, 1) := by decide +kernel
theorem dX9_addFact_50 : decode cX9_addFact 50 = .ok (.getfield 12, 3) := by decide +kernel
theorem dX9_addFact_53 : decode cX9_addFact 53 = .ok (.getfield 72, 3) := by decide +kernel
theorem dX9_addFact_56 : decode cX9_addFact 56 = .ok (.ireturn, 1) := by decide +kernel
theorem dX9_takeBack_0 : decode cX9_takeBack 0 = .ok (.iload_n 1, 1) := by decide +kernel
theorem dX9_takeBack_1 : decode cX9_takeBack 1 = .ok (.invokestatic 51, 3) := by decide +kernel
theorem dX9_takeBack_4 : decode cX9_takeBack 4 = .ok (.aload_n 0, 1) := by decide +kernel
theorem dX9_takeBack_5 : decode cX9_takeBack 5 = .ok (.getfield 12, 3) := by decide +kernel
theorem dX9_takeBack_8 : decode cX9_takeBack 8 = .ok (.iload_n 1, 1) := by decide +kernel
theorem dX9_takeBack_9 : decode cX9_takeBack 9 = .ok (.invokevirtual 55, 3) := by decide +kernel
theorem dX9_takeBack_12 : decode cX9_takeBack 12 = .ok (.ifCond .ne 5, 3) := by decide +kernel
theorem dX9_takeBack_15 : decode cX9_takeBack 15 = .ok (.iconst 0, 1) := by decide +kernel
theorem dX9_takeBack_16 : decode cX9_takeBack 16 = .ok (.ireturn, 1) := by decide +kernel
theorem dX9_takeBack_17 : decode cX9_takeBack 17 = .ok (.aload_n 0, 1) := by decide +kernel
theorem dX9_takeBack_18 : decode cX9_takeBack 18 = .ok (.getfield 12, 3) := by decide +kernel
theorem dX9_takeBack_21 : decode cX9_takeBack 21 = .ok (.iload_n 1, 1) := by decide +kernel
theorem dX9_takeBack_22 : decode cX9_takeBack 22 = .ok (.invokevirtual 76, 3) := by decide +kernel
theorem dX9_takeBack_25 : decode cX9_takeBack 25 = .ok (.aload_n 0, 1) := by decide +kernel
theorem dX9_takeBack_26 : decode cX9_takeBack 26 = .ok (.invokevirtual 69, 3) := by decide +kernel
theorem dX9_takeBack_29 : decode cX9_takeBack 29 = .ok (.iconst 1, 1) := by decide +kernel
theorem dX9_takeBack_30 : decode cX9_takeBack 30 = .ok (.ireturn, 1) := by decide +kernel
theorem dX9_addRule_0 : decode cX9_addRule 0 = .ok (.iload_n 1, 1) := by decide +kernel
theorem dX9_addRule_1 : decode cX9_addRule 1 = .ok (.invokestatic 51, 3) := by decide +kernel
theorem dX9_addRule_4 : decode cX9_addRule 4 = .ok (.iload_n 2, 1) := by decide +kernel
theorem dX9_addRule_5 : decode cX9_addRule 5 = .ok (.invokestatic 79, 3) := by decide +kernel
theorem dX9_addRule_8 : decode cX9_addRule 8 = .ok (.iload_n 3, 1) := by decide +kernel
theorem dX9_addRule_9 : decode cX9_addRule 9 = .ok (.invokestatic 79, 3) := by decide +kernel
theorem dX9_addRule_12 : decode cX9_addRule 12 = .ok (.iload 4, 2) := by decide +kernel
theorem dX9_addRule_14 : decode cX9_addRule 14 = .ok (.invokestatic 79, 3) := by decide +kernel
theorem dX9_addRule_17 : decode cX9_addRule 17 = .ok (.iload 5, 2) := by decide +kernel
theorem dX9_addRule_19 : decode cX9_addRule 19 = .ok (.invokestatic 82, 3) := by decide +kernel
theorem dX9_addRule_22 : decode cX9_addRule 22 = .ok (.iload_n 3, 1) := by decide +kernel
theorem dX9_addRule_23 : decode cX9_addRule 23 = .ok (.iload_n 2, 1) := by decide +kernel
theorem dX9_addRule_24 : decode cX9_addRule 24 = .ok (.invokestatic 85, 3) := by decide +kernel
theorem dX9_addRule_27 : decode cX9_addRule 27 = .ok (.ifCond .eq 12, 3) := by decide +kernel
theorem dX9_addRule_30 : decode cX9_addRule 30 = .ok (.iload 4, 2) := by decide +kernel
theorem dX9_addRule_32 : decode cX9_addRule 32 = .ok (.iload_n 3, 1) := by decide +kernel
theorem dX9_addRule_33 : decode cX9_addRule 33 = .ok (.invokestatic 85, 3) := by decide +kernel
theorem dX9_addRule_36 : decode cX9_addRule 36 = .ok (.ifCond .ne 13, 3) := by decide +kernel
theorem dX9_addRule_39 : decode cX9_addRule 39 = .ok (.new 89, 3) := by decide +kernel
theorem dX9_addRule_42 : decode cX9_addRule 42 = .ok (.dup, 1) := by decide +kernel
theorem dX9_addRule_43 : decode cX9_addRule 43 = .ok (.ldc 91, 2) := by decide +kernel
theorem dX9_addRule_45 : decode cX9_addRule 45 = .ok (.invokespecial 93, 3) := by decide +kernel
theorem dX9_addRule_48 : decode cX9_addRule 48 = .ok (.athrow, 1) := by decide +kernel
theorem dX9_addRule_49 : decode cX9_addRule 49 = .ok (.iload 4, 2) := by decide +kernel
theorem dX9_addRule_51 : decode cX9_addRule 51 = .ok (.ifCond .eq 19, 3) := by decide +kernel
theorem dX9_addRule_54 : decode cX9_addRule 54 = .ok (.iload 4, 2) := by decide +kernel
theorem dX9_addRule_56 : decode cX9_addRule 56 = .ok (.iload_n 2, 1) := by decide +kernel
theorem dX9_addRule_57 : decode cX9_addRule 57 = .ok (.if_icmp .ne 13, 3) := by decide +kernel
theorem dX9_addRule_60 : decode cX9_addRule 60 = .ok (.new 89, 3) := by decide +kernel
theorem dX9_addRule_63 : decode cX9_addRule 63 = .ok (.dup, 1) := by decide +kernel
theorem dX9_addRule_64 : decode cX9_addRule 64 = .ok (.ldc 94, 2) := by decide +kernel
theorem dX9_addRule_66 : decode cX9_addRule 66 = .ok (.invokespecial 93, 3) := by decide +kernel
theorem dX9_addRule_69 : decode cX9_addRule 69 = .ok (.athrow, 1) := by decide +kernel
theorem dX9_addRule_70 : decode cX9_addRule 70 = .ok (.aload_n 0, 1) := by decide +kernel
theorem dX9_addRule_71 : decode cX9_addRule 71 = .ok (.getfield 19, 3) := by decide +kernel
theorem dX9_addRule_74 : decode cX9_addRule 74 = .ok (.invokevirtual 96, 3) := by decide +kernel
theorem dX9_addRule_77 : decode cX9_addRule 77 = .ok (.bipush 12, 2) := by decide +kernel
theorem dX9_addRule_79 : decode cX9_addRule 79 = .ok (.if_icmp .lt 13, 3) := by decide +kernel
theorem dX9_addRule_82 : decode cX9_addRule 82 = .ok (.new 59, 3) := by decide +kernel
theorem dX9_addRule_85 : decode cX9_addRule 85 = .ok (.dup, 1) := by decide +kernel
theorem dX9_addRule_86 : decode cX9_addRule 86 = .ok (.ldc 100, 2) := by decide +kernel
theorem dX9_addRule_88 : decode cX9_addRule 88 = .ok (.invokespecial 63, 3) := by decide +kernel
theorem dX9_addRule_91 : decode cX9_addRule 91 = .ok (.athrow, 1) := by decide +kernel
theorem dX9_addRule_92 : decode cX9_addRule 92 = .ok (.aload_n 0, 1) := by decide +kernel
theorem dX9_addRule_93 : decode cX9_addRule 93 = .ok (.getfield 19, 3) := by decide +kernel
theorem dX9_addRule_96 : decode cX9_addRule 96 = .ok (.new 102, 3) := by decide +kernel
theorem dX9_addRule_99 : decode cX9_addRule 99 = .ok (.dup, 1) := by decide +kernel
theorem dX9_addRule_100 : decode cX9_addRule 100 = .ok (.iload_n 1, 1) := by decide +kernel
theorem dX9_addRule_101 : decode cX9_addRule 101 = .ok (.iload_n 2, 1) := by decide +kernel
theorem dX9_addRule_102 : decode cX9_addRule 102 = .ok (.iload_n 3, 1) := by decide +kernel
theorem dX9_addRule_103 : decode cX9_addRule 103 = .ok (.iload 4, 2) := by decide +kernel
theorem dX9_addRule_105 : decode cX9_addRule 105 = .ok (.iload 5, 2) := by decide +kernel
theorem dX9_addRule_107 : decode cX9_addRule 107 = .ok (.invokespecial 104, 3) := by decide +kernel
theorem dX9_addRule_110 : decode cX9_addRule 110 = .ok (.invokevirtual 107, 3) := by decide +kernel
theorem dX9_addRule_113 : decode cX9_addRule 113 = .ok (.aload_n 0, 1) := by decide +kernel
theorem dX9_addRule_114 : decode cX9_addRule 114 = .ok (.invokevirtual 69, 3) := by decide +kernel
theorem dX9_addRule_117 : decode cX9_addRule 117 = .ok (.aload_n 0, 1) := by decide +kernel
theorem dX9_addRule_118 : decode cX9_addRule 118 = .ok (.getfield 19, 3) := by decide +kernel
theorem dX9_addRule_121 : decode cX9_addRule 121 = .ok (.invokevirtual 96, 3) := by decide +kernel
theorem dX9_addRule_124 : decode cX9_addRule 124 = .ok (.iconst 1, 1) := by decide +kernel
theorem dX9_addRule_125 : decode cX9_addRule 125 = .ok (.isub, 1) := by decide +kernel
theorem dX9_addRule_126 : decode cX9_addRule 126 = .ok (.ireturn, 1) := by decide +kernel
theorem dX9_setPriority_0 : decode cX9_setPriority 0 = .ok (.aload_n 0, 1) := by decide +kernel
theorem dX9_setPriority_1 : decode cX9_setPriority 1 = .ok (.iload_n 1, 1) := by decide +kernel
theorem dX9_setPriority_2 : decode cX9_setPriority 2 = .ok (.invokevirtual 110, 3) := by decide +kernel
theorem dX9_setPriority_5 : decode cX9_setPriority 5 = .ok (.iload_n 2, 1) := by decide +kernel
theorem dX9_setPriority_6 : decode cX9_setPriority 6 = .ok (.invokestatic 82, 3) := by decide +kernel
theorem dX9_setPriority_9 : decode cX9_setPriority 9 = .ok (.aload_n 0, 1) := by decide +kernel
theorem dX9_setPriority_10 : decode cX9_setPriority 10 = .ok (.getfield 19, 3) := by decide +kernel
theorem dX9_setPriority_13 : decode cX9_setPriority 13 = .ok (.iload_n 1, 1) := by decide +kernel
theorem dX9_setPriority_14 : decode cX9_setPriority 14 = .ok (.invokevirtual 113, 3) := by decide +kernel
theorem dX9_setPriority_17 : decode cX9_setPriority 17 = .ok (.astore_n 3, 1) := by decide +kernel
theorem dX9_setPriority_18 : decode cX9_setPriority 18 = .ok (.aload_n 3, 1) := by decide +kernel
theorem dX9_setPriority_19 : decode cX9_setPriority 19 = .ok (.getfield 117, 3) := by decide +kernel
theorem dX9_setPriority_22 : decode cX9_setPriority 22 = .ok (.istore 4, 2) := by decide +kernel
theorem dX9_setPriority_24 : decode cX9_setPriority 24 = .ok (.aload_n 3, 1) := by decide +kernel
theorem dX9_setPriority_25 : decode cX9_setPriority 25 = .ok (.iload_n 2, 1) := by decide +kernel
theorem dX9_setPriority_26 : decode cX9_setPriority 26 = .ok (.putfield 117, 3) := by decide +kernel
theorem dX9_setPriority_29 : decode cX9_setPriority 29 = .ok (.aload_n 0, 1) := by decide +kernel
theorem dX9_setPriority_30 : decode cX9_setPriority 30 = .ok (.invokevirtual 69, 3) := by decide +kernel
theorem dX9_setPriority_33 : decode cX9_setPriority 33 = .ok (.iload 4, 2) := by decide +kernel
theorem dX9_setPriority_35 : decode cX9_setPriority 35 = .ok (.ireturn, 1) := by decide +kernel
theorem dX9_setException_0 : decode cX9_setException 0 = .ok (.aload_n 0, 1) := by decide +kernel
theorem dX9_setException_1 : decode cX9_setException 1 = .ok (.iload_n 1, 1) := by decide +kernel
theorem dX9_setException_2 : decode cX9_setException 2 = .ok (.invokevirtual 110, 3) := by decide +kernel
theorem dX9_setException_5 : decode cX9_setException 5 = .ok (.iload_n 2, 1) := by decide +kernel
theorem dX9_setException_6 : decode cX9_setException 6 = .ok (.invokestatic 79, 3) := by decide +kernel
theorem dX9_setException_9 : decode cX9_setException 9 = .ok (.aload_n 0, 1) := by decide +kernel
theorem dX9_setException_10 : decode cX9_setException 10 = .ok (.getfield 19, 3) := by decide +kernel
theorem dX9_setException_13 : decode cX9_setException 13 = .ok (.iload_n 1, 1) := by decide +kernel
theorem dX9_setException_14 : decode cX9_setException 14 = .ok (.invokevirtual 113, 3) := by decide +kernel
theorem dX9_setException_17 : decode cX9_setException 17 = .ok (.astore_n 3, 1) := by decide +kernel
theorem dX9_setException_18 : decode cX9_setException 18 = .ok (.aload_n 3, 1) := by decide +kernel
theorem dX9_setException_19 : decode cX9_setException 19 = .ok (.getfield 120, 3) := by decide +kernel
theorem dX9_setException_22 : decode cX9_setException 22 = .ok (.istore 4, 2) := by decide +kernel
theorem dX9_setException_24 : decode cX9_setException 24 = .ok (.aload_n 3, 1) := by decide +kernel
theorem dX9_setException_25 : decode cX9_setException 25 = .ok (.iload_n 2, 1) := by decide +kernel
theorem dX9_setException_26 : decode cX9_setException 26 = .ok (.putfield 120, 3) := by decide +kernel
theorem dX9_setException_29 : decode cX9_setException 29 = .ok (.aload_n 0, 1) := by decide +kernel
theorem dX9_setException_30 : decode cX9_setException 30 = .ok (.invokevirtual 69, 3) := by decide +kernel
theorem dX9_setException_33 : decode cX9_setException 33 = .ok (.iload 4, 2) := by decide +kernel
theorem dX9_setException_35 : decode cX9_setException 35 = .ok (.ireturn, 1) := by decide +kernel
theorem dX9_turn_0 : decode cX9_turn 0 = .ok (.aload_n 0, 1) := by decide +kernel
theorem dX9_turn_1 : decode cX9_turn 1 = .ok (.iload_n 1, 1) := by decide +kernel
theorem dX9_turn_2 : decode cX9_turn 2 = .ok (.invokevirtual 110, 3) := by decide +kernel
theorem dX9_turn_5 : decode cX9_turn 5 = .ok (.aload_n 0, 1) := by decide +kernel
theorem dX9_turn_6 : decode cX9_turn 6 = .ok (.getfield 19, 3) := by decide +kernel
theorem dX9_turn_9 : decode cX9_turn 9 = .ok (.iload_n 1, 1) := by decide +kernel
theorem dX9_turn_10 : decode cX9_turn 10 = .ok (.invokevirtual 113, 3) := by decide +kernel
theorem dX9_turn_13 : decode cX9_turn 13 = .ok (.astore_n 3, 1) := by decide +kernel
theorem dX9_turn_14 : decode cX9_turn 14 = .ok (.aload_n 3, 1) := by decide +kernel
theorem dX9_turn_15 : decode cX9_turn 15 = .ok (.getfield 123, 3) := by decide +kernel
theorem dX9_turn_18 : decode cX9_turn 18 = .ok (.istore 4, 2) := by decide +kernel
theorem dX9_turn_20 : decode cX9_turn 20 = .ok (.aload_n 3, 1) := by decide +kernel
theorem dX9_turn_21 : decode cX9_turn 21 = .ok (.iload_n 2, 1) := by decide +kernel
theorem dX9_turn_22 : decode cX9_turn 22 = .ok (.putfield 123, 3) := by decide +kernel
theorem dX9_turn_25 : decode cX9_turn 25 = .ok (.aload_n 0, 1) := by decide +kernel
theorem dX9_turn_26 : decode cX9_turn 26 = .ok (.invokevirtual 69, 3) := by decide +kernel
theorem dX9_turn_29 : decode cX9_turn 29 = .ok (.iload 4, 2) := by decide +kernel
theorem dX9_turn_31 : decode cX9_turn 31 = .ok (.ireturn, 1) := by decide +kernel
theorem dX9_facts_0 : decode cX9_facts 0 = .ok (.aload_n 0, 1) := by decide +kernel
theorem dX9_facts_1 : decode cX9_facts 1 = .ok (.getfield 12, 3) := by decide +kernel
theorem dX9_facts_4 : decode cX9_facts 4 = .ok (.getfield 72, 3) := by decide +kernel
theorem dX9_facts_7 : decode cX9_facts 7 = .ok (.ireturn, 1) := by decide +kernel
theorem dX9_rules_0 : decode cX9_rules 0 = .ok (.aload_n 0, 1) := by decide +kernel
theorem dX9_rules_1 : decode cX9_rules 1 = .ok (.getfield 19, 3) := by decide +kernel
theorem dX9_rules_4 : decode cX9_rules 4 = .ok (.invokevirtual 96, 3) := by decide +kernel
theorem dX9_rules_7 : decode cX9_rules 7 = .ok (.ireturn, 1) := by decide +kernel
theorem dX9_arguments_0 : decode cX9_arguments 0 = .ok (.aload_n 0, 1) := by decide +kernel
theorem dX9_arguments_1 : decode cX9_arguments 1 = .ok (.invokevirtual 127, 3) := by decide +kernel
theorem dX9_arguments_4 : decode cX9_arguments 4 = .ok (.aload_n 0, 1) := by decide +kernel
theorem dX9_arguments_5 : decode cX9_arguments 5 = .ok (.getfield 26, 3) := by decide +kernel
theorem dX9_arguments_8 : decode cX9_arguments 8 = .ok (.getfield 130, 3) := by decide +kernel
theorem dX9_arguments_11 : decode cX9_arguments 11 = .ok (.ifCond .eq 7, 3) := by decide +kernel
theorem dX9_arguments_14 : decode cX9_arguments 14 = .ok (.iconst (-1), 1) := by decide +kernel
theorem dX9_arguments_15 : decode cX9_arguments 15 = .ok (.goto 10, 3) := by decide +kernel
theorem dX9_arguments_18 : decode cX9_arguments 18 = .ok (.aload_n 0, 1) := by decide +kernel
theorem dX9_arguments_19 : decode cX9_arguments 19 = .ok (.getfield 26, 3) := by decide +kernel
theorem dX9_arguments_22 : decode cX9_arguments 22 = .ok (.getfield 133, 3) := by decide +kernel
theorem dX9_arguments_25 : decode cX9_arguments 25 = .ok (.ireturn, 1) := by decide +kernel
theorem dX9_conclusion_0 : decode cX9_conclusion 0 = .ok (.aload_n 0, 1) := by decide +kernel
theorem dX9_conclusion_1 : decode cX9_conclusion 1 = .ok (.invokevirtual 134, 3) := by decide +kernel
theorem dX9_conclusion_4 : decode cX9_conclusion 4 = .ok (.aload_n 0, 1) := by decide +kernel
theorem dX9_conclusion_5 : decode cX9_conclusion 5 = .ok (.iload_n 1, 1) := by decide +kernel
theorem dX9_conclusion_6 : decode cX9_conclusion 6 = .ok (.invokevirtual 137, 3) := by decide +kernel
theorem dX9_conclusion_9 : decode cX9_conclusion 9 = .ok (.aload_n 0, 1) := by decide +kernel
theorem dX9_conclusion_10 : decode cX9_conclusion 10 = .ok (.getfield 26, 3) := by decide +kernel
theorem dX9_conclusion_13 : decode cX9_conclusion 13 = .ok (.iload_n 1, 1) := by decide +kernel
theorem dX9_conclusion_14 : decode cX9_conclusion 14 = .ok (.invokevirtual 140, 3) := by decide +kernel
theorem dX9_conclusion_17 : decode cX9_conclusion 17 = .ok (.ireturn, 1) := by decide +kernel
theorem dX9_madeBy_0 : decode cX9_madeBy 0 = .ok (.aload_n 0, 1) := by decide +kernel
theorem dX9_madeBy_1 : decode cX9_madeBy 1 = .ok (.invokevirtual 134, 3) := by decide +kernel
theorem dX9_madeBy_4 : decode cX9_madeBy 4 = .ok (.aload_n 0, 1) := by decide +kernel
theorem dX9_madeBy_5 : decode cX9_madeBy 5 = .ok (.iload_n 1, 1) := by decide +kernel
theorem dX9_madeBy_6 : decode cX9_madeBy 6 = .ok (.invokevirtual 137, 3) := by decide +kernel
theorem dX9_madeBy_9 : decode cX9_madeBy 9 = .ok (.aload_n 0, 1) := by decide +kernel
theorem dX9_madeBy_10 : decode cX9_madeBy 10 = .ok (.getfield 26, 3) := by decide +kernel
theorem dX9_madeBy_13 : decode cX9_madeBy 13 = .ok (.iload_n 1, 1) := by decide +kernel
theorem dX9_madeBy_14 : decode cX9_madeBy 14 = .ok (.invokevirtual 144, 3) := by decide +kernel
theorem dX9_madeBy_17 : decode cX9_madeBy 17 = .ok (.ireturn, 1) := by decide +kernel
theorem dX9_part_0 : decode cX9_part 0 = .ok (.aload_n 0, 1) := by decide +kernel
theorem dX9_part_1 : decode cX9_part 1 = .ok (.invokevirtual 134, 3) := by decide +kernel
theorem dX9_part_4 : decode cX9_part 4 = .ok (.aload_n 0, 1) := by decide +kernel
theorem dX9_part_5 : decode cX9_part 5 = .ok (.iload_n 1, 1) := by decide +kernel
theorem dX9_part_6 : decode cX9_part 6 = .ok (.invokevirtual 137, 3) := by decide +kernel
theorem dX9_part_9 : decode cX9_part 9 = .ok (.aload_n 0, 1) := by decide +kernel
theorem dX9_part_10 : decode cX9_part 10 = .ok (.getfield 26, 3) := by decide +kernel
theorem dX9_part_13 : decode cX9_part 13 = .ok (.iload_n 1, 1) := by decide +kernel
theorem dX9_part_14 : decode cX9_part 14 = .ok (.iload_n 2, 1) := by decide +kernel
theorem dX9_part_15 : decode cX9_part 15 = .ok (.invokevirtual 147, 3) := by decide +kernel
theorem dX9_part_18 : decode cX9_part 18 = .ok (.istore_n 3, 1) := by decide +kernel
theorem dX9_part_19 : decode cX9_part 19 = .ok (.iload_n 3, 1) := by decide +kernel
theorem dX9_part_20 : decode cX9_part 20 = .ok (.iconst (-1), 1) := by decide +kernel
theorem dX9_part_21 : decode cX9_part 21 = .ok (.if_icmp .ne 13, 3) := by decide +kernel
theorem dX9_part_24 : decode cX9_part 24 = .ok (.new 151, 3) := by decide +kernel
theorem dX9_part_27 : decode cX9_part 27 = .ok (.dup, 1) := by decide +kernel
theorem dX9_part_28 : decode cX9_part 28 = .ok (.ldc 153, 2) := by decide +kernel
theorem dX9_part_30 : decode cX9_part 30 = .ok (.invokespecial 155, 3) := by decide +kernel
theorem dX9_part_33 : decode cX9_part 33 = .ok (.athrow, 1) := by decide +kernel
theorem dX9_part_34 : decode cX9_part 34 = .ok (.iload_n 3, 1) := by decide +kernel
theorem dX9_part_35 : decode cX9_part 35 = .ok (.ireturn, 1) := by decide +kernel
theorem dX9_depth_0 : decode cX9_depth 0 = .ok (.aload_n 0, 1) := by decide +kernel
theorem dX9_depth_1 : decode cX9_depth 1 = .ok (.invokevirtual 134, 3) := by decide +kernel
theorem dX9_depth_4 : decode cX9_depth 4 = .ok (.aload_n 0, 1) := by decide +kernel
theorem dX9_depth_5 : decode cX9_depth 5 = .ok (.iload_n 1, 1) := by decide +kernel
theorem dX9_depth_6 : decode cX9_depth 6 = .ok (.invokevirtual 137, 3) := by decide +kernel
theorem dX9_depth_9 : decode cX9_depth 9 = .ok (.aload_n 0, 1) := by decide +kernel
theorem dX9_depth_10 : decode cX9_depth 10 = .ok (.getfield 26, 3) := by decide +kernel
theorem dX9_depth_13 : decode cX9_depth 13 = .ok (.iload_n 1, 1) := by decide +kernel
theorem dX9_depth_14 : decode cX9_depth 14 = .ok (.invokevirtual 156, 3) := by decide +kernel
theorem dX9_depth_17 : decode cX9_depth 17 = .ok (.ireturn, 1) := by decide +kernel
theorem dX9_attacks_0 : decode cX9_attacks 0 = .ok (.aload_n 0, 1) := by decide +kernel
theorem dX9_attacks_1 : decode cX9_attacks 1 = .ok (.invokevirtual 134, 3) := by decide +kernel
theorem dX9_attacks_4 : decode cX9_attacks 4 = .ok (.aload_n 0, 1) := by decide +kernel
theorem dX9_attacks_5 : decode cX9_attacks 5 = .ok (.iload_n 1, 1) := by decide +kernel
theorem dX9_attacks_6 : decode cX9_attacks 6 = .ok (.invokevirtual 137, 3) := by decide +kernel
theorem dX9_attacks_9 : decode cX9_attacks 9 = .ok (.aload_n 0, 1) := by decide +kernel
theorem dX9_attacks_10 : decode cX9_attacks 10 = .ok (.iload_n 2, 1) := by decide +kernel
theorem dX9_attacks_11 : decode cX9_attacks 11 = .ok (.invokevirtual 137, 3) := by decide +kernel
theorem dX9_attacks_14 : decode cX9_attacks 14 = .ok (.aload_n 0, 1) := by decide +kernel
theorem dX9_attacks_15 : decode cX9_attacks 15 = .ok (.getfield 33, 3) := by decide +kernel
theorem dX9_attacks_18 : decode cX9_attacks 18 = .ok (.iload_n 1, 1) := by decide +kernel
theorem dX9_attacks_19 : decode cX9_attacks 19 = .ok (.iload_n 2, 1) := by decide +kernel
theorem dX9_attacks_20 : decode cX9_attacks 20 = .ok (.invokevirtual 159, 3) := by decide +kernel
theorem dX9_attacks_23 : decode cX9_attacks 23 = .ok (.ireturn, 1) := by decide +kernel
theorem dX9_label_0 : decode cX9_label 0 = .ok (.aload_n 0, 1) := by decide +kernel
theorem dX9_label_1 : decode cX9_label 1 = .ok (.invokevirtual 134, 3) := by decide +kernel
theorem dX9_label_4 : decode cX9_label 4 = .ok (.aload_n 0, 1) := by decide +kernel
theorem dX9_label_5 : decode cX9_label 5 = .ok (.iload_n 1, 1) := by decide +kernel
theorem dX9_label_6 : decode cX9_label 6 = .ok (.invokevirtual 137, 3) := by decide +kernel
theorem dX9_label_9 : decode cX9_label 9 = .ok (.aload_n 0, 1) := by decide +kernel
theorem dX9_label_10 : decode cX9_label 10 = .ok (.getfield 40, 3) := by decide +kernel
theorem dX9_label_13 : decode cX9_label 13 = .ok (.iload_n 1, 1) := by decide +kernel
theorem dX9_label_14 : decode cX9_label 14 = .ok (.invokevirtual 162, 3) := by decide +kernel
theorem dX9_label_17 : decode cX9_label 17 = .ok (.ireturn, 1) := by decide +kernel
theorem dX9_round_0 : decode cX9_round 0 = .ok (.aload_n 0, 1) := by decide +kernel
theorem dX9_round_1 : decode cX9_round 1 = .ok (.invokevirtual 134, 3) := by decide +kernel
theorem dX9_round_4 : decode cX9_round 4 = .ok (.aload_n 0, 1) := by decide +kernel
theorem dX9_round_5 : decode cX9_round 5 = .ok (.iload_n 1, 1) := by decide +kernel
theorem dX9_round_6 : decode cX9_round 6 = .ok (.invokevirtual 137, 3) := by decide +kernel
theorem dX9_round_9 : decode cX9_round 9 = .ok (.aload_n 0, 1) := by decide +kernel
theorem dX9_round_10 : decode cX9_round 10 = .ok (.getfield 40, 3) := by decide +kernel
theorem dX9_round_13 : decode cX9_round 13 = .ok (.iload_n 1, 1) := by decide +kernel
theorem dX9_round_14 : decode cX9_round 14 = .ok (.invokevirtual 165, 3) := by decide +kernel
theorem dX9_round_17 : decode cX9_round 17 = .ok (.ireturn, 1) := by decide +kernel
theorem dX9_holds_0 : decode cX9_holds 0 = .ok (.iload_n 1, 1) := by decide +kernel
theorem dX9_holds_1 : decode cX9_holds 1 = .ok (.invokestatic 51, 3) := by decide +kernel
theorem dX9_holds_4 : decode cX9_holds 4 = .ok (.aload_n 0, 1) := by decide +kernel
theorem dX9_holds_5 : decode cX9_holds 5 = .ok (.invokevirtual 134, 3) := by decide +kernel
theorem dX9_holds_8 : decode cX9_holds 8 = .ok (.iconst 0, 1) := by decide +kernel
theorem dX9_holds_9 : decode cX9_holds 9 = .ok (.istore_n 2, 1) := by decide +kernel
theorem dX9_holds_10 : decode cX9_holds 10 = .ok (.iconst 0, 1) := by decide +kernel
theorem dX9_holds_11 : decode cX9_holds 11 = .ok (.istore_n 3, 1) := by decide +kernel
theorem dX9_holds_12 : decode cX9_holds 12 = .ok (.iload_n 3, 1) := by decide +kernel
theorem dX9_holds_13 : decode cX9_holds 13 = .ok (.aload_n 0, 1) := by decide +kernel
theorem dX9_holds_14 : decode cX9_holds 14 = .ok (.getfield 26, 3) := by decide +kernel
theorem dX9_holds_17 : decode cX9_holds 17 = .ok (.getfield 133, 3) := by decide +kernel
theorem dX9_holds_20 : decode cX9_holds 20 = .ok (.if_icmp .ge 34, 3) := by decide +kernel
theorem dX9_holds_23 : decode cX9_holds 23 = .ok (.aload_n 0, 1) := by decide +kernel
theorem dX9_holds_24 : decode cX9_holds 24 = .ok (.getfield 26, 3) := by decide +kernel
theorem dX9_holds_27 : decode cX9_holds 27 = .ok (.iload_n 3, 1) := by decide +kernel
theorem dX9_holds_28 : decode cX9_holds 28 = .ok (.invokevirtual 140, 3) := by decide +kernel
theorem dX9_holds_31 : decode cX9_holds 31 = .ok (.iload_n 1, 1) := by decide +kernel
theorem dX9_holds_32 : decode cX9_holds 32 = .ok (.if_icmp .ne 16, 3) := by decide +kernel
theorem dX9_holds_35 : decode cX9_holds 35 = .ok (.iload_n 2, 1) := by decide +kernel
theorem dX9_holds_36 : decode cX9_holds 36 = .ok (.aload_n 0, 1) := by decide +kernel
theorem dX9_holds_37 : decode cX9_holds 37 = .ok (.getfield 40, 3) := by decide +kernel
theorem dX9_holds_40 : decode cX9_holds 40 = .ok (.iload_n 3, 1) := by decide +kernel
theorem dX9_holds_41 : decode cX9_holds 41 = .ok (.invokevirtual 162, 3) := by decide +kernel
theorem dX9_holds_44 : decode cX9_holds 44 = .ok (.invokestatic 168, 3) := by decide +kernel
theorem dX9_holds_47 : decode cX9_holds 47 = .ok (.istore_n 2, 1) := by decide +kernel
theorem dX9_holds_48 : decode cX9_holds 48 = .ok (.iinc 3 1, 3) := by decide +kernel
theorem dX9_holds_51 : decode cX9_holds 51 = .ok (.goto (-39), 3) := by decide +kernel
theorem dX9_holds_54 : decode cX9_holds 54 = .ok (.iload_n 2, 1) := by decide +kernel
theorem dX9_holds_55 : decode cX9_holds 55 = .ok (.ireturn, 1) := by decide +kernel
theorem dX9_reasonFor_0 : decode cX9_reasonFor 0 = .ok (.iload_n 1, 1) := by decide +kernel
theorem dX9_reasonFor_1 : decode cX9_reasonFor 1 = .ok (.invokestatic 51, 3) := by decide +kernel
theorem dX9_reasonFor_4 : decode cX9_reasonFor 4 = .ok (.aload_n 0, 1) := by decide +kernel
theorem dX9_reasonFor_5 : decode cX9_reasonFor 5 = .ok (.invokevirtual 134, 3) := by decide +kernel
theorem dX9_reasonFor_8 : decode cX9_reasonFor 8 = .ok (.iconst 0, 1) := by decide +kernel
theorem dX9_reasonFor_9 : decode cX9_reasonFor 9 = .ok (.istore_n 2, 1) := by decide +kernel
theorem dX9_reasonFor_10 : decode cX9_reasonFor 10 = .ok (.iload_n 2, 1) := by decide +kernel
theorem dX9_reasonFor_11 : decode cX9_reasonFor 11 = .ok (.aload_n 0, 1) := by decide +kernel
theorem dX9_reasonFor_12 : decode cX9_reasonFor 12 = .ok (.getfield 26, 3) := by decide +kernel
theorem dX9_reasonFor_15 : decode cX9_reasonFor 15 = .ok (.getfield 133, 3) := by decide +kernel
theorem dX9_reasonFor_18 : decode cX9_reasonFor 18 = .ok (.if_icmp .ge 35, 3) := by decide +kernel
theorem dX9_reasonFor_21 : decode cX9_reasonFor 21 = .ok (.aload_n 0, 1) := by decide +kernel
theorem dX9_reasonFor_22 : decode cX9_reasonFor 22 = .ok (.getfield 26, 3) := by decide +kernel
theorem dX9_reasonFor_25 : decode cX9_reasonFor 25 = .ok (.iload_n 2, 1) := by decide +kernel
theorem dX9_reasonFor_26 : decode cX9_reasonFor 26 = .ok (.invokevirtual 140, 3) := by decide +kernel
theorem dX9_reasonFor_29 : decode cX9_reasonFor 29 = .ok (.iload_n 1, 1) := by decide +kernel
theorem dX9_reasonFor_30 : decode cX9_reasonFor 30 = .ok (.if_icmp .ne 17, 3) := by decide +kernel
theorem dX9_reasonFor_33 : decode cX9_reasonFor 33 = .ok (.aload_n 0, 1) := by decide +kernel
theorem dX9_reasonFor_34 : decode cX9_reasonFor 34 = .ok (.getfield 40, 3) := by decide +kernel
theorem dX9_reasonFor_37 : decode cX9_reasonFor 37 = .ok (.iload_n 2, 1) := by decide +kernel
theorem dX9_reasonFor_38 : decode cX9_reasonFor 38 = .ok (.invokevirtual 162, 3) := by decide +kernel
theorem dX9_reasonFor_41 : decode cX9_reasonFor 41 = .ok (.iconst 2, 1) := by decide +kernel
theorem dX9_reasonFor_42 : decode cX9_reasonFor 42 = .ok (.if_icmp .ne 5, 3) := by decide +kernel
theorem dX9_reasonFor_45 : decode cX9_reasonFor 45 = .ok (.iload_n 2, 1) := by decide +kernel
theorem dX9_reasonFor_46 : decode cX9_reasonFor 46 = .ok (.ireturn, 1) := by decide +kernel
theorem dX9_reasonFor_47 : decode cX9_reasonFor 47 = .ok (.iinc 2 1, 3) := by decide +kernel
theorem dX9_reasonFor_50 : decode cX9_reasonFor 50 = .ok (.goto (-40), 3) := by decide +kernel
theorem dX9_reasonFor_53 : decode cX9_reasonFor 53 = .ok (.iconst (-1), 1) := by decide +kernel
theorem dX9_reasonFor_54 : decode cX9_reasonFor 54 = .ok (.ireturn, 1) := by decide +kernel
theorem dX9_reasonAgainst_0 : decode cX9_reasonAgainst 0 = .ok (.aload_n 0, 1) := by decide +kernel
theorem dX9_reasonAgainst_1 : decode cX9_reasonAgainst 1 = .ok (.invokevirtual 134, 3) := by decide +kernel
theorem dX9_reasonAgainst_4 : decode cX9_reasonAgainst 4 = .ok (.aload_n 0, 1) := by decide +kernel
theorem dX9_reasonAgainst_5 : decode cX9_reasonAgainst 5 = .ok (.iload_n 1, 1) := by decide +kernel
theorem dX9_reasonAgainst_6 : decode cX9_reasonAgainst 6 = .ok (.invokevirtual 137, 3) := by decide +kernel
theorem dX9_reasonAgainst_9 : decode cX9_reasonAgainst 9 = .ok (.aload_n 0, 1) := by decide +kernel
theorem dX9_reasonAgainst_10 : decode cX9_reasonAgainst 10 = .ok (.iload_n 1, 1) := by decide +kernel
theorem dX9_reasonAgainst_11 : decode cX9_reasonAgainst 11 = .ok (.iconst 2, 1) := by decide +kernel
theorem dX9_reasonAgainst_12 : decode cX9_reasonAgainst 12 = .ok (.invokevirtual 173, 3) := by decide +kernel
theorem dX9_reasonAgainst_15 : decode cX9_reasonAgainst 15 = .ok (.istore_n 2, 1) := by decide +kernel
theorem dX9_reasonAgainst_16 : decode cX9_reasonAgainst 16 = .ok (.iload_n 2, 1) := by decide +kernel
theorem dX9_reasonAgainst_17 : decode cX9_reasonAgainst 17 = .ok (.iconst (-1), 1) := by decide +kernel
theorem dX9_reasonAgainst_18 : decode cX9_reasonAgainst 18 = .ok (.if_icmp .eq 7, 3) := by decide +kernel
theorem dX9_reasonAgainst_21 : decode cX9_reasonAgainst 21 = .ok (.iload_n 2, 1) := by decide +kernel
theorem dX9_reasonAgainst_22 : decode cX9_reasonAgainst 22 = .ok (.goto 9, 3) := by decide +kernel
theorem dX9_reasonAgainst_25 : decode cX9_reasonAgainst 25 = .ok (.aload_n 0, 1) := by decide +kernel
theorem dX9_reasonAgainst_26 : decode cX9_reasonAgainst 26 = .ok (.iload_n 1, 1) := by decide +kernel
theorem dX9_reasonAgainst_27 : decode cX9_reasonAgainst 27 = .ok (.iconst 1, 1) := by decide +kernel
theorem dX9_reasonAgainst_28 : decode cX9_reasonAgainst 28 = .ok (.invokevirtual 173, 3) := by decide +kernel
theorem dX9_reasonAgainst_31 : decode cX9_reasonAgainst 31 = .ok (.ireturn, 1) := by decide +kernel
theorem dX9_preferred_0 : decode cX9_preferred 0 = .ok (.aload_n 0, 1) := by decide +kernel
theorem dX9_preferred_1 : decode cX9_preferred 1 = .ok (.invokevirtual 176, 3) := by decide +kernel
theorem dX9_preferred_4 : decode cX9_preferred 4 = .ok (.aload_n 0, 1) := by decide +kernel
theorem dX9_preferred_5 : decode cX9_preferred 5 = .ok (.invokevirtual 179, 3) := by decide +kernel
theorem dX9_preferred_8 : decode cX9_preferred 8 = .ok (.aload_n 0, 1) := by decide +kernel
theorem dX9_preferred_9 : decode cX9_preferred 9 = .ok (.getfield 47, 3) := by decide +kernel
theorem dX9_preferred_12 : decode cX9_preferred 12 = .ok (.getfield 182, 3) := by decide +kernel
theorem dX9_preferred_15 : decode cX9_preferred 15 = .ok (.getfield 186, 3) := by decide +kernel
theorem dX9_preferred_18 : decode cX9_preferred 18 = .ok (.ireturn, 1) := by decide +kernel
theorem dX9_preferredByAllSets_0 : decode cX9_preferredByAllSets 0 = .ok (.aload_n 0, 1) := by decide +kernel
theorem dX9_preferredByAllSets_1 : decode cX9_preferredByAllSets 1 = .ok (.invokevirtual 176, 3) := by decide +kernel
theorem dX9_preferredByAllSets_4 : decode cX9_preferredByAllSets 4 = .ok (.aload_n 0, 1) := by decide +kernel
theorem dX9_preferredByAllSets_5 : decode cX9_preferredByAllSets 5 = .ok (.invokevirtual 189, 3) := by decide +kernel
theorem dX9_preferredByAllSets_8 : decode cX9_preferredByAllSets 8 = .ok (.aload_n 0, 1) := by decide +kernel
theorem dX9_preferredByAllSets_9 : decode cX9_preferredByAllSets 9 = .ok (.getfield 47, 3) := by decide +kernel
theorem dX9_preferredByAllSets_12 : decode cX9_preferredByAllSets 12 = .ok (.getfield 192, 3) := by decide +kernel
theorem dX9_preferredByAllSets_15 : decode cX9_preferredByAllSets 15 = .ok (.getfield 186, 3) := by decide +kernel
theorem dX9_preferredByAllSets_18 : decode cX9_preferredByAllSets 18 = .ok (.ireturn, 1) := by decide +kernel
theorem dX9_isInSet_0 : decode cX9_isInSet 0 = .ok (.aload_n 0, 1) := by decide +kernel
theorem dX9_isInSet_1 : decode cX9_isInSet 1 = .ok (.invokevirtual 176, 3) := by decide +kernel
theorem dX9_isInSet_4 : decode cX9_isInSet 4 = .ok (.aload_n 0, 1) := by decide +kernel
theorem dX9_isInSet_5 : decode cX9_isInSet 5 = .ok (.invokevirtual 179, 3) := by decide +kernel
theorem dX9_isInSet_8 : decode cX9_isInSet 8 = .ok (.iload_n 1, 1) := by decide +kernel
theorem dX9_isInSet_9 : decode cX9_isInSet 9 = .ok (.ifCond .lt 17, 3) := by decide +kernel
theorem dX9_isInSet_12 : decode cX9_isInSet 12 = .ok (.iload_n 1, 1) := by decide +kernel
theorem dX9_isInSet_13 : decode cX9_isInSet 13 = .ok (.aload_n 0, 1) := by decide +kernel
theorem dX9_isInSet_14 : decode cX9_isInSet 14 = .ok (.getfield 47, 3) := by decide +kernel
theorem dX9_isInSet_17 : decode cX9_isInSet 17 = .ok (.getfield 182, 3) := by decide +kernel
theorem dX9_isInSet_20 : decode cX9_isInSet 20 = .ok (.getfield 186, 3) := by decide +kernel
theorem dX9_isInSet_23 : decode cX9_isInSet 23 = .ok (.if_icmp .lt 13, 3) := by decide +kernel
theorem dX9_isInSet_26 : decode cX9_isInSet 26 = .ok (.new 151, 3) := by decide +kernel
theorem dX9_isInSet_29 : decode cX9_isInSet 29 = .ok (.dup, 1) := by decide +kernel
theorem dX9_isInSet_30 : decode cX9_isInSet 30 = .ok (.ldc 195, 2) := by decide +kernel
theorem dX9_isInSet_32 : decode cX9_isInSet 32 = .ok (.invokespecial 155, 3) := by decide +kernel
theorem dX9_isInSet_35 : decode cX9_isInSet 35 = .ok (.athrow, 1) := by decide +kernel
theorem dX9_isInSet_36 : decode cX9_isInSet 36 = .ok (.aload_n 0, 1) := by decide +kernel
theorem dX9_isInSet_37 : decode cX9_isInSet 37 = .ok (.iload_n 2, 1) := by decide +kernel
theorem dX9_isInSet_38 : decode cX9_isInSet 38 = .ok (.invokevirtual 137, 3) := by decide +kernel
theorem dX9_isInSet_41 : decode cX9_isInSet 41 = .ok (.aload_n 0, 1) := by decide +kernel
theorem dX9_isInSet_42 : decode cX9_isInSet 42 = .ok (.getfield 47, 3) := by decide +kernel
theorem dX9_isInSet_45 : decode cX9_isInSet 45 = .ok (.getfield 182, 3) := by decide +kernel
theorem dX9_isInSet_48 : decode cX9_isInSet 48 = .ok (.iload_n 1, 1) := by decide +kernel
theorem dX9_isInSet_49 : decode cX9_isInSet 49 = .ok (.iload_n 2, 1) := by decide +kernel
theorem dX9_isInSet_50 : decode cX9_isInSet 50 = .ok (.invokevirtual 197, 3) := by decide +kernel
theorem dX9_isInSet_53 : decode cX9_isInSet 53 = .ok (.ireturn, 1) := by decide +kernel
theorem dX9_setsFor_0 : decode cX9_setsFor 0 = .ok (.iload_n 1, 1) := by decide +kernel
theorem dX9_setsFor_1 : decode cX9_setsFor 1 = .ok (.invokestatic 51, 3) := by decide +kernel
theorem dX9_setsFor_4 : decode cX9_setsFor 4 = .ok (.aload_n 0, 1) := by decide +kernel
theorem dX9_setsFor_5 : decode cX9_setsFor 5 = .ok (.invokevirtual 176, 3) := by decide +kernel
theorem dX9_setsFor_8 : decode cX9_setsFor 8 = .ok (.aload_n 0, 1) := by decide +kernel
theorem dX9_setsFor_9 : decode cX9_setsFor 9 = .ok (.invokevirtual 179, 3) := by decide +kernel
theorem dX9_setsFor_12 : decode cX9_setsFor 12 = .ok (.iconst 0, 1) := by decide +kernel
theorem dX9_setsFor_13 : decode cX9_setsFor 13 = .ok (.istore_n 2, 1) := by decide +kernel
theorem dX9_setsFor_14 : decode cX9_setsFor 14 = .ok (.iconst 0, 1) := by decide +kernel
theorem dX9_setsFor_15 : decode cX9_setsFor 15 = .ok (.istore_n 3, 1) := by decide +kernel
theorem dX9_setsFor_16 : decode cX9_setsFor 16 = .ok (.iload_n 3, 1) := by decide +kernel
theorem dX9_setsFor_17 : decode cX9_setsFor 17 = .ok (.aload_n 0, 1) := by decide +kernel
theorem dX9_setsFor_18 : decode cX9_setsFor 18 = .ok (.getfield 47, 3) := by decide +kernel
theorem dX9_setsFor_21 : decode cX9_setsFor 21 = .ok (.getfield 182, 3) := by decide +kernel
theorem dX9_setsFor_24 : decode cX9_setsFor 24 = .ok (.getfield 186, 3) := by decide +kernel
theorem dX9_setsFor_27 : decode cX9_setsFor 27 = .ok (.if_icmp .ge 21, 3) := by decide +kernel
theorem dX9_setsFor_30 : decode cX9_setsFor 30 = .ok (.aload_n 0, 1) := by decide +kernel
theorem dX9_setsFor_31 : decode cX9_setsFor 31 = .ok (.iload_n 3, 1) := by decide +kernel
theorem dX9_setsFor_32 : decode cX9_setsFor 32 = .ok (.iload_n 1, 1) := by decide +kernel
theorem dX9_setsFor_33 : decode cX9_setsFor 33 = .ok (.invokevirtual 200, 3) := by decide +kernel
theorem dX9_setsFor_36 : decode cX9_setsFor 36 = .ok (.ifCond .eq 6, 3) := by decide +kernel
theorem dX9_setsFor_39 : decode cX9_setsFor 39 = .ok (.iinc 2 1, 3) := by decide +kernel
theorem dX9_setsFor_42 : decode cX9_setsFor 42 = .ok (.iinc 3 1, 3) := by decide +kernel
theorem dX9_setsFor_45 : decode cX9_setsFor 45 = .ok (.goto (-29), 3) := by decide +kernel
theorem dX9_setsFor_48 : decode cX9_setsFor 48 = .ok (.iload_n 2, 1) := by decide +kernel
theorem dX9_setsFor_49 : decode cX9_setsFor 49 = .ok (.ireturn, 1) := by decide +kernel
theorem dX9_isLiteralOrNone_0 : decode cX9_isLiteralOrNone 0 = .ok (.iload_n 0, 1) := by decide +kernel
theorem dX9_isLiteralOrNone_1 : decode cX9_isLiteralOrNone 1 = .ok (.bipush (-10), 2) := by decide +kernel
theorem dX9_isLiteralOrNone_3 : decode cX9_isLiteralOrNone 3 = .ok (.if_icmp .lt 13, 3) := by decide +kernel
theorem dX9_isLiteralOrNone_6 : decode cX9_isLiteralOrNone 6 = .ok (.iload_n 0, 1) := by decide +kernel
theorem dX9_isLiteralOrNone_7 : decode cX9_isLiteralOrNone 7 = .ok (.bipush 10, 2) := by decide +kernel
theorem dX9_isLiteralOrNone_9 : decode cX9_isLiteralOrNone 9 = .ok (.if_icmp .gt 7, 3) := by decide +kernel
theorem dX9_isLiteralOrNone_12 : decode cX9_isLiteralOrNone 12 = .ok (.iconst 1, 1) := by decide +kernel
theorem dX9_isLiteralOrNone_13 : decode cX9_isLiteralOrNone 13 = .ok (.goto 4, 3) := by decide +kernel
theorem dX9_isLiteralOrNone_16 : decode cX9_isLiteralOrNone 16 = .ok (.iconst 0, 1) := by decide +kernel
theorem dX9_isLiteralOrNone_17 : decode cX9_isLiteralOrNone 17 = .ok (.ireturn, 1) := by decide +kernel
theorem dX9_demandLiteral_0 : decode cX9_demandLiteral 0 = .ok (.iload_n 0, 1) := by decide +kernel
theorem dX9_demandLiteral_1 : decode cX9_demandLiteral 1 = .ok (.ifCond .ne 13, 3) := by decide +kernel
theorem dX9_demandLiteral_4 : decode cX9_demandLiteral 4 = .ok (.new 89, 3) := by decide +kernel
theorem dX9_demandLiteral_7 : decode cX9_demandLiteral 7 = .ok (.dup, 1) := by decide +kernel
theorem dX9_demandLiteral_8 : decode cX9_demandLiteral 8 = .ok (.ldc 203, 2) := by decide +kernel
theorem dX9_demandLiteral_10 : decode cX9_demandLiteral 10 = .ok (.invokespecial 93, 3) := by decide +kernel
theorem dX9_demandLiteral_13 : decode cX9_demandLiteral 13 = .ok (.athrow, 1) := by decide +kernel
theorem dX9_demandLiteral_14 : decode cX9_demandLiteral 14 = .ok (.iload_n 0, 1) := by decide +kernel
theorem dX9_demandLiteral_15 : decode cX9_demandLiteral 15 = .ok (.invokestatic 79, 3) := by decide +kernel
theorem dX9_demandLiteral_18 : decode cX9_demandLiteral 18 = .ok (.return_, 1) := by decide +kernel
theorem dX9_demandLiteralOrNone_0 : decode cX9_demandLiteralOrNone 0 = .ok (.iload_n 0, 1) := by decide +kernel
theorem dX9_demandLiteralOrNone_1 : decode cX9_demandLiteralOrNone 1 = .ok (.invokestatic 205, 3) := by decide +kernel
theorem dX9_demandLiteralOrNone_4 : decode cX9_demandLiteralOrNone 4 = .ok (.ifCond .ne 13, 3) := by decide +kernel
theorem dX9_demandLiteralOrNone_7 : decode cX9_demandLiteralOrNone 7 = .ok (.new 89, 3) := by decide +kernel
theorem dX9_demandLiteralOrNone_10 : decode cX9_demandLiteralOrNone 10 = .ok (.dup, 1) := by decide +kernel
theorem dX9_demandLiteralOrNone_11 : decode cX9_demandLiteralOrNone 11 = .ok (.ldc 208, 2) := by decide +kernel
theorem dX9_demandLiteralOrNone_13 : decode cX9_demandLiteralOrNone 13 = .ok (.invokespecial 93, 3) := by decide +kernel
theorem dX9_demandLiteralOrNone_16 : decode cX9_demandLiteralOrNone 16 = .ok (.athrow, 1) := by decide +kernel
theorem dX9_demandLiteralOrNone_17 : decode cX9_demandLiteralOrNone 17 = .ok (.return_, 1) := by decide +kernel
theorem dX9_demandPriority_0 : decode cX9_demandPriority 0 = .ok (.iload_n 0, 1) := by decide +kernel
theorem dX9_demandPriority_1 : decode cX9_demandPriority 1 = .ok (.ifCond .lt 9, 3) := by decide +kernel
theorem dX9_demandPriority_4 : decode cX9_demandPriority 4 = .ok (.iload_n 0, 1) := by decide +kernel
theorem dX9_demandPriority_5 : decode cX9_demandPriority 5 = .ok (.bipush 9, 2) := by decide +kernel
theorem dX9_demandPriority_7 : decode cX9_demandPriority 7 = .ok (.if_icmp .le 13, 3) := by decide +kernel
theorem dX9_demandPriority_10 : decode cX9_demandPriority 10 = .ok (.new 89, 3) := by decide +kernel
theorem dX9_demandPriority_13 : decode cX9_demandPriority 13 = .ok (.dup, 1) := by decide +kernel
theorem dX9_demandPriority_14 : decode cX9_demandPriority 14 = .ok (.ldc 210, 2) := by decide +kernel
theorem dX9_demandPriority_16 : decode cX9_demandPriority 16 = .ok (.invokespecial 93, 3) := by decide +kernel
theorem dX9_demandPriority_19 : decode cX9_demandPriority 19 = .ok (.athrow, 1) := by decide +kernel
theorem dX9_demandPriority_20 : decode cX9_demandPriority 20 = .ok (.return_, 1) := by decide +kernel
theorem dX9_followsInBody_0 : decode cX9_followsInBody 0 = .ok (.iload_n 0, 1) := by decide +kernel
theorem dX9_followsInBody_1 : decode cX9_followsInBody 1 = .ok (.ifCond .eq 12, 3) := by decide +kernel
theorem dX9_followsInBody_4 : decode cX9_followsInBody 4 = .ok (.iload_n 1, 1) := by decide +kernel
theorem dX9_followsInBody_5 : decode cX9_followsInBody 5 = .ok (.ifCond .eq 12, 3) := by decide +kernel
theorem dX9_followsInBody_8 : decode cX9_followsInBody 8 = .ok (.iload_n 0, 1) := by decide +kernel
theorem dX9_followsInBody_9 : decode cX9_followsInBody 9 = .ok (.iload_n 1, 1) := by decide +kernel
theorem dX9_followsInBody_10 : decode cX9_followsInBody 10 = .ok (.if_icmp .eq 7, 3) := by decide +kernel
theorem dX9_followsInBody_13 : decode cX9_followsInBody 13 = .ok (.iconst 1, 1) := by decide +kernel
theorem dX9_followsInBody_14 : decode cX9_followsInBody 14 = .ok (.goto 4, 3) := by decide +kernel
theorem dX9_followsInBody_17 : decode cX9_followsInBody 17 = .ok (.iconst 0, 1) := by decide +kernel
theorem dX9_followsInBody_18 : decode cX9_followsInBody 18 = .ok (.ireturn, 1) := by decide +kernel
theorem dX9_demandRule_0 : decode cX9_demandRule 0 = .ok (.iload_n 1, 1) := by decide +kernel
theorem dX9_demandRule_1 : decode cX9_demandRule 1 = .ok (.ifCond .lt 14, 3) := by decide +kernel
theorem dX9_demandRule_4 : decode cX9_demandRule 4 = .ok (.iload_n 1, 1) := by decide +kernel
theorem dX9_demandRule_5 : decode cX9_demandRule 5 = .ok (.aload_n 0, 1) := by decide +kernel
theorem dX9_demandRule_6 : decode cX9_demandRule 6 = .ok (.getfield 19, 3) := by decide +kernel
theorem dX9_demandRule_9 : decode cX9_demandRule 9 = .ok (.invokevirtual 96, 3) := by decide +kernel
theorem dX9_demandRule_12 : decode cX9_demandRule 12 = .ok (.if_icmp .lt 13, 3) := by decide +kernel
theorem dX9_demandRule_15 : decode cX9_demandRule 15 = .ok (.new 151, 3) := by decide +kernel
theorem dX9_demandRule_18 : decode cX9_demandRule 18 = .ok (.dup, 1) := by decide +kernel
theorem dX9_demandRule_19 : decode cX9_demandRule 19 = .ok (.ldc 212, 2) := by decide +kernel
theorem dX9_demandRule_21 : decode cX9_demandRule 21 = .ok (.invokespecial 155, 3) := by decide +kernel
theorem dX9_demandRule_24 : decode cX9_demandRule 24 = .ok (.athrow, 1) := by decide +kernel
theorem dX9_demandRule_25 : decode cX9_demandRule 25 = .ok (.return_, 1) := by decide +kernel
theorem dX9_demandTold_0 : decode cX9_demandTold 0 = .ok (.aload_n 0, 1) := by decide +kernel
theorem dX9_demandTold_1 : decode cX9_demandTold 1 = .ok (.invokevirtual 127, 3) := by decide +kernel
theorem dX9_demandTold_4 : decode cX9_demandTold 4 = .ok (.aload_n 0, 1) := by decide +kernel
theorem dX9_demandTold_5 : decode cX9_demandTold 5 = .ok (.getfield 26, 3) := by decide +kernel
theorem dX9_demandTold_8 : decode cX9_demandTold 8 = .ok (.getfield 130, 3) := by decide +kernel
theorem dX9_demandTold_11 : decode cX9_demandTold 11 = .ok (.ifCond .eq 13, 3) := by decide +kernel
theorem dX9_demandTold_14 : decode cX9_demandTold 14 = .ok (.new 59, 3) := by decide +kernel
theorem dX9_demandTold_17 : decode cX9_demandTold 17 = .ok (.dup, 1) := by decide +kernel
theorem dX9_demandTold_18 : decode cX9_demandTold 18 = .ok (.ldc 214, 2) := by decide +kernel
theorem dX9_demandTold_20 : decode cX9_demandTold 20 = .ok (.invokespecial 63, 3) := by decide +kernel
theorem dX9_demandTold_23 : decode cX9_demandTold 23 = .ok (.athrow, 1) := by decide +kernel
theorem dX9_demandTold_24 : decode cX9_demandTold 24 = .ok (.return_, 1) := by decide +kernel
theorem dX9_demandFew_0 : decode cX9_demandFew 0 = .ok (.aload_n 0, 1) := by decide +kernel
theorem dX9_demandFew_1 : decode cX9_demandFew 1 = .ok (.invokevirtual 127, 3) := by decide +kernel
theorem dX9_demandFew_4 : decode cX9_demandFew 4 = .ok (.aload_n 0, 1) := by decide +kernel
theorem dX9_demandFew_5 : decode cX9_demandFew 5 = .ok (.getfield 26, 3) := by decide +kernel
theorem dX9_demandFew_8 : decode cX9_demandFew 8 = .ok (.getfield 130, 3) := by decide +kernel
theorem dX9_demandFew_11 : decode cX9_demandFew 11 = .ok (.ifCond .ne 15, 3) := by decide +kernel
theorem dX9_demandFew_14 : decode cX9_demandFew 14 = .ok (.aload_n 0, 1) := by decide +kernel
theorem dX9_demandFew_15 : decode cX9_demandFew 15 = .ok (.getfield 26, 3) := by decide +kernel
theorem dX9_demandFew_18 : decode cX9_demandFew 18 = .ok (.getfield 133, 3) := by decide +kernel
theorem dX9_demandFew_21 : decode cX9_demandFew 21 = .ok (.bipush 14, 2) := by decide +kernel
theorem dX9_demandFew_23 : decode cX9_demandFew 23 = .ok (.if_icmp .le 13, 3) := by decide +kernel
theorem dX9_demandFew_26 : decode cX9_demandFew 26 = .ok (.new 59, 3) := by decide +kernel
theorem dX9_demandFew_29 : decode cX9_demandFew 29 = .ok (.dup, 1) := by decide +kernel
theorem dX9_demandFew_30 : decode cX9_demandFew 30 = .ok (.ldc 216, 2) := by decide +kernel
theorem dX9_demandFew_32 : decode cX9_demandFew 32 = .ok (.invokespecial 63, 3) := by decide +kernel
theorem dX9_demandFew_35 : decode cX9_demandFew 35 = .ok (.athrow, 1) := by decide +kernel
theorem dX9_demandFew_36 : decode cX9_demandFew 36 = .ok (.return_, 1) := by decide +kernel
theorem dX9_demandArgument_0 : decode cX9_demandArgument 0 = .ok (.iload_n 1, 1) := by decide +kernel
theorem dX9_demandArgument_1 : decode cX9_demandArgument 1 = .ok (.ifCond .lt 14, 3) := by decide +kernel
theorem dX9_demandArgument_4 : decode cX9_demandArgument 4 = .ok (.iload_n 1, 1) := by decide +kernel
theorem dX9_demandArgument_5 : decode cX9_demandArgument 5 = .ok (.aload_n 0, 1) := by decide +kernel
theorem dX9_demandArgument_6 : decode cX9_demandArgument 6 = .ok (.getfield 26, 3) := by decide +kernel
theorem dX9_demandArgument_9 : decode cX9_demandArgument 9 = .ok (.getfield 133, 3) := by decide +kernel
theorem dX9_demandArgument_12 : decode cX9_demandArgument 12 = .ok (.if_icmp .lt 13, 3) := by decide +kernel
theorem dX9_demandArgument_15 : decode cX9_demandArgument 15 = .ok (.new 151, 3) := by decide +kernel
theorem dX9_demandArgument_18 : decode cX9_demandArgument 18 = .ok (.dup, 1) := by decide +kernel
theorem dX9_demandArgument_19 : decode cX9_demandArgument 19 = .ok (.ldc 218, 2) := by decide +kernel
theorem dX9_demandArgument_21 : decode cX9_demandArgument 21 = .ok (.invokespecial 155, 3) := by decide +kernel
theorem dX9_demandArgument_24 : decode cX9_demandArgument 24 = .ok (.athrow, 1) := by decide +kernel
theorem dX9_demandArgument_25 : decode cX9_demandArgument 25 = .ok (.return_, 1) := by decide +kernel
theorem dX9_forget_0 : decode cX9_forget 0 = .ok (.aload_n 0, 1) := by decide +kernel
theorem dX9_forget_1 : decode cX9_forget 1 = .ok (.iconst 0, 1) := by decide +kernel
theorem dX9_forget_2 : decode cX9_forget 2 = .ok (.putfield 220, 3) := by decide +kernel
theorem dX9_forget_5 : decode cX9_forget 5 = .ok (.aload_n 0, 1) := by decide +kernel
theorem dX9_forget_6 : decode cX9_forget 6 = .ok (.iconst 0, 1) := by decide +kernel
theorem dX9_forget_7 : decode cX9_forget 7 = .ok (.putfield 223, 3) := by decide +kernel
theorem dX9_forget_10 : decode cX9_forget 10 = .ok (.aload_n 0, 1) := by decide +kernel
theorem dX9_forget_11 : decode cX9_forget 11 = .ok (.iconst 0, 1) := by decide +kernel
theorem dX9_forget_12 : decode cX9_forget 12 = .ok (.putfield 226, 3) := by decide +kernel
theorem dX9_forget_15 : decode cX9_forget 15 = .ok (.return_, 1) := by decide +kernel
theorem dX9_build_0 : decode cX9_build 0 = .ok (.aload_n 0, 1) := by decide +kernel
theorem dX9_build_1 : decode cX9_build 1 = .ok (.getfield 220, 3) := by decide +kernel
theorem dX9_build_4 : decode cX9_build 4 = .ok (.ifCond .eq 4, 3) := by decide +kernel
theorem dX9_build_7 : decode cX9_build 7 = .ok (.return_, 1) := by decide +kernel
theorem dX9_build_8 : decode cX9_build 8 = .ok (.aload_n 0, 1) := by decide +kernel
theorem dX9_build_9 : decode cX9_build 9 = .ok (.getfield 26, 3) := by decide +kernel
theorem dX9_build_12 : decode cX9_build 12 = .ok (.aload_n 0, 1) := by decide +kernel
theorem dX9_build_13 : decode cX9_build 13 = .ok (.getfield 12, 3) := by decide +kernel
theorem dX9_build_16 : decode cX9_build 16 = .ok (.aload_n 0, 1) := by decide +kernel
theorem dX9_build_17 : decode cX9_build 17 = .ok (.getfield 19, 3) := by decide +kernel
theorem dX9_build_20 : decode cX9_build 20 = .ok (.invokevirtual 229, 3) := by decide +kernel
theorem dX9_build_23 : decode cX9_build 23 = .ok (.aload_n 0, 1) := by decide +kernel
theorem dX9_build_24 : decode cX9_build 24 = .ok (.getfield 26, 3) := by decide +kernel
theorem dX9_build_27 : decode cX9_build 27 = .ok (.getfield 130, 3) := by decide +kernel
theorem dX9_build_30 : decode cX9_build 30 = .ok (.ifCond .ne 54, 3) := by decide +kernel
theorem dX9_build_33 : decode cX9_build 33 = .ok (.aload_n 0, 1) := by decide +kernel
theorem dX9_build_34 : decode cX9_build 34 = .ok (.getfield 33, 3) := by decide +kernel
theorem dX9_build_37 : decode cX9_build 37 = .ok (.aload_n 0, 1) := by decide +kernel
theorem dX9_build_38 : decode cX9_build 38 = .ok (.getfield 26, 3) := by decide +kernel
theorem dX9_build_41 : decode cX9_build 41 = .ok (.aload_n 0, 1) := by decide +kernel
theorem dX9_build_42 : decode cX9_build 42 = .ok (.getfield 19, 3) := by decide +kernel
theorem dX9_build_45 : decode cX9_build 45 = .ok (.invokevirtual 232, 3) := by decide +kernel
theorem dX9_build_48 : decode cX9_build 48 = .ok (.aload_n 0, 1) := by decide +kernel
theorem dX9_build_49 : decode cX9_build 49 = .ok (.getfield 40, 3) := by decide +kernel
theorem dX9_build_52 : decode cX9_build 52 = .ok (.aload_n 0, 1) := by decide +kernel
theorem dX9_build_53 : decode cX9_build 53 = .ok (.getfield 33, 3) := by decide +kernel
theorem dX9_build_56 : decode cX9_build 56 = .ok (.aload_n 0, 1) := by decide +kernel
theorem dX9_build_57 : decode cX9_build 57 = .ok (.getfield 26, 3) := by decide +kernel
theorem dX9_build_60 : decode cX9_build 60 = .ok (.getfield 133, 3) := by decide +kernel
theorem dX9_build_63 : decode cX9_build 63 = .ok (.invokevirtual 235, 3) := by decide +kernel
theorem dX9_build_66 : decode cX9_build 66 = .ok (.aload_n 0, 1) := by decide +kernel
theorem dX9_build_67 : decode cX9_build 67 = .ok (.getfield 47, 3) := by decide +kernel
theorem dX9_build_70 : decode cX9_build 70 = .ok (.aload_n 0, 1) := by decide +kernel
theorem dX9_build_71 : decode cX9_build 71 = .ok (.getfield 33, 3) := by decide +kernel
theorem dX9_build_74 : decode cX9_build 74 = .ok (.aload_n 0, 1) := by decide +kernel
theorem dX9_build_75 : decode cX9_build 75 = .ok (.getfield 26, 3) := by decide +kernel
theorem dX9_build_78 : decode cX9_build 78 = .ok (.getfield 133, 3) := by decide +kernel
theorem dX9_build_81 : decode cX9_build 81 = .ok (.invokevirtual 238, 3) := by decide +kernel
theorem dX9_build_84 : decode cX9_build 84 = .ok (.aload_n 0, 1) := by decide +kernel
theorem dX9_build_85 : decode cX9_build 85 = .ok (.iconst 1, 1) := by decide +kernel
theorem dX9_build_86 : decode cX9_build 86 = .ok (.putfield 220, 3) := by decide +kernel
theorem dX9_build_89 : decode cX9_build 89 = .ok (.return_, 1) := by decide +kernel
theorem dX9_trySets_0 : decode cX9_trySets 0 = .ok (.aload_n 0, 1) := by decide +kernel
theorem dX9_trySets_1 : decode cX9_trySets 1 = .ok (.getfield 223, 3) := by decide +kernel
theorem dX9_trySets_4 : decode cX9_trySets 4 = .ok (.ifCond .ne 15, 3) := by decide +kernel
theorem dX9_trySets_7 : decode cX9_trySets 7 = .ok (.aload_n 0, 1) := by decide +kernel
theorem dX9_trySets_8 : decode cX9_trySets 8 = .ok (.getfield 47, 3) := by decide +kernel
theorem dX9_trySets_11 : decode cX9_trySets 11 = .ok (.invokevirtual 241, 3) := by decide +kernel
theorem dX9_trySets_14 : decode cX9_trySets 14 = .ok (.aload_n 0, 1) := by decide +kernel
theorem dX9_trySets_15 : decode cX9_trySets 15 = .ok (.iconst 1, 1) := by decide +kernel
theorem dX9_trySets_16 : decode cX9_trySets 16 = .ok (.putfield 223, 3) := by decide +kernel
theorem dX9_trySets_19 : decode cX9_trySets 19 = .ok (.return_, 1) := by decide +kernel
theorem dX9_sweepSets_0 : decode cX9_sweepSets 0 = .ok (.aload_n 0, 1) := by decide +kernel
theorem dX9_sweepSets_1 : decode cX9_sweepSets 1 = .ok (.getfield 226, 3) := by decide +kernel
theorem dX9_sweepSets_4 : decode cX9_sweepSets 4 = .ok (.ifCond .ne 15, 3) := by decide +kernel
theorem dX9_sweepSets_7 : decode cX9_sweepSets 7 = .ok (.aload_n 0, 1) := by decide +kernel
theorem dX9_sweepSets_8 : decode cX9_sweepSets 8 = .ok (.getfield 47, 3) := by decide +kernel
theorem dX9_sweepSets_11 : decode cX9_sweepSets 11 = .ok (.invokevirtual 244, 3) := by decide +kernel
theorem dX9_sweepSets_14 : decode cX9_sweepSets 14 = .ok (.aload_n 0, 1) := by decide +kernel
theorem dX9_sweepSets_15 : decode cX9_sweepSets 15 = .ok (.iconst 1, 1) := by decide +kernel
theorem dX9_sweepSets_16 : decode cX9_sweepSets 16 = .ok (.putfield 226, 3) := by decide +kernel
theorem dX9_sweepSets_19 : decode cX9_sweepSets 19 = .ok (.return_, 1) := by decide +kernel
theorem dX9_lowestAttacker_0 : decode cX9_lowestAttacker 0 = .ok (.iconst 0, 1) := by decide +kernel
theorem dX9_lowestAttacker_1 : decode cX9_lowestAttacker 1 = .ok (.istore_n 3, 1) := by decide +kernel
theorem dX9_lowestAttacker_2 : decode cX9_lowestAttacker 2 = .ok (.iload_n 3, 1) := by decide +kernel
theorem dX9_lowestAttacker_3 : decode cX9_lowestAttacker 3 = .ok (.aload_n 0, 1) := by decide +kernel
theorem dX9_lowestAttacker_4 : decode cX9_lowestAttacker 4 = .ok (.getfield 26, 3) := by decide +kernel
theorem dX9_lowestAttacker_7 : decode cX9_lowestAttacker 7 = .ok (.getfield 133, 3) := by decide +kernel
theorem dX9_lowestAttacker_10 : decode cX9_lowestAttacker 10 = .ok (.if_icmp .ge 35, 3) := by decide +kernel
theorem dX9_lowestAttacker_13 : decode cX9_lowestAttacker 13 = .ok (.aload_n 0, 1) := by decide +kernel
theorem dX9_lowestAttacker_14 : decode cX9_lowestAttacker 14 = .ok (.getfield 33, 3) := by decide +kernel
theorem dX9_lowestAttacker_17 : decode cX9_lowestAttacker 17 = .ok (.iload_n 3, 1) := by decide +kernel
theorem dX9_lowestAttacker_18 : decode cX9_lowestAttacker 18 = .ok (.iload_n 1, 1) := by decide +kernel
theorem dX9_lowestAttacker_19 : decode cX9_lowestAttacker 19 = .ok (.invokevirtual 159, 3) := by decide +kernel
theorem dX9_lowestAttacker_22 : decode cX9_lowestAttacker 22 = .ok (.ifCond .eq 17, 3) := by decide +kernel
theorem dX9_lowestAttacker_25 : decode cX9_lowestAttacker 25 = .ok (.aload_n 0, 1) := by decide +kernel
theorem dX9_lowestAttacker_26 : decode cX9_lowestAttacker 26 = .ok (.getfield 40, 3) := by decide +kernel
theorem dX9_lowestAttacker_29 : decode cX9_lowestAttacker 29 = .ok (.iload_n 3, 1) := by decide +kernel
theorem dX9_lowestAttacker_30 : decode cX9_lowestAttacker 30 = .ok (.invokevirtual 162, 3) := by decide +kernel
theorem dX9_lowestAttacker_33 : decode cX9_lowestAttacker 33 = .ok (.iload_n 2, 1) := by decide +kernel
theorem dX9_lowestAttacker_34 : decode cX9_lowestAttacker 34 = .ok (.if_icmp .ne 5, 3) := by decide +kernel
theorem dX9_lowestAttacker_37 : decode cX9_lowestAttacker 37 = .ok (.iload_n 3, 1) := by decide +kernel
theorem dX9_lowestAttacker_38 : decode cX9_lowestAttacker 38 = .ok (.ireturn, 1) := by decide +kernel
theorem dX9_lowestAttacker_39 : decode cX9_lowestAttacker 39 = .ok (.iinc 3 1, 3) := by decide +kernel
theorem dX9_lowestAttacker_42 : decode cX9_lowestAttacker 42 = .ok (.goto (-40), 3) := by decide +kernel
theorem dX9_lowestAttacker_45 : decode cX9_lowestAttacker 45 = .ok (.iconst (-1), 1) := by decide +kernel
theorem dX9_lowestAttacker_46 : decode cX9_lowestAttacker 46 = .ok (.ireturn, 1) := by decide +kernel
theorem dX9_concludesInSet_0 : decode cX9_concludesInSet 0 = .ok (.iconst 0, 1) := by decide +kernel
theorem dX9_concludesInSet_1 : decode cX9_concludesInSet 1 = .ok (.istore_n 3, 1) := by decide +kernel
theorem dX9_concludesInSet_2 : decode cX9_concludesInSet 2 = .ok (.iload_n 3, 1) := by decide +kernel
theorem dX9_concludesInSet_3 : decode cX9_concludesInSet 3 = .ok (.aload_n 0, 1) := by decide +kernel
theorem dX9_concludesInSet_4 : decode cX9_concludesInSet 4 = .ok (.getfield 26, 3) := by decide +kernel
theorem dX9_concludesInSet_7 : decode cX9_concludesInSet 7 = .ok (.getfield 133, 3) := by decide +kernel
theorem dX9_concludesInSet_10 : decode cX9_concludesInSet 10 = .ok (.if_icmp .ge 38, 3) := by decide +kernel
theorem dX9_concludesInSet_13 : decode cX9_concludesInSet 13 = .ok (.aload_n 0, 1) := by decide +kernel
theorem dX9_concludesInSet_14 : decode cX9_concludesInSet 14 = .ok (.getfield 26, 3) := by decide +kernel
theorem dX9_concludesInSet_17 : decode cX9_concludesInSet 17 = .ok (.iload_n 3, 1) := by decide +kernel
theorem dX9_concludesInSet_18 : decode cX9_concludesInSet 18 = .ok (.invokevirtual 140, 3) := by decide +kernel
theorem dX9_concludesInSet_21 : decode cX9_concludesInSet 21 = .ok (.iload_n 2, 1) := by decide +kernel
theorem dX9_concludesInSet_22 : decode cX9_concludesInSet 22 = .ok (.if_icmp .ne 20, 3) := by decide +kernel
theorem dX9_concludesInSet_25 : decode cX9_concludesInSet 25 = .ok (.aload_n 0, 1) := by decide +kernel
theorem dX9_concludesInSet_26 : decode cX9_concludesInSet 26 = .ok (.getfield 47, 3) := by decide +kernel
theorem dX9_concludesInSet_29 : decode cX9_concludesInSet 29 = .ok (.getfield 182, 3) := by decide +kernel
theorem dX9_concludesInSet_32 : decode cX9_concludesInSet 32 = .ok (.iload_n 1, 1) := by decide +kernel
theorem dX9_concludesInSet_33 : decode cX9_concludesInSet 33 = .ok (.iload_n 3, 1) := by decide +kernel
theorem dX9_concludesInSet_34 : decode cX9_concludesInSet 34 = .ok (.invokevirtual 197, 3) := by decide +kernel
theorem dX9_concludesInSet_37 : decode cX9_concludesInSet 37 = .ok (.ifCond .eq 5, 3) := by decide +kernel
theorem dX9_concludesInSet_40 : decode cX9_concludesInSet 40 = .ok (.iconst 1, 1) := by decide +kernel
theorem dX9_concludesInSet_41 : decode cX9_concludesInSet 41 = .ok (.ireturn, 1) := by decide +kernel
theorem dX9_concludesInSet_42 : decode cX9_concludesInSet 42 = .ok (.iinc 3 1, 3) := by decide +kernel
theorem dX9_concludesInSet_45 : decode cX9_concludesInSet 45 = .ok (.goto (-43), 3) := by decide +kernel
theorem dX9_concludesInSet_48 : decode cX9_concludesInSet 48 = .ok (.iconst 0, 1) := by decide +kernel
theorem dX9_concludesInSet_49 : decode cX9_concludesInSet 49 = .ok (.ireturn, 1) := by decide +kernel
theorem dX9_setBit_0 : decode cX9_setBit 0 = .ok (.iload_n 0, 1) := by decide +kernel
theorem dX9_setBit_1 : decode cX9_setBit 1 = .ok (.ifCond .lt 18, 3) := by decide +kernel
theorem dX9_setBit_4 : decode cX9_setBit 4 = .ok (.iload_n 0, 1) := by decide +kernel
theorem dX9_setBit_5 : decode cX9_setBit 5 = .ok (.bipush 14, 2) := by decide +kernel
theorem dX9_setBit_7 : decode cX9_setBit 7 = .ok (.if_icmp .ge 12, 3) := by decide +kernel
theorem dX9_setBit_10 : decode cX9_setBit 10 = .ok (.iconst 1, 1) := by decide +kernel
theorem dX9_setBit_11 : decode cX9_setBit 11 = .ok (.bipush 13, 2) := by decide +kernel
theorem dX9_setBit_13 : decode cX9_setBit 13 = .ok (.iload_n 0, 1) := by decide +kernel
theorem dX9_setBit_14 : decode cX9_setBit 14 = .ok (.isub, 1) := by decide +kernel
theorem dX9_setBit_15 : decode cX9_setBit 15 = .ok (.ishl, 1) := by decide +kernel
theorem dX9_setBit_16 : decode cX9_setBit 16 = .ok (.goto 4, 3) := by decide +kernel
theorem dX9_setBit_19 : decode cX9_setBit 19 = .ok (.iconst 0, 1) := by decide +kernel
theorem dX9_setBit_20 : decode cX9_setBit 20 = .ok (.ireturn, 1) := by decide +kernel
end
section
theorem dX10_init_0 : decode cX10_init 0 = .ok (.aload_n 0, 1) := by decide +kernel
theorem dX10_init_1 : decode cX10_init 1 = .ok (.invokespecial 1, 3) := by decide +kernel
theorem dX10_init_4 : decode cX10_init 4 = .ok (.aload_n 0, 1) := by decide +kernel
theorem dX10_init_5 : decode cX10_init 5 = .ok (.bipush 21, 2) := by decide +kernel
theorem dX10_init_7 : decode cX10_init 7 = .ok (.newarray .boolean, 2) := by decide +kernel
theorem dX10_init_9 : decode cX10_init 9 = .ok (.putfield 7, 3) := by decide +kernel
theorem dX10_init_12 : decode cX10_init 12 = .ok (.aload_n 0, 1) := by decide +kernel
theorem dX10_init_13 : decode cX10_init 13 = .ok (.bipush 12, 2) := by decide +kernel
theorem dX10_init_15 : decode cX10_init 15 = .ok (.newarray .int, 2) := by decide +kernel
theorem dX10_init_17 : decode cX10_init 17 = .ok (.putfield 13, 3) := by decide +kernel
theorem dX10_init_20 : decode cX10_init 20 = .ok (.aload_n 0, 1) := by decide +kernel
theorem dX10_init_21 : decode cX10_init 21 = .ok (.bipush 36, 2) := by decide +kernel
theorem dX10_init_23 : decode cX10_init 23 = .ok (.newarray .int, 2) := by decide +kernel
theorem dX10_init_25 : decode cX10_init 25 = .ok (.putfield 17, 3) := by decide +kernel
theorem dX10_init_28 : decode cX10_init 28 = .ok (.aload_n 0, 1) := by decide +kernel
theorem dX10_init_29 : decode cX10_init 29 = .ok (.bipush 12, 2) := by decide +kernel
theorem dX10_init_31 : decode cX10_init 31 = .ok (.newarray .int, 2) := by decide +kernel
theorem dX10_init_33 : decode cX10_init 33 = .ok (.putfield 20, 3) := by decide +kernel
theorem dX10_init_36 : decode cX10_init 36 = .ok (.aload_n 0, 1) := by decide +kernel
theorem dX10_init_37 : decode cX10_init 37 = .ok (.bipush 12, 2) := by decide +kernel
theorem dX10_init_39 : decode cX10_init 39 = .ok (.newarray .int, 2) := by decide +kernel
theorem dX10_init_41 : decode cX10_init 41 = .ok (.putfield 23, 3) := by decide +kernel
theorem dX10_init_44 : decode cX10_init 44 = .ok (.aload_n 0, 1) := by decide +kernel
theorem dX10_init_45 : decode cX10_init 45 = .ok (.bipush 12, 2) := by decide +kernel
theorem dX10_init_47 : decode cX10_init 47 = .ok (.newarray .boolean, 2) := by decide +kernel
theorem dX10_init_49 : decode cX10_init 49 = .ok (.putfield 26, 3) := by decide +kernel
theorem dX10_init_52 : decode cX10_init 52 = .ok (.aload_n 0, 1) := by decide +kernel
theorem dX10_init_53 : decode cX10_init 53 = .ok (.bipush 24, 2) := by decide +kernel
theorem dX10_init_55 : decode cX10_init 55 = .ok (.newarray .int, 2) := by decide +kernel
theorem dX10_init_57 : decode cX10_init 57 = .ok (.putfield 29, 3) := by decide +kernel
theorem dX10_init_60 : decode cX10_init 60 = .ok (.aload_n 0, 1) := by decide +kernel
theorem dX10_init_61 : decode cX10_init 61 = .ok (.bipush 24, 2) := by decide +kernel
theorem dX10_init_63 : decode cX10_init 63 = .ok (.newarray .int, 2) := by decide +kernel
theorem dX10_init_65 : decode cX10_init 65 = .ok (.putfield 32, 3) := by decide +kernel
theorem dX10_init_68 : decode cX10_init 68 = .ok (.aload_n 0, 1) := by decide +kernel
theorem dX10_init_69 : decode cX10_init 69 = .ok (.bipush 72, 2) := by decide +kernel
theorem dX10_init_71 : decode cX10_init 71 = .ok (.newarray .int, 2) := by decide +kernel
theorem dX10_init_73 : decode cX10_init 73 = .ok (.putfield 35, 3) := by decide +kernel
theorem dX10_init_76 : decode cX10_init 76 = .ok (.aload_n 0, 1) := by decide +kernel
theorem dX10_init_77 : decode cX10_init 77 = .ok (.bipush 24, 2) := by decide +kernel
theorem dX10_init_79 : decode cX10_init 79 = .ok (.newarray .int, 2) := by decide +kernel
theorem dX10_init_81 : decode cX10_init 81 = .ok (.putfield 38, 3) := by decide +kernel
theorem dX10_init_84 : decode cX10_init 84 = .ok (.aload_n 0, 1) := by decide +kernel
theorem dX10_init_85 : decode cX10_init 85 = .ok (.bipush 24, 2) := by decide +kernel
theorem dX10_init_87 : decode cX10_init 87 = .ok (.newarray .int, 2) := by decide +kernel
theorem dX10_init_89 : decode cX10_init 89 = .ok (.putfield 41, 3) := by decide +kernel
theorem dX10_init_92 : decode cX10_init 92 = .ok (.aload_n 0, 1) := by decide +kernel
theorem dX10_init_93 : decode cX10_init 93 = .ok (.bipush 24, 2) := by decide +kernel
theorem dX10_init_95 : decode cX10_init 95 = .ok (.newarray .int, 2) := by decide +kernel
theorem dX10_init_97 : decode cX10_init 97 = .ok (.putfield 44, 3) := by decide +kernel
theorem dX10_init_100 : decode cX10_init 100 = .ok (.aload_n 0, 1) := by decide +kernel
theorem dX10_init_101 : decode cX10_init 101 = .ok (.bipush 24, 2) := by decide +kernel
theorem dX10_init_103 : decode cX10_init 103 = .ok (.newarray .int, 2) := by decide +kernel
theorem dX10_init_105 : decode cX10_init 105 = .ok (.putfield 47, 3) := by decide +kernel
theorem dX10_init_108 : decode cX10_init 108 = .ok (.aload_n 0, 1) := by decide +kernel
theorem dX10_init_109 : decode cX10_init 109 = .ok (.bipush 24, 2) := by decide +kernel
theorem dX10_init_111 : decode cX10_init 111 = .ok (.newarray .int, 2) := by decide +kernel
theorem dX10_init_113 : decode cX10_init 113 = .ok (.putfield 50, 3) := by decide +kernel
theorem dX10_init_116 : decode cX10_init 116 = .ok (.aload_n 0, 1) := by decide +kernel
theorem dX10_init_117 : decode cX10_init 117 = .ok (.sipush 16384, 3) := by decide +kernel
theorem dX10_init_120 : decode cX10_init 120 = .ok (.newarray .boolean, 2) := by decide +kernel
theorem dX10_init_122 : decode cX10_init 122 = .ok (.putfield 53, 3) := by decide +kernel
theorem dX10_init_125 : decode cX10_init 125 = .ok (.aload_n 0, 1) := by decide +kernel
theorem dX10_init_126 : decode cX10_init 126 = .ok (.sipush 16384, 3) := by decide +kernel
theorem dX10_init_129 : decode cX10_init 129 = .ok (.newarray .boolean, 2) := by decide +kernel
theorem dX10_init_131 : decode cX10_init 131 = .ok (.putfield 56, 3) := by decide +kernel
theorem dX10_init_134 : decode cX10_init 134 = .ok (.return_, 1) := by decide +kernel
theorem dX10_thrown_0 : decode cX10_thrown 0 = .ok (.aload_n 0, 1) := by decide +kernel
theorem dX10_thrown_1 : decode cX10_thrown 1 = .ok (.getfield 59, 3) := by decide +kernel
theorem dX10_thrown_4 : decode cX10_thrown 4 = .ok (.ireturn, 1) := by decide +kernel
theorem dX10_isLiteral_0 : decode cX10_isLiteral 0 = .ok (.iload_n 0, 1) := by decide +kernel
theorem dX10_isLiteral_1 : decode cX10_isLiteral 1 = .ok (.ifCond .eq 19, 3) := by decide +kernel
theorem dX10_isLiteral_4 : decode cX10_isLiteral 4 = .ok (.iload_n 0, 1) := by decide +kernel
theorem dX10_isLiteral_5 : decode cX10_isLiteral 5 = .ok (.bipush (-10), 2) := by decide +kernel
theorem dX10_isLiteral_7 : decode cX10_isLiteral 7 = .ok (.if_icmp .lt 13, 3) := by decide +kernel
theorem dX10_isLiteral_10 : decode cX10_isLiteral 10 = .ok (.iload_n 0, 1) := by decide +kernel
theorem dX10_isLiteral_11 : decode cX10_isLiteral 11 = .ok (.bipush 10, 2) := by decide +kernel
theorem dX10_isLiteral_13 : decode cX10_isLiteral 13 = .ok (.if_icmp .gt 7, 3) := by decide +kernel
theorem dX10_isLiteral_16 : decode cX10_isLiteral 16 = .ok (.iconst 1, 1) := by decide +kernel
theorem dX10_isLiteral_17 : decode cX10_isLiteral 17 = .ok (.goto 4, 3) := by decide +kernel
theorem dX10_isLiteral_20 : decode cX10_isLiteral 20 = .ok (.iconst 0, 1) := by decide +kernel
theorem dX10_isLiteral_21 : decode cX10_isLiteral 21 = .ok (.ireturn, 1) := by decide +kernel
theorem dX10_isLiteralOrNone_0 : decode cX10_isLiteralOrNone 0 = .ok (.iload_n 0, 1) := by decide +kernel
theorem dX10_isLiteralOrNone_1 : decode cX10_isLiteralOrNone 1 = .ok (.bipush (-10), 2) := by decide +kernel
theorem dX10_isLiteralOrNone_3 : decode cX10_isLiteralOrNone 3 = .ok (.if_icmp .lt 13, 3) := by decide +kernel
theorem dX10_isLiteralOrNone_6 : decode cX10_isLiteralOrNone 6 = .ok (.iload_n 0, 1) := by decide +kernel
theorem dX10_isLiteralOrNone_7 : decode cX10_isLiteralOrNone 7 = .ok (.bipush 10, 2) := by decide +kernel
theorem dX10_isLiteralOrNone_9 : decode cX10_isLiteralOrNone 9 = .ok (.if_icmp .gt 7, 3) := by decide +kernel
theorem dX10_isLiteralOrNone_12 : decode cX10_isLiteralOrNone 12 = .ok (.iconst 1, 1) := by decide +kernel
theorem dX10_isLiteralOrNone_13 : decode cX10_isLiteralOrNone 13 = .ok (.goto 4, 3) := by decide +kernel
theorem dX10_isLiteralOrNone_16 : decode cX10_isLiteralOrNone 16 = .ok (.iconst 0, 1) := by decide +kernel
theorem dX10_isLiteralOrNone_17 : decode cX10_isLiteralOrNone 17 = .ok (.ireturn, 1) := by decide +kernel
theorem dX10_passes_0 : decode cX10_passes 0 = .ok (.aload_n 0, 1) := by decide +kernel
theorem dX10_passes_1 : decode cX10_passes 1 = .ok (.iload_n 1, 1) := by decide +kernel
theorem dX10_passes_2 : decode cX10_passes 2 = .ok (.putfield 59, 3) := by decide +kernel
theorem dX10_passes_5 : decode cX10_passes 5 = .ok (.iload_n 1, 1) := by decide +kernel
theorem dX10_passes_6 : decode cX10_passes 6 = .ok (.ifCond .ne 7, 3) := by decide +kernel
theorem dX10_passes_9 : decode cX10_passes 9 = .ok (.iconst 1, 1) := by decide +kernel
theorem dX10_passes_10 : decode cX10_passes 10 = .ok (.goto 4, 3) := by decide +kernel
theorem dX10_passes_13 : decode cX10_passes 13 = .ok (.iconst 0, 1) := by decide +kernel
theorem dX10_passes_14 : decode cX10_passes 14 = .ok (.ireturn, 1) := by decide +kernel
theorem dX10_factsNow_0 : decode cX10_factsNow 0 = .ok (.iconst 0, 1) := by decide +kernel
theorem dX10_factsNow_1 : decode cX10_factsNow 1 = .ok (.istore_n 1, 1) := by decide +kernel
theorem dX10_factsNow_2 : decode cX10_factsNow 2 = .ok (.iconst 0, 1) := by decide +kernel
theorem dX10_factsNow_3 : decode cX10_factsNow 3 = .ok (.istore_n 2, 1) := by decide +kernel
theorem dX10_factsNow_4 : decode cX10_factsNow 4 = .ok (.iload_n 2, 1) := by decide +kernel
theorem dX10_factsNow_5 : decode cX10_factsNow 5 = .ok (.bipush 21, 2) := by decide +kernel
theorem dX10_factsNow_7 : decode cX10_factsNow 7 = .ok (.if_icmp .ge 26, 3) := by decide +kernel
theorem dX10_factsNow_10 : decode cX10_factsNow 10 = .ok (.iload_n 1, 1) := by decide +kernel
theorem dX10_factsNow_11 : decode cX10_factsNow 11 = .ok (.aload_n 0, 1) := by decide +kernel
theorem dX10_factsNow_12 : decode cX10_factsNow 12 = .ok (.getfield 7, 3) := by decide +kernel
theorem dX10_factsNow_15 : decode cX10_factsNow 15 = .ok (.iload_n 2, 1) := by decide +kernel
theorem dX10_factsNow_16 : decode cX10_factsNow 16 = .ok (.baload, 1) := by decide +kernel
theorem dX10_factsNow_17 : decode cX10_factsNow 17 = .ok (.ifCond .eq 7, 3) := by decide +kernel
theorem dX10_factsNow_20 : decode cX10_factsNow 20 = .ok (.iconst 1, 1) := by decide +kernel
theorem dX10_factsNow_21 : decode cX10_factsNow 21 = .ok (.goto 4, 3) := by decide +kernel
theorem dX10_factsNow_24 : decode cX10_factsNow 24 = .ok (.iconst 0, 1) := by decide +kernel
theorem dX10_factsNow_25 : decode cX10_factsNow 25 = .ok (.iadd, 1) := by decide +kernel
theorem dX10_factsNow_26 : decode cX10_factsNow 26 = .ok (.istore_n 1, 1) := by decide +kernel
theorem dX10_factsNow_27 : decode cX10_factsNow 27 = .ok (.iinc 2 1, 3) := by decide +kernel
theorem dX10_factsNow_30 : decode cX10_factsNow 30 = .ok (.goto (-26), 3) := by decide +kernel
theorem dX10_factsNow_33 : decode cX10_factsNow 33 = .ok (.iload_n 1, 1) := by decide +kernel
theorem dX10_factsNow_34 : decode cX10_factsNow 34 = .ok (.ireturn, 1) := by decide +kernel
theorem dX10_addFact_0 : decode cX10_addFact 0 = .ok (.iload_n 1, 1) := by decide +kernel
theorem dX10_addFact_1 : decode cX10_addFact 1 = .ok (.invokestatic 63, 3) := by decide +kernel
theorem dX10_addFact_4 : decode cX10_addFact 4 = .ok (.istore_n 2, 1) := by decide +kernel
theorem dX10_addFact_5 : decode cX10_addFact 5 = .ok (.aload_n 0, 1) := by decide +kernel
theorem dX10_addFact_6 : decode cX10_addFact 6 = .ok (.iload_n 2, 1) := by decide +kernel
theorem dX10_addFact_7 : decode cX10_addFact 7 = .ok (.ifCond .ne 7, 3) := by decide +kernel
theorem dX10_addFact_10 : decode cX10_addFact 10 = .ok (.iconst 1, 1) := by decide +kernel
theorem dX10_addFact_11 : decode cX10_addFact 11 = .ok (.goto 32, 3) := by decide +kernel
theorem dX10_addFact_14 : decode cX10_addFact 14 = .ok (.aload_n 0, 1) := by decide +kernel
theorem dX10_addFact_15 : decode cX10_addFact 15 = .ok (.getfield 7, 3) := by decide +kernel
theorem dX10_addFact_18 : decode cX10_addFact 18 = .ok (.bipush 10, 2) := by decide +kernel
theorem dX10_addFact_20 : decode cX10_addFact 20 = .ok (.iload_n 1, 1) := by decide +kernel
theorem dX10_addFact_21 : decode cX10_addFact 21 = .ok (.iadd, 1) := by decide +kernel
theorem dX10_addFact_22 : decode cX10_addFact 22 = .ok (.baload, 1) := by decide +kernel
theorem dX10_addFact_23 : decode cX10_addFact 23 = .ok (.ifCond .ne 15, 3) := by decide +kernel
theorem dX10_addFact_26 : decode cX10_addFact 26 = .ok (.aload_n 0, 1) := by decide +kernel
theorem dX10_addFact_27 : decode cX10_addFact 27 = .ok (.getfield 7, 3) := by decide +kernel
theorem dX10_addFact_30 : decode cX10_addFact 30 = .ok (.bipush 10, 2) := by decide +kernel
theorem dX10_addFact_32 : decode cX10_addFact 32 = .ok (.iload_n 1, 1) := by decide +kernel
theorem dX10_addFact_33 : decode cX10_addFact 33 = .ok (.isub, 1) := by decide +kernel
theorem dX10_addFact_34 : decode cX10_addFact 34 = .ok (.baload, 1) := by decide +kernel
theorem dX10_addFact_35 : decode cX10_addFact 35 = .ok (.ifCond .eq 7, 3) := by decide +kernel
theorem dX10_addFact_38 : decode cX10_addFact 38 = .ok (.iconst 2, 1) := by decide +kernel
theorem dX10_addFact_39 : decode cX10_addFact 39 = .ok (.goto 4, 3) := by decide +kernel
theorem dX10_addFact_42 : decode cX10_addFact 42 = .ok (.iconst 0, 1) := by decide +kernel
theorem dX10_addFact_43 : decode cX10_addFact 43 = .ok (.invokevirtual 67, 3) := by decide +kernel
theorem dX10_addFact_46 : decode cX10_addFact 46 = .ok (.ifCond .ne 5, 3) := by decide +kernel
theorem dX10_addFact_49 : decode cX10_addFact 49 = .ok (.iconst 0, 1) := by decide +kernel
theorem dX10_addFact_50 : decode cX10_addFact 50 = .ok (.ireturn, 1) := by decide +kernel
theorem dX10_addFact_51 : decode cX10_addFact 51 = .ok (.aload_n 0, 1) := by decide +kernel
theorem dX10_addFact_52 : decode cX10_addFact 52 = .ok (.getfield 7, 3) := by decide +kernel
theorem dX10_addFact_55 : decode cX10_addFact 55 = .ok (.bipush 10, 2) := by decide +kernel
theorem dX10_addFact_57 : decode cX10_addFact 57 = .ok (.iload_n 1, 1) := by decide +kernel
theorem dX10_addFact_58 : decode cX10_addFact 58 = .ok (.iadd, 1) := by decide +kernel
theorem dX10_addFact_59 : decode cX10_addFact 59 = .ok (.iconst 1, 1) := by decide +kernel
theorem dX10_addFact_60 : decode cX10_addFact 60 = .ok (.bastore, 1) := by decide +kernel
theorem dX10_addFact_61 : decode cX10_addFact 61 = .ok (.aload_n 0, 1) := by decide +kernel
theorem dX10_addFact_62 : decode cX10_addFact 62 = .ok (.invokevirtual 70, 3) := by decide +kernel
theorem dX10_addFact_65 : decode cX10_addFact 65 = .ok (.ireturn, 1) := by decide +kernel
theorem dX10_takeBack_0 : decode cX10_takeBack 0 = .ok (.aload_n 0, 1) := by decide +kernel
theorem dX10_takeBack_1 : decode cX10_takeBack 1 = .ok (.iload_n 1, 1) := by decide +kernel
theorem dX10_takeBack_2 : decode cX10_takeBack 2 = .ok (.invokestatic 63, 3) := by decide +kernel
theorem dX10_takeBack_5 : decode cX10_takeBack 5 = .ok (.ifCond .eq 7, 3) := by decide +kernel
theorem dX10_takeBack_8 : decode cX10_takeBack 8 = .ok (.iconst 0, 1) := by decide +kernel
theorem dX10_takeBack_9 : decode cX10_takeBack 9 = .ok (.goto 4, 3) := by decide +kernel
theorem dX10_takeBack_12 : decode cX10_takeBack 12 = .ok (.iconst 1, 1) := by decide +kernel
theorem dX10_takeBack_13 : decode cX10_takeBack 13 = .ok (.invokevirtual 67, 3) := by decide +kernel
theorem dX10_takeBack_16 : decode cX10_takeBack 16 = .ok (.ifCond .ne 5, 3) := by decide +kernel
theorem dX10_takeBack_19 : decode cX10_takeBack 19 = .ok (.iconst 0, 1) := by decide +kernel
theorem dX10_takeBack_20 : decode cX10_takeBack 20 = .ok (.ireturn, 1) := by decide +kernel
theorem dX10_takeBack_21 : decode cX10_takeBack 21 = .ok (.aload_n 0, 1) := by decide +kernel
theorem dX10_takeBack_22 : decode cX10_takeBack 22 = .ok (.getfield 7, 3) := by decide +kernel
theorem dX10_takeBack_25 : decode cX10_takeBack 25 = .ok (.bipush 10, 2) := by decide +kernel
theorem dX10_takeBack_27 : decode cX10_takeBack 27 = .ok (.iload_n 1, 1) := by decide +kernel
theorem dX10_takeBack_28 : decode cX10_takeBack 28 = .ok (.iadd, 1) := by decide +kernel
theorem dX10_takeBack_29 : decode cX10_takeBack 29 = .ok (.baload, 1) := by decide +kernel
theorem dX10_takeBack_30 : decode cX10_takeBack 30 = .ok (.istore_n 2, 1) := by decide +kernel
theorem dX10_takeBack_31 : decode cX10_takeBack 31 = .ok (.aload_n 0, 1) := by decide +kernel
theorem dX10_takeBack_32 : decode cX10_takeBack 32 = .ok (.getfield 7, 3) := by decide +kernel
theorem dX10_takeBack_35 : decode cX10_takeBack 35 = .ok (.bipush 10, 2) := by decide +kernel
theorem dX10_takeBack_37 : decode cX10_takeBack 37 = .ok (.iload_n 1, 1) := by decide +kernel
theorem dX10_takeBack_38 : decode cX10_takeBack 38 = .ok (.iadd, 1) := by decide +kernel
theorem dX10_takeBack_39 : decode cX10_takeBack 39 = .ok (.iconst 0, 1) := by decide +kernel
theorem dX10_takeBack_40 : decode cX10_takeBack 40 = .ok (.bastore, 1) := by decide +kernel
theorem dX10_takeBack_41 : decode cX10_takeBack 41 = .ok (.iload_n 2, 1) := by decide +kernel
theorem dX10_takeBack_42 : decode cX10_takeBack 42 = .ok (.ireturn, 1) := by decide +kernel
theorem dX10_addRule_0 : decode cX10_addRule 0 = .ok (.iload_n 1, 1) := by decide +kernel
theorem dX10_addRule_1 : decode cX10_addRule 1 = .ok (.invokestatic 63, 3) := by decide +kernel
theorem dX10_addRule_4 : decode cX10_addRule 4 = .ok (.ifCond .eq 41, 3) := by decide +kernel
theorem dX10_addRule_7 : decode cX10_addRule 7 = .ok (.iload_n 2, 1) := by decide +kernel
theorem dX10_addRule_8 : decode cX10_addRule 8 = .ok (.invokestatic 74, 3) := by decide +kernel
theorem dX10_addRule_11 : decode cX10_addRule 11 = .ok (.ifCond .eq 34, 3) := by decide +kernel
theorem dX10_addRule_14 : decode cX10_addRule 14 = .ok (.iload_n 3, 1) := by decide +kernel
theorem dX10_addRule_15 : decode cX10_addRule 15 = .ok (.invokestatic 74, 3) := by decide +kernel
theorem dX10_addRule_18 : decode cX10_addRule 18 = .ok (.ifCond .eq 27, 3) := by decide +kernel
theorem dX10_addRule_21 : decode cX10_addRule 21 = .ok (.iload 4, 2) := by decide +kernel
theorem dX10_addRule_23 : decode cX10_addRule 23 = .ok (.invokestatic 74, 3) := by decide +kernel
theorem dX10_addRule_26 : decode cX10_addRule 26 = .ok (.ifCond .eq 19, 3) := by decide +kernel
theorem dX10_addRule_29 : decode cX10_addRule 29 = .ok (.iload 5, 2) := by decide +kernel
theorem dX10_addRule_31 : decode cX10_addRule 31 = .ok (.ifCond .lt 14, 3) := by decide +kernel
theorem dX10_addRule_34 : decode cX10_addRule 34 = .ok (.iload 5, 2) := by decide +kernel
theorem dX10_addRule_36 : decode cX10_addRule 36 = .ok (.bipush 9, 2) := by decide +kernel
theorem dX10_addRule_38 : decode cX10_addRule 38 = .ok (.if_icmp .gt 7, 3) := by decide +kernel
theorem dX10_addRule_41 : decode cX10_addRule 41 = .ok (.iconst 1, 1) := by decide +kernel
theorem dX10_addRule_42 : decode cX10_addRule 42 = .ok (.goto 4, 3) := by decide +kernel
theorem dX10_addRule_45 : decode cX10_addRule 45 = .ok (.iconst 0, 1) := by decide +kernel
theorem dX10_addRule_46 : decode cX10_addRule 46 = .ok (.istore 6, 2) := by decide +kernel
theorem dX10_addRule_48 : decode cX10_addRule 48 = .ok (.iload_n 2, 1) := by decide +kernel
theorem dX10_addRule_49 : decode cX10_addRule 49 = .ok (.ifCond .ne 7, 3) := by decide +kernel
theorem dX10_addRule_52 : decode cX10_addRule 52 = .ok (.iload_n 3, 1) := by decide +kernel
theorem dX10_addRule_53 : decode cX10_addRule 53 = .ok (.ifCond .ne 16, 3) := by decide +kernel
theorem dX10_addRule_56 : decode cX10_addRule 56 = .ok (.iload_n 3, 1) := by decide +kernel
theorem dX10_addRule_57 : decode cX10_addRule 57 = .ok (.ifCond .ne 8, 3) := by decide +kernel
theorem dX10_addRule_60 : decode cX10_addRule 60 = .ok (.iload 4, 2) := by decide +kernel
theorem dX10_addRule_62 : decode cX10_addRule 62 = .ok (.ifCond .ne 7, 3) := by decide +kernel
theorem dX10_addRule_65 : decode cX10_addRule 65 = .ok (.iconst 1, 1) := by decide +kernel
theorem dX10_addRule_66 : decode cX10_addRule 66 = .ok (.goto 4, 3) := by decide +kernel
theorem dX10_addRule_69 : decode cX10_addRule 69 = .ok (.iconst 0, 1) := by decide +kernel
theorem dX10_addRule_70 : decode cX10_addRule 70 = .ok (.istore 7, 2) := by decide +kernel
theorem dX10_addRule_72 : decode cX10_addRule 72 = .ok (.iload_n 2, 1) := by decide +kernel
theorem dX10_addRule_73 : decode cX10_addRule 73 = .ok (.ifCond .eq 14, 3) := by decide +kernel
theorem dX10_addRule_76 : decode cX10_addRule 76 = .ok (.iload_n 2, 1) := by decide +kernel
theorem dX10_addRule_77 : decode cX10_addRule 77 = .ok (.iload_n 3, 1) := by decide +kernel
theorem dX10_addRule_78 : decode cX10_addRule 78 = .ok (.if_icmp .eq 19, 3) := by decide +kernel
theorem dX10_addRule_81 : decode cX10_addRule 81 = .ok (.iload_n 2, 1) := by decide +kernel
theorem dX10_addRule_82 : decode cX10_addRule 82 = .ok (.iload 4, 2) := by decide +kernel
theorem dX10_addRule_84 : decode cX10_addRule 84 = .ok (.if_icmp .eq 13, 3) := by decide +kernel
theorem dX10_addRule_87 : decode cX10_addRule 87 = .ok (.iload_n 3, 1) := by decide +kernel
theorem dX10_addRule_88 : decode cX10_addRule 88 = .ok (.ifCond .eq 13, 3) := by decide +kernel
theorem dX10_addRule_91 : decode cX10_addRule 91 = .ok (.iload_n 3, 1) := by decide +kernel
theorem dX10_addRule_92 : decode cX10_addRule 92 = .ok (.iload 4, 2) := by decide +kernel
theorem dX10_addRule_94 : decode cX10_addRule 94 = .ok (.if_icmp .ne 7, 3) := by decide +kernel
theorem dX10_addRule_97 : decode cX10_addRule 97 = .ok (.iconst 1, 1) := by decide +kernel
theorem dX10_addRule_98 : decode cX10_addRule 98 = .ok (.goto 4, 3) := by decide +kernel
theorem dX10_addRule_101 : decode cX10_addRule 101 = .ok (.iconst 0, 1) := by decide +kernel
theorem dX10_addRule_102 : decode cX10_addRule 102 = .ok (.istore 8, 2) := by decide +kernel
theorem dX10_addRule_104 : decode cX10_addRule 104 = .ok (.aload_n 0, 1) := by decide +kernel
theorem dX10_addRule_105 : decode cX10_addRule 105 = .ok (.iload 6, 2) := by decide +kernel
theorem dX10_addRule_107 : decode cX10_addRule 107 = .ok (.ifCond .eq 13, 3) := by decide +kernel
theorem dX10_addRule_110 : decode cX10_addRule 110 = .ok (.iload 7, 2) := by decide +kernel
theorem dX10_addRule_112 : decode cX10_addRule 112 = .ok (.ifCond .eq 8, 3) := by decide +kernel
theorem dX10_addRule_115 : decode cX10_addRule 115 = .ok (.iload 8, 2) := by decide +kernel
theorem dX10_addRule_117 : decode cX10_addRule 117 = .ok (.ifCond .eq 7, 3) := by decide +kernel
theorem dX10_addRule_120 : decode cX10_addRule 120 = .ok (.iconst 1, 1) := by decide +kernel
theorem dX10_addRule_121 : decode cX10_addRule 121 = .ok (.goto 17, 3) := by decide +kernel
theorem dX10_addRule_124 : decode cX10_addRule 124 = .ok (.aload_n 0, 1) := by decide +kernel
theorem dX10_addRule_125 : decode cX10_addRule 125 = .ok (.getfield 77, 3) := by decide +kernel
theorem dX10_addRule_128 : decode cX10_addRule 128 = .ok (.bipush 12, 2) := by decide +kernel
theorem dX10_addRule_130 : decode cX10_addRule 130 = .ok (.if_icmp .ne 7, 3) := by decide +kernel
theorem dX10_addRule_133 : decode cX10_addRule 133 = .ok (.iconst 2, 1) := by decide +kernel
theorem dX10_addRule_134 : decode cX10_addRule 134 = .ok (.goto 4, 3) := by decide +kernel
theorem dX10_addRule_137 : decode cX10_addRule 137 = .ok (.iconst 0, 1) := by decide +kernel
theorem dX10_addRule_138 : decode cX10_addRule 138 = .ok (.invokevirtual 67, 3) := by decide +kernel
theorem dX10_addRule_141 : decode cX10_addRule 141 = .ok (.ifCond .ne 5, 3) := by decide +kernel
theorem dX10_addRule_144 : decode cX10_addRule 144 = .ok (.iconst 0, 1) := by decide +kernel
theorem dX10_addRule_145 : decode cX10_addRule 145 = .ok (.ireturn, 1) := by decide +kernel
theorem dX10_addRule_146 : decode cX10_addRule 146 = .ok (.aload_n 0, 1) := by decide +kernel
theorem dX10_addRule_147 : decode cX10_addRule 147 = .ok (.getfield 13, 3) := by decide +kernel
theorem dX10_addRule_150 : decode cX10_addRule 150 = .ok (.aload_n 0, 1) := by decide +kernel
theorem dX10_addRule_151 : decode cX10_addRule 151 = .ok (.getfield 77, 3) := by decide +kernel
theorem dX10_addRule_154 : decode cX10_addRule 154 = .ok (.iload_n 1, 1) := by decide +kernel
theorem dX10_addRule_155 : decode cX10_addRule 155 = .ok (.iastore, 1) := by decide +kernel
theorem dX10_addRule_156 : decode cX10_addRule 156 = .ok (.aload_n 0, 1) := by decide +kernel
theorem dX10_addRule_157 : decode cX10_addRule 157 = .ok (.getfield 17, 3) := by decide +kernel
theorem dX10_addRule_160 : decode cX10_addRule 160 = .ok (.iconst 3, 1) := by decide +kernel
theorem dX10_addRule_161 : decode cX10_addRule 161 = .ok (.aload_n 0, 1) := by decide +kernel
theorem dX10_addRule_162 : decode cX10_addRule 162 = .ok (.getfield 77, 3) := by decide +kernel
theorem dX10_addRule_165 : decode cX10_addRule 165 = .ok (.imul, 1) := by decide +kernel
theorem dX10_addRule_166 : decode cX10_addRule 166 = .ok (.iload_n 2, 1) := by decide +kernel
theorem dX10_addRule_167 : decode cX10_addRule 167 = .ok (.iastore, 1) := by decide +kernel
theorem dX10_addRule_168 : decode cX10_addRule 168 = .ok (.aload_n 0, 1) := by decide +kernel
theorem dX10_addRule_169 : decode cX10_addRule 169 = .ok (.getfield 17, 3) := by decide +kernel
theorem dX10_addRule_172 : decode cX10_addRule 172 = .ok (.iconst 3, 1) := by decide +kernel
theorem dX10_addRule_173 : decode cX10_addRule 173 = .ok (.aload_n 0, 1) := by decide +kernel
theorem dX10_addRule_174 : decode cX10_addRule 174 = .ok (.getfield 77, 3) := by decide +kernel
theorem dX10_addRule_177 : decode cX10_addRule 177 = .ok (.imul, 1) := by decide +kernel
theorem dX10_addRule_178 : decode cX10_addRule 178 = .ok (.iconst 1, 1) := by decide +kernel
theorem dX10_addRule_179 : decode cX10_addRule 179 = .ok (.iadd, 1) := by decide +kernel
theorem dX10_addRule_180 : decode cX10_addRule 180 = .ok (.iload_n 3, 1) := by decide +kernel
theorem dX10_addRule_181 : decode cX10_addRule 181 = .ok (.iastore, 1) := by decide +kernel
theorem dX10_addRule_182 : decode cX10_addRule 182 = .ok (.aload_n 0, 1) := by decide +kernel
theorem dX10_addRule_183 : decode cX10_addRule 183 = .ok (.getfield 17, 3) := by decide +kernel
theorem dX10_addRule_186 : decode cX10_addRule 186 = .ok (.iconst 3, 1) := by decide +kernel
theorem dX10_addRule_187 : decode cX10_addRule 187 = .ok (.aload_n 0, 1) := by decide +kernel
theorem dX10_addRule_188 : decode cX10_addRule 188 = .ok (.getfield 77, 3) := by decide +kernel
theorem dX10_addRule_191 : decode cX10_addRule 191 = .ok (.imul, 1) := by decide +kernel
theorem dX10_addRule_192 : decode cX10_addRule 192 = .ok (.iconst 2, 1) := by decide +kernel
theorem dX10_addRule_193 : decode cX10_addRule 193 = .ok (.iadd, 1) := by decide +kernel
theorem dX10_addRule_194 : decode cX10_addRule 194 = .ok (.iload 4, 2) := by decide +kernel
theorem dX10_addRule_196 : decode cX10_addRule 196 = .ok (.iastore, 1) := by decide +kernel
theorem dX10_addRule_197 : decode cX10_addRule 197 = .ok (.aload_n 0, 1) := by decide +kernel
theorem dX10_addRule_198 : decode cX10_addRule 198 = .ok (.getfield 20, 3) := by decide +kernel
theorem dX10_addRule_201 : decode cX10_addRule 201 = .ok (.aload_n 0, 1) := by decide +kernel
theorem dX10_addRule_202 : decode cX10_addRule 202 = .ok (.getfield 77, 3) := by decide +kernel
theorem dX10_addRule_205 : decode cX10_addRule 205 = .ok (.iload 5, 2) := by decide +kernel
theorem dX10_addRule_207 : decode cX10_addRule 207 = .ok (.iastore, 1) := by decide +kernel
theorem dX10_addRule_208 : decode cX10_addRule 208 = .ok (.aload_n 0, 1) := by decide +kernel
theorem dX10_addRule_209 : decode cX10_addRule 209 = .ok (.getfield 23, 3) := by decide +kernel
theorem dX10_addRule_212 : decode cX10_addRule 212 = .ok (.aload_n 0, 1) := by decide +kernel
theorem dX10_addRule_213 : decode cX10_addRule 213 = .ok (.getfield 77, 3) := by decide +kernel
theorem dX10_addRule_216 : decode cX10_addRule 216 = .ok (.iconst 0, 1) := by decide +kernel
theorem dX10_addRule_217 : decode cX10_addRule 217 = .ok (.iastore, 1) := by decide +kernel
theorem dX10_addRule_218 : decode cX10_addRule 218 = .ok (.aload_n 0, 1) := by decide +kernel
theorem dX10_addRule_219 : decode cX10_addRule 219 = .ok (.getfield 26, 3) := by decide +kernel
theorem dX10_addRule_222 : decode cX10_addRule 222 = .ok (.aload_n 0, 1) := by decide +kernel
theorem dX10_addRule_223 : decode cX10_addRule 223 = .ok (.getfield 77, 3) := by decide +kernel
theorem dX10_addRule_226 : decode cX10_addRule 226 = .ok (.iconst 1, 1) := by decide +kernel
theorem dX10_addRule_227 : decode cX10_addRule 227 = .ok (.bastore, 1) := by decide +kernel
theorem dX10_addRule_228 : decode cX10_addRule 228 = .ok (.aload_n 0, 1) := by decide +kernel
theorem dX10_addRule_229 : decode cX10_addRule 229 = .ok (.dup, 1) := by decide +kernel
theorem dX10_addRule_230 : decode cX10_addRule 230 = .ok (.getfield 77, 3) := by decide +kernel
theorem dX10_addRule_233 : decode cX10_addRule 233 = .ok (.iconst 1, 1) := by decide +kernel
theorem dX10_addRule_234 : decode cX10_addRule 234 = .ok (.iadd, 1) := by decide +kernel
theorem dX10_addRule_235 : decode cX10_addRule 235 = .ok (.putfield 77, 3) := by decide +kernel
theorem dX10_addRule_238 : decode cX10_addRule 238 = .ok (.aload_n 0, 1) := by decide +kernel
theorem dX10_addRule_239 : decode cX10_addRule 239 = .ok (.getfield 77, 3) := by decide +kernel
theorem dX10_addRule_242 : decode cX10_addRule 242 = .ok (.iconst 1, 1) := by decide +kernel
theorem dX10_addRule_243 : decode cX10_addRule 243 = .ok (.isub, 1) := by decide +kernel
theorem dX10_addRule_244 : decode cX10_addRule 244 = .ok (.ireturn, 1) := by decide +kernel
theorem dX10_isRule_0 : decode cX10_isRule 0 = .ok (.iload_n 1, 1) := by decide +kernel
theorem dX10_isRule_1 : decode cX10_isRule 1 = .ok (.ifCond .lt 15, 3) := by decide +kernel
theorem dX10_isRule_4 : decode cX10_isRule 4 = .ok (.iload_n 1, 1) := by decide +kernel
theorem dX10_isRule_5 : decode cX10_isRule 5 = .ok (.aload_n 0, 1) := by decide +kernel
theorem dX10_isRule_6 : decode cX10_isRule 6 = .ok (.getfield 77, 3) := by decide +kernel
theorem dX10_isRule_9 : decode cX10_isRule 9 = .ok (.if_icmp .ge 7, 3) := by decide +kernel
theorem dX10_isRule_12 : decode cX10_isRule 12 = .ok (.iconst 1, 1) := by decide +kernel
theorem dX10_isRule_13 : decode cX10_isRule 13 = .ok (.goto 4, 3) := by decide +kernel
theorem dX10_isRule_16 : decode cX10_isRule 16 = .ok (.iconst 0, 1) := by decide +kernel
theorem dX10_isRule_17 : decode cX10_isRule 17 = .ok (.ireturn, 1) := by decide +kernel
theorem dX10_setPriority_0 : decode cX10_setPriority 0 = .ok (.aload_n 0, 1) := by decide +kernel
theorem dX10_setPriority_1 : decode cX10_setPriority 1 = .ok (.aload_n 0, 1) := by decide +kernel
theorem dX10_setPriority_2 : decode cX10_setPriority 2 = .ok (.iload_n 1, 1) := by decide +kernel
theorem dX10_setPriority_3 : decode cX10_setPriority 3 = .ok (.invokevirtual 80, 3) := by decide +kernel
theorem dX10_setPriority_6 : decode cX10_setPriority 6 = .ok (.ifCond .ne 7, 3) := by decide +kernel
theorem dX10_setPriority_9 : decode cX10_setPriority 9 = .ok (.iconst 1, 1) := by decide +kernel
theorem dX10_setPriority_10 : decode cX10_setPriority 10 = .ok (.goto 18, 3) := by decide +kernel
theorem dX10_setPriority_13 : decode cX10_setPriority 13 = .ok (.iload_n 2, 1) := by decide +kernel
theorem dX10_setPriority_14 : decode cX10_setPriority 14 = .ok (.ifCond .lt 9, 3) := by decide +kernel
theorem dX10_setPriority_17 : decode cX10_setPriority 17 = .ok (.iload_n 2, 1) := by decide +kernel
theorem dX10_setPriority_18 : decode cX10_setPriority 18 = .ok (.bipush 9, 2) := by decide +kernel
theorem dX10_setPriority_20 : decode cX10_setPriority 20 = .ok (.if_icmp .le 7, 3) := by decide +kernel
theorem dX10_setPriority_23 : decode cX10_setPriority 23 = .ok (.iconst 2, 1) := by decide +kernel
theorem dX10_setPriority_24 : decode cX10_setPriority 24 = .ok (.goto 4, 3) := by decide +kernel
theorem dX10_setPriority_27 : decode cX10_setPriority 27 = .ok (.iconst 0, 1) := by decide +kernel
theorem dX10_setPriority_28 : decode cX10_setPriority 28 = .ok (.invokevirtual 67, 3) := by decide +kernel
theorem dX10_setPriority_31 : decode cX10_setPriority 31 = .ok (.ifCond .ne 5, 3) := by decide +kernel
theorem dX10_setPriority_34 : decode cX10_setPriority 34 = .ok (.iconst 0, 1) := by decide +kernel
theorem dX10_setPriority_35 : decode cX10_setPriority 35 = .ok (.ireturn, 1) := by decide +kernel
theorem dX10_setPriority_36 : decode cX10_setPriority 36 = .ok (.aload_n 0, 1) := by decide +kernel
theorem dX10_setPriority_37 : decode cX10_setPriority 37 = .ok (.getfield 20, 3) := by decide +kernel
theorem dX10_setPriority_40 : decode cX10_setPriority 40 = .ok (.iload_n 1, 1) := by decide +kernel
theorem dX10_setPriority_41 : decode cX10_setPriority 41 = .ok (.iaload, 1) := by decide +kernel
theorem dX10_setPriority_42 : decode cX10_setPriority 42 = .ok (.istore_n 3, 1) := by decide +kernel
theorem dX10_setPriority_43 : decode cX10_setPriority 43 = .ok (.aload_n 0, 1) := by decide +kernel
theorem dX10_setPriority_44 : decode cX10_setPriority 44 = .ok (.getfield 20, 3) := by decide +kernel
theorem dX10_setPriority_47 : decode cX10_setPriority 47 = .ok (.iload_n 1, 1) := by decide +kernel
theorem dX10_setPriority_48 : decode cX10_setPriority 48 = .ok (.iload_n 2, 1) := by decide +kernel
theorem dX10_setPriority_49 : decode cX10_setPriority 49 = .ok (.iastore, 1) := by decide +kernel
theorem dX10_setPriority_50 : decode cX10_setPriority 50 = .ok (.iload_n 3, 1) := by decide +kernel
theorem dX10_setPriority_51 : decode cX10_setPriority 51 = .ok (.ireturn, 1) := by decide +kernel
theorem dX10_setException_0 : decode cX10_setException 0 = .ok (.aload_n 0, 1) := by decide +kernel
theorem dX10_setException_1 : decode cX10_setException 1 = .ok (.aload_n 0, 1) := by decide +kernel
theorem dX10_setException_2 : decode cX10_setException 2 = .ok (.iload_n 1, 1) := by decide +kernel
theorem dX10_setException_3 : decode cX10_setException 3 = .ok (.invokevirtual 80, 3) := by decide +kernel
theorem dX10_setException_6 : decode cX10_setException 6 = .ok (.ifCond .ne 7, 3) := by decide +kernel
theorem dX10_setException_9 : decode cX10_setException 9 = .ok (.iconst 1, 1) := by decide +kernel
theorem dX10_setException_10 : decode cX10_setException 10 = .ok (.goto 15, 3) := by decide +kernel
theorem dX10_setException_13 : decode cX10_setException 13 = .ok (.iload_n 2, 1) := by decide +kernel
theorem dX10_setException_14 : decode cX10_setException 14 = .ok (.invokestatic 74, 3) := by decide +kernel
theorem dX10_setException_17 : decode cX10_setException 17 = .ok (.ifCond .eq 7, 3) := by decide +kernel
theorem dX10_setException_20 : decode cX10_setException 20 = .ok (.iconst 0, 1) := by decide +kernel
theorem dX10_setException_21 : decode cX10_setException 21 = .ok (.goto 4, 3) := by decide +kernel
theorem dX10_setException_24 : decode cX10_setException 24 = .ok (.iconst 2, 1) := by decide +kernel
theorem dX10_setException_25 : decode cX10_setException 25 = .ok (.invokevirtual 67, 3) := by decide +kernel
theorem dX10_setException_28 : decode cX10_setException 28 = .ok (.ifCond .ne 5, 3) := by decide +kernel
theorem dX10_setException_31 : decode cX10_setException 31 = .ok (.iconst 0, 1) := by decide +kernel
theorem dX10_setException_32 : decode cX10_setException 32 = .ok (.ireturn, 1) := by decide +kernel
theorem dX10_setException_33 : decode cX10_setException 33 = .ok (.aload_n 0, 1) := by decide +kernel
theorem dX10_setException_34 : decode cX10_setException 34 = .ok (.getfield 23, 3) := by decide +kernel
theorem dX10_setException_37 : decode cX10_setException 37 = .ok (.iload_n 1, 1) := by decide +kernel
theorem dX10_setException_38 : decode cX10_setException 38 = .ok (.iaload, 1) := by decide +kernel
theorem dX10_setException_39 : decode cX10_setException 39 = .ok (.istore_n 3, 1) := by decide +kernel
theorem dX10_setException_40 : decode cX10_setException 40 = .ok (.aload_n 0, 1) := by decide +kernel
theorem dX10_setException_41 : decode cX10_setException 41 = .ok (.getfield 23, 3) := by decide +kernel
theorem dX10_setException_44 : decode cX10_setException 44 = .ok (.iload_n 1, 1) := by decide +kernel
theorem dX10_setException_45 : decode cX10_setException 45 = .ok (.iload_n 2, 1) := by decide +kernel
theorem dX10_setException_46 : decode cX10_setException 46 = .ok (.iastore, 1) := by decide +kernel
theorem dX10_setException_47 : decode cX10_setException 47 = .ok (.iload_n 3, 1) := by decide +kernel
theorem dX10_setException_48 : decode cX10_setException 48 = .ok (.ireturn, 1) := by decide +kernel
theorem dX10_turn_0 : decode cX10_turn 0 = .ok (.aload_n 0, 1) := by decide +kernel
theorem dX10_turn_1 : decode cX10_turn 1 = .ok (.aload_n 0, 1) := by decide +kernel
theorem dX10_turn_2 : decode cX10_turn 2 = .ok (.iload_n 1, 1) := by decide +kernel
theorem dX10_turn_3 : decode cX10_turn 3 = .ok (.invokevirtual 80, 3) := by decide +kernel
theorem dX10_turn_6 : decode cX10_turn 6 = .ok (.ifCond .eq 7, 3) := by decide +kernel
theorem dX10_turn_9 : decode cX10_turn 9 = .ok (.iconst 0, 1) := by decide +kernel
theorem dX10_turn_10 : decode cX10_turn 10 = .ok (.goto 4, 3) := by decide +kernel
theorem dX10_turn_13 : decode cX10_turn 13 = .ok (.iconst 1, 1) := by decide +kernel
theorem dX10_turn_14 : decode cX10_turn 14 = .ok (.invokevirtual 67, 3) := by decide +kernel
theorem dX10_turn_17 : decode cX10_turn 17 = .ok (.ifCond .ne 5, 3) := by decide +kernel
theorem dX10_turn_20 : decode cX10_turn 20 = .ok (.iconst 0, 1) := by decide +kernel
theorem dX10_turn_21 : decode cX10_turn 21 = .ok (.ireturn, 1) := by decide +kernel
theorem dX10_turn_22 : decode cX10_turn 22 = .ok (.aload_n 0, 1) := by decide +kernel
theorem dX10_turn_23 : decode cX10_turn 23 = .ok (.getfield 26, 3) := by decide +kernel
theorem dX10_turn_26 : decode cX10_turn 26 = .ok (.iload_n 1, 1) := by decide +kernel
theorem dX10_turn_27 : decode cX10_turn 27 = .ok (.baload, 1) := by decide +kernel
theorem dX10_turn_28 : decode cX10_turn 28 = .ok (.istore_n 3, 1) := by decide +kernel
theorem dX10_turn_29 : decode cX10_turn 29 = .ok (.aload_n 0, 1) := by decide +kernel
theorem dX10_turn_30 : decode cX10_turn 30 = .ok (.getfield 26, 3) := by decide +kernel
theorem dX10_turn_33 : decode cX10_turn 33 = .ok (.iload_n 1, 1) := by decide +kernel
theorem dX10_turn_34 : decode cX10_turn 34 = .ok (.iload_n 2, 1) := by decide +kernel
theorem dX10_turn_35 : decode cX10_turn 35 = .ok (.bastore, 1) := by decide +kernel
theorem dX10_turn_36 : decode cX10_turn 36 = .ok (.iload_n 3, 1) := by decide +kernel
theorem dX10_turn_37 : decode cX10_turn 37 = .ok (.ireturn, 1) := by decide +kernel
theorem dX10_facts_0 : decode cX10_facts 0 = .ok (.aload_n 0, 1) := by decide +kernel
theorem dX10_facts_1 : decode cX10_facts 1 = .ok (.iconst 0, 1) := by decide +kernel
theorem dX10_facts_2 : decode cX10_facts 2 = .ok (.putfield 59, 3) := by decide +kernel
theorem dX10_facts_5 : decode cX10_facts 5 = .ok (.aload_n 0, 1) := by decide +kernel
theorem dX10_facts_6 : decode cX10_facts 6 = .ok (.invokevirtual 70, 3) := by decide +kernel
theorem dX10_facts_9 : decode cX10_facts 9 = .ok (.ireturn, 1) := by decide +kernel
theorem dX10_rules_0 : decode cX10_rules 0 = .ok (.aload_n 0, 1) := by decide +kernel
theorem dX10_rules_1 : decode cX10_rules 1 = .ok (.iconst 0, 1) := by decide +kernel
theorem dX10_rules_2 : decode cX10_rules 2 = .ok (.putfield 59, 3) := by decide +kernel
theorem dX10_rules_5 : decode cX10_rules 5 = .ok (.aload_n 0, 1) := by decide +kernel
theorem dX10_rules_6 : decode cX10_rules 6 = .ok (.getfield 77, 3) := by decide +kernel
theorem dX10_rules_9 : decode cX10_rules 9 = .ok (.ireturn, 1) := by decide +kernel
theorem dX10_lays_0 : decode cX10_lays 0 = .ok (.aload_n 0, 1) := by decide +kernel
theorem dX10_lays_1 : decode cX10_lays 1 = .ok (.getfield 83, 3) := by decide +kernel
theorem dX10_lays_4 : decode cX10_lays 4 = .ok (.bipush 24, 2) := by decide +kernel
theorem dX10_lays_6 : decode cX10_lays 6 = .ok (.if_icmp .ne 9, 3) := by decide +kernel
theorem dX10_lays_9 : decode cX10_lays 9 = .ok (.aload_n 0, 1) := by decide +kernel
theorem dX10_lays_10 : decode cX10_lays 10 = .ok (.iconst 1, 1) := by decide +kernel
theorem dX10_lays_11 : decode cX10_lays 11 = .ok (.putfield 86, 3) := by decide +kernel
theorem dX10_lays_14 : decode cX10_lays 14 = .ok (.return_, 1) := by decide +kernel
theorem dX10_lays_15 : decode cX10_lays 15 = .ok (.aload_n 0, 1) := by decide +kernel
theorem dX10_lays_16 : decode cX10_lays 16 = .ok (.getfield 29, 3) := by decide +kernel
theorem dX10_lays_19 : decode cX10_lays 19 = .ok (.aload_n 0, 1) := by decide +kernel
theorem dX10_lays_20 : decode cX10_lays 20 = .ok (.getfield 83, 3) := by decide +kernel
theorem dX10_lays_23 : decode cX10_lays 23 = .ok (.iload_n 1, 1) := by decide +kernel
theorem dX10_lays_24 : decode cX10_lays 24 = .ok (.iastore, 1) := by decide +kernel
theorem dX10_lays_25 : decode cX10_lays 25 = .ok (.aload_n 0, 1) := by decide +kernel
theorem dX10_lays_26 : decode cX10_lays 26 = .ok (.getfield 32, 3) := by decide +kernel
theorem dX10_lays_29 : decode cX10_lays 29 = .ok (.aload_n 0, 1) := by decide +kernel
theorem dX10_lays_30 : decode cX10_lays 30 = .ok (.getfield 83, 3) := by decide +kernel
theorem dX10_lays_33 : decode cX10_lays 33 = .ok (.iload_n 2, 1) := by decide +kernel
theorem dX10_lays_34 : decode cX10_lays 34 = .ok (.iastore, 1) := by decide +kernel
theorem dX10_lays_35 : decode cX10_lays 35 = .ok (.aload_n 0, 1) := by decide +kernel
theorem dX10_lays_36 : decode cX10_lays 36 = .ok (.getfield 35, 3) := by decide +kernel
theorem dX10_lays_39 : decode cX10_lays 39 = .ok (.iconst 3, 1) := by decide +kernel
theorem dX10_lays_40 : decode cX10_lays 40 = .ok (.aload_n 0, 1) := by decide +kernel
theorem dX10_lays_41 : decode cX10_lays 41 = .ok (.getfield 83, 3) := by decide +kernel
theorem dX10_lays_44 : decode cX10_lays 44 = .ok (.imul, 1) := by decide +kernel
theorem dX10_lays_45 : decode cX10_lays 45 = .ok (.iload_n 3, 1) := by decide +kernel
theorem dX10_lays_46 : decode cX10_lays 46 = .ok (.iastore, 1) := by decide +kernel
theorem dX10_lays_47 : decode cX10_lays 47 = .ok (.aload_n 0, 1) := by decide +kernel
theorem dX10_lays_48 : decode cX10_lays 48 = .ok (.getfield 35, 3) := by decide +kernel
theorem dX10_lays_51 : decode cX10_lays 51 = .ok (.iconst 3, 1) := by decide +kernel
theorem dX10_lays_52 : decode cX10_lays 52 = .ok (.aload_n 0, 1) := by decide +kernel
theorem dX10_lays_53 : decode cX10_lays 53 = .ok (.getfield 83, 3) := by decide +kernel
theorem dX10_lays_56 : decode cX10_lays 56 = .ok (.imul, 1) := by decide +kernel
theorem dX10_lays_57 : decode cX10_lays 57 = .ok (.iconst 1, 1) := by decide +kernel
theorem dX10_lays_58 : decode cX10_lays 58 = .ok (.iadd, 1) := by decide +kernel
theorem dX10_lays_59 : decode cX10_lays 59 = .ok (.iload 4, 2) := by decide +kernel
theorem dX10_lays_61 : decode cX10_lays 61 = .ok (.iastore, 1) := by decide +kernel
theorem dX10_lays_62 : decode cX10_lays 62 = .ok (.aload_n 0, 1) := by decide +kernel
theorem dX10_lays_63 : decode cX10_lays 63 = .ok (.getfield 35, 3) := by decide +kernel
theorem dX10_lays_66 : decode cX10_lays 66 = .ok (.iconst 3, 1) := by decide +kernel
theorem dX10_lays_67 : decode cX10_lays 67 = .ok (.aload_n 0, 1) := by decide +kernel
theorem dX10_lays_68 : decode cX10_lays 68 = .ok (.getfield 83, 3) := by decide +kernel
theorem dX10_lays_71 : decode cX10_lays 71 = .ok (.imul, 1) := by decide +kernel
theorem dX10_lays_72 : decode cX10_lays 72 = .ok (.iconst 2, 1) := by decide +kernel
theorem dX10_lays_73 : decode cX10_lays 73 = .ok (.iadd, 1) := by decide +kernel
theorem dX10_lays_74 : decode cX10_lays 74 = .ok (.iload 5, 2) := by decide +kernel
theorem dX10_lays_76 : decode cX10_lays 76 = .ok (.iastore, 1) := by decide +kernel
theorem dX10_lays_77 : decode cX10_lays 77 = .ok (.aload_n 0, 1) := by decide +kernel
theorem dX10_lays_78 : decode cX10_lays 78 = .ok (.getfield 38, 3) := by decide +kernel
theorem dX10_lays_81 : decode cX10_lays 81 = .ok (.aload_n 0, 1) := by decide +kernel
theorem dX10_lays_82 : decode cX10_lays 82 = .ok (.getfield 83, 3) := by decide +kernel
theorem dX10_lays_85 : decode cX10_lays 85 = .ok (.iload 6, 2) := by decide +kernel
theorem dX10_lays_87 : decode cX10_lays 87 = .ok (.iastore, 1) := by decide +kernel
theorem dX10_lays_88 : decode cX10_lays 88 = .ok (.aload_n 0, 1) := by decide +kernel
theorem dX10_lays_89 : decode cX10_lays 89 = .ok (.getfield 41, 3) := by decide +kernel
theorem dX10_lays_92 : decode cX10_lays 92 = .ok (.aload_n 0, 1) := by decide +kernel
theorem dX10_lays_93 : decode cX10_lays 93 = .ok (.getfield 83, 3) := by decide +kernel
theorem dX10_lays_96 : decode cX10_lays 96 = .ok (.aload_n 0, 1) := by decide +kernel
theorem dX10_lays_97 : decode cX10_lays 97 = .ok (.iload_n 3, 1) := by decide +kernel
theorem dX10_lays_98 : decode cX10_lays 98 = .ok (.invokevirtual 90, 3) := by decide +kernel
theorem dX10_lays_101 : decode cX10_lays 101 = .ok (.aload_n 0, 1) := by decide +kernel
theorem dX10_lays_102 : decode cX10_lays 102 = .ok (.iload 4, 2) := by decide +kernel
theorem dX10_lays_104 : decode cX10_lays 104 = .ok (.invokevirtual 90, 3) := by decide +kernel
theorem dX10_lays_107 : decode cX10_lays 107 = .ok (.ior, 1) := by decide +kernel
theorem dX10_lays_108 : decode cX10_lays 108 = .ok (.aload_n 0, 1) := by decide +kernel
theorem dX10_lays_109 : decode cX10_lays 109 = .ok (.iload 5, 2) := by decide +kernel
theorem dX10_lays_111 : decode cX10_lays 111 = .ok (.invokevirtual 90, 3) := by decide +kernel
theorem dX10_lays_114 : decode cX10_lays 114 = .ok (.ior, 1) := by decide +kernel
theorem dX10_lays_115 : decode cX10_lays 115 = .ok (.iastore, 1) := by decide +kernel
theorem dX10_lays_116 : decode cX10_lays 116 = .ok (.aload_n 0, 1) := by decide +kernel
theorem dX10_lays_117 : decode cX10_lays 117 = .ok (.dup, 1) := by decide +kernel
theorem dX10_lays_118 : decode cX10_lays 118 = .ok (.getfield 83, 3) := by decide +kernel
theorem dX10_lays_121 : decode cX10_lays 121 = .ok (.iconst 1, 1) := by decide +kernel
theorem dX10_lays_122 : decode cX10_lays 122 = .ok (.iadd, 1) := by decide +kernel
theorem dX10_lays_123 : decode cX10_lays 123 = .ok (.putfield 83, 3) := by decide +kernel
theorem dX10_lays_126 : decode cX10_lays 126 = .ok (.return_, 1) := by decide +kernel
theorem dX10_withAll_0 : decode cX10_withAll 0 = .ok (.iload_n 1, 1) := by decide +kernel
theorem dX10_withAll_1 : decode cX10_withAll 1 = .ok (.iconst (-1), 1) := by decide +kernel
theorem dX10_withAll_2 : decode cX10_withAll 2 = .ok (.if_icmp .ne 7, 3) := by decide +kernel
theorem dX10_withAll_5 : decode cX10_withAll 5 = .ok (.iconst 0, 1) := by decide +kernel
theorem dX10_withAll_6 : decode cX10_withAll 6 = .ok (.goto 13, 3) := by decide +kernel
theorem dX10_withAll_9 : decode cX10_withAll 9 = .ok (.aload_n 0, 1) := by decide +kernel
theorem dX10_withAll_10 : decode cX10_withAll 10 = .ok (.getfield 41, 3) := by decide +kernel
theorem dX10_withAll_13 : decode cX10_withAll 13 = .ok (.iload_n 1, 1) := by decide +kernel
theorem dX10_withAll_14 : decode cX10_withAll 14 = .ok (.iaload, 1) := by decide +kernel
theorem dX10_withAll_15 : decode cX10_withAll 15 = .ok (.iconst 1, 1) := by decide +kernel
theorem dX10_withAll_16 : decode cX10_withAll 16 = .ok (.iload_n 1, 1) := by decide +kernel
theorem dX10_withAll_17 : decode cX10_withAll 17 = .ok (.ishl, 1) := by decide +kernel
theorem dX10_withAll_18 : decode cX10_withAll 18 = .ok (.ior, 1) := by decide +kernel
theorem dX10_withAll_19 : decode cX10_withAll 19 = .ok (.ireturn, 1) := by decide +kernel
theorem dX10_isPart_0 : decode cX10_isPart 0 = .ok (.aload_n 0, 1) := by decide +kernel
theorem dX10_isPart_1 : decode cX10_isPart 1 = .ok (.getfield 17, 3) := by decide +kernel
theorem dX10_isPart_4 : decode cX10_isPart 4 = .ok (.iconst 3, 1) := by decide +kernel
theorem dX10_isPart_5 : decode cX10_isPart 5 = .ok (.iload_n 1, 1) := by decide +kernel
theorem dX10_isPart_6 : decode cX10_isPart 6 = .ok (.imul, 1) := by decide +kernel
theorem dX10_isPart_7 : decode cX10_isPart 7 = .ok (.iload_n 2, 1) := by decide +kernel
theorem dX10_isPart_8 : decode cX10_isPart 8 = .ok (.iadd, 1) := by decide +kernel
theorem dX10_isPart_9 : decode cX10_isPart 9 = .ok (.iaload, 1) := by decide +kernel
theorem dX10_isPart_10 : decode cX10_isPart 10 = .ok (.istore 4, 2) := by decide +kernel
theorem dX10_isPart_12 : decode cX10_isPart 12 = .ok (.iload 4, 2) := by decide +kernel
theorem dX10_isPart_14 : decode cX10_isPart 14 = .ok (.ifCond .ne 16, 3) := by decide +kernel
theorem dX10_isPart_17 : decode cX10_isPart 17 = .ok (.iload_n 3, 1) := by decide +kernel
theorem dX10_isPart_18 : decode cX10_isPart 18 = .ok (.iconst (-1), 1) := by decide +kernel
theorem dX10_isPart_19 : decode cX10_isPart 19 = .ok (.if_icmp .ne 7, 3) := by decide +kernel
theorem dX10_isPart_22 : decode cX10_isPart 22 = .ok (.iconst 1, 1) := by decide +kernel
theorem dX10_isPart_23 : decode cX10_isPart 23 = .ok (.goto 28, 3) := by decide +kernel
theorem dX10_isPart_26 : decode cX10_isPart 26 = .ok (.iconst 0, 1) := by decide +kernel
theorem dX10_isPart_27 : decode cX10_isPart 27 = .ok (.goto 24, 3) := by decide +kernel
theorem dX10_isPart_30 : decode cX10_isPart 30 = .ok (.iload_n 3, 1) := by decide +kernel
theorem dX10_isPart_31 : decode cX10_isPart 31 = .ok (.iconst (-1), 1) := by decide +kernel
theorem dX10_isPart_32 : decode cX10_isPart 32 = .ok (.if_icmp .eq 18, 3) := by decide +kernel
theorem dX10_isPart_35 : decode cX10_isPart 35 = .ok (.aload_n 0, 1) := by decide +kernel
theorem dX10_isPart_36 : decode cX10_isPart 36 = .ok (.getfield 29, 3) := by decide +kernel
theorem dX10_isPart_39 : decode cX10_isPart 39 = .ok (.iload_n 3, 1) := by decide +kernel
theorem dX10_isPart_40 : decode cX10_isPart 40 = .ok (.iaload, 1) := by decide +kernel
theorem dX10_isPart_41 : decode cX10_isPart 41 = .ok (.iload 4, 2) := by decide +kernel
theorem dX10_isPart_43 : decode cX10_isPart 43 = .ok (.if_icmp .ne 7, 3) := by decide +kernel
theorem dX10_isPart_46 : decode cX10_isPart 46 = .ok (.iconst 1, 1) := by decide +kernel
theorem dX10_isPart_47 : decode cX10_isPart 47 = .ok (.goto 4, 3) := by decide +kernel
theorem dX10_isPart_50 : decode cX10_isPart 50 = .ok (.iconst 0, 1) := by decide +kernel
theorem dX10_isPart_51 : decode cX10_isPart 51 = .ok (.ireturn, 1) := by decide +kernel
theorem dX10_isBuiltOf_0 : decode cX10_isBuiltOf 0 = .ok (.iconst 0, 1) := by decide +kernel
theorem dX10_isBuiltOf_1 : decode cX10_isBuiltOf 1 = .ok (.istore_n 3, 1) := by decide +kernel
theorem dX10_isBuiltOf_2 : decode cX10_isBuiltOf 2 = .ok (.iconst 0, 1) := by decide +kernel
theorem dX10_isBuiltOf_3 : decode cX10_isBuiltOf 3 = .ok (.istore 4, 2) := by decide +kernel
theorem dX10_isBuiltOf_5 : decode cX10_isBuiltOf 5 = .ok (.iload 4, 2) := by decide +kernel
theorem dX10_isBuiltOf_7 : decode cX10_isBuiltOf 7 = .ok (.aload_n 0, 1) := by decide +kernel
theorem dX10_isBuiltOf_8 : decode cX10_isBuiltOf 8 = .ok (.getfield 83, 3) := by decide +kernel
theorem dX10_isBuiltOf_11 : decode cX10_isBuiltOf 11 = .ok (.if_icmp .ge 40, 3) := by decide +kernel
theorem dX10_isBuiltOf_14 : decode cX10_isBuiltOf 14 = .ok (.iload_n 3, 1) := by decide +kernel
theorem dX10_isBuiltOf_15 : decode cX10_isBuiltOf 15 = .ok (.ifCond .ne 24, 3) := by decide +kernel
theorem dX10_isBuiltOf_18 : decode cX10_isBuiltOf 18 = .ok (.iload_n 1, 1) := by decide +kernel
theorem dX10_isBuiltOf_19 : decode cX10_isBuiltOf 19 = .ok (.iload 4, 2) := by decide +kernel
theorem dX10_isBuiltOf_21 : decode cX10_isBuiltOf 21 = .ok (.ishr, 1) := by decide +kernel
theorem dX10_isBuiltOf_22 : decode cX10_isBuiltOf 22 = .ok (.iconst 1, 1) := by decide +kernel
theorem dX10_isBuiltOf_23 : decode cX10_isBuiltOf 23 = .ok (.iand, 1) := by decide +kernel
theorem dX10_isBuiltOf_24 : decode cX10_isBuiltOf 24 = .ok (.iconst 1, 1) := by decide +kernel
theorem dX10_isBuiltOf_25 : decode cX10_isBuiltOf 25 = .ok (.if_icmp .ne 18, 3) := by decide +kernel
theorem dX10_isBuiltOf_28 : decode cX10_isBuiltOf 28 = .ok (.aload_n 0, 1) := by decide +kernel
theorem dX10_isBuiltOf_29 : decode cX10_isBuiltOf 29 = .ok (.getfield 29, 3) := by decide +kernel
theorem dX10_isBuiltOf_32 : decode cX10_isBuiltOf 32 = .ok (.iload 4, 2) := by decide +kernel
theorem dX10_isBuiltOf_34 : decode cX10_isBuiltOf 34 = .ok (.iaload, 1) := by decide +kernel
theorem dX10_isBuiltOf_35 : decode cX10_isBuiltOf 35 = .ok (.iload_n 2, 1) := by decide +kernel
theorem dX10_isBuiltOf_36 : decode cX10_isBuiltOf 36 = .ok (.if_icmp .ne 7, 3) := by decide +kernel
theorem dX10_isBuiltOf_39 : decode cX10_isBuiltOf 39 = .ok (.iconst 1, 1) := by decide +kernel
theorem dX10_isBuiltOf_40 : decode cX10_isBuiltOf 40 = .ok (.goto 4, 3) := by decide +kernel
theorem dX10_isBuiltOf_43 : decode cX10_isBuiltOf 43 = .ok (.iconst 0, 1) := by decide +kernel
theorem dX10_isBuiltOf_44 : decode cX10_isBuiltOf 44 = .ok (.istore_n 3, 1) := by decide +kernel
theorem dX10_isBuiltOf_45 : decode cX10_isBuiltOf 45 = .ok (.iinc 4 1, 3) := by decide +kernel
theorem dX10_isBuiltOf_48 : decode cX10_isBuiltOf 48 = .ok (.goto (-43), 3) := by decide +kernel
theorem dX10_isBuiltOf_51 : decode cX10_isBuiltOf 51 = .ok (.iload_n 3, 1) := by decide +kernel
theorem dX10_isBuiltOf_52 : decode cX10_isBuiltOf 52 = .ok (.ireturn, 1) := by decide +kernel
theorem dX10_depthOf_0 : decode cX10_depthOf 0 = .ok (.iload_n 1, 1) := by decide +kernel
theorem dX10_depthOf_1 : decode cX10_depthOf 1 = .ok (.iconst (-1), 1) := by decide +kernel
theorem dX10_depthOf_2 : decode cX10_depthOf 2 = .ok (.if_icmp .ne 7, 3) := by decide +kernel
theorem dX10_depthOf_5 : decode cX10_depthOf 5 = .ok (.iconst 0, 1) := by decide +kernel
theorem dX10_depthOf_6 : decode cX10_depthOf 6 = .ok (.goto 9, 3) := by decide +kernel
theorem dX10_depthOf_9 : decode cX10_depthOf 9 = .ok (.aload_n 0, 1) := by decide +kernel
theorem dX10_depthOf_10 : decode cX10_depthOf 10 = .ok (.getfield 38, 3) := by decide +kernel
theorem dX10_depthOf_13 : decode cX10_depthOf 13 = .ok (.iload_n 1, 1) := by decide +kernel
theorem dX10_depthOf_14 : decode cX10_depthOf 14 = .ok (.iaload, 1) := by decide +kernel
theorem dX10_depthOf_15 : decode cX10_depthOf 15 = .ok (.ireturn, 1) := by decide +kernel
theorem dX10_makes_0 : decode cX10_makes 0 = .ok (.iconst (-1), 1) := by decide +kernel
theorem dX10_makes_1 : decode cX10_makes 1 = .ok (.istore 4, 2) := by decide +kernel
theorem dX10_makes_3 : decode cX10_makes 3 = .ok (.iload 4, 2) := by decide +kernel
theorem dX10_makes_5 : decode cX10_makes 5 = .ok (.iload_n 3, 1) := by decide +kernel
theorem dX10_makes_6 : decode cX10_makes 6 = .ok (.if_icmp .ge 191, 3) := by decide +kernel
theorem dX10_makes_9 : decode cX10_makes 9 = .ok (.iconst (-1), 1) := by decide +kernel
theorem dX10_makes_10 : decode cX10_makes 10 = .ok (.istore 5, 2) := by decide +kernel
theorem dX10_makes_12 : decode cX10_makes 12 = .ok (.iload 5, 2) := by decide +kernel
theorem dX10_makes_14 : decode cX10_makes 14 = .ok (.iload_n 3, 1) := by decide +kernel
theorem dX10_makes_15 : decode cX10_makes 15 = .ok (.if_icmp .ge 176, 3) := by decide +kernel
theorem dX10_makes_18 : decode cX10_makes 18 = .ok (.aload_n 0, 1) := by decide +kernel
theorem dX10_makes_19 : decode cX10_makes 19 = .ok (.iload_n 1, 1) := by decide +kernel
theorem dX10_makes_20 : decode cX10_makes 20 = .ok (.iconst 0, 1) := by decide +kernel
theorem dX10_makes_21 : decode cX10_makes 21 = .ok (.iload 4, 2) := by decide +kernel
theorem dX10_makes_23 : decode cX10_makes 23 = .ok (.invokevirtual 94, 3) := by decide +kernel
theorem dX10_makes_26 : decode cX10_makes 26 = .ok (.ifCond .eq 165, 3) := by decide +kernel
theorem dX10_makes_29 : decode cX10_makes 29 = .ok (.iconst (-1), 1) := by decide +kernel
theorem dX10_makes_30 : decode cX10_makes 30 = .ok (.istore 6, 2) := by decide +kernel
theorem dX10_makes_32 : decode cX10_makes 32 = .ok (.iload 6, 2) := by decide +kernel
theorem dX10_makes_34 : decode cX10_makes 34 = .ok (.iload_n 3, 1) := by decide +kernel
theorem dX10_makes_35 : decode cX10_makes 35 = .ok (.if_icmp .ge 150, 3) := by decide +kernel
theorem dX10_makes_38 : decode cX10_makes 38 = .ok (.aload_n 0, 1) := by decide +kernel
theorem dX10_makes_39 : decode cX10_makes 39 = .ok (.iload_n 1, 1) := by decide +kernel
theorem dX10_makes_40 : decode cX10_makes 40 = .ok (.iconst 1, 1) := by decide +kernel
theorem dX10_makes_41 : decode cX10_makes 41 = .ok (.iload 5, 2) := by decide +kernel
theorem dX10_makes_43 : decode cX10_makes 43 = .ok (.invokevirtual 94, 3) := by decide +kernel
theorem dX10_makes_46 : decode cX10_makes 46 = .ok (.ifCond .eq 139, 3) := by decide +kernel
theorem dX10_makes_49 : decode cX10_makes 49 = .ok (.aload_n 0, 1) := by decide +kernel
theorem dX10_makes_50 : decode cX10_makes 50 = .ok (.iload 4, 2) := by decide +kernel
theorem dX10_makes_52 : decode cX10_makes 52 = .ok (.invokevirtual 90, 3) := by decide +kernel
theorem dX10_makes_55 : decode cX10_makes 55 = .ok (.aload_n 0, 1) := by decide +kernel
theorem dX10_makes_56 : decode cX10_makes 56 = .ok (.iload 5, 2) := by decide +kernel
theorem dX10_makes_58 : decode cX10_makes 58 = .ok (.invokevirtual 90, 3) := by decide +kernel
theorem dX10_makes_61 : decode cX10_makes 61 = .ok (.ior, 1) := by decide +kernel
theorem dX10_makes_62 : decode cX10_makes 62 = .ok (.aload_n 0, 1) := by decide +kernel
theorem dX10_makes_63 : decode cX10_makes 63 = .ok (.iload 6, 2) := by decide +kernel
theorem dX10_makes_65 : decode cX10_makes 65 = .ok (.invokevirtual 90, 3) := by decide +kernel
theorem dX10_makes_68 : decode cX10_makes 68 = .ok (.ior, 1) := by decide +kernel
theorem dX10_makes_69 : decode cX10_makes 69 = .ok (.istore 7, 2) := by decide +kernel
theorem dX10_makes_71 : decode cX10_makes 71 = .ok (.aload_n 0, 1) := by decide +kernel
theorem dX10_makes_72 : decode cX10_makes 72 = .ok (.iload 4, 2) := by decide +kernel
theorem dX10_makes_74 : decode cX10_makes 74 = .ok (.invokevirtual 98, 3) := by decide +kernel
theorem dX10_makes_77 : decode cX10_makes 77 = .ok (.aload_n 0, 1) := by decide +kernel
theorem dX10_makes_78 : decode cX10_makes 78 = .ok (.iload 5, 2) := by decide +kernel
theorem dX10_makes_80 : decode cX10_makes 80 = .ok (.invokevirtual 98, 3) := by decide +kernel
theorem dX10_makes_83 : decode cX10_makes 83 = .ok (.if_icmp .le 12, 3) := by decide +kernel
theorem dX10_makes_86 : decode cX10_makes 86 = .ok (.aload_n 0, 1) := by decide +kernel
theorem dX10_makes_87 : decode cX10_makes 87 = .ok (.iload 4, 2) := by decide +kernel
theorem dX10_makes_89 : decode cX10_makes 89 = .ok (.invokevirtual 98, 3) := by decide +kernel
theorem dX10_makes_92 : decode cX10_makes 92 = .ok (.goto 9, 3) := by decide +kernel
theorem dX10_makes_95 : decode cX10_makes 95 = .ok (.aload_n 0, 1) := by decide +kernel
theorem dX10_makes_96 : decode cX10_makes 96 = .ok (.iload 5, 2) := by decide +kernel
theorem dX10_makes_98 : decode cX10_makes 98 = .ok (.invokevirtual 98, 3) := by decide +kernel
theorem dX10_makes_101 : decode cX10_makes 101 = .ok (.istore 8, 2) := by decide +kernel
theorem dX10_makes_103 : decode cX10_makes 103 = .ok (.aload_n 0, 1) := by decide +kernel
theorem dX10_makes_104 : decode cX10_makes 104 = .ok (.iload 6, 2) := by decide +kernel
theorem dX10_makes_106 : decode cX10_makes 106 = .ok (.invokevirtual 98, 3) := by decide +kernel
theorem dX10_makes_109 : decode cX10_makes 109 = .ok (.iload 8, 2) := by decide +kernel
theorem dX10_makes_111 : decode cX10_makes 111 = .ok (.if_icmp .le 12, 3) := by decide +kernel
theorem dX10_makes_114 : decode cX10_makes 114 = .ok (.aload_n 0, 1) := by decide +kernel
theorem dX10_makes_115 : decode cX10_makes 115 = .ok (.iload 6, 2) := by decide +kernel
theorem dX10_makes_117 : decode cX10_makes 117 = .ok (.invokevirtual 98, 3) := by decide +kernel
theorem dX10_makes_120 : decode cX10_makes 120 = .ok (.goto 5, 3) := by decide +kernel
theorem dX10_makes_123 : decode cX10_makes 123 = .ok (.iload 8, 2) := by decide +kernel
theorem dX10_makes_125 : decode cX10_makes 125 = .ok (.istore 8, 2) := by decide +kernel
theorem dX10_makes_127 : decode cX10_makes 127 = .ok (.aload_n 0, 1) := by decide +kernel
theorem dX10_makes_128 : decode cX10_makes 128 = .ok (.iload_n 1, 1) := by decide +kernel
theorem dX10_makes_129 : decode cX10_makes 129 = .ok (.iconst 2, 1) := by decide +kernel
theorem dX10_makes_130 : decode cX10_makes 130 = .ok (.iload 6, 2) := by decide +kernel
theorem dX10_makes_132 : decode cX10_makes 132 = .ok (.invokevirtual 94, 3) := by decide +kernel
theorem dX10_makes_135 : decode cX10_makes 135 = .ok (.ifCond .eq 44, 3) := by decide +kernel
theorem dX10_makes_138 : decode cX10_makes 138 = .ok (.iload 8, 2) := by decide +kernel
theorem dX10_makes_140 : decode cX10_makes 140 = .ok (.iload_n 2, 1) := by decide +kernel
theorem dX10_makes_141 : decode cX10_makes 141 = .ok (.iconst 1, 1) := by decide +kernel
theorem dX10_makes_142 : decode cX10_makes 142 = .ok (.isub, 1) := by decide +kernel
theorem dX10_makes_143 : decode cX10_makes 143 = .ok (.if_icmp .ne 36, 3) := by decide +kernel
theorem dX10_makes_146 : decode cX10_makes 146 = .ok (.aload_n 0, 1) := by decide +kernel
theorem dX10_makes_147 : decode cX10_makes 147 = .ok (.iload 7, 2) := by decide +kernel
theorem dX10_makes_149 : decode cX10_makes 149 = .ok (.aload_n 0, 1) := by decide +kernel
theorem dX10_makes_150 : decode cX10_makes 150 = .ok (.getfield 13, 3) := by decide +kernel
theorem dX10_makes_153 : decode cX10_makes 153 = .ok (.iload_n 1, 1) := by decide +kernel
theorem dX10_makes_154 : decode cX10_makes 154 = .ok (.iaload, 1) := by decide +kernel
theorem dX10_makes_155 : decode cX10_makes 155 = .ok (.invokevirtual 101, 3) := by decide +kernel
theorem dX10_makes_158 : decode cX10_makes 158 = .ok (.ifCond .ne 21, 3) := by decide +kernel
theorem dX10_makes_161 : decode cX10_makes 161 = .ok (.aload_n 0, 1) := by decide +kernel
theorem dX10_makes_162 : decode cX10_makes 162 = .ok (.aload_n 0, 1) := by decide +kernel
theorem dX10_makes_163 : decode cX10_makes 163 = .ok (.getfield 13, 3) := by decide +kernel
theorem dX10_makes_166 : decode cX10_makes 166 = .ok (.iload_n 1, 1) := by decide +kernel
theorem dX10_makes_167 : decode cX10_makes 167 = .ok (.iaload, 1) := by decide +kernel
theorem dX10_makes_168 : decode cX10_makes 168 = .ok (.iload_n 1, 1) := by decide +kernel
theorem dX10_makes_169 : decode cX10_makes 169 = .ok (.iload 4, 2) := by decide +kernel
theorem dX10_makes_171 : decode cX10_makes 171 = .ok (.iload 5, 2) := by decide +kernel
theorem dX10_makes_173 : decode cX10_makes 173 = .ok (.iload 6, 2) := by decide +kernel
theorem dX10_makes_175 : decode cX10_makes 175 = .ok (.iload_n 2, 1) := by decide +kernel
theorem dX10_makes_176 : decode cX10_makes 176 = .ok (.invokevirtual 105, 3) := by decide +kernel
theorem dX10_makes_179 : decode cX10_makes 179 = .ok (.iinc 6 1, 3) := by decide +kernel
theorem dX10_makes_182 : decode cX10_makes 182 = .ok (.goto (-150), 3) := by decide +kernel
theorem dX10_makes_185 : decode cX10_makes 185 = .ok (.iinc 5 1, 3) := by decide +kernel
theorem dX10_makes_188 : decode cX10_makes 188 = .ok (.goto (-176), 3) := by decide +kernel
theorem dX10_makes_191 : decode cX10_makes 191 = .ok (.iinc 4 1, 3) := by decide +kernel
theorem dX10_makes_194 : decode cX10_makes 194 = .ok (.goto (-191), 3) := by decide +kernel
theorem dX10_makes_197 : decode cX10_makes 197 = .ok (.return_, 1) := by decide +kernel
theorem dX10_builds_0 : decode cX10_builds 0 = .ok (.aload_n 0, 1) := by decide +kernel
theorem dX10_builds_1 : decode cX10_builds 1 = .ok (.iconst 0, 1) := by decide +kernel
theorem dX10_builds_2 : decode cX10_builds 2 = .ok (.putfield 83, 3) := by decide +kernel
theorem dX10_builds_5 : decode cX10_builds 5 = .ok (.aload_n 0, 1) := by decide +kernel
theorem dX10_builds_6 : decode cX10_builds 6 = .ok (.iconst 0, 1) := by decide +kernel
theorem dX10_builds_7 : decode cX10_builds 7 = .ok (.putfield 86, 3) := by decide +kernel
theorem dX10_builds_10 : decode cX10_builds 10 = .ok (.bipush (-10), 2) := by decide +kernel
theorem dX10_builds_12 : decode cX10_builds 12 = .ok (.istore_n 1, 1) := by decide +kernel
theorem dX10_builds_13 : decode cX10_builds 13 = .ok (.iload_n 1, 1) := by decide +kernel
theorem dX10_builds_14 : decode cX10_builds 14 = .ok (.bipush 10, 2) := by decide +kernel
theorem dX10_builds_16 : decode cX10_builds 16 = .ok (.if_icmp .gt 31, 3) := by decide +kernel
theorem dX10_builds_19 : decode cX10_builds 19 = .ok (.aload_n 0, 1) := by decide +kernel
theorem dX10_builds_20 : decode cX10_builds 20 = .ok (.getfield 7, 3) := by decide +kernel
theorem dX10_builds_23 : decode cX10_builds 23 = .ok (.bipush 10, 2) := by decide +kernel
theorem dX10_builds_25 : decode cX10_builds 25 = .ok (.iload_n 1, 1) := by decide +kernel
theorem dX10_builds_26 : decode cX10_builds 26 = .ok (.iadd, 1) := by decide +kernel
theorem dX10_builds_27 : decode cX10_builds 27 = .ok (.baload, 1) := by decide +kernel
theorem dX10_builds_28 : decode cX10_builds 28 = .ok (.ifCond .eq 13, 3) := by decide +kernel
theorem dX10_builds_31 : decode cX10_builds 31 = .ok (.aload_n 0, 1) := by decide +kernel
theorem dX10_builds_32 : decode cX10_builds 32 = .ok (.iload_n 1, 1) := by decide +kernel
theorem dX10_builds_33 : decode cX10_builds 33 = .ok (.iconst (-1), 1) := by decide +kernel
theorem dX10_builds_34 : decode cX10_builds 34 = .ok (.iconst (-1), 1) := by decide +kernel
theorem dX10_builds_35 : decode cX10_builds 35 = .ok (.iconst (-1), 1) := by decide +kernel
theorem dX10_builds_36 : decode cX10_builds 36 = .ok (.iconst (-1), 1) := by decide +kernel
theorem dX10_builds_37 : decode cX10_builds 37 = .ok (.iconst 0, 1) := by decide +kernel
theorem dX10_builds_38 : decode cX10_builds 38 = .ok (.invokevirtual 105, 3) := by decide +kernel
theorem dX10_builds_41 : decode cX10_builds 41 = .ok (.iinc 1 1, 3) := by decide +kernel
theorem dX10_builds_44 : decode cX10_builds 44 = .ok (.goto (-31), 3) := by decide +kernel
theorem dX10_builds_47 : decode cX10_builds 47 = .ok (.aload_n 0, 1) := by decide +kernel
theorem dX10_builds_48 : decode cX10_builds 48 = .ok (.getfield 83, 3) := by decide +kernel
theorem dX10_builds_51 : decode cX10_builds 51 = .ok (.iconst 1, 1) := by decide +kernel
theorem dX10_builds_52 : decode cX10_builds 52 = .ok (.isub, 1) := by decide +kernel
theorem dX10_builds_53 : decode cX10_builds 53 = .ok (.istore_n 1, 1) := by decide +kernel
theorem dX10_builds_54 : decode cX10_builds 54 = .ok (.iconst 1, 1) := by decide +kernel
theorem dX10_builds_55 : decode cX10_builds 55 = .ok (.istore_n 2, 1) := by decide +kernel
theorem dX10_builds_56 : decode cX10_builds 56 = .ok (.aload_n 0, 1) := by decide +kernel
theorem dX10_builds_57 : decode cX10_builds 57 = .ok (.getfield 86, 3) := by decide +kernel
theorem dX10_builds_60 : decode cX10_builds 60 = .ok (.ifCond .ne 66, 3) := by decide +kernel
theorem dX10_builds_63 : decode cX10_builds 63 = .ok (.iload_n 2, 1) := by decide +kernel
theorem dX10_builds_64 : decode cX10_builds 64 = .ok (.iconst 1, 1) := by decide +kernel
theorem dX10_builds_65 : decode cX10_builds 65 = .ok (.if_icmp .eq 11, 3) := by decide +kernel
theorem dX10_builds_68 : decode cX10_builds 68 = .ok (.iload_n 1, 1) := by decide +kernel
theorem dX10_builds_69 : decode cX10_builds 69 = .ok (.aload_n 0, 1) := by decide +kernel
theorem dX10_builds_70 : decode cX10_builds 70 = .ok (.getfield 83, 3) := by decide +kernel
theorem dX10_builds_73 : decode cX10_builds 73 = .ok (.if_icmp .ge 53, 3) := by decide +kernel
theorem dX10_builds_76 : decode cX10_builds 76 = .ok (.aload_n 0, 1) := by decide +kernel
theorem dX10_builds_77 : decode cX10_builds 77 = .ok (.getfield 83, 3) := by decide +kernel
theorem dX10_builds_80 : decode cX10_builds 80 = .ok (.istore_n 1, 1) := by decide +kernel
theorem dX10_builds_81 : decode cX10_builds 81 = .ok (.iconst 0, 1) := by decide +kernel
theorem dX10_builds_82 : decode cX10_builds 82 = .ok (.istore_n 3, 1) := by decide +kernel
theorem dX10_builds_83 : decode cX10_builds 83 = .ok (.iload_n 3, 1) := by decide +kernel
theorem dX10_builds_84 : decode cX10_builds 84 = .ok (.aload_n 0, 1) := by decide +kernel
theorem dX10_builds_85 : decode cX10_builds 85 = .ok (.getfield 77, 3) := by decide +kernel
theorem dX10_builds_88 : decode cX10_builds 88 = .ok (.if_icmp .ge 32, 3) := by decide +kernel
theorem dX10_builds_91 : decode cX10_builds 91 = .ok (.aload_n 0, 1) := by decide +kernel
theorem dX10_builds_92 : decode cX10_builds 92 = .ok (.getfield 86, 3) := by decide +kernel
theorem dX10_builds_95 : decode cX10_builds 95 = .ok (.ifCond .ne 25, 3) := by decide +kernel
theorem dX10_builds_98 : decode cX10_builds 98 = .ok (.aload_n 0, 1) := by decide +kernel
theorem dX10_builds_99 : decode cX10_builds 99 = .ok (.getfield 26, 3) := by decide +kernel
theorem dX10_builds_102 : decode cX10_builds 102 = .ok (.iload_n 3, 1) := by decide +kernel
theorem dX10_builds_103 : decode cX10_builds 103 = .ok (.baload, 1) := by decide +kernel
theorem dX10_builds_104 : decode cX10_builds 104 = .ok (.ifCond .eq 10, 3) := by decide +kernel
theorem dX10_builds_107 : decode cX10_builds 107 = .ok (.aload_n 0, 1) := by decide +kernel
theorem dX10_builds_108 : decode cX10_builds 108 = .ok (.iload_n 3, 1) := by decide +kernel
theorem dX10_builds_109 : decode cX10_builds 109 = .ok (.iload_n 2, 1) := by decide +kernel
theorem dX10_builds_110 : decode cX10_builds 110 = .ok (.iload_n 1, 1) := by decide +kernel
theorem dX10_builds_111 : decode cX10_builds 111 = .ok (.invokevirtual 109, 3) := by decide +kernel
theorem dX10_builds_114 : decode cX10_builds 114 = .ok (.iinc 3 1, 3) := by decide +kernel
theorem dX10_builds_117 : decode cX10_builds 117 = .ok (.goto (-34), 3) := by decide +kernel
theorem dX10_builds_120 : decode cX10_builds 120 = .ok (.iinc 2 1, 3) := by decide +kernel
theorem dX10_builds_123 : decode cX10_builds 123 = .ok (.goto (-67), 3) := by decide +kernel
theorem dX10_builds_126 : decode cX10_builds 126 = .ok (.return_, 1) := by decide +kernel
theorem dX10_strengthOf_0 : decode cX10_strengthOf 0 = .ok (.aload_n 0, 1) := by decide +kernel
theorem dX10_strengthOf_1 : decode cX10_strengthOf 1 = .ok (.getfield 32, 3) := by decide +kernel
theorem dX10_strengthOf_4 : decode cX10_strengthOf 4 = .ok (.iload_n 1, 1) := by decide +kernel
theorem dX10_strengthOf_5 : decode cX10_strengthOf 5 = .ok (.iaload, 1) := by decide +kernel
theorem dX10_strengthOf_6 : decode cX10_strengthOf 6 = .ok (.iconst (-1), 1) := by decide +kernel
theorem dX10_strengthOf_7 : decode cX10_strengthOf 7 = .ok (.if_icmp .ne 8, 3) := by decide +kernel
theorem dX10_strengthOf_10 : decode cX10_strengthOf 10 = .ok (.bipush 10, 2) := by decide +kernel
theorem dX10_strengthOf_12 : decode cX10_strengthOf 12 = .ok (.goto 14, 3) := by decide +kernel
theorem dX10_strengthOf_15 : decode cX10_strengthOf 15 = .ok (.aload_n 0, 1) := by decide +kernel
theorem dX10_strengthOf_16 : decode cX10_strengthOf 16 = .ok (.getfield 20, 3) := by decide +kernel
theorem dX10_strengthOf_19 : decode cX10_strengthOf 19 = .ok (.aload_n 0, 1) := by decide +kernel
theorem dX10_strengthOf_20 : decode cX10_strengthOf 20 = .ok (.getfield 32, 3) := by decide +kernel
theorem dX10_strengthOf_23 : decode cX10_strengthOf 23 = .ok (.iload_n 1, 1) := by decide +kernel
theorem dX10_strengthOf_24 : decode cX10_strengthOf 24 = .ok (.iaload, 1) := by decide +kernel
theorem dX10_strengthOf_25 : decode cX10_strengthOf 25 = .ok (.iaload, 1) := by decide +kernel
theorem dX10_strengthOf_26 : decode cX10_strengthOf 26 = .ok (.ireturn, 1) := by decide +kernel
theorem dX10_opposes_0 : decode cX10_opposes 0 = .ok (.aload_n 0, 1) := by decide +kernel
theorem dX10_opposes_1 : decode cX10_opposes 1 = .ok (.getfield 32, 3) := by decide +kernel
theorem dX10_opposes_4 : decode cX10_opposes 4 = .ok (.iload_n 2, 1) := by decide +kernel
theorem dX10_opposes_5 : decode cX10_opposes 5 = .ok (.iaload, 1) := by decide +kernel
theorem dX10_opposes_6 : decode cX10_opposes 6 = .ok (.iconst (-1), 1) := by decide +kernel
theorem dX10_opposes_7 : decode cX10_opposes 7 = .ok (.if_icmp .ne 5, 3) := by decide +kernel
theorem dX10_opposes_10 : decode cX10_opposes 10 = .ok (.iconst 0, 1) := by decide +kernel
theorem dX10_opposes_11 : decode cX10_opposes 11 = .ok (.ireturn, 1) := by decide +kernel
theorem dX10_opposes_12 : decode cX10_opposes 12 = .ok (.aload_n 0, 1) := by decide +kernel
theorem dX10_opposes_13 : decode cX10_opposes 13 = .ok (.getfield 29, 3) := by decide +kernel
theorem dX10_opposes_16 : decode cX10_opposes 16 = .ok (.iload_n 1, 1) := by decide +kernel
theorem dX10_opposes_17 : decode cX10_opposes 17 = .ok (.iaload, 1) := by decide +kernel
theorem dX10_opposes_18 : decode cX10_opposes 18 = .ok (.aload_n 0, 1) := by decide +kernel
theorem dX10_opposes_19 : decode cX10_opposes 19 = .ok (.getfield 29, 3) := by decide +kernel
theorem dX10_opposes_22 : decode cX10_opposes 22 = .ok (.iload_n 2, 1) := by decide +kernel
theorem dX10_opposes_23 : decode cX10_opposes 23 = .ok (.iaload, 1) := by decide +kernel
theorem dX10_opposes_24 : decode cX10_opposes 24 = .ok (.ineg, 1) := by decide +kernel
theorem dX10_opposes_25 : decode cX10_opposes 25 = .ok (.if_icmp .ne 20, 3) := by decide +kernel
theorem dX10_opposes_28 : decode cX10_opposes 28 = .ok (.aload_n 0, 1) := by decide +kernel
theorem dX10_opposes_29 : decode cX10_opposes 29 = .ok (.iload_n 1, 1) := by decide +kernel
theorem dX10_opposes_30 : decode cX10_opposes 30 = .ok (.invokevirtual 113, 3) := by decide +kernel
theorem dX10_opposes_33 : decode cX10_opposes 33 = .ok (.aload_n 0, 1) := by decide +kernel
theorem dX10_opposes_34 : decode cX10_opposes 34 = .ok (.iload_n 2, 1) := by decide +kernel
theorem dX10_opposes_35 : decode cX10_opposes 35 = .ok (.invokevirtual 113, 3) := by decide +kernel
theorem dX10_opposes_38 : decode cX10_opposes 38 = .ok (.if_icmp .lt 7, 3) := by decide +kernel
theorem dX10_opposes_41 : decode cX10_opposes 41 = .ok (.iconst 1, 1) := by decide +kernel
theorem dX10_opposes_42 : decode cX10_opposes 42 = .ok (.goto 4, 3) := by decide +kernel
theorem dX10_opposes_45 : decode cX10_opposes 45 = .ok (.iconst 0, 1) := by decide +kernel
theorem dX10_opposes_46 : decode cX10_opposes 46 = .ok (.istore_n 3, 1) := by decide +kernel
theorem dX10_opposes_47 : decode cX10_opposes 47 = .ok (.iload_n 3, 1) := by decide +kernel
theorem dX10_opposes_48 : decode cX10_opposes 48 = .ok (.ifCond .ne 23, 3) := by decide +kernel
theorem dX10_opposes_51 : decode cX10_opposes 51 = .ok (.aload_n 0, 1) := by decide +kernel
theorem dX10_opposes_52 : decode cX10_opposes 52 = .ok (.getfield 29, 3) := by decide +kernel
theorem dX10_opposes_55 : decode cX10_opposes 55 = .ok (.iload_n 1, 1) := by decide +kernel
theorem dX10_opposes_56 : decode cX10_opposes 56 = .ok (.iaload, 1) := by decide +kernel
theorem dX10_opposes_57 : decode cX10_opposes 57 = .ok (.aload_n 0, 1) := by decide +kernel
theorem dX10_opposes_58 : decode cX10_opposes 58 = .ok (.getfield 23, 3) := by decide +kernel
theorem dX10_opposes_61 : decode cX10_opposes 61 = .ok (.aload_n 0, 1) := by decide +kernel
theorem dX10_opposes_62 : decode cX10_opposes 62 = .ok (.getfield 32, 3) := by decide +kernel
theorem dX10_opposes_65 : decode cX10_opposes 65 = .ok (.iload_n 2, 1) := by decide +kernel
theorem dX10_opposes_66 : decode cX10_opposes 66 = .ok (.iaload, 1) := by decide +kernel
theorem dX10_opposes_67 : decode cX10_opposes 67 = .ok (.iaload, 1) := by decide +kernel
theorem dX10_opposes_68 : decode cX10_opposes 68 = .ok (.if_icmp .ne 7, 3) := by decide +kernel
theorem dX10_opposes_71 : decode cX10_opposes 71 = .ok (.iconst 1, 1) := by decide +kernel
theorem dX10_opposes_72 : decode cX10_opposes 72 = .ok (.goto 4, 3) := by decide +kernel
theorem dX10_opposes_75 : decode cX10_opposes 75 = .ok (.iconst 0, 1) := by decide +kernel
theorem dX10_opposes_76 : decode cX10_opposes 76 = .ok (.ireturn, 1) := by decide +kernel
theorem dX10_laysAttacks_0 : decode cX10_laysAttacks 0 = .ok (.iconst 0, 1) := by decide +kernel
theorem dX10_laysAttacks_1 : decode cX10_laysAttacks 1 = .ok (.istore_n 1, 1) := by decide +kernel
theorem dX10_laysAttacks_2 : decode cX10_laysAttacks 2 = .ok (.iload_n 1, 1) := by decide +kernel
theorem dX10_laysAttacks_3 : decode cX10_laysAttacks 3 = .ok (.aload_n 0, 1) := by decide +kernel
theorem dX10_laysAttacks_4 : decode cX10_laysAttacks 4 = .ok (.getfield 83, 3) := by decide +kernel
theorem dX10_laysAttacks_7 : decode cX10_laysAttacks 7 = .ok (.if_icmp .ge 101, 3) := by decide +kernel
theorem dX10_laysAttacks_10 : decode cX10_laysAttacks 10 = .ok (.aload_n 0, 1) := by decide +kernel
theorem dX10_laysAttacks_11 : decode cX10_laysAttacks 11 = .ok (.getfield 44, 3) := by decide +kernel
theorem dX10_laysAttacks_14 : decode cX10_laysAttacks 14 = .ok (.iload_n 1, 1) := by decide +kernel
theorem dX10_laysAttacks_15 : decode cX10_laysAttacks 15 = .ok (.iconst 0, 1) := by decide +kernel
theorem dX10_laysAttacks_16 : decode cX10_laysAttacks 16 = .ok (.iastore, 1) := by decide +kernel
theorem dX10_laysAttacks_17 : decode cX10_laysAttacks 17 = .ok (.iconst 0, 1) := by decide +kernel
theorem dX10_laysAttacks_18 : decode cX10_laysAttacks 18 = .ok (.istore_n 2, 1) := by decide +kernel
theorem dX10_laysAttacks_19 : decode cX10_laysAttacks 19 = .ok (.iload_n 2, 1) := by decide +kernel
theorem dX10_laysAttacks_20 : decode cX10_laysAttacks 20 = .ok (.aload_n 0, 1) := by decide +kernel
theorem dX10_laysAttacks_21 : decode cX10_laysAttacks 21 = .ok (.getfield 83, 3) := by decide +kernel
theorem dX10_laysAttacks_24 : decode cX10_laysAttacks 24 = .ok (.if_icmp .ge 78, 3) := by decide +kernel
theorem dX10_laysAttacks_27 : decode cX10_laysAttacks 27 = .ok (.iconst 0, 1) := by decide +kernel
theorem dX10_laysAttacks_28 : decode cX10_laysAttacks 28 = .ok (.istore_n 3, 1) := by decide +kernel
theorem dX10_laysAttacks_29 : decode cX10_laysAttacks 29 = .ok (.iload_n 3, 1) := by decide +kernel
theorem dX10_laysAttacks_30 : decode cX10_laysAttacks 30 = .ok (.iload_n 1, 1) := by decide +kernel
theorem dX10_laysAttacks_31 : decode cX10_laysAttacks 31 = .ok (.if_icmp .gt 65, 3) := by decide +kernel
theorem dX10_laysAttacks_34 : decode cX10_laysAttacks 34 = .ok (.iload_n 3, 1) := by decide +kernel
theorem dX10_laysAttacks_35 : decode cX10_laysAttacks 35 = .ok (.iload_n 1, 1) := by decide +kernel
theorem dX10_laysAttacks_36 : decode cX10_laysAttacks 36 = .ok (.if_icmp .eq 17, 3) := by decide +kernel
theorem dX10_laysAttacks_39 : decode cX10_laysAttacks 39 = .ok (.aload_n 0, 1) := by decide +kernel
theorem dX10_laysAttacks_40 : decode cX10_laysAttacks 40 = .ok (.getfield 41, 3) := by decide +kernel
theorem dX10_laysAttacks_43 : decode cX10_laysAttacks 43 = .ok (.iload_n 1, 1) := by decide +kernel
theorem dX10_laysAttacks_44 : decode cX10_laysAttacks 44 = .ok (.iaload, 1) := by decide +kernel
theorem dX10_laysAttacks_45 : decode cX10_laysAttacks 45 = .ok (.iload_n 3, 1) := by decide +kernel
theorem dX10_laysAttacks_46 : decode cX10_laysAttacks 46 = .ok (.ishr, 1) := by decide +kernel
theorem dX10_laysAttacks_47 : decode cX10_laysAttacks 47 = .ok (.iconst 1, 1) := by decide +kernel
theorem dX10_laysAttacks_48 : decode cX10_laysAttacks 48 = .ok (.iand, 1) := by decide +kernel
theorem dX10_laysAttacks_49 : decode cX10_laysAttacks 49 = .ok (.iconst 1, 1) := by decide +kernel
theorem dX10_laysAttacks_50 : decode cX10_laysAttacks 50 = .ok (.if_icmp .ne 7, 3) := by decide +kernel
theorem dX10_laysAttacks_53 : decode cX10_laysAttacks 53 = .ok (.iconst 1, 1) := by decide +kernel
theorem dX10_laysAttacks_54 : decode cX10_laysAttacks 54 = .ok (.goto 4, 3) := by decide +kernel
theorem dX10_laysAttacks_57 : decode cX10_laysAttacks 57 = .ok (.iconst 0, 1) := by decide +kernel
theorem dX10_laysAttacks_58 : decode cX10_laysAttacks 58 = .ok (.istore 4, 2) := by decide +kernel
theorem dX10_laysAttacks_60 : decode cX10_laysAttacks 60 = .ok (.aload_n 0, 1) := by decide +kernel
theorem dX10_laysAttacks_61 : decode cX10_laysAttacks 61 = .ok (.getfield 44, 3) := by decide +kernel
theorem dX10_laysAttacks_64 : decode cX10_laysAttacks 64 = .ok (.iload_n 1, 1) := by decide +kernel
theorem dX10_laysAttacks_65 : decode cX10_laysAttacks 65 = .ok (.dup2, 1) := by decide +kernel
theorem dX10_laysAttacks_66 : decode cX10_laysAttacks 66 = .ok (.iaload, 1) := by decide +kernel
theorem dX10_laysAttacks_67 : decode cX10_laysAttacks 67 = .ok (.iload 4, 2) := by decide +kernel
theorem dX10_laysAttacks_69 : decode cX10_laysAttacks 69 = .ok (.ifCond .eq 18, 3) := by decide +kernel
theorem dX10_laysAttacks_72 : decode cX10_laysAttacks 72 = .ok (.aload_n 0, 1) := by decide +kernel
theorem dX10_laysAttacks_73 : decode cX10_laysAttacks 73 = .ok (.iload_n 2, 1) := by decide +kernel
theorem dX10_laysAttacks_74 : decode cX10_laysAttacks 74 = .ok (.iload_n 3, 1) := by decide +kernel
theorem dX10_laysAttacks_75 : decode cX10_laysAttacks 75 = .ok (.invokevirtual 116, 3) := by decide +kernel
theorem dX10_laysAttacks_78 : decode cX10_laysAttacks 78 = .ok (.ifCond .eq 9, 3) := by decide +kernel
theorem dX10_laysAttacks_81 : decode cX10_laysAttacks 81 = .ok (.iconst 1, 1) := by decide +kernel
theorem dX10_laysAttacks_82 : decode cX10_laysAttacks 82 = .ok (.iload_n 2, 1) := by decide +kernel
theorem dX10_laysAttacks_83 : decode cX10_laysAttacks 83 = .ok (.ishl, 1) := by decide +kernel
theorem dX10_laysAttacks_84 : decode cX10_laysAttacks 84 = .ok (.goto 4, 3) := by decide +kernel
theorem dX10_laysAttacks_87 : decode cX10_laysAttacks 87 = .ok (.iconst 0, 1) := by decide +kernel
theorem dX10_laysAttacks_88 : decode cX10_laysAttacks 88 = .ok (.ior, 1) := by decide +kernel
theorem dX10_laysAttacks_89 : decode cX10_laysAttacks 89 = .ok (.iastore, 1) := by decide +kernel
theorem dX10_laysAttacks_90 : decode cX10_laysAttacks 90 = .ok (.iinc 3 1, 3) := by decide +kernel
theorem dX10_laysAttacks_93 : decode cX10_laysAttacks 93 = .ok (.goto (-64), 3) := by decide +kernel
theorem dX10_laysAttacks_96 : decode cX10_laysAttacks 96 = .ok (.iinc 2 1, 3) := by decide +kernel
theorem dX10_laysAttacks_99 : decode cX10_laysAttacks 99 = .ok (.goto (-80), 3) := by decide +kernel
theorem dX10_laysAttacks_102 : decode cX10_laysAttacks 102 = .ok (.iinc 1 1, 3) := by decide +kernel
theorem dX10_laysAttacks_105 : decode cX10_laysAttacks 105 = .ok (.goto (-103), 3) := by decide +kernel
theorem dX10_laysAttacks_108 : decode cX10_laysAttacks 108 = .ok (.return_, 1) := by decide +kernel
theorem dX10_isTold_0 : decode cX10_isTold 0 = .ok (.aload_n 0, 1) := by decide +kernel
theorem dX10_isTold_1 : decode cX10_isTold 1 = .ok (.invokevirtual 119, 3) := by decide +kernel
theorem dX10_isTold_4 : decode cX10_isTold 4 = .ok (.aload_n 0, 1) := by decide +kernel
theorem dX10_isTold_5 : decode cX10_isTold 5 = .ok (.getfield 86, 3) := by decide +kernel
theorem dX10_isTold_8 : decode cX10_isTold 8 = .ok (.ifCond .eq 10, 3) := by decide +kernel
theorem dX10_isTold_11 : decode cX10_isTold 11 = .ok (.aload_n 0, 1) := by decide +kernel
theorem dX10_isTold_12 : decode cX10_isTold 12 = .ok (.iload_n 1, 1) := by decide +kernel
theorem dX10_isTold_13 : decode cX10_isTold 13 = .ok (.putfield 59, 3) := by decide +kernel
theorem dX10_isTold_16 : decode cX10_isTold 16 = .ok (.iconst 0, 1) := by decide +kernel
theorem dX10_isTold_17 : decode cX10_isTold 17 = .ok (.ireturn, 1) := by decide +kernel
theorem dX10_isTold_18 : decode cX10_isTold 18 = .ok (.aload_n 0, 1) := by decide +kernel
theorem dX10_isTold_19 : decode cX10_isTold 19 = .ok (.invokevirtual 122, 3) := by decide +kernel
theorem dX10_isTold_22 : decode cX10_isTold 22 = .ok (.iconst 1, 1) := by decide +kernel
theorem dX10_isTold_23 : decode cX10_isTold 23 = .ok (.ireturn, 1) := by decide +kernel
theorem dX10_isArgument_0 : decode cX10_isArgument 0 = .ok (.aload_n 0, 1) := by decide +kernel
theorem dX10_isArgument_1 : decode cX10_isArgument 1 = .ok (.iconst 1, 1) := by decide +kernel
theorem dX10_isArgument_2 : decode cX10_isArgument 2 = .ok (.invokevirtual 125, 3) := by decide +kernel
theorem dX10_isArgument_5 : decode cX10_isArgument 5 = .ok (.ifCond .ne 5, 3) := by decide +kernel
theorem dX10_isArgument_8 : decode cX10_isArgument 8 = .ok (.iconst 0, 1) := by decide +kernel
theorem dX10_isArgument_9 : decode cX10_isArgument 9 = .ok (.ireturn, 1) := by decide +kernel
theorem dX10_isArgument_10 : decode cX10_isArgument 10 = .ok (.aload_n 0, 1) := by decide +kernel
theorem dX10_isArgument_11 : decode cX10_isArgument 11 = .ok (.iload_n 1, 1) := by decide +kernel
theorem dX10_isArgument_12 : decode cX10_isArgument 12 = .ok (.ifCond .lt 15, 3) := by decide +kernel
theorem dX10_isArgument_15 : decode cX10_isArgument 15 = .ok (.iload_n 1, 1) := by decide +kernel
theorem dX10_isArgument_16 : decode cX10_isArgument 16 = .ok (.aload_n 0, 1) := by decide +kernel
theorem dX10_isArgument_17 : decode cX10_isArgument 17 = .ok (.getfield 83, 3) := by decide +kernel
theorem dX10_isArgument_20 : decode cX10_isArgument 20 = .ok (.if_icmp .ge 7, 3) := by decide +kernel
theorem dX10_isArgument_23 : decode cX10_isArgument 23 = .ok (.iconst 0, 1) := by decide +kernel
theorem dX10_isArgument_24 : decode cX10_isArgument 24 = .ok (.goto 4, 3) := by decide +kernel
theorem dX10_isArgument_27 : decode cX10_isArgument 27 = .ok (.iconst 2, 1) := by decide +kernel
theorem dX10_isArgument_28 : decode cX10_isArgument 28 = .ok (.invokevirtual 67, 3) := by decide +kernel
theorem dX10_isArgument_31 : decode cX10_isArgument 31 = .ok (.ireturn, 1) := by decide +kernel
theorem dX10_arguments_0 : decode cX10_arguments 0 = .ok (.aload_n 0, 1) := by decide +kernel
theorem dX10_arguments_1 : decode cX10_arguments 1 = .ok (.iconst 0, 1) := by decide +kernel
theorem dX10_arguments_2 : decode cX10_arguments 2 = .ok (.putfield 59, 3) := by decide +kernel
theorem dX10_arguments_5 : decode cX10_arguments 5 = .ok (.aload_n 0, 1) := by decide +kernel
theorem dX10_arguments_6 : decode cX10_arguments 6 = .ok (.invokevirtual 119, 3) := by decide +kernel
theorem dX10_arguments_9 : decode cX10_arguments 9 = .ok (.aload_n 0, 1) := by decide +kernel
theorem dX10_arguments_10 : decode cX10_arguments 10 = .ok (.getfield 86, 3) := by decide +kernel
theorem dX10_arguments_13 : decode cX10_arguments 13 = .ok (.ifCond .eq 7, 3) := by decide +kernel
theorem dX10_arguments_16 : decode cX10_arguments 16 = .ok (.iconst (-1), 1) := by decide +kernel
theorem dX10_arguments_17 : decode cX10_arguments 17 = .ok (.goto 7, 3) := by decide +kernel
theorem dX10_arguments_20 : decode cX10_arguments 20 = .ok (.aload_n 0, 1) := by decide +kernel
theorem dX10_arguments_21 : decode cX10_arguments 21 = .ok (.getfield 83, 3) := by decide +kernel
theorem dX10_arguments_24 : decode cX10_arguments 24 = .ok (.ireturn, 1) := by decide +kernel
theorem dX10_conclusion_0 : decode cX10_conclusion 0 = .ok (.aload_n 0, 1) := by decide +kernel
theorem dX10_conclusion_1 : decode cX10_conclusion 1 = .ok (.iload_n 1, 1) := by decide +kernel
theorem dX10_conclusion_2 : decode cX10_conclusion 2 = .ok (.invokevirtual 128, 3) := by decide +kernel
theorem dX10_conclusion_5 : decode cX10_conclusion 5 = .ok (.ifCond .eq 12, 3) := by decide +kernel
theorem dX10_conclusion_8 : decode cX10_conclusion 8 = .ok (.aload_n 0, 1) := by decide +kernel
theorem dX10_conclusion_9 : decode cX10_conclusion 9 = .ok (.getfield 29, 3) := by decide +kernel
theorem dX10_conclusion_12 : decode cX10_conclusion 12 = .ok (.iload_n 1, 1) := by decide +kernel
theorem dX10_conclusion_13 : decode cX10_conclusion 13 = .ok (.iaload, 1) := by decide +kernel
theorem dX10_conclusion_14 : decode cX10_conclusion 14 = .ok (.goto 4, 3) := by decide +kernel
theorem dX10_conclusion_17 : decode cX10_conclusion 17 = .ok (.iconst 0, 1) := by decide +kernel
theorem dX10_conclusion_18 : decode cX10_conclusion 18 = .ok (.ireturn, 1) := by decide +kernel
theorem dX10_madeBy_0 : decode cX10_madeBy 0 = .ok (.aload_n 0, 1) := by decide +kernel
theorem dX10_madeBy_1 : decode cX10_madeBy 1 = .ok (.iload_n 1, 1) := by decide +kernel
theorem dX10_madeBy_2 : decode cX10_madeBy 2 = .ok (.invokevirtual 128, 3) := by decide +kernel
theorem dX10_madeBy_5 : decode cX10_madeBy 5 = .ok (.ifCond .eq 12, 3) := by decide +kernel
theorem dX10_madeBy_8 : decode cX10_madeBy 8 = .ok (.aload_n 0, 1) := by decide +kernel
theorem dX10_madeBy_9 : decode cX10_madeBy 9 = .ok (.getfield 32, 3) := by decide +kernel
theorem dX10_madeBy_12 : decode cX10_madeBy 12 = .ok (.iload_n 1, 1) := by decide +kernel
theorem dX10_madeBy_13 : decode cX10_madeBy 13 = .ok (.iaload, 1) := by decide +kernel
theorem dX10_madeBy_14 : decode cX10_madeBy 14 = .ok (.goto 4, 3) := by decide +kernel
theorem dX10_madeBy_17 : decode cX10_madeBy 17 = .ok (.iconst 0, 1) := by decide +kernel
theorem dX10_madeBy_18 : decode cX10_madeBy 18 = .ok (.ireturn, 1) := by decide +kernel
theorem dX10_part_0 : decode cX10_part 0 = .ok (.aload_n 0, 1) := by decide +kernel
theorem dX10_part_1 : decode cX10_part 1 = .ok (.iload_n 1, 1) := by decide +kernel
theorem dX10_part_2 : decode cX10_part 2 = .ok (.invokevirtual 128, 3) := by decide +kernel
theorem dX10_part_5 : decode cX10_part 5 = .ok (.ifCond .ne 5, 3) := by decide +kernel
theorem dX10_part_8 : decode cX10_part 8 = .ok (.iconst 0, 1) := by decide +kernel
theorem dX10_part_9 : decode cX10_part 9 = .ok (.ireturn, 1) := by decide +kernel
theorem dX10_part_10 : decode cX10_part 10 = .ok (.iload_n 2, 1) := by decide +kernel
theorem dX10_part_11 : decode cX10_part 11 = .ok (.ifCond .lt 21, 3) := by decide +kernel
theorem dX10_part_14 : decode cX10_part 14 = .ok (.iload_n 2, 1) := by decide +kernel
theorem dX10_part_15 : decode cX10_part 15 = .ok (.iconst 3, 1) := by decide +kernel
theorem dX10_part_16 : decode cX10_part 16 = .ok (.if_icmp .ge 16, 3) := by decide +kernel
theorem dX10_part_19 : decode cX10_part 19 = .ok (.aload_n 0, 1) := by decide +kernel
theorem dX10_part_20 : decode cX10_part 20 = .ok (.getfield 35, 3) := by decide +kernel
theorem dX10_part_23 : decode cX10_part 23 = .ok (.iconst 3, 1) := by decide +kernel
theorem dX10_part_24 : decode cX10_part 24 = .ok (.iload_n 1, 1) := by decide +kernel
theorem dX10_part_25 : decode cX10_part 25 = .ok (.imul, 1) := by decide +kernel
theorem dX10_part_26 : decode cX10_part 26 = .ok (.iload_n 2, 1) := by decide +kernel
theorem dX10_part_27 : decode cX10_part 27 = .ok (.iadd, 1) := by decide +kernel
theorem dX10_part_28 : decode cX10_part 28 = .ok (.iaload, 1) := by decide +kernel
theorem dX10_part_29 : decode cX10_part 29 = .ok (.goto 4, 3) := by decide +kernel
theorem dX10_part_32 : decode cX10_part 32 = .ok (.iconst (-1), 1) := by decide +kernel
theorem dX10_part_33 : decode cX10_part 33 = .ok (.istore_n 3, 1) := by decide +kernel
theorem dX10_part_34 : decode cX10_part 34 = .ok (.aload_n 0, 1) := by decide +kernel
theorem dX10_part_35 : decode cX10_part 35 = .ok (.iload_n 3, 1) := by decide +kernel
theorem dX10_part_36 : decode cX10_part 36 = .ok (.iconst (-1), 1) := by decide +kernel
theorem dX10_part_37 : decode cX10_part 37 = .ok (.if_icmp .ne 7, 3) := by decide +kernel
theorem dX10_part_40 : decode cX10_part 40 = .ok (.iconst 2, 1) := by decide +kernel
theorem dX10_part_41 : decode cX10_part 41 = .ok (.goto 4, 3) := by decide +kernel
theorem dX10_part_44 : decode cX10_part 44 = .ok (.iconst 0, 1) := by decide +kernel
theorem dX10_part_45 : decode cX10_part 45 = .ok (.invokevirtual 67, 3) := by decide +kernel
theorem dX10_part_48 : decode cX10_part 48 = .ok (.ifCond .eq 7, 3) := by decide +kernel
theorem dX10_part_51 : decode cX10_part 51 = .ok (.iload_n 3, 1) := by decide +kernel
theorem dX10_part_52 : decode cX10_part 52 = .ok (.goto 4, 3) := by decide +kernel
theorem dX10_part_55 : decode cX10_part 55 = .ok (.iconst 0, 1) := by decide +kernel
theorem dX10_part_56 : decode cX10_part 56 = .ok (.ireturn, 1) := by decide +kernel
theorem dX10_depth_0 : decode cX10_depth 0 = .ok (.aload_n 0, 1) := by decide +kernel
theorem dX10_depth_1 : decode cX10_depth 1 = .ok (.iload_n 1, 1) := by decide +kernel
theorem dX10_depth_2 : decode cX10_depth 2 = .ok (.invokevirtual 128, 3) := by decide +kernel
theorem dX10_depth_5 : decode cX10_depth 5 = .ok (.ifCond .eq 12, 3) := by decide +kernel
theorem dX10_depth_8 : decode cX10_depth 8 = .ok (.aload_n 0, 1) := by decide +kernel
theorem dX10_depth_9 : decode cX10_depth 9 = .ok (.getfield 38, 3) := by decide +kernel
theorem dX10_depth_12 : decode cX10_depth 12 = .ok (.iload_n 1, 1) := by decide +kernel
theorem dX10_depth_13 : decode cX10_depth 13 = .ok (.iaload, 1) := by decide +kernel
theorem dX10_depth_14 : decode cX10_depth 14 = .ok (.goto 4, 3) := by decide +kernel
theorem dX10_depth_17 : decode cX10_depth 17 = .ok (.iconst 0, 1) := by decide +kernel
theorem dX10_depth_18 : decode cX10_depth 18 = .ok (.ireturn, 1) := by decide +kernel
theorem dX10_attacks_0 : decode cX10_attacks 0 = .ok (.aload_n 0, 1) := by decide +kernel
theorem dX10_attacks_1 : decode cX10_attacks 1 = .ok (.iload_n 1, 1) := by decide +kernel
theorem dX10_attacks_2 : decode cX10_attacks 2 = .ok (.invokevirtual 128, 3) := by decide +kernel
theorem dX10_attacks_5 : decode cX10_attacks 5 = .ok (.ifCond .eq 29, 3) := by decide +kernel
theorem dX10_attacks_8 : decode cX10_attacks 8 = .ok (.aload_n 0, 1) := by decide +kernel
theorem dX10_attacks_9 : decode cX10_attacks 9 = .ok (.iload_n 2, 1) := by decide +kernel
theorem dX10_attacks_10 : decode cX10_attacks 10 = .ok (.invokevirtual 128, 3) := by decide +kernel
theorem dX10_attacks_13 : decode cX10_attacks 13 = .ok (.ifCond .eq 21, 3) := by decide +kernel
theorem dX10_attacks_16 : decode cX10_attacks 16 = .ok (.aload_n 0, 1) := by decide +kernel
theorem dX10_attacks_17 : decode cX10_attacks 17 = .ok (.getfield 44, 3) := by decide +kernel
theorem dX10_attacks_20 : decode cX10_attacks 20 = .ok (.iload_n 2, 1) := by decide +kernel
theorem dX10_attacks_21 : decode cX10_attacks 21 = .ok (.iaload, 1) := by decide +kernel
theorem dX10_attacks_22 : decode cX10_attacks 22 = .ok (.iload_n 1, 1) := by decide +kernel
theorem dX10_attacks_23 : decode cX10_attacks 23 = .ok (.ishr, 1) := by decide +kernel
theorem dX10_attacks_24 : decode cX10_attacks 24 = .ok (.iconst 1, 1) := by decide +kernel
theorem dX10_attacks_25 : decode cX10_attacks 25 = .ok (.iand, 1) := by decide +kernel
theorem dX10_attacks_26 : decode cX10_attacks 26 = .ok (.iconst 1, 1) := by decide +kernel
theorem dX10_attacks_27 : decode cX10_attacks 27 = .ok (.if_icmp .ne 7, 3) := by decide +kernel
theorem dX10_attacks_30 : decode cX10_attacks 30 = .ok (.iconst 1, 1) := by decide +kernel
theorem dX10_attacks_31 : decode cX10_attacks 31 = .ok (.goto 4, 3) := by decide +kernel
theorem dX10_attacks_34 : decode cX10_attacks 34 = .ok (.iconst 0, 1) := by decide +kernel
theorem dX10_attacks_35 : decode cX10_attacks 35 = .ok (.ireturn, 1) := by decide +kernel
theorem dX10_withLabel_0 : decode cX10_withLabel 0 = .ok (.iconst 0, 1) := by decide +kernel
theorem dX10_withLabel_1 : decode cX10_withLabel 1 = .ok (.istore_n 2, 1) := by decide +kernel
theorem dX10_withLabel_2 : decode cX10_withLabel 2 = .ok (.iconst 0, 1) := by decide +kernel
theorem dX10_withLabel_3 : decode cX10_withLabel 3 = .ok (.istore_n 3, 1) := by decide +kernel
theorem dX10_withLabel_4 : decode cX10_withLabel 4 = .ok (.iload_n 3, 1) := by decide +kernel
theorem dX10_withLabel_5 : decode cX10_withLabel 5 = .ok (.aload_n 0, 1) := by decide +kernel
theorem dX10_withLabel_6 : decode cX10_withLabel 6 = .ok (.getfield 83, 3) := by decide +kernel
theorem dX10_withLabel_9 : decode cX10_withLabel 9 = .ok (.if_icmp .ge 29, 3) := by decide +kernel
theorem dX10_withLabel_12 : decode cX10_withLabel 12 = .ok (.iload_n 2, 1) := by decide +kernel
theorem dX10_withLabel_13 : decode cX10_withLabel 13 = .ok (.aload_n 0, 1) := by decide +kernel
theorem dX10_withLabel_14 : decode cX10_withLabel 14 = .ok (.getfield 47, 3) := by decide +kernel
theorem dX10_withLabel_17 : decode cX10_withLabel 17 = .ok (.iload_n 3, 1) := by decide +kernel
theorem dX10_withLabel_18 : decode cX10_withLabel 18 = .ok (.iaload, 1) := by decide +kernel
theorem dX10_withLabel_19 : decode cX10_withLabel 19 = .ok (.iload_n 1, 1) := by decide +kernel
theorem dX10_withLabel_20 : decode cX10_withLabel 20 = .ok (.if_icmp .ne 9, 3) := by decide +kernel
theorem dX10_withLabel_23 : decode cX10_withLabel 23 = .ok (.iconst 1, 1) := by decide +kernel
theorem dX10_withLabel_24 : decode cX10_withLabel 24 = .ok (.iload_n 3, 1) := by decide +kernel
theorem dX10_withLabel_25 : decode cX10_withLabel 25 = .ok (.ishl, 1) := by decide +kernel
theorem dX10_withLabel_26 : decode cX10_withLabel 26 = .ok (.goto 4, 3) := by decide +kernel
theorem dX10_withLabel_29 : decode cX10_withLabel 29 = .ok (.iconst 0, 1) := by decide +kernel
theorem dX10_withLabel_30 : decode cX10_withLabel 30 = .ok (.ior, 1) := by decide +kernel
theorem dX10_withLabel_31 : decode cX10_withLabel 31 = .ok (.istore_n 2, 1) := by decide +kernel
theorem dX10_withLabel_32 : decode cX10_withLabel 32 = .ok (.iinc 3 1, 3) := by decide +kernel
theorem dX10_withLabel_35 : decode cX10_withLabel 35 = .ok (.goto (-31), 3) := by decide +kernel
theorem dX10_withLabel_38 : decode cX10_withLabel 38 = .ok (.iload_n 2, 1) := by decide +kernel
theorem dX10_withLabel_39 : decode cX10_withLabel 39 = .ok (.ireturn, 1) := by decide +kernel
theorem dX10_labelsAll_0 : decode cX10_labelsAll 0 = .ok (.iconst 0, 1) := by decide +kernel
theorem dX10_labelsAll_1 : decode cX10_labelsAll 1 = .ok (.istore_n 1, 1) := by decide +kernel
theorem dX10_labelsAll_2 : decode cX10_labelsAll 2 = .ok (.iload_n 1, 1) := by decide +kernel
theorem dX10_labelsAll_3 : decode cX10_labelsAll 3 = .ok (.aload_n 0, 1) := by decide +kernel
theorem dX10_labelsAll_4 : decode cX10_labelsAll 4 = .ok (.getfield 83, 3) := by decide +kernel
theorem dX10_labelsAll_7 : decode cX10_labelsAll 7 = .ok (.if_icmp .ge 23, 3) := by decide +kernel
theorem dX10_labelsAll_10 : decode cX10_labelsAll 10 = .ok (.aload_n 0, 1) := by decide +kernel
theorem dX10_labelsAll_11 : decode cX10_labelsAll 11 = .ok (.getfield 47, 3) := by decide +kernel
theorem dX10_labelsAll_14 : decode cX10_labelsAll 14 = .ok (.iload_n 1, 1) := by decide +kernel
theorem dX10_labelsAll_15 : decode cX10_labelsAll 15 = .ok (.iconst 1, 1) := by decide +kernel
theorem dX10_labelsAll_16 : decode cX10_labelsAll 16 = .ok (.iastore, 1) := by decide +kernel
theorem dX10_labelsAll_17 : decode cX10_labelsAll 17 = .ok (.aload_n 0, 1) := by decide +kernel
theorem dX10_labelsAll_18 : decode cX10_labelsAll 18 = .ok (.getfield 50, 3) := by decide +kernel
theorem dX10_labelsAll_21 : decode cX10_labelsAll 21 = .ok (.iload_n 1, 1) := by decide +kernel
theorem dX10_labelsAll_22 : decode cX10_labelsAll 22 = .ok (.iconst 0, 1) := by decide +kernel
theorem dX10_labelsAll_23 : decode cX10_labelsAll 23 = .ok (.iastore, 1) := by decide +kernel
theorem dX10_labelsAll_24 : decode cX10_labelsAll 24 = .ok (.iinc 1 1, 3) := by decide +kernel
theorem dX10_labelsAll_27 : decode cX10_labelsAll 27 = .ok (.goto (-25), 3) := by decide +kernel
theorem dX10_labelsAll_30 : decode cX10_labelsAll 30 = .ok (.iconst (-1), 1) := by decide +kernel
theorem dX10_labelsAll_31 : decode cX10_labelsAll 31 = .ok (.istore_n 1, 1) := by decide +kernel
theorem dX10_labelsAll_32 : decode cX10_labelsAll 32 = .ok (.iconst 1, 1) := by decide +kernel
theorem dX10_labelsAll_33 : decode cX10_labelsAll 33 = .ok (.istore_n 2, 1) := by decide +kernel
theorem dX10_labelsAll_34 : decode cX10_labelsAll 34 = .ok (.iload_n 1, 1) := by decide +kernel
theorem dX10_labelsAll_35 : decode cX10_labelsAll 35 = .ok (.aload_n 0, 1) := by decide +kernel
theorem dX10_labelsAll_36 : decode cX10_labelsAll 36 = .ok (.iconst 1, 1) := by decide +kernel
theorem dX10_labelsAll_37 : decode cX10_labelsAll 37 = .ok (.invokevirtual 131, 3) := by decide +kernel
theorem dX10_labelsAll_40 : decode cX10_labelsAll 40 = .ok (.if_icmp .eq 145, 3) := by decide +kernel
theorem dX10_labelsAll_43 : decode cX10_labelsAll 43 = .ok (.aload_n 0, 1) := by decide +kernel
theorem dX10_labelsAll_44 : decode cX10_labelsAll 44 = .ok (.iconst 1, 1) := by decide +kernel
theorem dX10_labelsAll_45 : decode cX10_labelsAll 45 = .ok (.invokevirtual 131, 3) := by decide +kernel
theorem dX10_labelsAll_48 : decode cX10_labelsAll 48 = .ok (.istore_n 1, 1) := by decide +kernel
theorem dX10_labelsAll_49 : decode cX10_labelsAll 49 = .ok (.aload_n 0, 1) := by decide +kernel
theorem dX10_labelsAll_50 : decode cX10_labelsAll 50 = .ok (.iconst 0, 1) := by decide +kernel
theorem dX10_labelsAll_51 : decode cX10_labelsAll 51 = .ok (.invokevirtual 131, 3) := by decide +kernel
theorem dX10_labelsAll_54 : decode cX10_labelsAll 54 = .ok (.istore_n 3, 1) := by decide +kernel
theorem dX10_labelsAll_55 : decode cX10_labelsAll 55 = .ok (.iconst 0, 1) := by decide +kernel
theorem dX10_labelsAll_56 : decode cX10_labelsAll 56 = .ok (.istore 4, 2) := by decide +kernel
theorem dX10_labelsAll_58 : decode cX10_labelsAll 58 = .ok (.iload 4, 2) := by decide +kernel
theorem dX10_labelsAll_60 : decode cX10_labelsAll 60 = .ok (.aload_n 0, 1) := by decide +kernel
theorem dX10_labelsAll_61 : decode cX10_labelsAll 61 = .ok (.getfield 83, 3) := by decide +kernel
theorem dX10_labelsAll_64 : decode cX10_labelsAll 64 = .ok (.if_icmp .ge 50, 3) := by decide +kernel
theorem dX10_labelsAll_67 : decode cX10_labelsAll 67 = .ok (.aload_n 0, 1) := by decide +kernel
theorem dX10_labelsAll_68 : decode cX10_labelsAll 68 = .ok (.getfield 47, 3) := by decide +kernel
theorem dX10_labelsAll_71 : decode cX10_labelsAll 71 = .ok (.iload 4, 2) := by decide +kernel
theorem dX10_labelsAll_73 : decode cX10_labelsAll 73 = .ok (.iaload, 1) := by decide +kernel
theorem dX10_labelsAll_74 : decode cX10_labelsAll 74 = .ok (.iconst 1, 1) := by decide +kernel
theorem dX10_labelsAll_75 : decode cX10_labelsAll 75 = .ok (.if_icmp .ne 33, 3) := by decide +kernel
theorem dX10_labelsAll_78 : decode cX10_labelsAll 78 = .ok (.aload_n 0, 1) := by decide +kernel
theorem dX10_labelsAll_79 : decode cX10_labelsAll 79 = .ok (.getfield 44, 3) := by decide +kernel
theorem dX10_labelsAll_82 : decode cX10_labelsAll 82 = .ok (.iload 4, 2) := by decide +kernel
theorem dX10_labelsAll_84 : decode cX10_labelsAll 84 = .ok (.iaload, 1) := by decide +kernel
theorem dX10_labelsAll_85 : decode cX10_labelsAll 85 = .ok (.iload_n 3, 1) := by decide +kernel
theorem dX10_labelsAll_86 : decode cX10_labelsAll 86 = .ok (.iconst (-1), 1) := by decide +kernel
theorem dX10_labelsAll_87 : decode cX10_labelsAll 87 = .ok (.ixor, 1) := by decide +kernel
theorem dX10_labelsAll_88 : decode cX10_labelsAll 88 = .ok (.iand, 1) := by decide +kernel
theorem dX10_labelsAll_89 : decode cX10_labelsAll 89 = .ok (.ifCond .ne 19, 3) := by decide +kernel
theorem dX10_labelsAll_92 : decode cX10_labelsAll 92 = .ok (.aload_n 0, 1) := by decide +kernel
theorem dX10_labelsAll_93 : decode cX10_labelsAll 93 = .ok (.getfield 47, 3) := by decide +kernel
theorem dX10_labelsAll_96 : decode cX10_labelsAll 96 = .ok (.iload 4, 2) := by decide +kernel
theorem dX10_labelsAll_98 : decode cX10_labelsAll 98 = .ok (.iconst 2, 1) := by decide +kernel
theorem dX10_labelsAll_99 : decode cX10_labelsAll 99 = .ok (.iastore, 1) := by decide +kernel
theorem dX10_labelsAll_100 : decode cX10_labelsAll 100 = .ok (.aload_n 0, 1) := by decide +kernel
theorem dX10_labelsAll_101 : decode cX10_labelsAll 101 = .ok (.getfield 50, 3) := by decide +kernel
theorem dX10_labelsAll_104 : decode cX10_labelsAll 104 = .ok (.iload 4, 2) := by decide +kernel
theorem dX10_labelsAll_106 : decode cX10_labelsAll 106 = .ok (.iload_n 2, 1) := by decide +kernel
theorem dX10_labelsAll_107 : decode cX10_labelsAll 107 = .ok (.iastore, 1) := by decide +kernel
theorem dX10_labelsAll_108 : decode cX10_labelsAll 108 = .ok (.iinc 4 1, 3) := by decide +kernel
theorem dX10_labelsAll_111 : decode cX10_labelsAll 111 = .ok (.goto (-53), 3) := by decide +kernel
theorem dX10_labelsAll_114 : decode cX10_labelsAll 114 = .ok (.aload_n 0, 1) := by decide +kernel
theorem dX10_labelsAll_115 : decode cX10_labelsAll 115 = .ok (.iconst 2, 1) := by decide +kernel
theorem dX10_labelsAll_116 : decode cX10_labelsAll 116 = .ok (.invokevirtual 131, 3) := by decide +kernel
theorem dX10_labelsAll_119 : decode cX10_labelsAll 119 = .ok (.istore 4, 2) := by decide +kernel
theorem dX10_labelsAll_121 : decode cX10_labelsAll 121 = .ok (.iconst 0, 1) := by decide +kernel
theorem dX10_labelsAll_122 : decode cX10_labelsAll 122 = .ok (.istore 5, 2) := by decide +kernel
theorem dX10_labelsAll_124 : decode cX10_labelsAll 124 = .ok (.iload 5, 2) := by decide +kernel
theorem dX10_labelsAll_126 : decode cX10_labelsAll 126 = .ok (.aload_n 0, 1) := by decide +kernel
theorem dX10_labelsAll_127 : decode cX10_labelsAll 127 = .ok (.getfield 83, 3) := by decide +kernel
theorem dX10_labelsAll_130 : decode cX10_labelsAll 130 = .ok (.if_icmp .ge 49, 3) := by decide +kernel
theorem dX10_labelsAll_133 : decode cX10_labelsAll 133 = .ok (.aload_n 0, 1) := by decide +kernel
theorem dX10_labelsAll_134 : decode cX10_labelsAll 134 = .ok (.getfield 47, 3) := by decide +kernel
theorem dX10_labelsAll_137 : decode cX10_labelsAll 137 = .ok (.iload 5, 2) := by decide +kernel
theorem dX10_labelsAll_139 : decode cX10_labelsAll 139 = .ok (.iaload, 1) := by decide +kernel
theorem dX10_labelsAll_140 : decode cX10_labelsAll 140 = .ok (.iconst 1, 1) := by decide +kernel
theorem dX10_labelsAll_141 : decode cX10_labelsAll 141 = .ok (.if_icmp .ne 32, 3) := by decide +kernel
theorem dX10_labelsAll_144 : decode cX10_labelsAll 144 = .ok (.aload_n 0, 1) := by decide +kernel
theorem dX10_labelsAll_145 : decode cX10_labelsAll 145 = .ok (.getfield 44, 3) := by decide +kernel
theorem dX10_labelsAll_148 : decode cX10_labelsAll 148 = .ok (.iload 5, 2) := by decide +kernel
theorem dX10_labelsAll_150 : decode cX10_labelsAll 150 = .ok (.iaload, 1) := by decide +kernel
theorem dX10_labelsAll_151 : decode cX10_labelsAll 151 = .ok (.iload 4, 2) := by decide +kernel
theorem dX10_labelsAll_153 : decode cX10_labelsAll 153 = .ok (.iand, 1) := by decide +kernel
theorem dX10_labelsAll_154 : decode cX10_labelsAll 154 = .ok (.ifCond .eq 19, 3) := by decide +kernel
theorem dX10_labelsAll_157 : decode cX10_labelsAll 157 = .ok (.aload_n 0, 1) := by decide +kernel
theorem dX10_labelsAll_158 : decode cX10_labelsAll 158 = .ok (.getfield 47, 3) := by decide +kernel
theorem dX10_labelsAll_161 : decode cX10_labelsAll 161 = .ok (.iload 5, 2) := by decide +kernel
theorem dX10_labelsAll_163 : decode cX10_labelsAll 163 = .ok (.iconst 0, 1) := by decide +kernel
theorem dX10_labelsAll_164 : decode cX10_labelsAll 164 = .ok (.iastore, 1) := by decide +kernel
theorem dX10_labelsAll_165 : decode cX10_labelsAll 165 = .ok (.aload_n 0, 1) := by decide +kernel
theorem dX10_labelsAll_166 : decode cX10_labelsAll 166 = .ok (.getfield 50, 3) := by decide +kernel
theorem dX10_labelsAll_169 : decode cX10_labelsAll 169 = .ok (.iload 5, 2) := by decide +kernel
theorem dX10_labelsAll_171 : decode cX10_labelsAll 171 = .ok (.iload_n 2, 1) := by decide +kernel
theorem dX10_labelsAll_172 : decode cX10_labelsAll 172 = .ok (.iastore, 1) := by decide +kernel
theorem dX10_labelsAll_173 : decode cX10_labelsAll 173 = .ok (.iinc 5 1, 3) := by decide +kernel
theorem dX10_labelsAll_176 : decode cX10_labelsAll 176 = .ok (.goto (-52), 3) := by decide +kernel
theorem dX10_labelsAll_179 : decode cX10_labelsAll 179 = .ok (.iinc 2 1, 3) := by decide +kernel
theorem dX10_labelsAll_182 : decode cX10_labelsAll 182 = .ok (.goto (-148), 3) := by decide +kernel
theorem dX10_labelsAll_185 : decode cX10_labelsAll 185 = .ok (.return_, 1) := by decide +kernel
theorem dX10_label_0 : decode cX10_label 0 = .ok (.aload_n 0, 1) := by decide +kernel
theorem dX10_label_1 : decode cX10_label 1 = .ok (.iload_n 1, 1) := by decide +kernel
theorem dX10_label_2 : decode cX10_label 2 = .ok (.invokevirtual 128, 3) := by decide +kernel
theorem dX10_label_5 : decode cX10_label 5 = .ok (.ifCond .ne 5, 3) := by decide +kernel
theorem dX10_label_8 : decode cX10_label 8 = .ok (.iconst 0, 1) := by decide +kernel
theorem dX10_label_9 : decode cX10_label 9 = .ok (.ireturn, 1) := by decide +kernel
theorem dX10_label_10 : decode cX10_label 10 = .ok (.aload_n 0, 1) := by decide +kernel
theorem dX10_label_11 : decode cX10_label 11 = .ok (.invokevirtual 134, 3) := by decide +kernel
theorem dX10_label_14 : decode cX10_label 14 = .ok (.aload_n 0, 1) := by decide +kernel
theorem dX10_label_15 : decode cX10_label 15 = .ok (.getfield 47, 3) := by decide +kernel
theorem dX10_label_18 : decode cX10_label 18 = .ok (.iload_n 1, 1) := by decide +kernel
theorem dX10_label_19 : decode cX10_label 19 = .ok (.iaload, 1) := by decide +kernel
theorem dX10_label_20 : decode cX10_label 20 = .ok (.ireturn, 1) := by decide +kernel
theorem dX10_round_0 : decode cX10_round 0 = .ok (.aload_n 0, 1) := by decide +kernel
theorem dX10_round_1 : decode cX10_round 1 = .ok (.iload_n 1, 1) := by decide +kernel
theorem dX10_round_2 : decode cX10_round 2 = .ok (.invokevirtual 128, 3) := by decide +kernel
theorem dX10_round_5 : decode cX10_round 5 = .ok (.ifCond .ne 5, 3) := by decide +kernel
theorem dX10_round_8 : decode cX10_round 8 = .ok (.iconst 0, 1) := by decide +kernel
theorem dX10_round_9 : decode cX10_round 9 = .ok (.ireturn, 1) := by decide +kernel
theorem dX10_round_10 : decode cX10_round 10 = .ok (.aload_n 0, 1) := by decide +kernel
theorem dX10_round_11 : decode cX10_round 11 = .ok (.invokevirtual 134, 3) := by decide +kernel
theorem dX10_round_14 : decode cX10_round 14 = .ok (.aload_n 0, 1) := by decide +kernel
theorem dX10_round_15 : decode cX10_round 15 = .ok (.getfield 50, 3) := by decide +kernel
theorem dX10_round_18 : decode cX10_round 18 = .ok (.iload_n 1, 1) := by decide +kernel
theorem dX10_round_19 : decode cX10_round 19 = .ok (.iaload, 1) := by decide +kernel
theorem dX10_round_20 : decode cX10_round 20 = .ok (.ireturn, 1) := by decide +kernel
theorem dX10_isAsked_0 : decode cX10_isAsked 0 = .ok (.aload_n 0, 1) := by decide +kernel
theorem dX10_isAsked_1 : decode cX10_isAsked 1 = .ok (.iload_n 1, 1) := by decide +kernel
theorem dX10_isAsked_2 : decode cX10_isAsked 2 = .ok (.invokestatic 63, 3) := by decide +kernel
theorem dX10_isAsked_5 : decode cX10_isAsked 5 = .ok (.ifCond .eq 7, 3) := by decide +kernel
theorem dX10_isAsked_8 : decode cX10_isAsked 8 = .ok (.iconst 0, 1) := by decide +kernel
theorem dX10_isAsked_9 : decode cX10_isAsked 9 = .ok (.goto 4, 3) := by decide +kernel
theorem dX10_isAsked_12 : decode cX10_isAsked 12 = .ok (.iconst 1, 1) := by decide +kernel
theorem dX10_isAsked_13 : decode cX10_isAsked 13 = .ok (.invokevirtual 67, 3) := by decide +kernel
theorem dX10_isAsked_16 : decode cX10_isAsked 16 = .ok (.ifCond .eq 11, 3) := by decide +kernel
theorem dX10_isAsked_19 : decode cX10_isAsked 19 = .ok (.aload_n 0, 1) := by decide +kernel
theorem dX10_isAsked_20 : decode cX10_isAsked 20 = .ok (.iconst 2, 1) := by decide +kernel
theorem dX10_isAsked_21 : decode cX10_isAsked 21 = .ok (.invokevirtual 125, 3) := by decide +kernel
theorem dX10_isAsked_24 : decode cX10_isAsked 24 = .ok (.ifCond .ne 5, 3) := by decide +kernel
theorem dX10_isAsked_27 : decode cX10_isAsked 27 = .ok (.iconst 0, 1) := by decide +kernel
theorem dX10_isAsked_28 : decode cX10_isAsked 28 = .ok (.ireturn, 1) := by decide +kernel
theorem dX10_isAsked_29 : decode cX10_isAsked 29 = .ok (.aload_n 0, 1) := by decide +kernel
theorem dX10_isAsked_30 : decode cX10_isAsked 30 = .ok (.invokevirtual 134, 3) := by decide +kernel
theorem dX10_isAsked_33 : decode cX10_isAsked 33 = .ok (.iconst 1, 1) := by decide +kernel
theorem dX10_isAsked_34 : decode cX10_isAsked 34 = .ok (.ireturn, 1) := by decide +kernel
theorem dX10_holds_0 : decode cX10_holds 0 = .ok (.iconst 0, 1) := by decide +kernel
theorem dX10_holds_1 : decode cX10_holds 1 = .ok (.istore_n 2, 1) := by decide +kernel
theorem dX10_holds_2 : decode cX10_holds 2 = .ok (.aload_n 0, 1) := by decide +kernel
theorem dX10_holds_3 : decode cX10_holds 3 = .ok (.iload_n 1, 1) := by decide +kernel
theorem dX10_holds_4 : decode cX10_holds 4 = .ok (.invokevirtual 137, 3) := by decide +kernel
theorem dX10_holds_7 : decode cX10_holds 7 = .ok (.ifCond .eq 50, 3) := by decide +kernel
theorem dX10_holds_10 : decode cX10_holds 10 = .ok (.iconst 0, 1) := by decide +kernel
theorem dX10_holds_11 : decode cX10_holds 11 = .ok (.istore_n 3, 1) := by decide +kernel
theorem dX10_holds_12 : decode cX10_holds 12 = .ok (.iload_n 3, 1) := by decide +kernel
theorem dX10_holds_13 : decode cX10_holds 13 = .ok (.aload_n 0, 1) := by decide +kernel
theorem dX10_holds_14 : decode cX10_holds 14 = .ok (.getfield 83, 3) := by decide +kernel
theorem dX10_holds_17 : decode cX10_holds 17 = .ok (.if_icmp .ge 40, 3) := by decide +kernel
theorem dX10_holds_20 : decode cX10_holds 20 = .ok (.aload_n 0, 1) := by decide +kernel
theorem dX10_holds_21 : decode cX10_holds 21 = .ok (.getfield 29, 3) := by decide +kernel
theorem dX10_holds_24 : decode cX10_holds 24 = .ok (.iload_n 3, 1) := by decide +kernel
theorem dX10_holds_25 : decode cX10_holds 25 = .ok (.iaload, 1) := by decide +kernel
theorem dX10_holds_26 : decode cX10_holds 26 = .ok (.iload_n 1, 1) := by decide +kernel
theorem dX10_holds_27 : decode cX10_holds 27 = .ok (.if_icmp .ne 22, 3) := by decide +kernel
theorem dX10_holds_30 : decode cX10_holds 30 = .ok (.aload_n 0, 1) := by decide +kernel
theorem dX10_holds_31 : decode cX10_holds 31 = .ok (.getfield 47, 3) := by decide +kernel
theorem dX10_holds_34 : decode cX10_holds 34 = .ok (.iload_n 3, 1) := by decide +kernel
theorem dX10_holds_35 : decode cX10_holds 35 = .ok (.iaload, 1) := by decide +kernel
theorem dX10_holds_36 : decode cX10_holds 36 = .ok (.iload_n 2, 1) := by decide +kernel
theorem dX10_holds_37 : decode cX10_holds 37 = .ok (.if_icmp .le 12, 3) := by decide +kernel
theorem dX10_holds_40 : decode cX10_holds 40 = .ok (.aload_n 0, 1) := by decide +kernel
theorem dX10_holds_41 : decode cX10_holds 41 = .ok (.getfield 47, 3) := by decide +kernel
theorem dX10_holds_44 : decode cX10_holds 44 = .ok (.iload_n 3, 1) := by decide +kernel
theorem dX10_holds_45 : decode cX10_holds 45 = .ok (.iaload, 1) := by decide +kernel
theorem dX10_holds_46 : decode cX10_holds 46 = .ok (.goto 4, 3) := by decide +kernel
theorem dX10_holds_49 : decode cX10_holds 49 = .ok (.iload_n 2, 1) := by decide +kernel
theorem dX10_holds_50 : decode cX10_holds 50 = .ok (.istore_n 2, 1) := by decide +kernel
theorem dX10_holds_51 : decode cX10_holds 51 = .ok (.iinc 3 1, 3) := by decide +kernel
theorem dX10_holds_54 : decode cX10_holds 54 = .ok (.goto (-42), 3) := by decide +kernel
theorem dX10_holds_57 : decode cX10_holds 57 = .ok (.iload_n 2, 1) := by decide +kernel
theorem dX10_holds_58 : decode cX10_holds 58 = .ok (.ireturn, 1) := by decide +kernel
theorem dX10_reasonFor_0 : decode cX10_reasonFor 0 = .ok (.aload_n 0, 1) := by decide +kernel
theorem dX10_reasonFor_1 : decode cX10_reasonFor 1 = .ok (.iload_n 1, 1) := by decide +kernel
theorem dX10_reasonFor_2 : decode cX10_reasonFor 2 = .ok (.invokevirtual 137, 3) := by decide +kernel
theorem dX10_reasonFor_5 : decode cX10_reasonFor 5 = .ok (.ifCond .ne 5, 3) := by decide +kernel
theorem dX10_reasonFor_8 : decode cX10_reasonFor 8 = .ok (.iconst 0, 1) := by decide +kernel
theorem dX10_reasonFor_9 : decode cX10_reasonFor 9 = .ok (.ireturn, 1) := by decide +kernel
theorem dX10_reasonFor_10 : decode cX10_reasonFor 10 = .ok (.iconst (-1), 1) := by decide +kernel
theorem dX10_reasonFor_11 : decode cX10_reasonFor 11 = .ok (.istore_n 2, 1) := by decide +kernel
theorem dX10_reasonFor_12 : decode cX10_reasonFor 12 = .ok (.aload_n 0, 1) := by decide +kernel
theorem dX10_reasonFor_13 : decode cX10_reasonFor 13 = .ok (.getfield 83, 3) := by decide +kernel
theorem dX10_reasonFor_16 : decode cX10_reasonFor 16 = .ok (.iconst 1, 1) := by decide +kernel
theorem dX10_reasonFor_17 : decode cX10_reasonFor 17 = .ok (.isub, 1) := by decide +kernel
theorem dX10_reasonFor_18 : decode cX10_reasonFor 18 = .ok (.istore_n 3, 1) := by decide +kernel
theorem dX10_reasonFor_19 : decode cX10_reasonFor 19 = .ok (.iload_n 3, 1) := by decide +kernel
theorem dX10_reasonFor_20 : decode cX10_reasonFor 20 = .ok (.ifCond .lt 35, 3) := by decide +kernel
theorem dX10_reasonFor_23 : decode cX10_reasonFor 23 = .ok (.aload_n 0, 1) := by decide +kernel
theorem dX10_reasonFor_24 : decode cX10_reasonFor 24 = .ok (.getfield 29, 3) := by decide +kernel
theorem dX10_reasonFor_27 : decode cX10_reasonFor 27 = .ok (.iload_n 3, 1) := by decide +kernel
theorem dX10_reasonFor_28 : decode cX10_reasonFor 28 = .ok (.iaload, 1) := by decide +kernel
theorem dX10_reasonFor_29 : decode cX10_reasonFor 29 = .ok (.iload_n 1, 1) := by decide +kernel
theorem dX10_reasonFor_30 : decode cX10_reasonFor 30 = .ok (.if_icmp .ne 17, 3) := by decide +kernel
theorem dX10_reasonFor_33 : decode cX10_reasonFor 33 = .ok (.aload_n 0, 1) := by decide +kernel
theorem dX10_reasonFor_34 : decode cX10_reasonFor 34 = .ok (.getfield 47, 3) := by decide +kernel
theorem dX10_reasonFor_37 : decode cX10_reasonFor 37 = .ok (.iload_n 3, 1) := by decide +kernel
theorem dX10_reasonFor_38 : decode cX10_reasonFor 38 = .ok (.iaload, 1) := by decide +kernel
theorem dX10_reasonFor_39 : decode cX10_reasonFor 39 = .ok (.iconst 2, 1) := by decide +kernel
theorem dX10_reasonFor_40 : decode cX10_reasonFor 40 = .ok (.if_icmp .ne 7, 3) := by decide +kernel
theorem dX10_reasonFor_43 : decode cX10_reasonFor 43 = .ok (.iload_n 3, 1) := by decide +kernel
theorem dX10_reasonFor_44 : decode cX10_reasonFor 44 = .ok (.goto 4, 3) := by decide +kernel
theorem dX10_reasonFor_47 : decode cX10_reasonFor 47 = .ok (.iload_n 2, 1) := by decide +kernel
theorem dX10_reasonFor_48 : decode cX10_reasonFor 48 = .ok (.istore_n 2, 1) := by decide +kernel
theorem dX10_reasonFor_49 : decode cX10_reasonFor 49 = .ok (.iinc 3 (-1), 3) := by decide +kernel
theorem dX10_reasonFor_52 : decode cX10_reasonFor 52 = .ok (.goto (-33), 3) := by decide +kernel
theorem dX10_reasonFor_55 : decode cX10_reasonFor 55 = .ok (.iload_n 2, 1) := by decide +kernel
theorem dX10_reasonFor_56 : decode cX10_reasonFor 56 = .ok (.ireturn, 1) := by decide +kernel
theorem dX10_lowest_0 : decode cX10_lowest 0 = .ok (.iconst (-1), 1) := by decide +kernel
theorem dX10_lowest_1 : decode cX10_lowest 1 = .ok (.istore_n 1, 1) := by decide +kernel
theorem dX10_lowest_2 : decode cX10_lowest 2 = .ok (.bipush 23, 2) := by decide +kernel
theorem dX10_lowest_4 : decode cX10_lowest 4 = .ok (.istore_n 2, 1) := by decide +kernel
theorem dX10_lowest_5 : decode cX10_lowest 5 = .ok (.iload_n 2, 1) := by decide +kernel
theorem dX10_lowest_6 : decode cX10_lowest 6 = .ok (.ifCond .lt 24, 3) := by decide +kernel
theorem dX10_lowest_9 : decode cX10_lowest 9 = .ok (.iload_n 0, 1) := by decide +kernel
theorem dX10_lowest_10 : decode cX10_lowest 10 = .ok (.iload_n 2, 1) := by decide +kernel
theorem dX10_lowest_11 : decode cX10_lowest 11 = .ok (.ishr, 1) := by decide +kernel
theorem dX10_lowest_12 : decode cX10_lowest 12 = .ok (.iconst 1, 1) := by decide +kernel
theorem dX10_lowest_13 : decode cX10_lowest 13 = .ok (.iand, 1) := by decide +kernel
theorem dX10_lowest_14 : decode cX10_lowest 14 = .ok (.iconst 1, 1) := by decide +kernel
theorem dX10_lowest_15 : decode cX10_lowest 15 = .ok (.if_icmp .ne 7, 3) := by decide +kernel
theorem dX10_lowest_18 : decode cX10_lowest 18 = .ok (.iload_n 2, 1) := by decide +kernel
theorem dX10_lowest_19 : decode cX10_lowest 19 = .ok (.goto 4, 3) := by decide +kernel
theorem dX10_lowest_22 : decode cX10_lowest 22 = .ok (.iload_n 1, 1) := by decide +kernel
theorem dX10_lowest_23 : decode cX10_lowest 23 = .ok (.istore_n 1, 1) := by decide +kernel
theorem dX10_lowest_24 : decode cX10_lowest 24 = .ok (.iinc 2 (-1), 3) := by decide +kernel
theorem dX10_lowest_27 : decode cX10_lowest 27 = .ok (.goto (-22), 3) := by decide +kernel
theorem dX10_lowest_30 : decode cX10_lowest 30 = .ok (.iload_n 1, 1) := by decide +kernel
theorem dX10_lowest_31 : decode cX10_lowest 31 = .ok (.ireturn, 1) := by decide +kernel
theorem dX10_reasonAgainst_0 : decode cX10_reasonAgainst 0 = .ok (.aload_n 0, 1) := by decide +kernel
theorem dX10_reasonAgainst_1 : decode cX10_reasonAgainst 1 = .ok (.iload_n 1, 1) := by decide +kernel
theorem dX10_reasonAgainst_2 : decode cX10_reasonAgainst 2 = .ok (.invokevirtual 128, 3) := by decide +kernel
theorem dX10_reasonAgainst_5 : decode cX10_reasonAgainst 5 = .ok (.ifCond .ne 5, 3) := by decide +kernel
theorem dX10_reasonAgainst_8 : decode cX10_reasonAgainst 8 = .ok (.iconst 0, 1) := by decide +kernel
theorem dX10_reasonAgainst_9 : decode cX10_reasonAgainst 9 = .ok (.ireturn, 1) := by decide +kernel
theorem dX10_reasonAgainst_10 : decode cX10_reasonAgainst 10 = .ok (.aload_n 0, 1) := by decide +kernel
theorem dX10_reasonAgainst_11 : decode cX10_reasonAgainst 11 = .ok (.invokevirtual 134, 3) := by decide +kernel
theorem dX10_reasonAgainst_14 : decode cX10_reasonAgainst 14 = .ok (.aload_n 0, 1) := by decide +kernel
theorem dX10_reasonAgainst_15 : decode cX10_reasonAgainst 15 = .ok (.getfield 44, 3) := by decide +kernel
theorem dX10_reasonAgainst_18 : decode cX10_reasonAgainst 18 = .ok (.iload_n 1, 1) := by decide +kernel
theorem dX10_reasonAgainst_19 : decode cX10_reasonAgainst 19 = .ok (.iaload, 1) := by decide +kernel
theorem dX10_reasonAgainst_20 : decode cX10_reasonAgainst 20 = .ok (.aload_n 0, 1) := by decide +kernel
theorem dX10_reasonAgainst_21 : decode cX10_reasonAgainst 21 = .ok (.iconst 2, 1) := by decide +kernel
theorem dX10_reasonAgainst_22 : decode cX10_reasonAgainst 22 = .ok (.invokevirtual 131, 3) := by decide +kernel
theorem dX10_reasonAgainst_25 : decode cX10_reasonAgainst 25 = .ok (.iand, 1) := by decide +kernel
theorem dX10_reasonAgainst_26 : decode cX10_reasonAgainst 26 = .ok (.istore_n 2, 1) := by decide +kernel
theorem dX10_reasonAgainst_27 : decode cX10_reasonAgainst 27 = .ok (.iload_n 2, 1) := by decide +kernel
theorem dX10_reasonAgainst_28 : decode cX10_reasonAgainst 28 = .ok (.ifCond .eq 7, 3) := by decide +kernel
theorem dX10_reasonAgainst_31 : decode cX10_reasonAgainst 31 = .ok (.iload_n 2, 1) := by decide +kernel
theorem dX10_reasonAgainst_32 : decode cX10_reasonAgainst 32 = .ok (.goto 15, 3) := by decide +kernel
theorem dX10_reasonAgainst_35 : decode cX10_reasonAgainst 35 = .ok (.aload_n 0, 1) := by decide +kernel
theorem dX10_reasonAgainst_36 : decode cX10_reasonAgainst 36 = .ok (.getfield 44, 3) := by decide +kernel
theorem dX10_reasonAgainst_39 : decode cX10_reasonAgainst 39 = .ok (.iload_n 1, 1) := by decide +kernel
theorem dX10_reasonAgainst_40 : decode cX10_reasonAgainst 40 = .ok (.iaload, 1) := by decide +kernel
theorem dX10_reasonAgainst_41 : decode cX10_reasonAgainst 41 = .ok (.aload_n 0, 1) := by decide +kernel
theorem dX10_reasonAgainst_42 : decode cX10_reasonAgainst 42 = .ok (.iconst 1, 1) := by decide +kernel
theorem dX10_reasonAgainst_43 : decode cX10_reasonAgainst 43 = .ok (.invokevirtual 131, 3) := by decide +kernel
theorem dX10_reasonAgainst_46 : decode cX10_reasonAgainst 46 = .ok (.iand, 1) := by decide +kernel
theorem dX10_reasonAgainst_47 : decode cX10_reasonAgainst 47 = .ok (.invokestatic 140, 3) := by decide +kernel
theorem dX10_reasonAgainst_50 : decode cX10_reasonAgainst 50 = .ok (.ireturn, 1) := by decide +kernel
theorem dX10_has_0 : decode cX10_has 0 = .ok (.iload_n 1, 1) := by decide +kernel
theorem dX10_has_1 : decode cX10_has 1 = .ok (.aload_n 0, 1) := by decide +kernel
theorem dX10_has_2 : decode cX10_has 2 = .ok (.getfield 83, 3) := by decide +kernel
theorem dX10_has_5 : decode cX10_has 5 = .ok (.iconst 1, 1) := by decide +kernel
theorem dX10_has_6 : decode cX10_has 6 = .ok (.isub, 1) := by decide +kernel
theorem dX10_has_7 : decode cX10_has 7 = .ok (.iload_n 2, 1) := by decide +kernel
theorem dX10_has_8 : decode cX10_has 8 = .ok (.isub, 1) := by decide +kernel
theorem dX10_has_9 : decode cX10_has 9 = .ok (.ishr, 1) := by decide +kernel
theorem dX10_has_10 : decode cX10_has 10 = .ok (.iconst 1, 1) := by decide +kernel
theorem dX10_has_11 : decode cX10_has 11 = .ok (.iand, 1) := by decide +kernel
theorem dX10_has_12 : decode cX10_has 12 = .ok (.iconst 1, 1) := by decide +kernel
theorem dX10_has_13 : decode cX10_has 13 = .ok (.if_icmp .ne 7, 3) := by decide +kernel
theorem dX10_has_16 : decode cX10_has 16 = .ok (.iconst 1, 1) := by decide +kernel
theorem dX10_has_17 : decode cX10_has 17 = .ok (.goto 4, 3) := by decide +kernel
theorem dX10_has_20 : decode cX10_has 20 = .ok (.iconst 0, 1) := by decide +kernel
theorem dX10_has_21 : decode cX10_has 21 = .ok (.ireturn, 1) := by decide +kernel
theorem dX10_turned_0 : decode cX10_turned 0 = .ok (.iconst 0, 1) := by decide +kernel
theorem dX10_turned_1 : decode cX10_turned 1 = .ok (.istore_n 2, 1) := by decide +kernel
theorem dX10_turned_2 : decode cX10_turned 2 = .ok (.iconst 0, 1) := by decide +kernel
theorem dX10_turned_3 : decode cX10_turned 3 = .ok (.istore_n 3, 1) := by decide +kernel
theorem dX10_turned_4 : decode cX10_turned 4 = .ok (.iload_n 3, 1) := by decide +kernel
theorem dX10_turned_5 : decode cX10_turned 5 = .ok (.aload_n 0, 1) := by decide +kernel
theorem dX10_turned_6 : decode cX10_turned 6 = .ok (.getfield 83, 3) := by decide +kernel
theorem dX10_turned_9 : decode cX10_turned 9 = .ok (.if_icmp .ge 28, 3) := by decide +kernel
theorem dX10_turned_12 : decode cX10_turned 12 = .ok (.iload_n 2, 1) := by decide +kernel
theorem dX10_turned_13 : decode cX10_turned 13 = .ok (.aload_n 0, 1) := by decide +kernel
theorem dX10_turned_14 : decode cX10_turned 14 = .ok (.iload_n 1, 1) := by decide +kernel
theorem dX10_turned_15 : decode cX10_turned 15 = .ok (.iload_n 3, 1) := by decide +kernel
theorem dX10_turned_16 : decode cX10_turned 16 = .ok (.invokevirtual 143, 3) := by decide +kernel
theorem dX10_turned_19 : decode cX10_turned 19 = .ok (.ifCond .eq 9, 3) := by decide +kernel
theorem dX10_turned_22 : decode cX10_turned 22 = .ok (.iconst 1, 1) := by decide +kernel
theorem dX10_turned_23 : decode cX10_turned 23 = .ok (.iload_n 3, 1) := by decide +kernel
theorem dX10_turned_24 : decode cX10_turned 24 = .ok (.ishl, 1) := by decide +kernel
theorem dX10_turned_25 : decode cX10_turned 25 = .ok (.goto 4, 3) := by decide +kernel
theorem dX10_turned_28 : decode cX10_turned 28 = .ok (.iconst 0, 1) := by decide +kernel
theorem dX10_turned_29 : decode cX10_turned 29 = .ok (.ior, 1) := by decide +kernel
theorem dX10_turned_30 : decode cX10_turned 30 = .ok (.istore_n 2, 1) := by decide +kernel
theorem dX10_turned_31 : decode cX10_turned 31 = .ok (.iinc 3 1, 3) := by decide +kernel
theorem dX10_turned_34 : decode cX10_turned 34 = .ok (.goto (-30), 3) := by decide +kernel
theorem dX10_turned_37 : decode cX10_turned 37 = .ok (.iload_n 2, 1) := by decide +kernel
theorem dX10_turned_38 : decode cX10_turned 38 = .ok (.ireturn, 1) := by decide +kernel
theorem dX10_isAdmissible_0 : decode cX10_isAdmissible 0 = .ok (.aload_n 0, 1) := by decide +kernel
theorem dX10_isAdmissible_1 : decode cX10_isAdmissible 1 = .ok (.iload_n 1, 1) := by decide +kernel
theorem dX10_isAdmissible_2 : decode cX10_isAdmissible 2 = .ok (.invokevirtual 146, 3) := by decide +kernel
theorem dX10_isAdmissible_5 : decode cX10_isAdmissible 5 = .ok (.istore_n 2, 1) := by decide +kernel
theorem dX10_isAdmissible_6 : decode cX10_isAdmissible 6 = .ok (.iconst 0, 1) := by decide +kernel
theorem dX10_isAdmissible_7 : decode cX10_isAdmissible 7 = .ok (.istore_n 3, 1) := by decide +kernel
theorem dX10_isAdmissible_8 : decode cX10_isAdmissible 8 = .ok (.iconst 0, 1) := by decide +kernel
theorem dX10_isAdmissible_9 : decode cX10_isAdmissible 9 = .ok (.istore 4, 2) := by decide +kernel
theorem dX10_isAdmissible_11 : decode cX10_isAdmissible 11 = .ok (.iload 4, 2) := by decide +kernel
theorem dX10_isAdmissible_13 : decode cX10_isAdmissible 13 = .ok (.aload_n 0, 1) := by decide +kernel
theorem dX10_isAdmissible_14 : decode cX10_isAdmissible 14 = .ok (.getfield 83, 3) := by decide +kernel
theorem dX10_isAdmissible_17 : decode cX10_isAdmissible 17 = .ok (.if_icmp .ge 33, 3) := by decide +kernel
theorem dX10_isAdmissible_20 : decode cX10_isAdmissible 20 = .ok (.iload_n 3, 1) := by decide +kernel
theorem dX10_isAdmissible_21 : decode cX10_isAdmissible 21 = .ok (.aload_n 0, 1) := by decide +kernel
theorem dX10_isAdmissible_22 : decode cX10_isAdmissible 22 = .ok (.iload_n 1, 1) := by decide +kernel
theorem dX10_isAdmissible_23 : decode cX10_isAdmissible 23 = .ok (.iload 4, 2) := by decide +kernel
theorem dX10_isAdmissible_25 : decode cX10_isAdmissible 25 = .ok (.invokevirtual 143, 3) := by decide +kernel
theorem dX10_isAdmissible_28 : decode cX10_isAdmissible 28 = .ok (.ifCond .eq 13, 3) := by decide +kernel
theorem dX10_isAdmissible_31 : decode cX10_isAdmissible 31 = .ok (.aload_n 0, 1) := by decide +kernel
theorem dX10_isAdmissible_32 : decode cX10_isAdmissible 32 = .ok (.getfield 44, 3) := by decide +kernel
theorem dX10_isAdmissible_35 : decode cX10_isAdmissible 35 = .ok (.iload 4, 2) := by decide +kernel
theorem dX10_isAdmissible_37 : decode cX10_isAdmissible 37 = .ok (.iaload, 1) := by decide +kernel
theorem dX10_isAdmissible_38 : decode cX10_isAdmissible 38 = .ok (.goto 4, 3) := by decide +kernel
theorem dX10_isAdmissible_41 : decode cX10_isAdmissible 41 = .ok (.iconst 0, 1) := by decide +kernel
theorem dX10_isAdmissible_42 : decode cX10_isAdmissible 42 = .ok (.ior, 1) := by decide +kernel
theorem dX10_isAdmissible_43 : decode cX10_isAdmissible 43 = .ok (.istore_n 3, 1) := by decide +kernel
theorem dX10_isAdmissible_44 : decode cX10_isAdmissible 44 = .ok (.iinc 4 1, 3) := by decide +kernel
theorem dX10_isAdmissible_47 : decode cX10_isAdmissible 47 = .ok (.goto (-36), 3) := by decide +kernel
theorem dX10_isAdmissible_50 : decode cX10_isAdmissible 50 = .ok (.iload_n 3, 1) := by decide +kernel
theorem dX10_isAdmissible_51 : decode cX10_isAdmissible 51 = .ok (.iload_n 2, 1) := by decide +kernel
theorem dX10_isAdmissible_52 : decode cX10_isAdmissible 52 = .ok (.iand, 1) := by decide +kernel
theorem dX10_isAdmissible_53 : decode cX10_isAdmissible 53 = .ok (.ifCond .ne 7, 3) := by decide +kernel
theorem dX10_isAdmissible_56 : decode cX10_isAdmissible 56 = .ok (.iconst 1, 1) := by decide +kernel
theorem dX10_isAdmissible_57 : decode cX10_isAdmissible 57 = .ok (.goto 4, 3) := by decide +kernel
theorem dX10_isAdmissible_60 : decode cX10_isAdmissible 60 = .ok (.iconst 0, 1) := by decide +kernel
theorem dX10_isAdmissible_61 : decode cX10_isAdmissible 61 = .ok (.istore 4, 2) := by decide +kernel
theorem dX10_isAdmissible_63 : decode cX10_isAdmissible 63 = .ok (.iconst 0, 1) := by decide +kernel
theorem dX10_isAdmissible_64 : decode cX10_isAdmissible 64 = .ok (.istore 5, 2) := by decide +kernel
theorem dX10_isAdmissible_66 : decode cX10_isAdmissible 66 = .ok (.iload 5, 2) := by decide +kernel
theorem dX10_isAdmissible_68 : decode cX10_isAdmissible 68 = .ok (.aload_n 0, 1) := by decide +kernel
theorem dX10_isAdmissible_69 : decode cX10_isAdmissible 69 = .ok (.getfield 83, 3) := by decide +kernel
theorem dX10_isAdmissible_72 : decode cX10_isAdmissible 72 = .ok (.if_icmp .ge 42, 3) := by decide +kernel
theorem dX10_isAdmissible_75 : decode cX10_isAdmissible 75 = .ok (.iload 4, 2) := by decide +kernel
theorem dX10_isAdmissible_77 : decode cX10_isAdmissible 77 = .ok (.ifCond .eq 37, 3) := by decide +kernel
theorem dX10_isAdmissible_80 : decode cX10_isAdmissible 80 = .ok (.iload_n 3, 1) := by decide +kernel
theorem dX10_isAdmissible_81 : decode cX10_isAdmissible 81 = .ok (.iload 5, 2) := by decide +kernel
theorem dX10_isAdmissible_83 : decode cX10_isAdmissible 83 = .ok (.ishr, 1) := by decide +kernel
theorem dX10_isAdmissible_84 : decode cX10_isAdmissible 84 = .ok (.iconst 1, 1) := by decide +kernel
theorem dX10_isAdmissible_85 : decode cX10_isAdmissible 85 = .ok (.iand, 1) := by decide +kernel
theorem dX10_isAdmissible_86 : decode cX10_isAdmissible 86 = .ok (.ifCond .eq 15, 3) := by decide +kernel
theorem dX10_isAdmissible_89 : decode cX10_isAdmissible 89 = .ok (.aload_n 0, 1) := by decide +kernel
theorem dX10_isAdmissible_90 : decode cX10_isAdmissible 90 = .ok (.getfield 44, 3) := by decide +kernel
theorem dX10_isAdmissible_93 : decode cX10_isAdmissible 93 = .ok (.iload 5, 2) := by decide +kernel
theorem dX10_isAdmissible_95 : decode cX10_isAdmissible 95 = .ok (.iaload, 1) := by decide +kernel
theorem dX10_isAdmissible_96 : decode cX10_isAdmissible 96 = .ok (.iload_n 2, 1) := by decide +kernel
theorem dX10_isAdmissible_97 : decode cX10_isAdmissible 97 = .ok (.iand, 1) := by decide +kernel
theorem dX10_isAdmissible_98 : decode cX10_isAdmissible 98 = .ok (.ifCond .eq 7, 3) := by decide +kernel
theorem dX10_isAdmissible_101 : decode cX10_isAdmissible 101 = .ok (.iconst 1, 1) := by decide +kernel
theorem dX10_isAdmissible_102 : decode cX10_isAdmissible 102 = .ok (.goto 4, 3) := by decide +kernel
theorem dX10_isAdmissible_105 : decode cX10_isAdmissible 105 = .ok (.iconst 0, 1) := by decide +kernel
theorem dX10_isAdmissible_106 : decode cX10_isAdmissible 106 = .ok (.istore 4, 2) := by decide +kernel
theorem dX10_isAdmissible_108 : decode cX10_isAdmissible 108 = .ok (.iinc 5 1, 3) := by decide +kernel
theorem dX10_isAdmissible_111 : decode cX10_isAdmissible 111 = .ok (.goto (-45), 3) := by decide +kernel
theorem dX10_isAdmissible_114 : decode cX10_isAdmissible 114 = .ok (.iload 4, 2) := by decide +kernel
theorem dX10_isAdmissible_116 : decode cX10_isAdmissible 116 = .ok (.ireturn, 1) := by decide +kernel
theorem dX10_prefers_0 : decode cX10_prefers 0 = .ok (.iconst 0, 1) := by decide +kernel
theorem dX10_prefers_1 : decode cX10_prefers 1 = .ok (.istore_n 1, 1) := by decide +kernel
theorem dX10_prefers_2 : decode cX10_prefers 2 = .ok (.iconst 1, 1) := by decide +kernel
theorem dX10_prefers_3 : decode cX10_prefers 3 = .ok (.aload_n 0, 1) := by decide +kernel
theorem dX10_prefers_4 : decode cX10_prefers 4 = .ok (.getfield 83, 3) := by decide +kernel
theorem dX10_prefers_7 : decode cX10_prefers 7 = .ok (.ishl, 1) := by decide +kernel
theorem dX10_prefers_8 : decode cX10_prefers 8 = .ok (.iconst 1, 1) := by decide +kernel
theorem dX10_prefers_9 : decode cX10_prefers 9 = .ok (.isub, 1) := by decide +kernel
theorem dX10_prefers_10 : decode cX10_prefers 10 = .ok (.istore_n 2, 1) := by decide +kernel
theorem dX10_prefers_11 : decode cX10_prefers 11 = .ok (.iload_n 2, 1) := by decide +kernel
theorem dX10_prefers_12 : decode cX10_prefers 12 = .ok (.ifCond .lt 122, 3) := by decide +kernel
theorem dX10_prefers_15 : decode cX10_prefers 15 = .ok (.aload_n 0, 1) := by decide +kernel
theorem dX10_prefers_16 : decode cX10_prefers 16 = .ok (.getfield 53, 3) := by decide +kernel
theorem dX10_prefers_19 : decode cX10_prefers 19 = .ok (.iload_n 2, 1) := by decide +kernel
theorem dX10_prefers_20 : decode cX10_prefers 20 = .ok (.aload_n 0, 1) := by decide +kernel
theorem dX10_prefers_21 : decode cX10_prefers 21 = .ok (.iload_n 2, 1) := by decide +kernel
theorem dX10_prefers_22 : decode cX10_prefers 22 = .ok (.invokevirtual 149, 3) := by decide +kernel
theorem dX10_prefers_25 : decode cX10_prefers 25 = .ok (.bastore, 1) := by decide +kernel
theorem dX10_prefers_26 : decode cX10_prefers 26 = .ok (.aload_n 0, 1) := by decide +kernel
theorem dX10_prefers_27 : decode cX10_prefers 27 = .ok (.getfield 56, 3) := by decide +kernel
theorem dX10_prefers_30 : decode cX10_prefers 30 = .ok (.iload_n 2, 1) := by decide +kernel
theorem dX10_prefers_31 : decode cX10_prefers 31 = .ok (.iconst 0, 1) := by decide +kernel
theorem dX10_prefers_32 : decode cX10_prefers 32 = .ok (.bastore, 1) := by decide +kernel
theorem dX10_prefers_33 : decode cX10_prefers 33 = .ok (.iconst 0, 1) := by decide +kernel
theorem dX10_prefers_34 : decode cX10_prefers 34 = .ok (.istore_n 3, 1) := by decide +kernel
theorem dX10_prefers_35 : decode cX10_prefers 35 = .ok (.iload_n 3, 1) := by decide +kernel
theorem dX10_prefers_36 : decode cX10_prefers 36 = .ok (.aload_n 0, 1) := by decide +kernel
theorem dX10_prefers_37 : decode cX10_prefers 37 = .ok (.getfield 83, 3) := by decide +kernel
theorem dX10_prefers_40 : decode cX10_prefers 40 = .ok (.if_icmp .ge 62, 3) := by decide +kernel
theorem dX10_prefers_43 : decode cX10_prefers 43 = .ok (.iload_n 2, 1) := by decide +kernel
theorem dX10_prefers_44 : decode cX10_prefers 44 = .ok (.iconst 1, 1) := by decide +kernel
theorem dX10_prefers_45 : decode cX10_prefers 45 = .ok (.iload_n 3, 1) := by decide +kernel
theorem dX10_prefers_46 : decode cX10_prefers 46 = .ok (.ishl, 1) := by decide +kernel
theorem dX10_prefers_47 : decode cX10_prefers 47 = .ok (.ior, 1) := by decide +kernel
theorem dX10_prefers_48 : decode cX10_prefers 48 = .ok (.istore 4, 2) := by decide +kernel
theorem dX10_prefers_50 : decode cX10_prefers 50 = .ok (.aload_n 0, 1) := by decide +kernel
theorem dX10_prefers_51 : decode cX10_prefers 51 = .ok (.getfield 56, 3) := by decide +kernel
theorem dX10_prefers_54 : decode cX10_prefers 54 = .ok (.iload_n 2, 1) := by decide +kernel
theorem dX10_prefers_55 : decode cX10_prefers 55 = .ok (.aload_n 0, 1) := by decide +kernel
theorem dX10_prefers_56 : decode cX10_prefers 56 = .ok (.getfield 56, 3) := by decide +kernel
theorem dX10_prefers_59 : decode cX10_prefers 59 = .ok (.iload_n 2, 1) := by decide +kernel
theorem dX10_prefers_60 : decode cX10_prefers 60 = .ok (.baload, 1) := by decide +kernel
theorem dX10_prefers_61 : decode cX10_prefers 61 = .ok (.ifCond .ne 29, 3) := by decide +kernel
theorem dX10_prefers_64 : decode cX10_prefers 64 = .ok (.iload 4, 2) := by decide +kernel
theorem dX10_prefers_66 : decode cX10_prefers 66 = .ok (.iload_n 2, 1) := by decide +kernel
theorem dX10_prefers_67 : decode cX10_prefers 67 = .ok (.if_icmp .eq 27, 3) := by decide +kernel
theorem dX10_prefers_70 : decode cX10_prefers 70 = .ok (.aload_n 0, 1) := by decide +kernel
theorem dX10_prefers_71 : decode cX10_prefers 71 = .ok (.getfield 53, 3) := by decide +kernel
theorem dX10_prefers_74 : decode cX10_prefers 74 = .ok (.iload 4, 2) := by decide +kernel
theorem dX10_prefers_76 : decode cX10_prefers 76 = .ok (.baload, 1) := by decide +kernel
theorem dX10_prefers_77 : decode cX10_prefers 77 = .ok (.ifCond .ne 13, 3) := by decide +kernel
theorem dX10_prefers_80 : decode cX10_prefers 80 = .ok (.aload_n 0, 1) := by decide +kernel
theorem dX10_prefers_81 : decode cX10_prefers 81 = .ok (.getfield 56, 3) := by decide +kernel
theorem dX10_prefers_84 : decode cX10_prefers 84 = .ok (.iload 4, 2) := by decide +kernel
theorem dX10_prefers_86 : decode cX10_prefers 86 = .ok (.baload, 1) := by decide +kernel
theorem dX10_prefers_87 : decode cX10_prefers 87 = .ok (.ifCond .eq 7, 3) := by decide +kernel
theorem dX10_prefers_90 : decode cX10_prefers 90 = .ok (.iconst 1, 1) := by decide +kernel
theorem dX10_prefers_91 : decode cX10_prefers 91 = .ok (.goto 4, 3) := by decide +kernel
theorem dX10_prefers_94 : decode cX10_prefers 94 = .ok (.iconst 0, 1) := by decide +kernel
theorem dX10_prefers_95 : decode cX10_prefers 95 = .ok (.bastore, 1) := by decide +kernel
theorem dX10_prefers_96 : decode cX10_prefers 96 = .ok (.iinc 3 1, 3) := by decide +kernel
theorem dX10_prefers_99 : decode cX10_prefers 99 = .ok (.goto (-64), 3) := by decide +kernel
theorem dX10_prefers_102 : decode cX10_prefers 102 = .ok (.iload_n 1, 1) := by decide +kernel
theorem dX10_prefers_103 : decode cX10_prefers 103 = .ok (.aload_n 0, 1) := by decide +kernel
theorem dX10_prefers_104 : decode cX10_prefers 104 = .ok (.getfield 53, 3) := by decide +kernel
theorem dX10_prefers_107 : decode cX10_prefers 107 = .ok (.iload_n 2, 1) := by decide +kernel
theorem dX10_prefers_108 : decode cX10_prefers 108 = .ok (.baload, 1) := by decide +kernel
theorem dX10_prefers_109 : decode cX10_prefers 109 = .ok (.ifCond .eq 16, 3) := by decide +kernel
theorem dX10_prefers_112 : decode cX10_prefers 112 = .ok (.aload_n 0, 1) := by decide +kernel
theorem dX10_prefers_113 : decode cX10_prefers 113 = .ok (.getfield 56, 3) := by decide +kernel
theorem dX10_prefers_116 : decode cX10_prefers 116 = .ok (.iload_n 2, 1) := by decide +kernel
theorem dX10_prefers_117 : decode cX10_prefers 117 = .ok (.baload, 1) := by decide +kernel
theorem dX10_prefers_118 : decode cX10_prefers 118 = .ok (.ifCond .ne 7, 3) := by decide +kernel
theorem dX10_prefers_121 : decode cX10_prefers 121 = .ok (.iconst 1, 1) := by decide +kernel
theorem dX10_prefers_122 : decode cX10_prefers 122 = .ok (.goto 4, 3) := by decide +kernel
theorem dX10_prefers_125 : decode cX10_prefers 125 = .ok (.iconst 0, 1) := by decide +kernel
theorem dX10_prefers_126 : decode cX10_prefers 126 = .ok (.iadd, 1) := by decide +kernel
theorem dX10_prefers_127 : decode cX10_prefers 127 = .ok (.istore_n 1, 1) := by decide +kernel
theorem dX10_prefers_128 : decode cX10_prefers 128 = .ok (.iinc 2 (-1), 3) := by decide +kernel
theorem dX10_prefers_131 : decode cX10_prefers 131 = .ok (.goto (-120), 3) := by decide +kernel
theorem dX10_prefers_134 : decode cX10_prefers 134 = .ok (.iload_n 1, 1) := by decide +kernel
theorem dX10_prefers_135 : decode cX10_prefers 135 = .ok (.ireturn, 1) := by decide +kernel
theorem dX10_areFew_0 : decode cX10_areFew 0 = .ok (.aload_n 0, 1) := by decide +kernel
theorem dX10_areFew_1 : decode cX10_areFew 1 = .ok (.invokevirtual 119, 3) := by decide +kernel
theorem dX10_areFew_4 : decode cX10_areFew 4 = .ok (.aload_n 0, 1) := by decide +kernel
theorem dX10_areFew_5 : decode cX10_areFew 5 = .ok (.getfield 86, 3) := by decide +kernel
theorem dX10_areFew_8 : decode cX10_areFew 8 = .ok (.ifCond .ne 12, 3) := by decide +kernel
theorem dX10_areFew_11 : decode cX10_areFew 11 = .ok (.aload_n 0, 1) := by decide +kernel
theorem dX10_areFew_12 : decode cX10_areFew 12 = .ok (.getfield 83, 3) := by decide +kernel
theorem dX10_areFew_15 : decode cX10_areFew 15 = .ok (.bipush 14, 2) := by decide +kernel
theorem dX10_areFew_17 : decode cX10_areFew 17 = .ok (.if_icmp .le 10, 3) := by decide +kernel
theorem dX10_areFew_20 : decode cX10_areFew 20 = .ok (.aload_n 0, 1) := by decide +kernel
theorem dX10_areFew_21 : decode cX10_areFew 21 = .ok (.iload_n 1, 1) := by decide +kernel
theorem dX10_areFew_22 : decode cX10_areFew 22 = .ok (.putfield 59, 3) := by decide +kernel
theorem dX10_areFew_25 : decode cX10_areFew 25 = .ok (.iconst 0, 1) := by decide +kernel
theorem dX10_areFew_26 : decode cX10_areFew 26 = .ok (.ireturn, 1) := by decide +kernel
theorem dX10_areFew_27 : decode cX10_areFew 27 = .ok (.aload_n 0, 1) := by decide +kernel
theorem dX10_areFew_28 : decode cX10_areFew 28 = .ok (.invokevirtual 122, 3) := by decide +kernel
theorem dX10_areFew_31 : decode cX10_areFew 31 = .ok (.aload_n 0, 1) := by decide +kernel
theorem dX10_areFew_32 : decode cX10_areFew 32 = .ok (.iconst 0, 1) := by decide +kernel
theorem dX10_areFew_33 : decode cX10_areFew 33 = .ok (.putfield 59, 3) := by decide +kernel
theorem dX10_areFew_36 : decode cX10_areFew 36 = .ok (.iconst 1, 1) := by decide +kernel
theorem dX10_areFew_37 : decode cX10_areFew 37 = .ok (.ireturn, 1) := by decide +kernel
theorem dX10_preferred_0 : decode cX10_preferred 0 = .ok (.aload_n 0, 1) := by decide +kernel
theorem dX10_preferred_1 : decode cX10_preferred 1 = .ok (.iconst 1, 1) := by decide +kernel
theorem dX10_preferred_2 : decode cX10_preferred 2 = .ok (.invokevirtual 152, 3) := by decide +kernel
theorem dX10_preferred_5 : decode cX10_preferred 5 = .ok (.ifCond .eq 10, 3) := by decide +kernel
theorem dX10_preferred_8 : decode cX10_preferred 8 = .ok (.aload_n 0, 1) := by decide +kernel
theorem dX10_preferred_9 : decode cX10_preferred 9 = .ok (.invokevirtual 155, 3) := by decide +kernel
theorem dX10_preferred_12 : decode cX10_preferred 12 = .ok (.goto 4, 3) := by decide +kernel
theorem dX10_preferred_15 : decode cX10_preferred 15 = .ok (.iconst 0, 1) := by decide +kernel
theorem dX10_preferred_16 : decode cX10_preferred 16 = .ok (.ireturn, 1) := by decide +kernel
theorem dX10_preferredByAllSets_0 : decode cX10_preferredByAllSets 0 = .ok (.aload_n 0, 1) := by decide +kernel
theorem dX10_preferredByAllSets_1 : decode cX10_preferredByAllSets 1 = .ok (.iconst 1, 1) := by decide +kernel
theorem dX10_preferredByAllSets_2 : decode cX10_preferredByAllSets 2 = .ok (.invokevirtual 152, 3) := by decide +kernel
theorem dX10_preferredByAllSets_5 : decode cX10_preferredByAllSets 5 = .ok (.ifCond .eq 10, 3) := by decide +kernel
theorem dX10_preferredByAllSets_8 : decode cX10_preferredByAllSets 8 = .ok (.aload_n 0, 1) := by decide +kernel
theorem dX10_preferredByAllSets_9 : decode cX10_preferredByAllSets 9 = .ok (.invokevirtual 155, 3) := by decide +kernel
theorem dX10_preferredByAllSets_12 : decode cX10_preferredByAllSets 12 = .ok (.goto 4, 3) := by decide +kernel
theorem dX10_preferredByAllSets_15 : decode cX10_preferredByAllSets 15 = .ok (.iconst 0, 1) := by decide +kernel
theorem dX10_preferredByAllSets_16 : decode cX10_preferredByAllSets 16 = .ok (.ireturn, 1) := by decide +kernel
theorem dX10_setAt_0 : decode cX10_setAt 0 = .ok (.iload_n 1, 1) := by decide +kernel
theorem dX10_setAt_1 : decode cX10_setAt 1 = .ok (.istore_n 2, 1) := by decide +kernel
theorem dX10_setAt_2 : decode cX10_setAt 2 = .ok (.iconst 1, 1) := by decide +kernel
theorem dX10_setAt_3 : decode cX10_setAt 3 = .ok (.aload_n 0, 1) := by decide +kernel
theorem dX10_setAt_4 : decode cX10_setAt 4 = .ok (.getfield 83, 3) := by decide +kernel
theorem dX10_setAt_7 : decode cX10_setAt 7 = .ok (.ishl, 1) := by decide +kernel
theorem dX10_setAt_8 : decode cX10_setAt 8 = .ok (.istore_n 3, 1) := by decide +kernel
theorem dX10_setAt_9 : decode cX10_setAt 9 = .ok (.iload_n 2, 1) := by decide +kernel
theorem dX10_setAt_10 : decode cX10_setAt 10 = .ok (.ifCond .lt 35, 3) := by decide +kernel
theorem dX10_setAt_13 : decode cX10_setAt 13 = .ok (.iinc 3 (-1), 3) := by decide +kernel
theorem dX10_setAt_16 : decode cX10_setAt 16 = .ok (.iload_n 2, 1) := by decide +kernel
theorem dX10_setAt_17 : decode cX10_setAt 17 = .ok (.aload_n 0, 1) := by decide +kernel
theorem dX10_setAt_18 : decode cX10_setAt 18 = .ok (.getfield 53, 3) := by decide +kernel
theorem dX10_setAt_21 : decode cX10_setAt 21 = .ok (.iload_n 3, 1) := by decide +kernel
theorem dX10_setAt_22 : decode cX10_setAt 22 = .ok (.baload, 1) := by decide +kernel
theorem dX10_setAt_23 : decode cX10_setAt 23 = .ok (.ifCond .eq 16, 3) := by decide +kernel
theorem dX10_setAt_26 : decode cX10_setAt 26 = .ok (.aload_n 0, 1) := by decide +kernel
theorem dX10_setAt_27 : decode cX10_setAt 27 = .ok (.getfield 56, 3) := by decide +kernel
theorem dX10_setAt_30 : decode cX10_setAt 30 = .ok (.iload_n 3, 1) := by decide +kernel
theorem dX10_setAt_31 : decode cX10_setAt 31 = .ok (.baload, 1) := by decide +kernel
theorem dX10_setAt_32 : decode cX10_setAt 32 = .ok (.ifCond .ne 7, 3) := by decide +kernel
theorem dX10_setAt_35 : decode cX10_setAt 35 = .ok (.iconst 1, 1) := by decide +kernel
theorem dX10_setAt_36 : decode cX10_setAt 36 = .ok (.goto 4, 3) := by decide +kernel
theorem dX10_setAt_39 : decode cX10_setAt 39 = .ok (.iconst 0, 1) := by decide +kernel
theorem dX10_setAt_40 : decode cX10_setAt 40 = .ok (.isub, 1) := by decide +kernel
theorem dX10_setAt_41 : decode cX10_setAt 41 = .ok (.istore_n 2, 1) := by decide +kernel
theorem dX10_setAt_42 : decode cX10_setAt 42 = .ok (.goto (-33), 3) := by decide +kernel
theorem dX10_setAt_45 : decode cX10_setAt 45 = .ok (.iload_n 3, 1) := by decide +kernel
theorem dX10_setAt_46 : decode cX10_setAt 46 = .ok (.ireturn, 1) := by decide +kernel
theorem dX10_isInSet_0 : decode cX10_isInSet 0 = .ok (.aload_n 0, 1) := by decide +kernel
theorem dX10_isInSet_1 : decode cX10_isInSet 1 = .ok (.iconst 1, 1) := by decide +kernel
theorem dX10_isInSet_2 : decode cX10_isInSet 2 = .ok (.invokevirtual 152, 3) := by decide +kernel
theorem dX10_isInSet_5 : decode cX10_isInSet 5 = .ok (.ifCond .ne 5, 3) := by decide +kernel
theorem dX10_isInSet_8 : decode cX10_isInSet 8 = .ok (.iconst 0, 1) := by decide +kernel
theorem dX10_isInSet_9 : decode cX10_isInSet 9 = .ok (.ireturn, 1) := by decide +kernel
theorem dX10_isInSet_10 : decode cX10_isInSet 10 = .ok (.aload_n 0, 1) := by decide +kernel
theorem dX10_isInSet_11 : decode cX10_isInSet 11 = .ok (.invokevirtual 155, 3) := by decide +kernel
theorem dX10_isInSet_14 : decode cX10_isInSet 14 = .ok (.istore_n 3, 1) := by decide +kernel
theorem dX10_isInSet_15 : decode cX10_isInSet 15 = .ok (.aload_n 0, 1) := by decide +kernel
theorem dX10_isInSet_16 : decode cX10_isInSet 16 = .ok (.iload_n 1, 1) := by decide +kernel
theorem dX10_isInSet_17 : decode cX10_isInSet 17 = .ok (.ifCond .lt 24, 3) := by decide +kernel
theorem dX10_isInSet_20 : decode cX10_isInSet 20 = .ok (.iload_n 1, 1) := by decide +kernel
theorem dX10_isInSet_21 : decode cX10_isInSet 21 = .ok (.iload_n 3, 1) := by decide +kernel
theorem dX10_isInSet_22 : decode cX10_isInSet 22 = .ok (.if_icmp .ge 19, 3) := by decide +kernel
theorem dX10_isInSet_25 : decode cX10_isInSet 25 = .ok (.iload_n 2, 1) := by decide +kernel
theorem dX10_isInSet_26 : decode cX10_isInSet 26 = .ok (.ifCond .lt 15, 3) := by decide +kernel
theorem dX10_isInSet_29 : decode cX10_isInSet 29 = .ok (.iload_n 2, 1) := by decide +kernel
theorem dX10_isInSet_30 : decode cX10_isInSet 30 = .ok (.aload_n 0, 1) := by decide +kernel
theorem dX10_isInSet_31 : decode cX10_isInSet 31 = .ok (.getfield 83, 3) := by decide +kernel
theorem dX10_isInSet_34 : decode cX10_isInSet 34 = .ok (.if_icmp .ge 7, 3) := by decide +kernel
theorem dX10_isInSet_37 : decode cX10_isInSet 37 = .ok (.iconst 0, 1) := by decide +kernel
theorem dX10_isInSet_38 : decode cX10_isInSet 38 = .ok (.goto 4, 3) := by decide +kernel
theorem dX10_isInSet_41 : decode cX10_isInSet 41 = .ok (.iconst 2, 1) := by decide +kernel
theorem dX10_isInSet_42 : decode cX10_isInSet 42 = .ok (.invokevirtual 67, 3) := by decide +kernel
theorem dX10_isInSet_45 : decode cX10_isInSet 45 = .ok (.ifCond .eq 20, 3) := by decide +kernel
theorem dX10_isInSet_48 : decode cX10_isInSet 48 = .ok (.aload_n 0, 1) := by decide +kernel
theorem dX10_isInSet_49 : decode cX10_isInSet 49 = .ok (.aload_n 0, 1) := by decide +kernel
theorem dX10_isInSet_50 : decode cX10_isInSet 50 = .ok (.iload_n 1, 1) := by decide +kernel
theorem dX10_isInSet_51 : decode cX10_isInSet 51 = .ok (.invokevirtual 158, 3) := by decide +kernel
theorem dX10_isInSet_54 : decode cX10_isInSet 54 = .ok (.iload_n 2, 1) := by decide +kernel
theorem dX10_isInSet_55 : decode cX10_isInSet 55 = .ok (.invokevirtual 143, 3) := by decide +kernel
theorem dX10_isInSet_58 : decode cX10_isInSet 58 = .ok (.ifCond .eq 7, 3) := by decide +kernel
theorem dX10_isInSet_61 : decode cX10_isInSet 61 = .ok (.iconst 1, 1) := by decide +kernel
theorem dX10_isInSet_62 : decode cX10_isInSet 62 = .ok (.goto 4, 3) := by decide +kernel
theorem dX10_isInSet_65 : decode cX10_isInSet 65 = .ok (.iconst 0, 1) := by decide +kernel
theorem dX10_isInSet_66 : decode cX10_isInSet 66 = .ok (.ireturn, 1) := by decide +kernel
theorem dX10_setsFor_0 : decode cX10_setsFor 0 = .ok (.aload_n 0, 1) := by decide +kernel
theorem dX10_setsFor_1 : decode cX10_setsFor 1 = .ok (.iload_n 1, 1) := by decide +kernel
theorem dX10_setsFor_2 : decode cX10_setsFor 2 = .ok (.invokestatic 63, 3) := by decide +kernel
theorem dX10_setsFor_5 : decode cX10_setsFor 5 = .ok (.ifCond .eq 7, 3) := by decide +kernel
theorem dX10_setsFor_8 : decode cX10_setsFor 8 = .ok (.iconst 0, 1) := by decide +kernel
theorem dX10_setsFor_9 : decode cX10_setsFor 9 = .ok (.goto 4, 3) := by decide +kernel
theorem dX10_setsFor_12 : decode cX10_setsFor 12 = .ok (.iconst 1, 1) := by decide +kernel
theorem dX10_setsFor_13 : decode cX10_setsFor 13 = .ok (.invokevirtual 67, 3) := by decide +kernel
theorem dX10_setsFor_16 : decode cX10_setsFor 16 = .ok (.ifCond .eq 11, 3) := by decide +kernel
theorem dX10_setsFor_19 : decode cX10_setsFor 19 = .ok (.aload_n 0, 1) := by decide +kernel
theorem dX10_setsFor_20 : decode cX10_setsFor 20 = .ok (.iconst 2, 1) := by decide +kernel
theorem dX10_setsFor_21 : decode cX10_setsFor 21 = .ok (.invokevirtual 152, 3) := by decide +kernel
theorem dX10_setsFor_24 : decode cX10_setsFor 24 = .ok (.ifCond .ne 5, 3) := by decide +kernel
theorem dX10_setsFor_27 : decode cX10_setsFor 27 = .ok (.iconst 0, 1) := by decide +kernel
theorem dX10_setsFor_28 : decode cX10_setsFor 28 = .ok (.ireturn, 1) := by decide +kernel
theorem dX10_setsFor_29 : decode cX10_setsFor 29 = .ok (.aload_n 0, 1) := by decide +kernel
theorem dX10_setsFor_30 : decode cX10_setsFor 30 = .ok (.invokevirtual 155, 3) := by decide +kernel
theorem dX10_setsFor_33 : decode cX10_setsFor 33 = .ok (.istore_n 2, 1) := by decide +kernel
theorem dX10_setsFor_34 : decode cX10_setsFor 34 = .ok (.iconst 0, 1) := by decide +kernel
theorem dX10_setsFor_35 : decode cX10_setsFor 35 = .ok (.istore_n 3, 1) := by decide +kernel
theorem dX10_setsFor_36 : decode cX10_setsFor 36 = .ok (.iconst 0, 1) := by decide +kernel
theorem dX10_setsFor_37 : decode cX10_setsFor 37 = .ok (.istore 4, 2) := by decide +kernel
theorem dX10_setsFor_39 : decode cX10_setsFor 39 = .ok (.iload 4, 2) := by decide +kernel
theorem dX10_setsFor_41 : decode cX10_setsFor 41 = .ok (.iload_n 2, 1) := by decide +kernel
theorem dX10_setsFor_42 : decode cX10_setsFor 42 = .ok (.if_icmp .ge 85, 3) := by decide +kernel
theorem dX10_setsFor_45 : decode cX10_setsFor 45 = .ok (.aload_n 0, 1) := by decide +kernel
theorem dX10_setsFor_46 : decode cX10_setsFor 46 = .ok (.iload 4, 2) := by decide +kernel
theorem dX10_setsFor_48 : decode cX10_setsFor 48 = .ok (.invokevirtual 158, 3) := by decide +kernel
theorem dX10_setsFor_51 : decode cX10_setsFor 51 = .ok (.istore 5, 2) := by decide +kernel
theorem dX10_setsFor_53 : decode cX10_setsFor 53 = .ok (.iconst 0, 1) := by decide +kernel
theorem dX10_setsFor_54 : decode cX10_setsFor 54 = .ok (.istore 6, 2) := by decide +kernel
theorem dX10_setsFor_56 : decode cX10_setsFor 56 = .ok (.iconst 0, 1) := by decide +kernel
theorem dX10_setsFor_57 : decode cX10_setsFor 57 = .ok (.istore 7, 2) := by decide +kernel
theorem dX10_setsFor_59 : decode cX10_setsFor 59 = .ok (.iload 7, 2) := by decide +kernel
theorem dX10_setsFor_61 : decode cX10_setsFor 61 = .ok (.aload_n 0, 1) := by decide +kernel
theorem dX10_setsFor_62 : decode cX10_setsFor 62 = .ok (.getfield 83, 3) := by decide +kernel
theorem dX10_setsFor_65 : decode cX10_setsFor 65 = .ok (.if_icmp .ge 43, 3) := by decide +kernel
theorem dX10_setsFor_68 : decode cX10_setsFor 68 = .ok (.iload 6, 2) := by decide +kernel
theorem dX10_setsFor_70 : decode cX10_setsFor 70 = .ok (.ifCond .ne 25, 3) := by decide +kernel
theorem dX10_setsFor_73 : decode cX10_setsFor 73 = .ok (.aload_n 0, 1) := by decide +kernel
theorem dX10_setsFor_74 : decode cX10_setsFor 74 = .ok (.iload 5, 2) := by decide +kernel
theorem dX10_setsFor_76 : decode cX10_setsFor 76 = .ok (.iload 7, 2) := by decide +kernel
theorem dX10_setsFor_78 : decode cX10_setsFor 78 = .ok (.invokevirtual 143, 3) := by decide +kernel
theorem dX10_setsFor_81 : decode cX10_setsFor 81 = .ok (.ifCond .eq 18, 3) := by decide +kernel
theorem dX10_setsFor_84 : decode cX10_setsFor 84 = .ok (.aload_n 0, 1) := by decide +kernel
theorem dX10_setsFor_85 : decode cX10_setsFor 85 = .ok (.getfield 29, 3) := by decide +kernel
theorem dX10_setsFor_88 : decode cX10_setsFor 88 = .ok (.iload 7, 2) := by decide +kernel
theorem dX10_setsFor_90 : decode cX10_setsFor 90 = .ok (.iaload, 1) := by decide +kernel
theorem dX10_setsFor_91 : decode cX10_setsFor 91 = .ok (.iload_n 1, 1) := by decide +kernel
theorem dX10_setsFor_92 : decode cX10_setsFor 92 = .ok (.if_icmp .ne 7, 3) := by decide +kernel
theorem dX10_setsFor_95 : decode cX10_setsFor 95 = .ok (.iconst 1, 1) := by decide +kernel
theorem dX10_setsFor_96 : decode cX10_setsFor 96 = .ok (.goto 4, 3) := by decide +kernel
theorem dX10_setsFor_99 : decode cX10_setsFor 99 = .ok (.iconst 0, 1) := by decide +kernel
theorem dX10_setsFor_100 : decode cX10_setsFor 100 = .ok (.istore 6, 2) := by decide +kernel
theorem dX10_setsFor_102 : decode cX10_setsFor 102 = .ok (.iinc 7 1, 3) := by decide +kernel
theorem dX10_setsFor_105 : decode cX10_setsFor 105 = .ok (.goto (-46), 3) := by decide +kernel
theorem dX10_setsFor_108 : decode cX10_setsFor 108 = .ok (.iload_n 3, 1) := by decide +kernel
theorem dX10_setsFor_109 : decode cX10_setsFor 109 = .ok (.iload 6, 2) := by decide +kernel
theorem dX10_setsFor_111 : decode cX10_setsFor 111 = .ok (.ifCond .eq 7, 3) := by decide +kernel
theorem dX10_setsFor_114 : decode cX10_setsFor 114 = .ok (.iconst 1, 1) := by decide +kernel
theorem dX10_setsFor_115 : decode cX10_setsFor 115 = .ok (.goto 4, 3) := by decide +kernel
theorem dX10_setsFor_118 : decode cX10_setsFor 118 = .ok (.iconst 0, 1) := by decide +kernel
theorem dX10_setsFor_119 : decode cX10_setsFor 119 = .ok (.iadd, 1) := by decide +kernel
theorem dX10_setsFor_120 : decode cX10_setsFor 120 = .ok (.istore_n 3, 1) := by decide +kernel
theorem dX10_setsFor_121 : decode cX10_setsFor 121 = .ok (.iinc 4 1, 3) := by decide +kernel
theorem dX10_setsFor_124 : decode cX10_setsFor 124 = .ok (.goto (-85), 3) := by decide +kernel
theorem dX10_setsFor_127 : decode cX10_setsFor 127 = .ok (.iload_n 3, 1) := by decide +kernel
theorem dX10_setsFor_128 : decode cX10_setsFor 128 = .ok (.ireturn, 1) := by decide +kernel
end
section
theorem dJ9_max_7cf53_0 : decode cJ9_max_7cf53 0 = .ok (.iload_n 0, 1) := by decide +kernel
theorem dJ9_max_7cf53_1 : decode cJ9_max_7cf53 1 = .ok (.iload_n 1, 1) := by decide +kernel
theorem dJ9_max_7cf53_2 : decode cJ9_max_7cf53 2 = .ok (.if_icmp .lt 7, 3) := by decide +kernel
theorem dJ9_max_7cf53_5 : decode cJ9_max_7cf53 5 = .ok (.iload_n 0, 1) := by decide +kernel
theorem dJ9_max_7cf53_6 : decode cJ9_max_7cf53 6 = .ok (.goto 4, 3) := by decide +kernel
theorem dJ9_max_7cf53_9 : decode cJ9_max_7cf53 9 = .ok (.iload_n 1, 1) := by decide +kernel
theorem dJ9_max_7cf53_10 : decode cJ9_max_7cf53 10 = .ok (.ireturn, 1) := by decide +kernel
theorem dJ9_min_7cf53_0 : decode cJ9_min_7cf53 0 = .ok (.iload_n 0, 1) := by decide +kernel
theorem dJ9_min_7cf53_1 : decode cJ9_min_7cf53 1 = .ok (.iload_n 1, 1) := by decide +kernel
theorem dJ9_min_7cf53_2 : decode cJ9_min_7cf53 2 = .ok (.if_icmp .gt 7, 3) := by decide +kernel
theorem dJ9_min_7cf53_5 : decode cJ9_min_7cf53 5 = .ok (.iload_n 0, 1) := by decide +kernel
theorem dJ9_min_7cf53_6 : decode cJ9_min_7cf53 6 = .ok (.goto 4, 3) := by decide +kernel
theorem dJ9_min_7cf53_9 : decode cJ9_min_7cf53 9 = .ok (.iload_n 1, 1) := by decide +kernel
theorem dJ9_min_7cf53_10 : decode cJ9_min_7cf53 10 = .ok (.ireturn, 1) := by decide +kernel
theorem dJxa1e45_init_da8c8_0 : decode cJxa1e45_init_da8c8 0 = .ok (.aload_n 0, 1) := by decide +kernel
theorem dJxa1e45_init_da8c8_1 : decode cJxa1e45_init_da8c8 1 = .ok (.invokespecial 1, 3) := by decide +kernel
theorem dJxa1e45_init_da8c8_4 : decode cJxa1e45_init_da8c8 4 = .ok (.return_, 1) := by decide +kernel
theorem dJxc12de_init_da8c8_0 : decode cJxc12de_init_da8c8 0 = .ok (.aload_n 0, 1) := by decide +kernel
theorem dJxc12de_init_da8c8_1 : decode cJxc12de_init_da8c8 1 = .ok (.invokespecial 1, 3) := by decide +kernel
theorem dJxc12de_init_da8c8_4 : decode cJxc12de_init_da8c8 4 = .ok (.aload_n 0, 1) := by decide +kernel
theorem dJxc12de_init_da8c8_5 : decode cJxc12de_init_da8c8 5 = .ok (.iconst 0, 1) := by decide +kernel
theorem dJxc12de_init_da8c8_6 : decode cJxc12de_init_da8c8 6 = .ok (.putfield 7, 3) := by decide +kernel
theorem dJxc12de_init_da8c8_9 : decode cJxc12de_init_da8c8 9 = .ok (.return_, 1) := by decide +kernel
theorem dJx4a65c_init_da8c8_0 : decode cJx4a65c_init_da8c8 0 = .ok (.aload_n 0, 1) := by decide +kernel
theorem dJx4a65c_init_da8c8_1 : decode cJx4a65c_init_da8c8 1 = .ok (.invokespecial 1, 3) := by decide +kernel
theorem dJx4a65c_init_da8c8_4 : decode cJx4a65c_init_da8c8 4 = .ok (.aload_n 0, 1) := by decide +kernel
theorem dJx4a65c_init_da8c8_5 : decode cJx4a65c_init_da8c8 5 = .ok (.getstatic 39, 3) := by decide +kernel
theorem dJx4a65c_init_da8c8_8 : decode cJx4a65c_init_da8c8 8 = .ok (.putfield 9, 3) := by decide +kernel
theorem dJx4a65c_init_da8c8_11 : decode cJx4a65c_init_da8c8 11 = .ok (.return_, 1) := by decide +kernel
theorem dJx4a65c_grow_92f84_0 : decode cJx4a65c_grow_92f84 0 = .ok (.aload_n 0, 1) := by decide +kernel
theorem dJx4a65c_grow_92f84_1 : decode cJx4a65c_grow_92f84 1 = .ok (.getfield 9, 3) := by decide +kernel
theorem dJx4a65c_grow_92f84_4 : decode cJx4a65c_grow_92f84 4 = .ok (.arraylength, 1) := by decide +kernel
theorem dJx4a65c_grow_92f84_5 : decode cJx4a65c_grow_92f84 5 = .ok (.istore_n 2, 1) := by decide +kernel
theorem dJx4a65c_grow_92f84_6 : decode cJx4a65c_grow_92f84 6 = .ok (.iload_n 2, 1) := by decide +kernel
theorem dJx4a65c_grow_92f84_7 : decode cJx4a65c_grow_92f84 7 = .ok (.ifCond .gt 13, 3) := by decide +kernel
theorem dJx4a65c_grow_92f84_10 : decode cJx4a65c_grow_92f84 10 = .ok (.aload_n 0, 1) := by decide +kernel
theorem dJx4a65c_grow_92f84_11 : decode cJx4a65c_grow_92f84 11 = .ok (.getfield 9, 3) := by decide +kernel
theorem dJx4a65c_grow_92f84_14 : decode cJx4a65c_grow_92f84 14 = .ok (.getstatic 39, 3) := by decide +kernel
theorem dJx4a65c_grow_92f84_17 : decode cJx4a65c_grow_92f84 17 = .ok (.if_acmp .eq 28, 3) := by decide +kernel
theorem dJx4a65c_grow_92f84_20 : decode cJx4a65c_grow_92f84 20 = .ok (.iload_n 2, 1) := by decide +kernel
theorem dJx4a65c_grow_92f84_21 : decode cJx4a65c_grow_92f84 21 = .ok (.iload_n 1, 1) := by decide +kernel
theorem dJx4a65c_grow_92f84_22 : decode cJx4a65c_grow_92f84 22 = .ok (.iload_n 2, 1) := by decide +kernel
theorem dJx4a65c_grow_92f84_23 : decode cJx4a65c_grow_92f84 23 = .ok (.isub, 1) := by decide +kernel
theorem dJx4a65c_grow_92f84_24 : decode cJx4a65c_grow_92f84 24 = .ok (.iload_n 2, 1) := by decide +kernel
theorem dJx4a65c_grow_92f84_25 : decode cJx4a65c_grow_92f84 25 = .ok (.iconst 1, 1) := by decide +kernel
theorem dJx4a65c_grow_92f84_26 : decode cJx4a65c_grow_92f84 26 = .ok (.ishr, 1) := by decide +kernel
theorem dJx4a65c_grow_92f84_27 : decode cJx4a65c_grow_92f84 27 = .ok (.invokestatic 73, 3) := by decide +kernel
theorem dJx4a65c_grow_92f84_30 : decode cJx4a65c_grow_92f84 30 = .ok (.istore_n 3, 1) := by decide +kernel
theorem dJx4a65c_grow_92f84_31 : decode cJx4a65c_grow_92f84 31 = .ok (.aload_n 0, 1) := by decide +kernel
theorem dJx4a65c_grow_92f84_32 : decode cJx4a65c_grow_92f84 32 = .ok (.aload_n 0, 1) := by decide +kernel
theorem dJx4a65c_grow_92f84_33 : decode cJx4a65c_grow_92f84 33 = .ok (.getfield 9, 3) := by decide +kernel
theorem dJx4a65c_grow_92f84_36 : decode cJx4a65c_grow_92f84 36 = .ok (.iload_n 3, 1) := by decide +kernel
theorem dJx4a65c_grow_92f84_37 : decode cJx4a65c_grow_92f84 37 = .ok (.invokestatic 66, 3) := by decide +kernel
theorem dJx4a65c_grow_92f84_40 : decode cJx4a65c_grow_92f84 40 = .ok (.dup_x1, 1) := by decide +kernel
theorem dJx4a65c_grow_92f84_41 : decode cJx4a65c_grow_92f84 41 = .ok (.putfield 9, 3) := by decide +kernel
theorem dJx4a65c_grow_92f84_44 : decode cJx4a65c_grow_92f84 44 = .ok (.areturn, 1) := by decide +kernel
theorem dJx4a65c_grow_92f84_45 : decode cJx4a65c_grow_92f84 45 = .ok (.aload_n 0, 1) := by decide +kernel
theorem dJx4a65c_grow_92f84_46 : decode cJx4a65c_grow_92f84 46 = .ok (.bipush 10, 2) := by decide +kernel
theorem dJx4a65c_grow_92f84_48 : decode cJx4a65c_grow_92f84 48 = .ok (.iload_n 1, 1) := by decide +kernel
theorem dJx4a65c_grow_92f84_49 : decode cJx4a65c_grow_92f84 49 = .ok (.invokestatic 79, 3) := by decide +kernel
theorem dJx4a65c_grow_92f84_52 : decode cJx4a65c_grow_92f84 52 = .ok (.anewarray 7, 3) := by decide +kernel
theorem dJx4a65c_grow_92f84_55 : decode cJx4a65c_grow_92f84 55 = .ok (.dup_x1, 1) := by decide +kernel
theorem dJx4a65c_grow_92f84_56 : decode cJx4a65c_grow_92f84 56 = .ok (.putfield 9, 3) := by decide +kernel
theorem dJx4a65c_grow_92f84_59 : decode cJx4a65c_grow_92f84 59 = .ok (.areturn, 1) := by decide +kernel
theorem dJx4a65c_grow_d5877_0 : decode cJx4a65c_grow_d5877 0 = .ok (.aload_n 0, 1) := by decide +kernel
theorem dJx4a65c_grow_d5877_1 : decode cJx4a65c_grow_d5877 1 = .ok (.aload_n 0, 1) := by decide +kernel
theorem dJx4a65c_grow_d5877_2 : decode cJx4a65c_grow_d5877 2 = .ok (.getfield 48, 3) := by decide +kernel
theorem dJx4a65c_grow_d5877_5 : decode cJx4a65c_grow_d5877 5 = .ok (.iconst 1, 1) := by decide +kernel
theorem dJx4a65c_grow_d5877_6 : decode cJx4a65c_grow_d5877 6 = .ok (.iadd, 1) := by decide +kernel
theorem dJx4a65c_grow_d5877_7 : decode cJx4a65c_grow_d5877 7 = .ok (.invokevirtual 69, 3) := by decide +kernel
theorem dJx4a65c_grow_d5877_10 : decode cJx4a65c_grow_d5877 10 = .ok (.areturn, 1) := by decide +kernel
theorem dJx4a65c_size_8abf5_0 : decode cJx4a65c_size_8abf5 0 = .ok (.aload_n 0, 1) := by decide +kernel
theorem dJx4a65c_size_8abf5_1 : decode cJx4a65c_size_8abf5 1 = .ok (.getfield 48, 3) := by decide +kernel
theorem dJx4a65c_size_8abf5_4 : decode cJx4a65c_size_8abf5 4 = .ok (.ireturn, 1) := by decide +kernel
theorem dJx4a65c_elementData_915e3_0 : decode cJx4a65c_elementData_915e3 0 = .ok (.aload_n 0, 1) := by decide +kernel
theorem dJx4a65c_elementData_915e3_1 : decode cJx4a65c_elementData_915e3 1 = .ok (.getfield 9, 3) := by decide +kernel
theorem dJx4a65c_elementData_915e3_4 : decode cJx4a65c_elementData_915e3 4 = .ok (.iload_n 1, 1) := by decide +kernel
theorem dJx4a65c_elementData_915e3_5 : decode cJx4a65c_elementData_915e3 5 = .ok (.aaload, 1) := by decide +kernel
theorem dJx4a65c_elementData_915e3_6 : decode cJx4a65c_elementData_915e3 6 = .ok (.areturn, 1) := by decide +kernel
theorem dJx4a65c_get_915e3_0 : decode cJx4a65c_get_915e3 0 = .ok (.iload_n 1, 1) := by decide +kernel
theorem dJx4a65c_get_915e3_1 : decode cJx4a65c_get_915e3 1 = .ok (.aload_n 0, 1) := by decide +kernel
theorem dJx4a65c_get_915e3_2 : decode cJx4a65c_get_915e3 2 = .ok (.getfield 48, 3) := by decide +kernel
theorem dJx4a65c_get_915e3_5 : decode cJx4a65c_get_915e3 5 = .ok (.invokestatic 118, 3) := by decide +kernel
theorem dJx4a65c_get_915e3_8 : decode cJx4a65c_get_915e3 8 = .ok (.pop, 1) := by decide +kernel
theorem dJx4a65c_get_915e3_9 : decode cJx4a65c_get_915e3 9 = .ok (.aload_n 0, 1) := by decide +kernel
theorem dJx4a65c_get_915e3_10 : decode cJx4a65c_get_915e3 10 = .ok (.iload_n 1, 1) := by decide +kernel
theorem dJx4a65c_get_915e3_11 : decode cJx4a65c_get_915e3 11 = .ok (.invokevirtual 123, 3) := by decide +kernel
theorem dJx4a65c_get_915e3_14 : decode cJx4a65c_get_915e3 14 = .ok (.areturn, 1) := by decide +kernel
theorem dJx4a65c_add_72be8_0 : decode cJx4a65c_add_72be8 0 = .ok (.iload_n 3, 1) := by decide +kernel
theorem dJx4a65c_add_72be8_1 : decode cJx4a65c_add_72be8 1 = .ok (.aload_n 2, 1) := by decide +kernel
theorem dJx4a65c_add_72be8_2 : decode cJx4a65c_add_72be8 2 = .ok (.arraylength, 1) := by decide +kernel
theorem dJx4a65c_add_72be8_3 : decode cJx4a65c_add_72be8 3 = .ok (.if_icmp .ne 8, 3) := by decide +kernel
theorem dJx4a65c_add_72be8_6 : decode cJx4a65c_add_72be8 6 = .ok (.aload_n 0, 1) := by decide +kernel
theorem dJx4a65c_add_72be8_7 : decode cJx4a65c_add_72be8 7 = .ok (.invokevirtual 129, 3) := by decide +kernel
theorem dJx4a65c_add_72be8_10 : decode cJx4a65c_add_72be8 10 = .ok (.astore_n 2, 1) := by decide +kernel
theorem dJx4a65c_add_72be8_11 : decode cJx4a65c_add_72be8 11 = .ok (.aload_n 2, 1) := by decide +kernel
theorem dJx4a65c_add_72be8_12 : decode cJx4a65c_add_72be8 12 = .ok (.iload_n 3, 1) := by decide +kernel
theorem dJx4a65c_add_72be8_13 : decode cJx4a65c_add_72be8 13 = .ok (.aload_n 1, 1) := by decide +kernel
theorem dJx4a65c_add_72be8_14 : decode cJx4a65c_add_72be8 14 = .ok (.aastore, 1) := by decide +kernel
theorem dJx4a65c_add_72be8_15 : decode cJx4a65c_add_72be8 15 = .ok (.aload_n 0, 1) := by decide +kernel
theorem dJx4a65c_add_72be8_16 : decode cJx4a65c_add_72be8 16 = .ok (.iload_n 3, 1) := by decide +kernel
theorem dJx4a65c_add_72be8_17 : decode cJx4a65c_add_72be8 17 = .ok (.iconst 1, 1) := by decide +kernel
theorem dJx4a65c_add_72be8_18 : decode cJx4a65c_add_72be8 18 = .ok (.iadd, 1) := by decide +kernel
theorem dJx4a65c_add_72be8_19 : decode cJx4a65c_add_72be8 19 = .ok (.putfield 48, 3) := by decide +kernel
theorem dJx4a65c_add_72be8_22 : decode cJx4a65c_add_72be8 22 = .ok (.return_, 1) := by decide +kernel
theorem dJx4a65c_add_9ea2d_0 : decode cJx4a65c_add_9ea2d 0 = .ok (.aload_n 0, 1) := by decide +kernel
theorem dJx4a65c_add_9ea2d_1 : decode cJx4a65c_add_9ea2d 1 = .ok (.dup, 1) := by decide +kernel
theorem dJx4a65c_add_9ea2d_2 : decode cJx4a65c_add_9ea2d 2 = .ok (.getfield 63, 3) := by decide +kernel
theorem dJx4a65c_add_9ea2d_5 : decode cJx4a65c_add_9ea2d 5 = .ok (.iconst 1, 1) := by decide +kernel
theorem dJx4a65c_add_9ea2d_6 : decode cJx4a65c_add_9ea2d 6 = .ok (.iadd, 1) := by decide +kernel
theorem dJx4a65c_add_9ea2d_7 : decode cJx4a65c_add_9ea2d 7 = .ok (.putfield 63, 3) := by decide +kernel
theorem dJx4a65c_add_9ea2d_10 : decode cJx4a65c_add_9ea2d 10 = .ok (.aload_n 0, 1) := by decide +kernel
theorem dJx4a65c_add_9ea2d_11 : decode cJx4a65c_add_9ea2d 11 = .ok (.aload_n 1, 1) := by decide +kernel
theorem dJx4a65c_add_9ea2d_12 : decode cJx4a65c_add_9ea2d 12 = .ok (.aload_n 0, 1) := by decide +kernel
theorem dJx4a65c_add_9ea2d_13 : decode cJx4a65c_add_9ea2d 13 = .ok (.getfield 9, 3) := by decide +kernel
theorem dJx4a65c_add_9ea2d_16 : decode cJx4a65c_add_9ea2d 16 = .ok (.aload_n 0, 1) := by decide +kernel
theorem dJx4a65c_add_9ea2d_17 : decode cJx4a65c_add_9ea2d 17 = .ok (.getfield 48, 3) := by decide +kernel
theorem dJx4a65c_add_9ea2d_20 : decode cJx4a65c_add_9ea2d 20 = .ok (.invokevirtual 131, 3) := by decide +kernel
theorem dJx4a65c_add_9ea2d_23 : decode cJx4a65c_add_9ea2d 23 = .ok (.iconst 1, 1) := by decide +kernel
theorem dJx4a65c_add_9ea2d_24 : decode cJx4a65c_add_9ea2d 24 = .ok (.ireturn, 1) := by decide +kernel
theorem dJ7_copyOf_1904c_0 : decode cJ7_copyOf_1904c 0 = .ok (.aload_n 0, 1) := by decide +kernel
theorem dJ7_copyOf_1904c_1 : decode cJ7_copyOf_1904c 1 = .ok (.iload_n 1, 1) := by decide +kernel
theorem dJ7_copyOf_1904c_2 : decode cJ7_copyOf_1904c 2 = .ok (.aload_n 0, 1) := by decide +kernel
theorem dJ7_copyOf_1904c_3 : decode cJ7_copyOf_1904c 3 = .ok (.invokevirtual 86, 3) := by decide +kernel
theorem dJ7_copyOf_1904c_6 : decode cJ7_copyOf_1904c 6 = .ok (.invokestatic 300, 3) := by decide +kernel
theorem dJ7_copyOf_1904c_9 : decode cJ7_copyOf_1904c 9 = .ok (.areturn, 1) := by decide +kernel
theorem dJ7_copyOf_6403c_0 : decode cJ7_copyOf_6403c 0 = .ok (.aload_n 2, 1) := by decide +kernel
theorem dJ7_copyOf_6403c_1 : decode cJ7_copyOf_6403c 1 = .ok (.ldc 110, 2) := by decide +kernel
theorem dJ7_copyOf_6403c_3 : decode cJ7_copyOf_6403c 3 = .ok (.if_acmp .ne 10, 3) := by decide +kernel
theorem dJ7_copyOf_6403c_6 : decode cJ7_copyOf_6403c 6 = .ok (.iload_n 1, 1) := by decide +kernel
theorem dJ7_copyOf_6403c_7 : decode cJ7_copyOf_6403c 7 = .ok (.anewarray 2, 3) := by decide +kernel
theorem dJ7_copyOf_6403c_10 : decode cJ7_copyOf_6403c 10 = .ok (.goto 14, 3) := by decide +kernel
theorem dJ7_copyOf_6403c_13 : decode cJ7_copyOf_6403c 13 = .ok (.aload_n 2, 1) := by decide +kernel
theorem dJ7_copyOf_6403c_14 : decode cJ7_copyOf_6403c 14 = .ok (.invokevirtual 90, 3) := by decide +kernel
theorem dJ7_copyOf_6403c_17 : decode cJ7_copyOf_6403c 17 = .ok (.iload_n 1, 1) := by decide +kernel
theorem dJ7_copyOf_6403c_18 : decode cJ7_copyOf_6403c 18 = .ok (.invokestatic 95, 3) := by decide +kernel
theorem dJ7_copyOf_6403c_21 : decode cJ7_copyOf_6403c 21 = .ok (.checkcast 110, 3) := by decide +kernel
theorem dJ7_copyOf_6403c_24 : decode cJ7_copyOf_6403c 24 = .ok (.astore_n 3, 1) := by decide +kernel
theorem dJ7_copyOf_6403c_25 : decode cJ7_copyOf_6403c 25 = .ok (.aload_n 0, 1) := by decide +kernel
theorem dJ7_copyOf_6403c_26 : decode cJ7_copyOf_6403c 26 = .ok (.iconst 0, 1) := by decide +kernel
theorem dJ7_copyOf_6403c_27 : decode cJ7_copyOf_6403c 27 = .ok (.aload_n 3, 1) := by decide +kernel
theorem dJ7_copyOf_6403c_28 : decode cJ7_copyOf_6403c 28 = .ok (.iconst 0, 1) := by decide +kernel
theorem dJ7_copyOf_6403c_29 : decode cJ7_copyOf_6403c 29 = .ok (.aload_n 0, 1) := by decide +kernel
theorem dJ7_copyOf_6403c_30 : decode cJ7_copyOf_6403c 30 = .ok (.arraylength, 1) := by decide +kernel
theorem dJ7_copyOf_6403c_31 : decode cJ7_copyOf_6403c 31 = .ok (.iload_n 1, 1) := by decide +kernel
theorem dJ7_copyOf_6403c_32 : decode cJ7_copyOf_6403c 32 = .ok (.invokestatic 304, 3) := by decide +kernel
theorem dJ7_copyOf_6403c_35 : decode cJ7_copyOf_6403c 35 = .ok (.invokestatic 150, 3) := by decide +kernel
theorem dJ7_copyOf_6403c_38 : decode cJ7_copyOf_6403c 38 = .ok (.aload_n 3, 1) := by decide +kernel
theorem dJ7_copyOf_6403c_39 : decode cJ7_copyOf_6403c 39 = .ok (.areturn, 1) := by decide +kernel
theorem dJ15_checkIndex_7cf53_0 : decode cJ15_checkIndex_7cf53 0 = .ok (.iload_n 0, 1) := by decide +kernel
theorem dJ15_checkIndex_7cf53_1 : decode cJ15_checkIndex_7cf53 1 = .ok (.iload_n 1, 1) := by decide +kernel
theorem dJ15_checkIndex_7cf53_2 : decode cJ15_checkIndex_7cf53 2 = .ok (.aconst_null, 1) := by decide +kernel
theorem dJ15_checkIndex_7cf53_3 : decode cJ15_checkIndex_7cf53 3 = .ok (.invokestatic 105, 3) := by decide +kernel
theorem dJ15_checkIndex_7cf53_6 : decode cJ15_checkIndex_7cf53 6 = .ok (.ireturn, 1) := by decide +kernel
theorem dJ8_newLength_cabcc_0 : decode cJ8_newLength_cabcc 0 = .ok (.iload_n 0, 1) := by decide +kernel
theorem dJ8_newLength_cabcc_1 : decode cJ8_newLength_cabcc 1 = .ok (.iload_n 1, 1) := by decide +kernel
theorem dJ8_newLength_cabcc_2 : decode cJ8_newLength_cabcc 2 = .ok (.iload_n 2, 1) := by decide +kernel
theorem dJ8_newLength_cabcc_3 : decode cJ8_newLength_cabcc 3 = .ok (.invokestatic 194, 3) := by decide +kernel
theorem dJ8_newLength_cabcc_6 : decode cJ8_newLength_cabcc 6 = .ok (.iadd, 1) := by decide +kernel
theorem dJ8_newLength_cabcc_7 : decode cJ8_newLength_cabcc 7 = .ok (.istore_n 3, 1) := by decide +kernel
theorem dJ8_newLength_cabcc_8 : decode cJ8_newLength_cabcc 8 = .ok (.iconst 0, 1) := by decide +kernel
theorem dJ8_newLength_cabcc_9 : decode cJ8_newLength_cabcc 9 = .ok (.iload_n 3, 1) := by decide +kernel
theorem dJ8_newLength_cabcc_10 : decode cJ8_newLength_cabcc 10 = .ok (.if_icmp .ge 11, 3) := by decide +kernel
theorem dJ8_newLength_cabcc_13 : decode cJ8_newLength_cabcc 13 = .ok (.iload_n 3, 1) := by decide +kernel
theorem dJ8_newLength_cabcc_14 : decode cJ8_newLength_cabcc 14 = .ok (.ldc 200, 2) := by decide +kernel
theorem dJ8_newLength_cabcc_16 : decode cJ8_newLength_cabcc 16 = .ok (.if_icmp .gt 5, 3) := by decide +kernel
theorem dJ8_newLength_cabcc_19 : decode cJ8_newLength_cabcc 19 = .ok (.iload_n 3, 1) := by decide +kernel
theorem dJ8_newLength_cabcc_20 : decode cJ8_newLength_cabcc 20 = .ok (.ireturn, 1) := by decide +kernel
theorem dJ8_newLength_cabcc_21 : decode cJ8_newLength_cabcc 21 = .ok (.iload_n 0, 1) := by decide +kernel
theorem dJ8_newLength_cabcc_22 : decode cJ8_newLength_cabcc 22 = .ok (.iload_n 1, 1) := by decide +kernel
theorem dJ8_newLength_cabcc_23 : decode cJ8_newLength_cabcc 23 = .ok (.invokestatic 201, 3) := by decide +kernel
theorem dJ8_newLength_cabcc_26 : decode cJ8_newLength_cabcc 26 = .ok (.ireturn, 1) := by decide +kernel
theorem dJ8_hugeLength_7cf53_0 : decode cJ8_hugeLength_7cf53 0 = .ok (.iload_n 0, 1) := by decide +kernel
theorem dJ8_hugeLength_7cf53_1 : decode cJ8_hugeLength_7cf53 1 = .ok (.iload_n 1, 1) := by decide +kernel
theorem dJ8_hugeLength_7cf53_2 : decode cJ8_hugeLength_7cf53 2 = .ok (.iadd, 1) := by decide +kernel
theorem dJ8_hugeLength_7cf53_3 : decode cJ8_hugeLength_7cf53 3 = .ok (.istore_n 2, 1) := by decide +kernel
theorem dJ8_hugeLength_7cf53_4 : decode cJ8_hugeLength_7cf53 4 = .ok (.iload_n 2, 1) := by decide +kernel
theorem dJ8_hugeLength_7cf53_5 : decode cJ8_hugeLength_7cf53 5 = .ok (.ifCond .ge 44, 3) := by decide +kernel
theorem dJ8_hugeLength_7cf53_8 : decode cJ8_hugeLength_7cf53 8 = .ok (.new 204, 3) := by decide +kernel
theorem dJ8_hugeLength_7cf53_11 : decode cJ8_hugeLength_7cf53 11 = .ok (.dup, 1) := by decide +kernel
theorem dJ8_hugeLength_7cf53_12 : decode cJ8_hugeLength_7cf53 12 = .ok (.new 89, 3) := by decide +kernel
theorem dJ8_hugeLength_7cf53_15 : decode cJ8_hugeLength_7cf53 15 = .ok (.dup, 1) := by decide +kernel
theorem dJ8_hugeLength_7cf53_16 : decode cJ8_hugeLength_7cf53 16 = .ok (.invokespecial 91, 3) := by decide +kernel
theorem dJ8_hugeLength_7cf53_19 : decode cJ8_hugeLength_7cf53 19 = .ok (.ldc 206, 2) := by decide +kernel
theorem dJ8_hugeLength_7cf53_21 : decode cJ8_hugeLength_7cf53 21 = .ok (.invokevirtual 94, 3) := by decide +kernel
theorem dJ8_hugeLength_7cf53_24 : decode cJ8_hugeLength_7cf53 24 = .ok (.iload_n 0, 1) := by decide +kernel
theorem dJ8_hugeLength_7cf53_25 : decode cJ8_hugeLength_7cf53 25 = .ok (.invokevirtual 98, 3) := by decide +kernel
theorem dJ8_hugeLength_7cf53_28 : decode cJ8_hugeLength_7cf53 28 = .ok (.ldc 208, 2) := by decide +kernel
theorem dJ8_hugeLength_7cf53_30 : decode cJ8_hugeLength_7cf53 30 = .ok (.invokevirtual 94, 3) := by decide +kernel
theorem dJ8_hugeLength_7cf53_33 : decode cJ8_hugeLength_7cf53 33 = .ok (.iload_n 1, 1) := by decide +kernel
theorem dJ8_hugeLength_7cf53_34 : decode cJ8_hugeLength_7cf53 34 = .ok (.invokevirtual 98, 3) := by decide +kernel
theorem dJ8_hugeLength_7cf53_37 : decode cJ8_hugeLength_7cf53 37 = .ok (.ldc 210, 2) := by decide +kernel
theorem dJ8_hugeLength_7cf53_39 : decode cJ8_hugeLength_7cf53 39 = .ok (.invokevirtual 94, 3) := by decide +kernel
theorem dJ8_hugeLength_7cf53_42 : decode cJ8_hugeLength_7cf53 42 = .ok (.invokevirtual 101, 3) := by decide +kernel
theorem dJ8_hugeLength_7cf53_45 : decode cJ8_hugeLength_7cf53 45 = .ok (.invokespecial 212, 3) := by decide +kernel
theorem dJ8_hugeLength_7cf53_48 : decode cJ8_hugeLength_7cf53 48 = .ok (.athrow, 1) := by decide +kernel
theorem dJ8_hugeLength_7cf53_49 : decode cJ8_hugeLength_7cf53 49 = .ok (.iload_n 2, 1) := by decide +kernel
theorem dJ8_hugeLength_7cf53_50 : decode cJ8_hugeLength_7cf53 50 = .ok (.ldc 200, 2) := by decide +kernel
theorem dJ8_hugeLength_7cf53_52 : decode cJ8_hugeLength_7cf53 52 = .ok (.if_icmp .gt 6, 3) := by decide +kernel
theorem dJ8_hugeLength_7cf53_55 : decode cJ8_hugeLength_7cf53 55 = .ok (.ldc 200, 2) := by decide +kernel
theorem dJ8_hugeLength_7cf53_57 : decode cJ8_hugeLength_7cf53 57 = .ok (.ireturn, 1) := by decide +kernel
theorem dJ8_hugeLength_7cf53_58 : decode cJ8_hugeLength_7cf53 58 = .ok (.iload_n 2, 1) := by decide +kernel
theorem dJ8_hugeLength_7cf53_59 : decode cJ8_hugeLength_7cf53 59 = .ok (.ireturn, 1) := by decide +kernel
theorem dJ3_checkIndex_8e157_0 : decode cJ3_checkIndex_8e157 0 = .ok (.iload_n 0, 1) := by decide +kernel
theorem dJ3_checkIndex_8e157_1 : decode cJ3_checkIndex_8e157 1 = .ok (.ifCond .lt 8, 3) := by decide +kernel
theorem dJ3_checkIndex_8e157_4 : decode cJ3_checkIndex_8e157 4 = .ok (.iload_n 0, 1) := by decide +kernel
theorem dJ3_checkIndex_8e157_5 : decode cJ3_checkIndex_8e157 5 = .ok (.iload_n 1, 1) := by decide +kernel
theorem dJ3_checkIndex_8e157_6 : decode cJ3_checkIndex_8e157 6 = .ok (.if_icmp .lt 10, 3) := by decide +kernel
theorem dJ3_checkIndex_8e157_9 : decode cJ3_checkIndex_8e157 9 = .ok (.aload_n 2, 1) := by decide +kernel
theorem dJ3_checkIndex_8e157_10 : decode cJ3_checkIndex_8e157 10 = .ok (.iload_n 0, 1) := by decide +kernel
theorem dJ3_checkIndex_8e157_11 : decode cJ3_checkIndex_8e157 11 = .ok (.iload_n 1, 1) := by decide +kernel
theorem dJ3_checkIndex_8e157_12 : decode cJ3_checkIndex_8e157 12 = .ok (.invokestatic 95, 3) := by decide +kernel
theorem dJ3_checkIndex_8e157_15 : decode cJ3_checkIndex_8e157 15 = .ok (.athrow, 1) := by decide +kernel
theorem dJ3_checkIndex_8e157_16 : decode cJ3_checkIndex_8e157 16 = .ok (.iload_n 0, 1) := by decide +kernel
theorem dJ3_checkIndex_8e157_17 : decode cJ3_checkIndex_8e157 17 = .ok (.ireturn, 1) := by decide +kernel
theorem dL_addFact_0 : decode cL_addFact 0 = .ok (.aload_n 2, 1) := by decide +kernel
theorem dL_addFact_1 : decode cL_addFact 1 = .ok (.iconst 0, 1) := by decide +kernel
theorem dL_addFact_2 : decode cL_addFact 2 = .ok (.aload_n 0, 1) := by decide +kernel
theorem dL_addFact_3 : decode cL_addFact 3 = .ok (.iload_n 1, 1) := by decide +kernel
theorem dL_addFact_4 : decode cL_addFact 4 = .ok (.invokevirtual 7, 3) := by decide +kernel
theorem dL_addFact_7 : decode cL_addFact 7 = .ok (.i2l, 1) := by decide +kernel
theorem dL_addFact_8 : decode cL_addFact 8 = .ok (.lastore, 1) := by decide +kernel
theorem dL_addFact_9 : decode cL_addFact 9 = .ok (.goto 9, 3) := by decide +kernel
theorem dL_addFact_12 : decode cL_addFact 12 = .ok (.astore_n 3, 1) := by decide +kernel
theorem dL_addFact_13 : decode cL_addFact 13 = .ok (.iconst 1, 1) := by decide +kernel
theorem dL_addFact_14 : decode cL_addFact 14 = .ok (.ireturn, 1) := by decide +kernel
theorem dL_addFact_15 : decode cL_addFact 15 = .ok (.astore_n 3, 1) := by decide +kernel
theorem dL_addFact_16 : decode cL_addFact 16 = .ok (.iconst 2, 1) := by decide +kernel
theorem dL_addFact_17 : decode cL_addFact 17 = .ok (.ireturn, 1) := by decide +kernel
theorem dL_addFact_18 : decode cL_addFact 18 = .ok (.iconst 0, 1) := by decide +kernel
theorem dL_addFact_19 : decode cL_addFact 19 = .ok (.ireturn, 1) := by decide +kernel
theorem dL_takeBack_0 : decode cL_takeBack 0 = .ok (.aload_n 2, 1) := by decide +kernel
theorem dL_takeBack_1 : decode cL_takeBack 1 = .ok (.iconst 0, 1) := by decide +kernel
theorem dL_takeBack_2 : decode cL_takeBack 2 = .ok (.aload_n 0, 1) := by decide +kernel
theorem dL_takeBack_3 : decode cL_takeBack 3 = .ok (.iload_n 1, 1) := by decide +kernel
theorem dL_takeBack_4 : decode cL_takeBack 4 = .ok (.invokevirtual 17, 3) := by decide +kernel
theorem dL_takeBack_7 : decode cL_takeBack 7 = .ok (.ifCond .eq 7, 3) := by decide +kernel
theorem dL_takeBack_10 : decode cL_takeBack 10 = .ok (.lconst 1, 1) := by decide +kernel
theorem dL_takeBack_11 : decode cL_takeBack 11 = .ok (.goto 4, 3) := by decide +kernel
theorem dL_takeBack_14 : decode cL_takeBack 14 = .ok (.lconst 0, 1) := by decide +kernel
theorem dL_takeBack_15 : decode cL_takeBack 15 = .ok (.lastore, 1) := by decide +kernel
theorem dL_takeBack_16 : decode cL_takeBack 16 = .ok (.goto 6, 3) := by decide +kernel
theorem dL_takeBack_19 : decode cL_takeBack 19 = .ok (.astore_n 3, 1) := by decide +kernel
theorem dL_takeBack_20 : decode cL_takeBack 20 = .ok (.iconst 1, 1) := by decide +kernel
theorem dL_takeBack_21 : decode cL_takeBack 21 = .ok (.ireturn, 1) := by decide +kernel
theorem dL_takeBack_22 : decode cL_takeBack 22 = .ok (.iconst 0, 1) := by decide +kernel
theorem dL_takeBack_23 : decode cL_takeBack 23 = .ok (.ireturn, 1) := by decide +kernel
theorem dL_addRule_0 : decode cL_addRule 0 = .ok (.aload 6, 2) := by decide +kernel
theorem dL_addRule_2 : decode cL_addRule 2 = .ok (.iconst 0, 1) := by decide +kernel
theorem dL_addRule_3 : decode cL_addRule 3 = .ok (.aload_n 0, 1) := by decide +kernel
theorem dL_addRule_4 : decode cL_addRule 4 = .ok (.iload_n 1, 1) := by decide +kernel
theorem dL_addRule_5 : decode cL_addRule 5 = .ok (.iload_n 2, 1) := by decide +kernel
theorem dL_addRule_6 : decode cL_addRule 6 = .ok (.iload_n 3, 1) := by decide +kernel
theorem dL_addRule_7 : decode cL_addRule 7 = .ok (.iload 4, 2) := by decide +kernel
theorem dL_addRule_9 : decode cL_addRule 9 = .ok (.iload 5, 2) := by decide +kernel
theorem dL_addRule_11 : decode cL_addRule 11 = .ok (.invokevirtual 21, 3) := by decide +kernel
theorem dL_addRule_14 : decode cL_addRule 14 = .ok (.i2l, 1) := by decide +kernel
theorem dL_addRule_15 : decode cL_addRule 15 = .ok (.lastore, 1) := by decide +kernel
theorem dL_addRule_16 : decode cL_addRule 16 = .ok (.goto 11, 3) := by decide +kernel
theorem dL_addRule_19 : decode cL_addRule 19 = .ok (.astore 7, 2) := by decide +kernel
theorem dL_addRule_21 : decode cL_addRule 21 = .ok (.iconst 1, 1) := by decide +kernel
theorem dL_addRule_22 : decode cL_addRule 22 = .ok (.ireturn, 1) := by decide +kernel
theorem dL_addRule_23 : decode cL_addRule 23 = .ok (.astore 7, 2) := by decide +kernel
theorem dL_addRule_25 : decode cL_addRule 25 = .ok (.iconst 2, 1) := by decide +kernel
theorem dL_addRule_26 : decode cL_addRule 26 = .ok (.ireturn, 1) := by decide +kernel
theorem dL_addRule_27 : decode cL_addRule 27 = .ok (.iconst 0, 1) := by decide +kernel
theorem dL_addRule_28 : decode cL_addRule 28 = .ok (.ireturn, 1) := by decide +kernel
theorem dL_setPriority_0 : decode cL_setPriority 0 = .ok (.aload_n 3, 1) := by decide +kernel
theorem dL_setPriority_1 : decode cL_setPriority 1 = .ok (.iconst 0, 1) := by decide +kernel
theorem dL_setPriority_2 : decode cL_setPriority 2 = .ok (.aload_n 0, 1) := by decide +kernel
theorem dL_setPriority_3 : decode cL_setPriority 3 = .ok (.iload_n 1, 1) := by decide +kernel
theorem dL_setPriority_4 : decode cL_setPriority 4 = .ok (.iload_n 2, 1) := by decide +kernel
theorem dL_setPriority_5 : decode cL_setPriority 5 = .ok (.invokevirtual 25, 3) := by decide +kernel
theorem dL_setPriority_8 : decode cL_setPriority 8 = .ok (.i2l, 1) := by decide +kernel
theorem dL_setPriority_9 : decode cL_setPriority 9 = .ok (.lastore, 1) := by decide +kernel
theorem dL_setPriority_10 : decode cL_setPriority 10 = .ok (.goto 11, 3) := by decide +kernel
theorem dL_setPriority_13 : decode cL_setPriority 13 = .ok (.astore 4, 2) := by decide +kernel
theorem dL_setPriority_15 : decode cL_setPriority 15 = .ok (.iconst 1, 1) := by decide +kernel
theorem dL_setPriority_16 : decode cL_setPriority 16 = .ok (.ireturn, 1) := by decide +kernel
theorem dL_setPriority_17 : decode cL_setPriority 17 = .ok (.astore 4, 2) := by decide +kernel
theorem dL_setPriority_19 : decode cL_setPriority 19 = .ok (.iconst 2, 1) := by decide +kernel
theorem dL_setPriority_20 : decode cL_setPriority 20 = .ok (.ireturn, 1) := by decide +kernel
theorem dL_setPriority_21 : decode cL_setPriority 21 = .ok (.iconst 0, 1) := by decide +kernel
theorem dL_setPriority_22 : decode cL_setPriority 22 = .ok (.ireturn, 1) := by decide +kernel
theorem dL_setException_0 : decode cL_setException 0 = .ok (.aload_n 3, 1) := by decide +kernel
theorem dL_setException_1 : decode cL_setException 1 = .ok (.iconst 0, 1) := by decide +kernel
theorem dL_setException_2 : decode cL_setException 2 = .ok (.aload_n 0, 1) := by decide +kernel
theorem dL_setException_3 : decode cL_setException 3 = .ok (.iload_n 1, 1) := by decide +kernel
theorem dL_setException_4 : decode cL_setException 4 = .ok (.iload_n 2, 1) := by decide +kernel
theorem dL_setException_5 : decode cL_setException 5 = .ok (.invokevirtual 31, 3) := by decide +kernel
theorem dL_setException_8 : decode cL_setException 8 = .ok (.i2l, 1) := by decide +kernel
theorem dL_setException_9 : decode cL_setException 9 = .ok (.lastore, 1) := by decide +kernel
theorem dL_setException_10 : decode cL_setException 10 = .ok (.goto 11, 3) := by decide +kernel
theorem dL_setException_13 : decode cL_setException 13 = .ok (.astore 4, 2) := by decide +kernel
theorem dL_setException_15 : decode cL_setException 15 = .ok (.iconst 1, 1) := by decide +kernel
theorem dL_setException_16 : decode cL_setException 16 = .ok (.ireturn, 1) := by decide +kernel
theorem dL_setException_17 : decode cL_setException 17 = .ok (.astore 4, 2) := by decide +kernel
theorem dL_setException_19 : decode cL_setException 19 = .ok (.iconst 2, 1) := by decide +kernel
theorem dL_setException_20 : decode cL_setException 20 = .ok (.ireturn, 1) := by decide +kernel
theorem dL_setException_21 : decode cL_setException 21 = .ok (.iconst 0, 1) := by decide +kernel
theorem dL_setException_22 : decode cL_setException 22 = .ok (.ireturn, 1) := by decide +kernel
theorem dL_turn_0 : decode cL_turn 0 = .ok (.aload_n 3, 1) := by decide +kernel
theorem dL_turn_1 : decode cL_turn 1 = .ok (.iconst 0, 1) := by decide +kernel
theorem dL_turn_2 : decode cL_turn 2 = .ok (.aload_n 0, 1) := by decide +kernel
theorem dL_turn_3 : decode cL_turn 3 = .ok (.iload_n 1, 1) := by decide +kernel
theorem dL_turn_4 : decode cL_turn 4 = .ok (.iload_n 2, 1) := by decide +kernel
theorem dL_turn_5 : decode cL_turn 5 = .ok (.invokevirtual 34, 3) := by decide +kernel
theorem dL_turn_8 : decode cL_turn 8 = .ok (.ifCond .eq 7, 3) := by decide +kernel
theorem dL_turn_11 : decode cL_turn 11 = .ok (.lconst 1, 1) := by decide +kernel
theorem dL_turn_12 : decode cL_turn 12 = .ok (.goto 4, 3) := by decide +kernel
theorem dL_turn_15 : decode cL_turn 15 = .ok (.lconst 0, 1) := by decide +kernel
theorem dL_turn_16 : decode cL_turn 16 = .ok (.lastore, 1) := by decide +kernel
theorem dL_turn_17 : decode cL_turn 17 = .ok (.goto 7, 3) := by decide +kernel
theorem dL_turn_20 : decode cL_turn 20 = .ok (.astore 4, 2) := by decide +kernel
theorem dL_turn_22 : decode cL_turn 22 = .ok (.iconst 1, 1) := by decide +kernel
theorem dL_turn_23 : decode cL_turn 23 = .ok (.ireturn, 1) := by decide +kernel
theorem dL_turn_24 : decode cL_turn 24 = .ok (.iconst 0, 1) := by decide +kernel
theorem dL_turn_25 : decode cL_turn 25 = .ok (.ireturn, 1) := by decide +kernel
theorem dL_conclusion_0 : decode cL_conclusion 0 = .ok (.aload_n 2, 1) := by decide +kernel
theorem dL_conclusion_1 : decode cL_conclusion 1 = .ok (.iconst 0, 1) := by decide +kernel
theorem dL_conclusion_2 : decode cL_conclusion 2 = .ok (.aload_n 0, 1) := by decide +kernel
theorem dL_conclusion_3 : decode cL_conclusion 3 = .ok (.iload_n 1, 1) := by decide +kernel
theorem dL_conclusion_4 : decode cL_conclusion 4 = .ok (.invokevirtual 38, 3) := by decide +kernel
theorem dL_conclusion_7 : decode cL_conclusion 7 = .ok (.i2l, 1) := by decide +kernel
theorem dL_conclusion_8 : decode cL_conclusion 8 = .ok (.lastore, 1) := by decide +kernel
theorem dL_conclusion_9 : decode cL_conclusion 9 = .ok (.goto 9, 3) := by decide +kernel
theorem dL_conclusion_12 : decode cL_conclusion 12 = .ok (.astore_n 3, 1) := by decide +kernel
theorem dL_conclusion_13 : decode cL_conclusion 13 = .ok (.iconst 1, 1) := by decide +kernel
theorem dL_conclusion_14 : decode cL_conclusion 14 = .ok (.ireturn, 1) := by decide +kernel
theorem dL_conclusion_15 : decode cL_conclusion 15 = .ok (.astore_n 3, 1) := by decide +kernel
theorem dL_conclusion_16 : decode cL_conclusion 16 = .ok (.iconst 2, 1) := by decide +kernel
theorem dL_conclusion_17 : decode cL_conclusion 17 = .ok (.ireturn, 1) := by decide +kernel
theorem dL_conclusion_18 : decode cL_conclusion 18 = .ok (.iconst 0, 1) := by decide +kernel
theorem dL_conclusion_19 : decode cL_conclusion 19 = .ok (.ireturn, 1) := by decide +kernel
theorem dL_madeBy_0 : decode cL_madeBy 0 = .ok (.aload_n 2, 1) := by decide +kernel
theorem dL_madeBy_1 : decode cL_madeBy 1 = .ok (.iconst 0, 1) := by decide +kernel
theorem dL_madeBy_2 : decode cL_madeBy 2 = .ok (.aload_n 0, 1) := by decide +kernel
theorem dL_madeBy_3 : decode cL_madeBy 3 = .ok (.iload_n 1, 1) := by decide +kernel
theorem dL_madeBy_4 : decode cL_madeBy 4 = .ok (.invokevirtual 41, 3) := by decide +kernel
theorem dL_madeBy_7 : decode cL_madeBy 7 = .ok (.i2l, 1) := by decide +kernel
theorem dL_madeBy_8 : decode cL_madeBy 8 = .ok (.lastore, 1) := by decide +kernel
theorem dL_madeBy_9 : decode cL_madeBy 9 = .ok (.goto 9, 3) := by decide +kernel
theorem dL_madeBy_12 : decode cL_madeBy 12 = .ok (.astore_n 3, 1) := by decide +kernel
theorem dL_madeBy_13 : decode cL_madeBy 13 = .ok (.iconst 1, 1) := by decide +kernel
theorem dL_madeBy_14 : decode cL_madeBy 14 = .ok (.ireturn, 1) := by decide +kernel
theorem dL_madeBy_15 : decode cL_madeBy 15 = .ok (.astore_n 3, 1) := by decide +kernel
theorem dL_madeBy_16 : decode cL_madeBy 16 = .ok (.iconst 2, 1) := by decide +kernel
theorem dL_madeBy_17 : decode cL_madeBy 17 = .ok (.ireturn, 1) := by decide +kernel
theorem dL_madeBy_18 : decode cL_madeBy 18 = .ok (.iconst 0, 1) := by decide +kernel
theorem dL_madeBy_19 : decode cL_madeBy 19 = .ok (.ireturn, 1) := by decide +kernel
theorem dL_part_0 : decode cL_part 0 = .ok (.aload_n 3, 1) := by decide +kernel
theorem dL_part_1 : decode cL_part 1 = .ok (.iconst 0, 1) := by decide +kernel
theorem dL_part_2 : decode cL_part 2 = .ok (.aload_n 0, 1) := by decide +kernel
theorem dL_part_3 : decode cL_part 3 = .ok (.iload_n 1, 1) := by decide +kernel
theorem dL_part_4 : decode cL_part 4 = .ok (.iload_n 2, 1) := by decide +kernel
theorem dL_part_5 : decode cL_part 5 = .ok (.invokevirtual 44, 3) := by decide +kernel
theorem dL_part_8 : decode cL_part 8 = .ok (.i2l, 1) := by decide +kernel
theorem dL_part_9 : decode cL_part 9 = .ok (.lastore, 1) := by decide +kernel
theorem dL_part_10 : decode cL_part 10 = .ok (.goto 11, 3) := by decide +kernel
theorem dL_part_13 : decode cL_part 13 = .ok (.astore 4, 2) := by decide +kernel
theorem dL_part_15 : decode cL_part 15 = .ok (.iconst 1, 1) := by decide +kernel
theorem dL_part_16 : decode cL_part 16 = .ok (.ireturn, 1) := by decide +kernel
theorem dL_part_17 : decode cL_part 17 = .ok (.astore 4, 2) := by decide +kernel
theorem dL_part_19 : decode cL_part 19 = .ok (.iconst 2, 1) := by decide +kernel
theorem dL_part_20 : decode cL_part 20 = .ok (.ireturn, 1) := by decide +kernel
theorem dL_part_21 : decode cL_part 21 = .ok (.iconst 0, 1) := by decide +kernel
theorem dL_part_22 : decode cL_part 22 = .ok (.ireturn, 1) := by decide +kernel
theorem dL_depth_0 : decode cL_depth 0 = .ok (.aload_n 2, 1) := by decide +kernel
theorem dL_depth_1 : decode cL_depth 1 = .ok (.iconst 0, 1) := by decide +kernel
theorem dL_depth_2 : decode cL_depth 2 = .ok (.aload_n 0, 1) := by decide +kernel
theorem dL_depth_3 : decode cL_depth 3 = .ok (.iload_n 1, 1) := by decide +kernel
theorem dL_depth_4 : decode cL_depth 4 = .ok (.invokevirtual 47, 3) := by decide +kernel
theorem dL_depth_7 : decode cL_depth 7 = .ok (.i2l, 1) := by decide +kernel
theorem dL_depth_8 : decode cL_depth 8 = .ok (.lastore, 1) := by decide +kernel
theorem dL_depth_9 : decode cL_depth 9 = .ok (.goto 9, 3) := by decide +kernel
theorem dL_depth_12 : decode cL_depth 12 = .ok (.astore_n 3, 1) := by decide +kernel
theorem dL_depth_13 : decode cL_depth 13 = .ok (.iconst 1, 1) := by decide +kernel
theorem dL_depth_14 : decode cL_depth 14 = .ok (.ireturn, 1) := by decide +kernel
theorem dL_depth_15 : decode cL_depth 15 = .ok (.astore_n 3, 1) := by decide +kernel
theorem dL_depth_16 : decode cL_depth 16 = .ok (.iconst 2, 1) := by decide +kernel
theorem dL_depth_17 : decode cL_depth 17 = .ok (.ireturn, 1) := by decide +kernel
theorem dL_depth_18 : decode cL_depth 18 = .ok (.iconst 0, 1) := by decide +kernel
theorem dL_depth_19 : decode cL_depth 19 = .ok (.ireturn, 1) := by decide +kernel
theorem dL_attacks_0 : decode cL_attacks 0 = .ok (.aload_n 3, 1) := by decide +kernel
theorem dL_attacks_1 : decode cL_attacks 1 = .ok (.iconst 0, 1) := by decide +kernel
theorem dL_attacks_2 : decode cL_attacks 2 = .ok (.aload_n 0, 1) := by decide +kernel
theorem dL_attacks_3 : decode cL_attacks 3 = .ok (.iload_n 1, 1) := by decide +kernel
theorem dL_attacks_4 : decode cL_attacks 4 = .ok (.iload_n 2, 1) := by decide +kernel
theorem dL_attacks_5 : decode cL_attacks 5 = .ok (.invokevirtual 50, 3) := by decide +kernel
theorem dL_attacks_8 : decode cL_attacks 8 = .ok (.ifCond .eq 7, 3) := by decide +kernel
theorem dL_attacks_11 : decode cL_attacks 11 = .ok (.lconst 1, 1) := by decide +kernel
theorem dL_attacks_12 : decode cL_attacks 12 = .ok (.goto 4, 3) := by decide +kernel
theorem dL_attacks_15 : decode cL_attacks 15 = .ok (.lconst 0, 1) := by decide +kernel
theorem dL_attacks_16 : decode cL_attacks 16 = .ok (.lastore, 1) := by decide +kernel
theorem dL_attacks_17 : decode cL_attacks 17 = .ok (.goto 11, 3) := by decide +kernel
theorem dL_attacks_20 : decode cL_attacks 20 = .ok (.astore 4, 2) := by decide +kernel
theorem dL_attacks_22 : decode cL_attacks 22 = .ok (.iconst 1, 1) := by decide +kernel
theorem dL_attacks_23 : decode cL_attacks 23 = .ok (.ireturn, 1) := by decide +kernel
theorem dL_attacks_24 : decode cL_attacks 24 = .ok (.astore 4, 2) := by decide +kernel
theorem dL_attacks_26 : decode cL_attacks 26 = .ok (.iconst 2, 1) := by decide +kernel
theorem dL_attacks_27 : decode cL_attacks 27 = .ok (.ireturn, 1) := by decide +kernel
theorem dL_attacks_28 : decode cL_attacks 28 = .ok (.iconst 0, 1) := by decide +kernel
theorem dL_attacks_29 : decode cL_attacks 29 = .ok (.ireturn, 1) := by decide +kernel
theorem dL_label_0 : decode cL_label 0 = .ok (.aload_n 2, 1) := by decide +kernel
theorem dL_label_1 : decode cL_label 1 = .ok (.iconst 0, 1) := by decide +kernel
theorem dL_label_2 : decode cL_label 2 = .ok (.aload_n 0, 1) := by decide +kernel
theorem dL_label_3 : decode cL_label 3 = .ok (.iload_n 1, 1) := by decide +kernel
theorem dL_label_4 : decode cL_label 4 = .ok (.invokevirtual 54, 3) := by decide +kernel
theorem dL_label_7 : decode cL_label 7 = .ok (.i2l, 1) := by decide +kernel
theorem dL_label_8 : decode cL_label 8 = .ok (.lastore, 1) := by decide +kernel
theorem dL_label_9 : decode cL_label 9 = .ok (.goto 9, 3) := by decide +kernel
theorem dL_label_12 : decode cL_label 12 = .ok (.astore_n 3, 1) := by decide +kernel
theorem dL_label_13 : decode cL_label 13 = .ok (.iconst 1, 1) := by decide +kernel
theorem dL_label_14 : decode cL_label 14 = .ok (.ireturn, 1) := by decide +kernel
theorem dL_label_15 : decode cL_label 15 = .ok (.astore_n 3, 1) := by decide +kernel
theorem dL_label_16 : decode cL_label 16 = .ok (.iconst 2, 1) := by decide +kernel
theorem dL_label_17 : decode cL_label 17 = .ok (.ireturn, 1) := by decide +kernel
theorem dL_label_18 : decode cL_label 18 = .ok (.iconst 0, 1) := by decide +kernel
theorem dL_label_19 : decode cL_label 19 = .ok (.ireturn, 1) := by decide +kernel
theorem dL_round_0 : decode cL_round 0 = .ok (.aload_n 2, 1) := by decide +kernel
theorem dL_round_1 : decode cL_round 1 = .ok (.iconst 0, 1) := by decide +kernel
theorem dL_round_2 : decode cL_round 2 = .ok (.aload_n 0, 1) := by decide +kernel
theorem dL_round_3 : decode cL_round 3 = .ok (.iload_n 1, 1) := by decide +kernel
theorem dL_round_4 : decode cL_round 4 = .ok (.invokevirtual 57, 3) := by decide +kernel
theorem dL_round_7 : decode cL_round 7 = .ok (.i2l, 1) := by decide +kernel
theorem dL_round_8 : decode cL_round 8 = .ok (.lastore, 1) := by decide +kernel
theorem dL_round_9 : decode cL_round 9 = .ok (.goto 9, 3) := by decide +kernel
theorem dL_round_12 : decode cL_round 12 = .ok (.astore_n 3, 1) := by decide +kernel
theorem dL_round_13 : decode cL_round 13 = .ok (.iconst 1, 1) := by decide +kernel
theorem dL_round_14 : decode cL_round 14 = .ok (.ireturn, 1) := by decide +kernel
theorem dL_round_15 : decode cL_round 15 = .ok (.astore_n 3, 1) := by decide +kernel
theorem dL_round_16 : decode cL_round 16 = .ok (.iconst 2, 1) := by decide +kernel
theorem dL_round_17 : decode cL_round 17 = .ok (.ireturn, 1) := by decide +kernel
theorem dL_round_18 : decode cL_round 18 = .ok (.iconst 0, 1) := by decide +kernel
theorem dL_round_19 : decode cL_round 19 = .ok (.ireturn, 1) := by decide +kernel
theorem dL_holds_0 : decode cL_holds 0 = .ok (.aload_n 2, 1) := by decide +kernel
theorem dL_holds_1 : decode cL_holds 1 = .ok (.iconst 0, 1) := by decide +kernel
theorem dL_holds_2 : decode cL_holds 2 = .ok (.aload_n 0, 1) := by decide +kernel
theorem dL_holds_3 : decode cL_holds 3 = .ok (.iload_n 1, 1) := by decide +kernel
theorem dL_holds_4 : decode cL_holds 4 = .ok (.invokevirtual 60, 3) := by decide +kernel
theorem dL_holds_7 : decode cL_holds 7 = .ok (.i2l, 1) := by decide +kernel
theorem dL_holds_8 : decode cL_holds 8 = .ok (.lastore, 1) := by decide +kernel
theorem dL_holds_9 : decode cL_holds 9 = .ok (.goto 9, 3) := by decide +kernel
theorem dL_holds_12 : decode cL_holds 12 = .ok (.astore_n 3, 1) := by decide +kernel
theorem dL_holds_13 : decode cL_holds 13 = .ok (.iconst 1, 1) := by decide +kernel
theorem dL_holds_14 : decode cL_holds 14 = .ok (.ireturn, 1) := by decide +kernel
theorem dL_holds_15 : decode cL_holds 15 = .ok (.astore_n 3, 1) := by decide +kernel
theorem dL_holds_16 : decode cL_holds 16 = .ok (.iconst 2, 1) := by decide +kernel
theorem dL_holds_17 : decode cL_holds 17 = .ok (.ireturn, 1) := by decide +kernel
theorem dL_holds_18 : decode cL_holds 18 = .ok (.iconst 0, 1) := by decide +kernel
theorem dL_holds_19 : decode cL_holds 19 = .ok (.ireturn, 1) := by decide +kernel
theorem dL_reasonFor_0 : decode cL_reasonFor 0 = .ok (.aload_n 2, 1) := by decide +kernel
theorem dL_reasonFor_1 : decode cL_reasonFor 1 = .ok (.iconst 0, 1) := by decide +kernel
theorem dL_reasonFor_2 : decode cL_reasonFor 2 = .ok (.aload_n 0, 1) := by decide +kernel
theorem dL_reasonFor_3 : decode cL_reasonFor 3 = .ok (.iload_n 1, 1) := by decide +kernel
theorem dL_reasonFor_4 : decode cL_reasonFor 4 = .ok (.invokevirtual 63, 3) := by decide +kernel
theorem dL_reasonFor_7 : decode cL_reasonFor 7 = .ok (.i2l, 1) := by decide +kernel
theorem dL_reasonFor_8 : decode cL_reasonFor 8 = .ok (.lastore, 1) := by decide +kernel
theorem dL_reasonFor_9 : decode cL_reasonFor 9 = .ok (.goto 9, 3) := by decide +kernel
theorem dL_reasonFor_12 : decode cL_reasonFor 12 = .ok (.astore_n 3, 1) := by decide +kernel
theorem dL_reasonFor_13 : decode cL_reasonFor 13 = .ok (.iconst 1, 1) := by decide +kernel
theorem dL_reasonFor_14 : decode cL_reasonFor 14 = .ok (.ireturn, 1) := by decide +kernel
theorem dL_reasonFor_15 : decode cL_reasonFor 15 = .ok (.astore_n 3, 1) := by decide +kernel
theorem dL_reasonFor_16 : decode cL_reasonFor 16 = .ok (.iconst 2, 1) := by decide +kernel
theorem dL_reasonFor_17 : decode cL_reasonFor 17 = .ok (.ireturn, 1) := by decide +kernel
theorem dL_reasonFor_18 : decode cL_reasonFor 18 = .ok (.iconst 0, 1) := by decide +kernel
theorem dL_reasonFor_19 : decode cL_reasonFor 19 = .ok (.ireturn, 1) := by decide +kernel
theorem dL_reasonAgainst_0 : decode cL_reasonAgainst 0 = .ok (.aload_n 2, 1) := by decide +kernel
theorem dL_reasonAgainst_1 : decode cL_reasonAgainst 1 = .ok (.iconst 0, 1) := by decide +kernel
theorem dL_reasonAgainst_2 : decode cL_reasonAgainst 2 = .ok (.aload_n 0, 1) := by decide +kernel
theorem dL_reasonAgainst_3 : decode cL_reasonAgainst 3 = .ok (.iload_n 1, 1) := by decide +kernel
theorem dL_reasonAgainst_4 : decode cL_reasonAgainst 4 = .ok (.invokevirtual 66, 3) := by decide +kernel
theorem dL_reasonAgainst_7 : decode cL_reasonAgainst 7 = .ok (.i2l, 1) := by decide +kernel
theorem dL_reasonAgainst_8 : decode cL_reasonAgainst 8 = .ok (.lastore, 1) := by decide +kernel
theorem dL_reasonAgainst_9 : decode cL_reasonAgainst 9 = .ok (.goto 9, 3) := by decide +kernel
theorem dL_reasonAgainst_12 : decode cL_reasonAgainst 12 = .ok (.astore_n 3, 1) := by decide +kernel
theorem dL_reasonAgainst_13 : decode cL_reasonAgainst 13 = .ok (.iconst 1, 1) := by decide +kernel
theorem dL_reasonAgainst_14 : decode cL_reasonAgainst 14 = .ok (.ireturn, 1) := by decide +kernel
theorem dL_reasonAgainst_15 : decode cL_reasonAgainst 15 = .ok (.astore_n 3, 1) := by decide +kernel
theorem dL_reasonAgainst_16 : decode cL_reasonAgainst 16 = .ok (.iconst 2, 1) := by decide +kernel
theorem dL_reasonAgainst_17 : decode cL_reasonAgainst 17 = .ok (.ireturn, 1) := by decide +kernel
theorem dL_reasonAgainst_18 : decode cL_reasonAgainst 18 = .ok (.iconst 0, 1) := by decide +kernel
theorem dL_reasonAgainst_19 : decode cL_reasonAgainst 19 = .ok (.ireturn, 1) := by decide +kernel
theorem dL_preferred_0 : decode cL_preferred 0 = .ok (.aload_n 1, 1) := by decide +kernel
theorem dL_preferred_1 : decode cL_preferred 1 = .ok (.iconst 0, 1) := by decide +kernel
theorem dL_preferred_2 : decode cL_preferred 2 = .ok (.aload_n 0, 1) := by decide +kernel
theorem dL_preferred_3 : decode cL_preferred 3 = .ok (.invokevirtual 69, 3) := by decide +kernel
theorem dL_preferred_6 : decode cL_preferred 6 = .ok (.i2l, 1) := by decide +kernel
theorem dL_preferred_7 : decode cL_preferred 7 = .ok (.lastore, 1) := by decide +kernel
theorem dL_preferred_8 : decode cL_preferred 8 = .ok (.goto 6, 3) := by decide +kernel
theorem dL_preferred_11 : decode cL_preferred 11 = .ok (.astore_n 2, 1) := by decide +kernel
theorem dL_preferred_12 : decode cL_preferred 12 = .ok (.iconst 1, 1) := by decide +kernel
theorem dL_preferred_13 : decode cL_preferred 13 = .ok (.ireturn, 1) := by decide +kernel
theorem dL_preferred_14 : decode cL_preferred 14 = .ok (.iconst 0, 1) := by decide +kernel
theorem dL_preferred_15 : decode cL_preferred 15 = .ok (.ireturn, 1) := by decide +kernel
theorem dL_preferredByAllSets_0 : decode cL_preferredByAllSets 0 = .ok (.aload_n 1, 1) := by decide +kernel
theorem dL_preferredByAllSets_1 : decode cL_preferredByAllSets 1 = .ok (.iconst 0, 1) := by decide +kernel
theorem dL_preferredByAllSets_2 : decode cL_preferredByAllSets 2 = .ok (.aload_n 0, 1) := by decide +kernel
theorem dL_preferredByAllSets_3 : decode cL_preferredByAllSets 3 = .ok (.invokevirtual 73, 3) := by decide +kernel
theorem dL_preferredByAllSets_6 : decode cL_preferredByAllSets 6 = .ok (.i2l, 1) := by decide +kernel
theorem dL_preferredByAllSets_7 : decode cL_preferredByAllSets 7 = .ok (.lastore, 1) := by decide +kernel
theorem dL_preferredByAllSets_8 : decode cL_preferredByAllSets 8 = .ok (.goto 6, 3) := by decide +kernel
theorem dL_preferredByAllSets_11 : decode cL_preferredByAllSets 11 = .ok (.astore_n 2, 1) := by decide +kernel
theorem dL_preferredByAllSets_12 : decode cL_preferredByAllSets 12 = .ok (.iconst 1, 1) := by decide +kernel
theorem dL_preferredByAllSets_13 : decode cL_preferredByAllSets 13 = .ok (.ireturn, 1) := by decide +kernel
theorem dL_preferredByAllSets_14 : decode cL_preferredByAllSets 14 = .ok (.iconst 0, 1) := by decide +kernel
theorem dL_preferredByAllSets_15 : decode cL_preferredByAllSets 15 = .ok (.ireturn, 1) := by decide +kernel
theorem dL_isInSet_0 : decode cL_isInSet 0 = .ok (.aload_n 3, 1) := by decide +kernel
theorem dL_isInSet_1 : decode cL_isInSet 1 = .ok (.iconst 0, 1) := by decide +kernel
theorem dL_isInSet_2 : decode cL_isInSet 2 = .ok (.aload_n 0, 1) := by decide +kernel
theorem dL_isInSet_3 : decode cL_isInSet 3 = .ok (.iload_n 1, 1) := by decide +kernel
theorem dL_isInSet_4 : decode cL_isInSet 4 = .ok (.iload_n 2, 1) := by decide +kernel
theorem dL_isInSet_5 : decode cL_isInSet 5 = .ok (.invokevirtual 76, 3) := by decide +kernel
theorem dL_isInSet_8 : decode cL_isInSet 8 = .ok (.ifCond .eq 7, 3) := by decide +kernel
theorem dL_isInSet_11 : decode cL_isInSet 11 = .ok (.lconst 1, 1) := by decide +kernel
theorem dL_isInSet_12 : decode cL_isInSet 12 = .ok (.goto 4, 3) := by decide +kernel
theorem dL_isInSet_15 : decode cL_isInSet 15 = .ok (.lconst 0, 1) := by decide +kernel
theorem dL_isInSet_16 : decode cL_isInSet 16 = .ok (.lastore, 1) := by decide +kernel
theorem dL_isInSet_17 : decode cL_isInSet 17 = .ok (.goto 11, 3) := by decide +kernel
theorem dL_isInSet_20 : decode cL_isInSet 20 = .ok (.astore 4, 2) := by decide +kernel
theorem dL_isInSet_22 : decode cL_isInSet 22 = .ok (.iconst 1, 1) := by decide +kernel
theorem dL_isInSet_23 : decode cL_isInSet 23 = .ok (.ireturn, 1) := by decide +kernel
theorem dL_isInSet_24 : decode cL_isInSet 24 = .ok (.astore 4, 2) := by decide +kernel
theorem dL_isInSet_26 : decode cL_isInSet 26 = .ok (.iconst 2, 1) := by decide +kernel
theorem dL_isInSet_27 : decode cL_isInSet 27 = .ok (.ireturn, 1) := by decide +kernel
theorem dL_isInSet_28 : decode cL_isInSet 28 = .ok (.iconst 0, 1) := by decide +kernel
theorem dL_isInSet_29 : decode cL_isInSet 29 = .ok (.ireturn, 1) := by decide +kernel
theorem dL_setsFor_0 : decode cL_setsFor 0 = .ok (.aload_n 2, 1) := by decide +kernel
theorem dL_setsFor_1 : decode cL_setsFor 1 = .ok (.iconst 0, 1) := by decide +kernel
theorem dL_setsFor_2 : decode cL_setsFor 2 = .ok (.aload_n 0, 1) := by decide +kernel
theorem dL_setsFor_3 : decode cL_setsFor 3 = .ok (.iload_n 1, 1) := by decide +kernel
theorem dL_setsFor_4 : decode cL_setsFor 4 = .ok (.invokevirtual 79, 3) := by decide +kernel
theorem dL_setsFor_7 : decode cL_setsFor 7 = .ok (.i2l, 1) := by decide +kernel
theorem dL_setsFor_8 : decode cL_setsFor 8 = .ok (.lastore, 1) := by decide +kernel
theorem dL_setsFor_9 : decode cL_setsFor 9 = .ok (.goto 9, 3) := by decide +kernel
theorem dL_setsFor_12 : decode cL_setsFor 12 = .ok (.astore_n 3, 1) := by decide +kernel
theorem dL_setsFor_13 : decode cL_setsFor 13 = .ok (.iconst 1, 1) := by decide +kernel
theorem dL_setsFor_14 : decode cL_setsFor 14 = .ok (.ireturn, 1) := by decide +kernel
theorem dL_setsFor_15 : decode cL_setsFor 15 = .ok (.astore_n 3, 1) := by decide +kernel
theorem dL_setsFor_16 : decode cL_setsFor 16 = .ok (.iconst 2, 1) := by decide +kernel
theorem dL_setsFor_17 : decode cL_setsFor 17 = .ok (.ireturn, 1) := by decide +kernel
theorem dL_setsFor_18 : decode cL_setsFor 18 = .ok (.iconst 0, 1) := by decide +kernel
theorem dL_setsFor_19 : decode cL_setsFor 19 = .ok (.ireturn, 1) := by decide +kernel
theorem dL_law_0 : decode cL_law 0 = .ok (.new 8, 3) := by decide +kernel
theorem dL_law_3 : decode cL_law 3 = .ok (.dup, 1) := by decide +kernel
theorem dL_law_4 : decode cL_law 4 = .ok (.invokespecial 82, 3) := by decide +kernel
theorem dL_law_7 : decode cL_law 7 = .ok (.astore_n 1, 1) := by decide +kernel
theorem dL_law_8 : decode cL_law 8 = .ok (.new 83, 3) := by decide +kernel
theorem dL_law_11 : decode cL_law 11 = .ok (.dup, 1) := by decide +kernel
theorem dL_law_12 : decode cL_law 12 = .ok (.invokespecial 85, 3) := by decide +kernel
theorem dL_law_15 : decode cL_law 15 = .ok (.astore_n 2, 1) := by decide +kernel
theorem dL_law_16 : decode cL_law 16 = .ok (.iconst 1, 1) := by decide +kernel
theorem dL_law_17 : decode cL_law 17 = .ok (.newarray .long, 2) := by decide +kernel
theorem dL_law_19 : decode cL_law 19 = .ok (.astore_n 3, 1) := by decide +kernel
theorem dL_law_20 : decode cL_law 20 = .ok (.iconst 0, 1) := by decide +kernel
theorem dL_law_21 : decode cL_law 21 = .ok (.istore 4, 2) := by decide +kernel
theorem dL_law_23 : decode cL_law 23 = .ok (.iload 4, 2) := by decide +kernel
theorem dL_law_25 : decode cL_law 25 = .ok (.aload_n 0, 1) := by decide +kernel
theorem dL_law_26 : decode cL_law 26 = .ok (.arraylength, 1) := by decide +kernel
theorem dL_law_27 : decode cL_law 27 = .ok (.bipush 6, 2) := by decide +kernel
theorem dL_law_29 : decode cL_law 29 = .ok (.isub, 1) := by decide +kernel
theorem dL_law_30 : decode cL_law 30 = .ok (.if_icmp .gt 1423, 3) := by decide +kernel
theorem dL_law_33 : decode cL_law 33 = .ok (.aload_n 0, 1) := by decide +kernel
theorem dL_law_34 : decode cL_law 34 = .ok (.iload 4, 2) := by decide +kernel
theorem dL_law_36 : decode cL_law 36 = .ok (.iaload, 1) := by decide +kernel
theorem dL_law_37 : decode cL_law 37 = .ok (.bipush 31, 2) := by decide +kernel
theorem dL_law_39 : decode cL_law 39 = .ok (.iand, 1) := by decide +kernel
theorem dL_law_40 : decode cL_law 40 = .ok (.tableswitch 1407 0 22 #[108, 164, 227, 331, 399, 467, 558, 571, 584, 597, 653, 709, 777, 833, 908, 964, 1020, 1076, 1132, 1188, 1232, 1276, 1351], 108) := by decide +kernel
theorem dL_law_148 : decode cL_law 148 = .ok (.aload_n 1, 1) := by decide +kernel
theorem dL_law_149 : decode cL_law 149 = .ok (.aload_n 0, 1) := by decide +kernel
theorem dL_law_150 : decode cL_law 150 = .ok (.iload 4, 2) := by decide +kernel
theorem dL_law_152 : decode cL_law 152 = .ok (.iconst 1, 1) := by decide +kernel
theorem dL_law_153 : decode cL_law 153 = .ok (.iadd, 1) := by decide +kernel
theorem dL_law_154 : decode cL_law 154 = .ok (.iaload, 1) := by decide +kernel
theorem dL_law_155 : decode cL_law 155 = .ok (.aload_n 3, 1) := by decide +kernel
theorem dL_law_156 : decode cL_law 156 = .ok (.invokestatic 86, 3) := by decide +kernel
theorem dL_law_159 : decode cL_law 159 = .ok (.istore 5, 2) := by decide +kernel
theorem dL_law_161 : decode cL_law 161 = .ok (.aload_n 2, 1) := by decide +kernel
theorem dL_law_162 : decode cL_law 162 = .ok (.aload_n 0, 1) := by decide +kernel
theorem dL_law_163 : decode cL_law 163 = .ok (.iload 4, 2) := by decide +kernel
theorem dL_law_165 : decode cL_law 165 = .ok (.iconst 1, 1) := by decide +kernel
theorem dL_law_166 : decode cL_law 166 = .ok (.iadd, 1) := by decide +kernel
theorem dL_law_167 : decode cL_law 167 = .ok (.iaload, 1) := by decide +kernel
theorem dL_law_168 : decode cL_law 168 = .ok (.invokevirtual 91, 3) := by decide +kernel
theorem dL_law_171 : decode cL_law 171 = .ok (.istore 6, 2) := by decide +kernel
theorem dL_law_173 : decode cL_law 173 = .ok (.aload_n 2, 1) := by decide +kernel
theorem dL_law_174 : decode cL_law 174 = .ok (.invokevirtual 92, 3) := by decide +kernel
theorem dL_law_177 : decode cL_law 177 = .ok (.iload 5, 2) := by decide +kernel
theorem dL_law_179 : decode cL_law 179 = .ok (.if_icmp .eq 5, 3) := by decide +kernel
theorem dL_law_182 : decode cL_law 182 = .ok (.iconst 0, 1) := by decide +kernel
theorem dL_law_183 : decode cL_law 183 = .ok (.ireturn, 1) := by decide +kernel
theorem dL_law_184 : decode cL_law 184 = .ok (.iload 5, 2) := by decide +kernel
theorem dL_law_186 : decode cL_law 186 = .ok (.ifCond .ne 15, 3) := by decide +kernel
theorem dL_law_189 : decode cL_law 189 = .ok (.aload_n 3, 1) := by decide +kernel
theorem dL_law_190 : decode cL_law 190 = .ok (.iconst 0, 1) := by decide +kernel
theorem dL_law_191 : decode cL_law 191 = .ok (.laload, 1) := by decide +kernel
theorem dL_law_192 : decode cL_law 192 = .ok (.iload 6, 2) := by decide +kernel
theorem dL_law_194 : decode cL_law 194 = .ok (.i2l, 1) := by decide +kernel
theorem dL_law_195 : decode cL_law 195 = .ok (.lcmp, 1) := by decide +kernel
theorem dL_law_196 : decode cL_law 196 = .ok (.ifCond .eq 5, 3) := by decide +kernel
theorem dL_law_199 : decode cL_law 199 = .ok (.iconst 0, 1) := by decide +kernel
theorem dL_law_200 : decode cL_law 200 = .ok (.ireturn, 1) := by decide +kernel
theorem dL_law_201 : decode cL_law 201 = .ok (.goto 1246, 3) := by decide +kernel
theorem dL_law_204 : decode cL_law 204 = .ok (.aload_n 1, 1) := by decide +kernel
theorem dL_law_205 : decode cL_law 205 = .ok (.aload_n 0, 1) := by decide +kernel
theorem dL_law_206 : decode cL_law 206 = .ok (.iload 4, 2) := by decide +kernel
theorem dL_law_208 : decode cL_law 208 = .ok (.iconst 1, 1) := by decide +kernel
theorem dL_law_209 : decode cL_law 209 = .ok (.iadd, 1) := by decide +kernel
theorem dL_law_210 : decode cL_law 210 = .ok (.iaload, 1) := by decide +kernel
theorem dL_law_211 : decode cL_law 211 = .ok (.aload_n 3, 1) := by decide +kernel
theorem dL_law_212 : decode cL_law 212 = .ok (.invokestatic 95, 3) := by decide +kernel
theorem dL_law_215 : decode cL_law 215 = .ok (.istore 5, 2) := by decide +kernel
theorem dL_law_217 : decode cL_law 217 = .ok (.aload_n 2, 1) := by decide +kernel
theorem dL_law_218 : decode cL_law 218 = .ok (.aload_n 0, 1) := by decide +kernel
theorem dL_law_219 : decode cL_law 219 = .ok (.iload 4, 2) := by decide +kernel
theorem dL_law_221 : decode cL_law 221 = .ok (.iconst 1, 1) := by decide +kernel
theorem dL_law_222 : decode cL_law 222 = .ok (.iadd, 1) := by decide +kernel
theorem dL_law_223 : decode cL_law 223 = .ok (.iaload, 1) := by decide +kernel
theorem dL_law_224 : decode cL_law 224 = .ok (.invokevirtual 97, 3) := by decide +kernel
theorem dL_law_227 : decode cL_law 227 = .ok (.istore 6, 2) := by decide +kernel
theorem dL_law_229 : decode cL_law 229 = .ok (.aload_n 2, 1) := by decide +kernel
theorem dL_law_230 : decode cL_law 230 = .ok (.invokevirtual 92, 3) := by decide +kernel
theorem dL_law_233 : decode cL_law 233 = .ok (.iload 5, 2) := by decide +kernel
theorem dL_law_235 : decode cL_law 235 = .ok (.if_icmp .eq 5, 3) := by decide +kernel
theorem dL_law_238 : decode cL_law 238 = .ok (.iconst 0, 1) := by decide +kernel
theorem dL_law_239 : decode cL_law 239 = .ok (.ireturn, 1) := by decide +kernel
theorem dL_law_240 : decode cL_law 240 = .ok (.iload 5, 2) := by decide +kernel
theorem dL_law_242 : decode cL_law 242 = .ok (.ifCond .ne 22, 3) := by decide +kernel
theorem dL_law_245 : decode cL_law 245 = .ok (.aload_n 3, 1) := by decide +kernel
theorem dL_law_246 : decode cL_law 246 = .ok (.iconst 0, 1) := by decide +kernel
theorem dL_law_247 : decode cL_law 247 = .ok (.laload, 1) := by decide +kernel
theorem dL_law_248 : decode cL_law 248 = .ok (.iload 6, 2) := by decide +kernel
theorem dL_law_250 : decode cL_law 250 = .ok (.ifCond .eq 7, 3) := by decide +kernel
theorem dL_law_253 : decode cL_law 253 = .ok (.lconst 1, 1) := by decide +kernel
theorem dL_law_254 : decode cL_law 254 = .ok (.goto 4, 3) := by decide +kernel
theorem dL_law_257 : decode cL_law 257 = .ok (.lconst 0, 1) := by decide +kernel
theorem dL_law_258 : decode cL_law 258 = .ok (.lcmp, 1) := by decide +kernel
theorem dL_law_259 : decode cL_law 259 = .ok (.ifCond .eq 5, 3) := by decide +kernel
theorem dL_law_262 : decode cL_law 262 = .ok (.iconst 0, 1) := by decide +kernel
theorem dL_law_263 : decode cL_law 263 = .ok (.ireturn, 1) := by decide +kernel
theorem dL_law_264 : decode cL_law 264 = .ok (.goto 1183, 3) := by decide +kernel
theorem dL_law_267 : decode cL_law 267 = .ok (.aload_n 1, 1) := by decide +kernel
theorem dL_law_268 : decode cL_law 268 = .ok (.aload_n 0, 1) := by decide +kernel
theorem dL_law_269 : decode cL_law 269 = .ok (.iload 4, 2) := by decide +kernel
theorem dL_law_271 : decode cL_law 271 = .ok (.iconst 1, 1) := by decide +kernel
theorem dL_law_272 : decode cL_law 272 = .ok (.iadd, 1) := by decide +kernel
theorem dL_law_273 : decode cL_law 273 = .ok (.iaload, 1) := by decide +kernel
theorem dL_law_274 : decode cL_law 274 = .ok (.aload_n 0, 1) := by decide +kernel
theorem dL_law_275 : decode cL_law 275 = .ok (.iload 4, 2) := by decide +kernel
theorem dL_law_277 : decode cL_law 277 = .ok (.iconst 2, 1) := by decide +kernel
theorem dL_law_278 : decode cL_law 278 = .ok (.iadd, 1) := by decide +kernel
theorem dL_law_279 : decode cL_law 279 = .ok (.iaload, 1) := by decide +kernel
theorem dL_law_280 : decode cL_law 280 = .ok (.aload_n 0, 1) := by decide +kernel
theorem dL_law_281 : decode cL_law 281 = .ok (.iload 4, 2) := by decide +kernel
theorem dL_law_283 : decode cL_law 283 = .ok (.iconst 3, 1) := by decide +kernel
theorem dL_law_284 : decode cL_law 284 = .ok (.iadd, 1) := by decide +kernel
theorem dL_law_285 : decode cL_law 285 = .ok (.iaload, 1) := by decide +kernel
theorem dL_law_286 : decode cL_law 286 = .ok (.aload_n 0, 1) := by decide +kernel
theorem dL_law_287 : decode cL_law 287 = .ok (.iload 4, 2) := by decide +kernel
theorem dL_law_289 : decode cL_law 289 = .ok (.iconst 4, 1) := by decide +kernel
theorem dL_law_290 : decode cL_law 290 = .ok (.iadd, 1) := by decide +kernel
theorem dL_law_291 : decode cL_law 291 = .ok (.iaload, 1) := by decide +kernel
theorem dL_law_292 : decode cL_law 292 = .ok (.aload_n 0, 1) := by decide +kernel
theorem dL_law_293 : decode cL_law 293 = .ok (.iload 4, 2) := by decide +kernel
theorem dL_law_295 : decode cL_law 295 = .ok (.iconst 5, 1) := by decide +kernel
theorem dL_law_296 : decode cL_law 296 = .ok (.iadd, 1) := by decide +kernel
theorem dL_law_297 : decode cL_law 297 = .ok (.iaload, 1) := by decide +kernel
theorem dL_law_298 : decode cL_law 298 = .ok (.aload_n 3, 1) := by decide +kernel
theorem dL_law_299 : decode cL_law 299 = .ok (.invokestatic 98, 3) := by decide +kernel
theorem dL_law_302 : decode cL_law 302 = .ok (.istore 5, 2) := by decide +kernel
theorem dL_law_304 : decode cL_law 304 = .ok (.aload_n 2, 1) := by decide +kernel
theorem dL_law_305 : decode cL_law 305 = .ok (.aload_n 0, 1) := by decide +kernel
theorem dL_law_306 : decode cL_law 306 = .ok (.iload 4, 2) := by decide +kernel
theorem dL_law_308 : decode cL_law 308 = .ok (.iconst 1, 1) := by decide +kernel
theorem dL_law_309 : decode cL_law 309 = .ok (.iadd, 1) := by decide +kernel
theorem dL_law_310 : decode cL_law 310 = .ok (.iaload, 1) := by decide +kernel
theorem dL_law_311 : decode cL_law 311 = .ok (.aload_n 0, 1) := by decide +kernel
theorem dL_law_312 : decode cL_law 312 = .ok (.iload 4, 2) := by decide +kernel
theorem dL_law_314 : decode cL_law 314 = .ok (.iconst 2, 1) := by decide +kernel
theorem dL_law_315 : decode cL_law 315 = .ok (.iadd, 1) := by decide +kernel
theorem dL_law_316 : decode cL_law 316 = .ok (.iaload, 1) := by decide +kernel
theorem dL_law_317 : decode cL_law 317 = .ok (.aload_n 0, 1) := by decide +kernel
theorem dL_law_318 : decode cL_law 318 = .ok (.iload 4, 2) := by decide +kernel
theorem dL_law_320 : decode cL_law 320 = .ok (.iconst 3, 1) := by decide +kernel
theorem dL_law_321 : decode cL_law 321 = .ok (.iadd, 1) := by decide +kernel
theorem dL_law_322 : decode cL_law 322 = .ok (.iaload, 1) := by decide +kernel
theorem dL_law_323 : decode cL_law 323 = .ok (.aload_n 0, 1) := by decide +kernel
theorem dL_law_324 : decode cL_law 324 = .ok (.iload 4, 2) := by decide +kernel
theorem dL_law_326 : decode cL_law 326 = .ok (.iconst 4, 1) := by decide +kernel
theorem dL_law_327 : decode cL_law 327 = .ok (.iadd, 1) := by decide +kernel
theorem dL_law_328 : decode cL_law 328 = .ok (.iaload, 1) := by decide +kernel
theorem dL_law_329 : decode cL_law 329 = .ok (.aload_n 0, 1) := by decide +kernel
theorem dL_law_330 : decode cL_law 330 = .ok (.iload 4, 2) := by decide +kernel
theorem dL_law_332 : decode cL_law 332 = .ok (.iconst 5, 1) := by decide +kernel
theorem dL_law_333 : decode cL_law 333 = .ok (.iadd, 1) := by decide +kernel
theorem dL_law_334 : decode cL_law 334 = .ok (.iaload, 1) := by decide +kernel
theorem dL_law_335 : decode cL_law 335 = .ok (.invokevirtual 101, 3) := by decide +kernel
theorem dL_law_338 : decode cL_law 338 = .ok (.istore 6, 2) := by decide +kernel
theorem dL_law_340 : decode cL_law 340 = .ok (.aload_n 2, 1) := by decide +kernel
theorem dL_law_341 : decode cL_law 341 = .ok (.invokevirtual 92, 3) := by decide +kernel
theorem dL_law_344 : decode cL_law 344 = .ok (.iload 5, 2) := by decide +kernel
theorem dL_law_346 : decode cL_law 346 = .ok (.if_icmp .eq 5, 3) := by decide +kernel
theorem dL_law_349 : decode cL_law 349 = .ok (.iconst 0, 1) := by decide +kernel
theorem dL_law_350 : decode cL_law 350 = .ok (.ireturn, 1) := by decide +kernel
theorem dL_law_351 : decode cL_law 351 = .ok (.iload 5, 2) := by decide +kernel
theorem dL_law_353 : decode cL_law 353 = .ok (.ifCond .ne 15, 3) := by decide +kernel
theorem dL_law_356 : decode cL_law 356 = .ok (.aload_n 3, 1) := by decide +kernel
theorem dL_law_357 : decode cL_law 357 = .ok (.iconst 0, 1) := by decide +kernel
theorem dL_law_358 : decode cL_law 358 = .ok (.laload, 1) := by decide +kernel
theorem dL_law_359 : decode cL_law 359 = .ok (.iload 6, 2) := by decide +kernel
theorem dL_law_361 : decode cL_law 361 = .ok (.i2l, 1) := by decide +kernel
theorem dL_law_362 : decode cL_law 362 = .ok (.lcmp, 1) := by decide +kernel
theorem dL_law_363 : decode cL_law 363 = .ok (.ifCond .eq 5, 3) := by decide +kernel
theorem dL_law_366 : decode cL_law 366 = .ok (.iconst 0, 1) := by decide +kernel
theorem dL_law_367 : decode cL_law 367 = .ok (.ireturn, 1) := by decide +kernel
theorem dL_law_368 : decode cL_law 368 = .ok (.goto 1079, 3) := by decide +kernel
theorem dL_law_371 : decode cL_law 371 = .ok (.aload_n 1, 1) := by decide +kernel
theorem dL_law_372 : decode cL_law 372 = .ok (.aload_n 0, 1) := by decide +kernel
theorem dL_law_373 : decode cL_law 373 = .ok (.iload 4, 2) := by decide +kernel
theorem dL_law_375 : decode cL_law 375 = .ok (.iconst 1, 1) := by decide +kernel
theorem dL_law_376 : decode cL_law 376 = .ok (.iadd, 1) := by decide +kernel
theorem dL_law_377 : decode cL_law 377 = .ok (.iaload, 1) := by decide +kernel
theorem dL_law_378 : decode cL_law 378 = .ok (.aload_n 0, 1) := by decide +kernel
theorem dL_law_379 : decode cL_law 379 = .ok (.iload 4, 2) := by decide +kernel
theorem dL_law_381 : decode cL_law 381 = .ok (.iconst 2, 1) := by decide +kernel
theorem dL_law_382 : decode cL_law 382 = .ok (.iadd, 1) := by decide +kernel
theorem dL_law_383 : decode cL_law 383 = .ok (.iaload, 1) := by decide +kernel
theorem dL_law_384 : decode cL_law 384 = .ok (.aload_n 3, 1) := by decide +kernel
theorem dL_law_385 : decode cL_law 385 = .ok (.invokestatic 102, 3) := by decide +kernel
theorem dL_law_388 : decode cL_law 388 = .ok (.istore 5, 2) := by decide +kernel
theorem dL_law_390 : decode cL_law 390 = .ok (.aload_n 2, 1) := by decide +kernel
theorem dL_law_391 : decode cL_law 391 = .ok (.aload_n 0, 1) := by decide +kernel
theorem dL_law_392 : decode cL_law 392 = .ok (.iload 4, 2) := by decide +kernel
theorem dL_law_394 : decode cL_law 394 = .ok (.iconst 1, 1) := by decide +kernel
theorem dL_law_395 : decode cL_law 395 = .ok (.iadd, 1) := by decide +kernel
theorem dL_law_396 : decode cL_law 396 = .ok (.iaload, 1) := by decide +kernel
theorem dL_law_397 : decode cL_law 397 = .ok (.aload_n 0, 1) := by decide +kernel
theorem dL_law_398 : decode cL_law 398 = .ok (.iload 4, 2) := by decide +kernel
theorem dL_law_400 : decode cL_law 400 = .ok (.iconst 2, 1) := by decide +kernel
theorem dL_law_401 : decode cL_law 401 = .ok (.iadd, 1) := by decide +kernel
theorem dL_law_402 : decode cL_law 402 = .ok (.iaload, 1) := by decide +kernel
theorem dL_law_403 : decode cL_law 403 = .ok (.invokevirtual 105, 3) := by decide +kernel
theorem dL_law_406 : decode cL_law 406 = .ok (.istore 6, 2) := by decide +kernel
theorem dL_law_408 : decode cL_law 408 = .ok (.aload_n 2, 1) := by decide +kernel
theorem dL_law_409 : decode cL_law 409 = .ok (.invokevirtual 92, 3) := by decide +kernel
theorem dL_law_412 : decode cL_law 412 = .ok (.iload 5, 2) := by decide +kernel
theorem dL_law_414 : decode cL_law 414 = .ok (.if_icmp .eq 5, 3) := by decide +kernel
theorem dL_law_417 : decode cL_law 417 = .ok (.iconst 0, 1) := by decide +kernel
theorem dL_law_418 : decode cL_law 418 = .ok (.ireturn, 1) := by decide +kernel
theorem dL_law_419 : decode cL_law 419 = .ok (.iload 5, 2) := by decide +kernel
theorem dL_law_421 : decode cL_law 421 = .ok (.ifCond .ne 15, 3) := by decide +kernel
theorem dL_law_424 : decode cL_law 424 = .ok (.aload_n 3, 1) := by decide +kernel
theorem dL_law_425 : decode cL_law 425 = .ok (.iconst 0, 1) := by decide +kernel
theorem dL_law_426 : decode cL_law 426 = .ok (.laload, 1) := by decide +kernel
theorem dL_law_427 : decode cL_law 427 = .ok (.iload 6, 2) := by decide +kernel
theorem dL_law_429 : decode cL_law 429 = .ok (.i2l, 1) := by decide +kernel
theorem dL_law_430 : decode cL_law 430 = .ok (.lcmp, 1) := by decide +kernel
theorem dL_law_431 : decode cL_law 431 = .ok (.ifCond .eq 5, 3) := by decide +kernel
theorem dL_law_434 : decode cL_law 434 = .ok (.iconst 0, 1) := by decide +kernel
theorem dL_law_435 : decode cL_law 435 = .ok (.ireturn, 1) := by decide +kernel
theorem dL_law_436 : decode cL_law 436 = .ok (.goto 1011, 3) := by decide +kernel
theorem dL_law_439 : decode cL_law 439 = .ok (.aload_n 1, 1) := by decide +kernel
theorem dL_law_440 : decode cL_law 440 = .ok (.aload_n 0, 1) := by decide +kernel
theorem dL_law_441 : decode cL_law 441 = .ok (.iload 4, 2) := by decide +kernel
theorem dL_law_443 : decode cL_law 443 = .ok (.iconst 1, 1) := by decide +kernel
theorem dL_law_444 : decode cL_law 444 = .ok (.iadd, 1) := by decide +kernel
theorem dL_law_445 : decode cL_law 445 = .ok (.iaload, 1) := by decide +kernel
theorem dL_law_446 : decode cL_law 446 = .ok (.aload_n 0, 1) := by decide +kernel
theorem dL_law_447 : decode cL_law 447 = .ok (.iload 4, 2) := by decide +kernel
theorem dL_law_449 : decode cL_law 449 = .ok (.iconst 2, 1) := by decide +kernel
theorem dL_law_450 : decode cL_law 450 = .ok (.iadd, 1) := by decide +kernel
theorem dL_law_451 : decode cL_law 451 = .ok (.iaload, 1) := by decide +kernel
theorem dL_law_452 : decode cL_law 452 = .ok (.aload_n 3, 1) := by decide +kernel
theorem dL_law_453 : decode cL_law 453 = .ok (.invokestatic 106, 3) := by decide +kernel
theorem dL_law_456 : decode cL_law 456 = .ok (.istore 5, 2) := by decide +kernel
theorem dL_law_458 : decode cL_law 458 = .ok (.aload_n 2, 1) := by decide +kernel
theorem dL_law_459 : decode cL_law 459 = .ok (.aload_n 0, 1) := by decide +kernel
theorem dL_law_460 : decode cL_law 460 = .ok (.iload 4, 2) := by decide +kernel
theorem dL_law_462 : decode cL_law 462 = .ok (.iconst 1, 1) := by decide +kernel
theorem dL_law_463 : decode cL_law 463 = .ok (.iadd, 1) := by decide +kernel
theorem dL_law_464 : decode cL_law 464 = .ok (.iaload, 1) := by decide +kernel
theorem dL_law_465 : decode cL_law 465 = .ok (.aload_n 0, 1) := by decide +kernel
theorem dL_law_466 : decode cL_law 466 = .ok (.iload 4, 2) := by decide +kernel
theorem dL_law_468 : decode cL_law 468 = .ok (.iconst 2, 1) := by decide +kernel
theorem dL_law_469 : decode cL_law 469 = .ok (.iadd, 1) := by decide +kernel
theorem dL_law_470 : decode cL_law 470 = .ok (.iaload, 1) := by decide +kernel
theorem dL_law_471 : decode cL_law 471 = .ok (.invokevirtual 108, 3) := by decide +kernel
theorem dL_law_474 : decode cL_law 474 = .ok (.istore 6, 2) := by decide +kernel
theorem dL_law_476 : decode cL_law 476 = .ok (.aload_n 2, 1) := by decide +kernel
theorem dL_law_477 : decode cL_law 477 = .ok (.invokevirtual 92, 3) := by decide +kernel
theorem dL_law_480 : decode cL_law 480 = .ok (.iload 5, 2) := by decide +kernel
theorem dL_law_482 : decode cL_law 482 = .ok (.if_icmp .eq 5, 3) := by decide +kernel
theorem dL_law_485 : decode cL_law 485 = .ok (.iconst 0, 1) := by decide +kernel
theorem dL_law_486 : decode cL_law 486 = .ok (.ireturn, 1) := by decide +kernel
theorem dL_law_487 : decode cL_law 487 = .ok (.iload 5, 2) := by decide +kernel
theorem dL_law_489 : decode cL_law 489 = .ok (.ifCond .ne 15, 3) := by decide +kernel
theorem dL_law_492 : decode cL_law 492 = .ok (.aload_n 3, 1) := by decide +kernel
theorem dL_law_493 : decode cL_law 493 = .ok (.iconst 0, 1) := by decide +kernel
theorem dL_law_494 : decode cL_law 494 = .ok (.laload, 1) := by decide +kernel
theorem dL_law_495 : decode cL_law 495 = .ok (.iload 6, 2) := by decide +kernel
theorem dL_law_497 : decode cL_law 497 = .ok (.i2l, 1) := by decide +kernel
theorem dL_law_498 : decode cL_law 498 = .ok (.lcmp, 1) := by decide +kernel
theorem dL_law_499 : decode cL_law 499 = .ok (.ifCond .eq 5, 3) := by decide +kernel
theorem dL_law_502 : decode cL_law 502 = .ok (.iconst 0, 1) := by decide +kernel
theorem dL_law_503 : decode cL_law 503 = .ok (.ireturn, 1) := by decide +kernel
theorem dL_law_504 : decode cL_law 504 = .ok (.goto 943, 3) := by decide +kernel
theorem dL_law_507 : decode cL_law 507 = .ok (.aload_n 1, 1) := by decide +kernel
theorem dL_law_508 : decode cL_law 508 = .ok (.aload_n 0, 1) := by decide +kernel
theorem dL_law_509 : decode cL_law 509 = .ok (.iload 4, 2) := by decide +kernel
theorem dL_law_511 : decode cL_law 511 = .ok (.iconst 1, 1) := by decide +kernel
theorem dL_law_512 : decode cL_law 512 = .ok (.iadd, 1) := by decide +kernel
theorem dL_law_513 : decode cL_law 513 = .ok (.iaload, 1) := by decide +kernel
theorem dL_law_514 : decode cL_law 514 = .ok (.aload_n 0, 1) := by decide +kernel
theorem dL_law_515 : decode cL_law 515 = .ok (.iload 4, 2) := by decide +kernel
theorem dL_law_517 : decode cL_law 517 = .ok (.iconst 2, 1) := by decide +kernel
theorem dL_law_518 : decode cL_law 518 = .ok (.iadd, 1) := by decide +kernel
theorem dL_law_519 : decode cL_law 519 = .ok (.iaload, 1) := by decide +kernel
theorem dL_law_520 : decode cL_law 520 = .ok (.ifCond .eq 7, 3) := by decide +kernel
theorem dL_law_523 : decode cL_law 523 = .ok (.iconst 1, 1) := by decide +kernel
theorem dL_law_524 : decode cL_law 524 = .ok (.goto 4, 3) := by decide +kernel
theorem dL_law_527 : decode cL_law 527 = .ok (.iconst 0, 1) := by decide +kernel
theorem dL_law_528 : decode cL_law 528 = .ok (.aload_n 3, 1) := by decide +kernel
theorem dL_law_529 : decode cL_law 529 = .ok (.invokestatic 109, 3) := by decide +kernel
theorem dL_law_532 : decode cL_law 532 = .ok (.istore 5, 2) := by decide +kernel
theorem dL_law_534 : decode cL_law 534 = .ok (.aload_n 2, 1) := by decide +kernel
theorem dL_law_535 : decode cL_law 535 = .ok (.aload_n 0, 1) := by decide +kernel
theorem dL_law_536 : decode cL_law 536 = .ok (.iload 4, 2) := by decide +kernel
theorem dL_law_538 : decode cL_law 538 = .ok (.iconst 1, 1) := by decide +kernel
theorem dL_law_539 : decode cL_law 539 = .ok (.iadd, 1) := by decide +kernel
theorem dL_law_540 : decode cL_law 540 = .ok (.iaload, 1) := by decide +kernel
theorem dL_law_541 : decode cL_law 541 = .ok (.aload_n 0, 1) := by decide +kernel
theorem dL_law_542 : decode cL_law 542 = .ok (.iload 4, 2) := by decide +kernel
theorem dL_law_544 : decode cL_law 544 = .ok (.iconst 2, 1) := by decide +kernel
theorem dL_law_545 : decode cL_law 545 = .ok (.iadd, 1) := by decide +kernel
theorem dL_law_546 : decode cL_law 546 = .ok (.iaload, 1) := by decide +kernel
theorem dL_law_547 : decode cL_law 547 = .ok (.ifCond .eq 7, 3) := by decide +kernel
theorem dL_law_550 : decode cL_law 550 = .ok (.iconst 1, 1) := by decide +kernel
theorem dL_law_551 : decode cL_law 551 = .ok (.goto 4, 3) := by decide +kernel
theorem dL_law_554 : decode cL_law 554 = .ok (.iconst 0, 1) := by decide +kernel
theorem dL_law_555 : decode cL_law 555 = .ok (.invokevirtual 112, 3) := by decide +kernel
theorem dL_law_558 : decode cL_law 558 = .ok (.istore 6, 2) := by decide +kernel
theorem dL_law_560 : decode cL_law 560 = .ok (.aload_n 2, 1) := by decide +kernel
theorem dL_law_561 : decode cL_law 561 = .ok (.invokevirtual 92, 3) := by decide +kernel
theorem dL_law_564 : decode cL_law 564 = .ok (.iload 5, 2) := by decide +kernel
theorem dL_law_566 : decode cL_law 566 = .ok (.if_icmp .eq 5, 3) := by decide +kernel
theorem dL_law_569 : decode cL_law 569 = .ok (.iconst 0, 1) := by decide +kernel
theorem dL_law_570 : decode cL_law 570 = .ok (.ireturn, 1) := by decide +kernel
theorem dL_law_571 : decode cL_law 571 = .ok (.iload 5, 2) := by decide +kernel
theorem dL_law_573 : decode cL_law 573 = .ok (.ifCond .ne 22, 3) := by decide +kernel
theorem dL_law_576 : decode cL_law 576 = .ok (.aload_n 3, 1) := by decide +kernel
theorem dL_law_577 : decode cL_law 577 = .ok (.iconst 0, 1) := by decide +kernel
theorem dL_law_578 : decode cL_law 578 = .ok (.laload, 1) := by decide +kernel
theorem dL_law_579 : decode cL_law 579 = .ok (.iload 6, 2) := by decide +kernel
theorem dL_law_581 : decode cL_law 581 = .ok (.ifCond .eq 7, 3) := by decide +kernel
theorem dL_law_584 : decode cL_law 584 = .ok (.lconst 1, 1) := by decide +kernel
theorem dL_law_585 : decode cL_law 585 = .ok (.goto 4, 3) := by decide +kernel
theorem dL_law_588 : decode cL_law 588 = .ok (.lconst 0, 1) := by decide +kernel
theorem dL_law_589 : decode cL_law 589 = .ok (.lcmp, 1) := by decide +kernel
theorem dL_law_590 : decode cL_law 590 = .ok (.ifCond .eq 5, 3) := by decide +kernel
theorem dL_law_593 : decode cL_law 593 = .ok (.iconst 0, 1) := by decide +kernel
theorem dL_law_594 : decode cL_law 594 = .ok (.ireturn, 1) := by decide +kernel
theorem dL_law_595 : decode cL_law 595 = .ok (.goto 852, 3) := by decide +kernel
theorem dL_law_598 : decode cL_law 598 = .ok (.aload_n 1, 1) := by decide +kernel
theorem dL_law_599 : decode cL_law 599 = .ok (.invokevirtual 113, 3) := by decide +kernel
theorem dL_law_602 : decode cL_law 602 = .ok (.aload_n 2, 1) := by decide +kernel
theorem dL_law_603 : decode cL_law 603 = .ok (.invokevirtual 116, 3) := by decide +kernel
theorem dL_law_606 : decode cL_law 606 = .ok (.if_icmp .eq 841, 3) := by decide +kernel
theorem dL_law_609 : decode cL_law 609 = .ok (.iconst 0, 1) := by decide +kernel
theorem dL_law_610 : decode cL_law 610 = .ok (.ireturn, 1) := by decide +kernel
theorem dL_law_611 : decode cL_law 611 = .ok (.aload_n 1, 1) := by decide +kernel
theorem dL_law_612 : decode cL_law 612 = .ok (.invokevirtual 117, 3) := by decide +kernel
theorem dL_law_615 : decode cL_law 615 = .ok (.aload_n 2, 1) := by decide +kernel
theorem dL_law_616 : decode cL_law 616 = .ok (.invokevirtual 120, 3) := by decide +kernel
theorem dL_law_619 : decode cL_law 619 = .ok (.if_icmp .eq 828, 3) := by decide +kernel
theorem dL_law_622 : decode cL_law 622 = .ok (.iconst 0, 1) := by decide +kernel
theorem dL_law_623 : decode cL_law 623 = .ok (.ireturn, 1) := by decide +kernel
theorem dL_law_624 : decode cL_law 624 = .ok (.aload_n 1, 1) := by decide +kernel
theorem dL_law_625 : decode cL_law 625 = .ok (.invokevirtual 121, 3) := by decide +kernel
theorem dL_law_628 : decode cL_law 628 = .ok (.aload_n 2, 1) := by decide +kernel
theorem dL_law_629 : decode cL_law 629 = .ok (.invokevirtual 124, 3) := by decide +kernel
theorem dL_law_632 : decode cL_law 632 = .ok (.if_icmp .eq 815, 3) := by decide +kernel
theorem dL_law_635 : decode cL_law 635 = .ok (.iconst 0, 1) := by decide +kernel
theorem dL_law_636 : decode cL_law 636 = .ok (.ireturn, 1) := by decide +kernel
theorem dL_law_637 : decode cL_law 637 = .ok (.aload_n 1, 1) := by decide +kernel
theorem dL_law_638 : decode cL_law 638 = .ok (.aload_n 0, 1) := by decide +kernel
theorem dL_law_639 : decode cL_law 639 = .ok (.iload 4, 2) := by decide +kernel
theorem dL_law_641 : decode cL_law 641 = .ok (.iconst 1, 1) := by decide +kernel
theorem dL_law_642 : decode cL_law 642 = .ok (.iadd, 1) := by decide +kernel
theorem dL_law_643 : decode cL_law 643 = .ok (.iaload, 1) := by decide +kernel
theorem dL_law_644 : decode cL_law 644 = .ok (.aload_n 3, 1) := by decide +kernel
theorem dL_law_645 : decode cL_law 645 = .ok (.invokestatic 125, 3) := by decide +kernel
theorem dL_law_648 : decode cL_law 648 = .ok (.istore 5, 2) := by decide +kernel
theorem dL_law_650 : decode cL_law 650 = .ok (.aload_n 2, 1) := by decide +kernel
theorem dL_law_651 : decode cL_law 651 = .ok (.aload_n 0, 1) := by decide +kernel
theorem dL_law_652 : decode cL_law 652 = .ok (.iload 4, 2) := by decide +kernel
theorem dL_law_654 : decode cL_law 654 = .ok (.iconst 1, 1) := by decide +kernel
theorem dL_law_655 : decode cL_law 655 = .ok (.iadd, 1) := by decide +kernel
theorem dL_law_656 : decode cL_law 656 = .ok (.iaload, 1) := by decide +kernel
theorem dL_law_657 : decode cL_law 657 = .ok (.invokevirtual 127, 3) := by decide +kernel
theorem dL_law_660 : decode cL_law 660 = .ok (.istore 6, 2) := by decide +kernel
theorem dL_law_662 : decode cL_law 662 = .ok (.aload_n 2, 1) := by decide +kernel
theorem dL_law_663 : decode cL_law 663 = .ok (.invokevirtual 92, 3) := by decide +kernel
theorem dL_law_666 : decode cL_law 666 = .ok (.iload 5, 2) := by decide +kernel
theorem dL_law_668 : decode cL_law 668 = .ok (.if_icmp .eq 5, 3) := by decide +kernel
theorem dL_law_671 : decode cL_law 671 = .ok (.iconst 0, 1) := by decide +kernel
theorem dL_law_672 : decode cL_law 672 = .ok (.ireturn, 1) := by decide +kernel
theorem dL_law_673 : decode cL_law 673 = .ok (.iload 5, 2) := by decide +kernel
theorem dL_law_675 : decode cL_law 675 = .ok (.ifCond .ne 15, 3) := by decide +kernel
theorem dL_law_678 : decode cL_law 678 = .ok (.aload_n 3, 1) := by decide +kernel
theorem dL_law_679 : decode cL_law 679 = .ok (.iconst 0, 1) := by decide +kernel
theorem dL_law_680 : decode cL_law 680 = .ok (.laload, 1) := by decide +kernel
theorem dL_law_681 : decode cL_law 681 = .ok (.iload 6, 2) := by decide +kernel
theorem dL_law_683 : decode cL_law 683 = .ok (.i2l, 1) := by decide +kernel
theorem dL_law_684 : decode cL_law 684 = .ok (.lcmp, 1) := by decide +kernel
theorem dL_law_685 : decode cL_law 685 = .ok (.ifCond .eq 5, 3) := by decide +kernel
theorem dL_law_688 : decode cL_law 688 = .ok (.iconst 0, 1) := by decide +kernel
theorem dL_law_689 : decode cL_law 689 = .ok (.ireturn, 1) := by decide +kernel
theorem dL_law_690 : decode cL_law 690 = .ok (.goto 757, 3) := by decide +kernel
theorem dL_law_693 : decode cL_law 693 = .ok (.aload_n 1, 1) := by decide +kernel
theorem dL_law_694 : decode cL_law 694 = .ok (.aload_n 0, 1) := by decide +kernel
theorem dL_law_695 : decode cL_law 695 = .ok (.iload 4, 2) := by decide +kernel
theorem dL_law_697 : decode cL_law 697 = .ok (.iconst 1, 1) := by decide +kernel
theorem dL_law_698 : decode cL_law 698 = .ok (.iadd, 1) := by decide +kernel
theorem dL_law_699 : decode cL_law 699 = .ok (.iaload, 1) := by decide +kernel
theorem dL_law_700 : decode cL_law 700 = .ok (.aload_n 3, 1) := by decide +kernel
theorem dL_law_701 : decode cL_law 701 = .ok (.invokestatic 128, 3) := by decide +kernel
theorem dL_law_704 : decode cL_law 704 = .ok (.istore 5, 2) := by decide +kernel
theorem dL_law_706 : decode cL_law 706 = .ok (.aload_n 2, 1) := by decide +kernel
theorem dL_law_707 : decode cL_law 707 = .ok (.aload_n 0, 1) := by decide +kernel
theorem dL_law_708 : decode cL_law 708 = .ok (.iload 4, 2) := by decide +kernel
theorem dL_law_710 : decode cL_law 710 = .ok (.iconst 1, 1) := by decide +kernel
theorem dL_law_711 : decode cL_law 711 = .ok (.iadd, 1) := by decide +kernel
theorem dL_law_712 : decode cL_law 712 = .ok (.iaload, 1) := by decide +kernel
theorem dL_law_713 : decode cL_law 713 = .ok (.invokevirtual 130, 3) := by decide +kernel
theorem dL_law_716 : decode cL_law 716 = .ok (.istore 6, 2) := by decide +kernel
theorem dL_law_718 : decode cL_law 718 = .ok (.aload_n 2, 1) := by decide +kernel
theorem dL_law_719 : decode cL_law 719 = .ok (.invokevirtual 92, 3) := by decide +kernel
theorem dL_law_722 : decode cL_law 722 = .ok (.iload 5, 2) := by decide +kernel
theorem dL_law_724 : decode cL_law 724 = .ok (.if_icmp .eq 5, 3) := by decide +kernel
theorem dL_law_727 : decode cL_law 727 = .ok (.iconst 0, 1) := by decide +kernel
theorem dL_law_728 : decode cL_law 728 = .ok (.ireturn, 1) := by decide +kernel
theorem dL_law_729 : decode cL_law 729 = .ok (.iload 5, 2) := by decide +kernel
theorem dL_law_731 : decode cL_law 731 = .ok (.ifCond .ne 15, 3) := by decide +kernel
theorem dL_law_734 : decode cL_law 734 = .ok (.aload_n 3, 1) := by decide +kernel
theorem dL_law_735 : decode cL_law 735 = .ok (.iconst 0, 1) := by decide +kernel
theorem dL_law_736 : decode cL_law 736 = .ok (.laload, 1) := by decide +kernel
theorem dL_law_737 : decode cL_law 737 = .ok (.iload 6, 2) := by decide +kernel
theorem dL_law_739 : decode cL_law 739 = .ok (.i2l, 1) := by decide +kernel
theorem dL_law_740 : decode cL_law 740 = .ok (.lcmp, 1) := by decide +kernel
theorem dL_law_741 : decode cL_law 741 = .ok (.ifCond .eq 5, 3) := by decide +kernel
theorem dL_law_744 : decode cL_law 744 = .ok (.iconst 0, 1) := by decide +kernel
theorem dL_law_745 : decode cL_law 745 = .ok (.ireturn, 1) := by decide +kernel
theorem dL_law_746 : decode cL_law 746 = .ok (.goto 701, 3) := by decide +kernel
theorem dL_law_749 : decode cL_law 749 = .ok (.aload_n 1, 1) := by decide +kernel
theorem dL_law_750 : decode cL_law 750 = .ok (.aload_n 0, 1) := by decide +kernel
theorem dL_law_751 : decode cL_law 751 = .ok (.iload 4, 2) := by decide +kernel
theorem dL_law_753 : decode cL_law 753 = .ok (.iconst 1, 1) := by decide +kernel
theorem dL_law_754 : decode cL_law 754 = .ok (.iadd, 1) := by decide +kernel
theorem dL_law_755 : decode cL_law 755 = .ok (.iaload, 1) := by decide +kernel
theorem dL_law_756 : decode cL_law 756 = .ok (.aload_n 0, 1) := by decide +kernel
theorem dL_law_757 : decode cL_law 757 = .ok (.iload 4, 2) := by decide +kernel
theorem dL_law_759 : decode cL_law 759 = .ok (.iconst 2, 1) := by decide +kernel
theorem dL_law_760 : decode cL_law 760 = .ok (.iadd, 1) := by decide +kernel
theorem dL_law_761 : decode cL_law 761 = .ok (.iaload, 1) := by decide +kernel
theorem dL_law_762 : decode cL_law 762 = .ok (.aload_n 3, 1) := by decide +kernel
theorem dL_law_763 : decode cL_law 763 = .ok (.invokestatic 131, 3) := by decide +kernel
theorem dL_law_766 : decode cL_law 766 = .ok (.istore 5, 2) := by decide +kernel
theorem dL_law_768 : decode cL_law 768 = .ok (.aload_n 2, 1) := by decide +kernel
theorem dL_law_769 : decode cL_law 769 = .ok (.aload_n 0, 1) := by decide +kernel
theorem dL_law_770 : decode cL_law 770 = .ok (.iload 4, 2) := by decide +kernel
theorem dL_law_772 : decode cL_law 772 = .ok (.iconst 1, 1) := by decide +kernel
theorem dL_law_773 : decode cL_law 773 = .ok (.iadd, 1) := by decide +kernel
theorem dL_law_774 : decode cL_law 774 = .ok (.iaload, 1) := by decide +kernel
theorem dL_law_775 : decode cL_law 775 = .ok (.aload_n 0, 1) := by decide +kernel
theorem dL_law_776 : decode cL_law 776 = .ok (.iload 4, 2) := by decide +kernel
theorem dL_law_778 : decode cL_law 778 = .ok (.iconst 2, 1) := by decide +kernel
theorem dL_law_779 : decode cL_law 779 = .ok (.iadd, 1) := by decide +kernel
theorem dL_law_780 : decode cL_law 780 = .ok (.iaload, 1) := by decide +kernel
theorem dL_law_781 : decode cL_law 781 = .ok (.invokevirtual 133, 3) := by decide +kernel
theorem dL_law_784 : decode cL_law 784 = .ok (.istore 6, 2) := by decide +kernel
theorem dL_law_786 : decode cL_law 786 = .ok (.aload_n 2, 1) := by decide +kernel
theorem dL_law_787 : decode cL_law 787 = .ok (.invokevirtual 92, 3) := by decide +kernel
theorem dL_law_790 : decode cL_law 790 = .ok (.iload 5, 2) := by decide +kernel
theorem dL_law_792 : decode cL_law 792 = .ok (.if_icmp .eq 5, 3) := by decide +kernel
theorem dL_law_795 : decode cL_law 795 = .ok (.iconst 0, 1) := by decide +kernel
theorem dL_law_796 : decode cL_law 796 = .ok (.ireturn, 1) := by decide +kernel
theorem dL_law_797 : decode cL_law 797 = .ok (.iload 5, 2) := by decide +kernel
theorem dL_law_799 : decode cL_law 799 = .ok (.ifCond .ne 15, 3) := by decide +kernel
theorem dL_law_802 : decode cL_law 802 = .ok (.aload_n 3, 1) := by decide +kernel
theorem dL_law_803 : decode cL_law 803 = .ok (.iconst 0, 1) := by decide +kernel
theorem dL_law_804 : decode cL_law 804 = .ok (.laload, 1) := by decide +kernel
theorem dL_law_805 : decode cL_law 805 = .ok (.iload 6, 2) := by decide +kernel
theorem dL_law_807 : decode cL_law 807 = .ok (.i2l, 1) := by decide +kernel
theorem dL_law_808 : decode cL_law 808 = .ok (.lcmp, 1) := by decide +kernel
theorem dL_law_809 : decode cL_law 809 = .ok (.ifCond .eq 5, 3) := by decide +kernel
theorem dL_law_812 : decode cL_law 812 = .ok (.iconst 0, 1) := by decide +kernel
theorem dL_law_813 : decode cL_law 813 = .ok (.ireturn, 1) := by decide +kernel
theorem dL_law_814 : decode cL_law 814 = .ok (.goto 633, 3) := by decide +kernel
theorem dL_law_817 : decode cL_law 817 = .ok (.aload_n 1, 1) := by decide +kernel
theorem dL_law_818 : decode cL_law 818 = .ok (.aload_n 0, 1) := by decide +kernel
theorem dL_law_819 : decode cL_law 819 = .ok (.iload 4, 2) := by decide +kernel
theorem dL_law_821 : decode cL_law 821 = .ok (.iconst 1, 1) := by decide +kernel
theorem dL_law_822 : decode cL_law 822 = .ok (.iadd, 1) := by decide +kernel
theorem dL_law_823 : decode cL_law 823 = .ok (.iaload, 1) := by decide +kernel
theorem dL_law_824 : decode cL_law 824 = .ok (.aload_n 3, 1) := by decide +kernel
theorem dL_law_825 : decode cL_law 825 = .ok (.invokestatic 134, 3) := by decide +kernel
theorem dL_law_828 : decode cL_law 828 = .ok (.istore 5, 2) := by decide +kernel
theorem dL_law_830 : decode cL_law 830 = .ok (.aload_n 2, 1) := by decide +kernel
theorem dL_law_831 : decode cL_law 831 = .ok (.aload_n 0, 1) := by decide +kernel
theorem dL_law_832 : decode cL_law 832 = .ok (.iload 4, 2) := by decide +kernel
theorem dL_law_834 : decode cL_law 834 = .ok (.iconst 1, 1) := by decide +kernel
theorem dL_law_835 : decode cL_law 835 = .ok (.iadd, 1) := by decide +kernel
theorem dL_law_836 : decode cL_law 836 = .ok (.iaload, 1) := by decide +kernel
theorem dL_law_837 : decode cL_law 837 = .ok (.invokevirtual 136, 3) := by decide +kernel
theorem dL_law_840 : decode cL_law 840 = .ok (.istore 6, 2) := by decide +kernel
theorem dL_law_842 : decode cL_law 842 = .ok (.aload_n 2, 1) := by decide +kernel
theorem dL_law_843 : decode cL_law 843 = .ok (.invokevirtual 92, 3) := by decide +kernel
theorem dL_law_846 : decode cL_law 846 = .ok (.iload 5, 2) := by decide +kernel
theorem dL_law_848 : decode cL_law 848 = .ok (.if_icmp .eq 5, 3) := by decide +kernel
theorem dL_law_851 : decode cL_law 851 = .ok (.iconst 0, 1) := by decide +kernel
theorem dL_law_852 : decode cL_law 852 = .ok (.ireturn, 1) := by decide +kernel
theorem dL_law_853 : decode cL_law 853 = .ok (.iload 5, 2) := by decide +kernel
theorem dL_law_855 : decode cL_law 855 = .ok (.ifCond .ne 15, 3) := by decide +kernel
theorem dL_law_858 : decode cL_law 858 = .ok (.aload_n 3, 1) := by decide +kernel
theorem dL_law_859 : decode cL_law 859 = .ok (.iconst 0, 1) := by decide +kernel
theorem dL_law_860 : decode cL_law 860 = .ok (.laload, 1) := by decide +kernel
theorem dL_law_861 : decode cL_law 861 = .ok (.iload 6, 2) := by decide +kernel
theorem dL_law_863 : decode cL_law 863 = .ok (.i2l, 1) := by decide +kernel
theorem dL_law_864 : decode cL_law 864 = .ok (.lcmp, 1) := by decide +kernel
theorem dL_law_865 : decode cL_law 865 = .ok (.ifCond .eq 5, 3) := by decide +kernel
theorem dL_law_868 : decode cL_law 868 = .ok (.iconst 0, 1) := by decide +kernel
theorem dL_law_869 : decode cL_law 869 = .ok (.ireturn, 1) := by decide +kernel
theorem dL_law_870 : decode cL_law 870 = .ok (.goto 577, 3) := by decide +kernel
theorem dL_law_873 : decode cL_law 873 = .ok (.aload_n 1, 1) := by decide +kernel
theorem dL_law_874 : decode cL_law 874 = .ok (.aload_n 0, 1) := by decide +kernel
theorem dL_law_875 : decode cL_law 875 = .ok (.iload 4, 2) := by decide +kernel
theorem dL_law_877 : decode cL_law 877 = .ok (.iconst 1, 1) := by decide +kernel
theorem dL_law_878 : decode cL_law 878 = .ok (.iadd, 1) := by decide +kernel
theorem dL_law_879 : decode cL_law 879 = .ok (.iaload, 1) := by decide +kernel
theorem dL_law_880 : decode cL_law 880 = .ok (.aload_n 0, 1) := by decide +kernel
theorem dL_law_881 : decode cL_law 881 = .ok (.iload 4, 2) := by decide +kernel
theorem dL_law_883 : decode cL_law 883 = .ok (.iconst 2, 1) := by decide +kernel
theorem dL_law_884 : decode cL_law 884 = .ok (.iadd, 1) := by decide +kernel
theorem dL_law_885 : decode cL_law 885 = .ok (.iaload, 1) := by decide +kernel
theorem dL_law_886 : decode cL_law 886 = .ok (.aload_n 3, 1) := by decide +kernel
theorem dL_law_887 : decode cL_law 887 = .ok (.invokestatic 137, 3) := by decide +kernel
theorem dL_law_890 : decode cL_law 890 = .ok (.istore 5, 2) := by decide +kernel
theorem dL_law_892 : decode cL_law 892 = .ok (.aload_n 2, 1) := by decide +kernel
theorem dL_law_893 : decode cL_law 893 = .ok (.aload_n 0, 1) := by decide +kernel
theorem dL_law_894 : decode cL_law 894 = .ok (.iload 4, 2) := by decide +kernel
theorem dL_law_896 : decode cL_law 896 = .ok (.iconst 1, 1) := by decide +kernel
theorem dL_law_897 : decode cL_law 897 = .ok (.iadd, 1) := by decide +kernel
theorem dL_law_898 : decode cL_law 898 = .ok (.iaload, 1) := by decide +kernel
theorem dL_law_899 : decode cL_law 899 = .ok (.aload_n 0, 1) := by decide +kernel
theorem dL_law_900 : decode cL_law 900 = .ok (.iload 4, 2) := by decide +kernel
theorem dL_law_902 : decode cL_law 902 = .ok (.iconst 2, 1) := by decide +kernel
theorem dL_law_903 : decode cL_law 903 = .ok (.iadd, 1) := by decide +kernel
theorem dL_law_904 : decode cL_law 904 = .ok (.iaload, 1) := by decide +kernel
theorem dL_law_905 : decode cL_law 905 = .ok (.invokevirtual 139, 3) := by decide +kernel
theorem dL_law_908 : decode cL_law 908 = .ok (.istore 6, 2) := by decide +kernel
theorem dL_law_910 : decode cL_law 910 = .ok (.aload_n 2, 1) := by decide +kernel
theorem dL_law_911 : decode cL_law 911 = .ok (.invokevirtual 92, 3) := by decide +kernel
theorem dL_law_914 : decode cL_law 914 = .ok (.iload 5, 2) := by decide +kernel
theorem dL_law_916 : decode cL_law 916 = .ok (.if_icmp .eq 5, 3) := by decide +kernel
theorem dL_law_919 : decode cL_law 919 = .ok (.iconst 0, 1) := by decide +kernel
theorem dL_law_920 : decode cL_law 920 = .ok (.ireturn, 1) := by decide +kernel
theorem dL_law_921 : decode cL_law 921 = .ok (.iload 5, 2) := by decide +kernel
theorem dL_law_923 : decode cL_law 923 = .ok (.ifCond .ne 22, 3) := by decide +kernel
theorem dL_law_926 : decode cL_law 926 = .ok (.aload_n 3, 1) := by decide +kernel
theorem dL_law_927 : decode cL_law 927 = .ok (.iconst 0, 1) := by decide +kernel
theorem dL_law_928 : decode cL_law 928 = .ok (.laload, 1) := by decide +kernel
theorem dL_law_929 : decode cL_law 929 = .ok (.iload 6, 2) := by decide +kernel
theorem dL_law_931 : decode cL_law 931 = .ok (.ifCond .eq 7, 3) := by decide +kernel
theorem dL_law_934 : decode cL_law 934 = .ok (.lconst 1, 1) := by decide +kernel
theorem dL_law_935 : decode cL_law 935 = .ok (.goto 4, 3) := by decide +kernel
theorem dL_law_938 : decode cL_law 938 = .ok (.lconst 0, 1) := by decide +kernel
theorem dL_law_939 : decode cL_law 939 = .ok (.lcmp, 1) := by decide +kernel
theorem dL_law_940 : decode cL_law 940 = .ok (.ifCond .eq 5, 3) := by decide +kernel
theorem dL_law_943 : decode cL_law 943 = .ok (.iconst 0, 1) := by decide +kernel
theorem dL_law_944 : decode cL_law 944 = .ok (.ireturn, 1) := by decide +kernel
theorem dL_law_945 : decode cL_law 945 = .ok (.goto 502, 3) := by decide +kernel
theorem dL_law_948 : decode cL_law 948 = .ok (.aload_n 1, 1) := by decide +kernel
theorem dL_law_949 : decode cL_law 949 = .ok (.aload_n 0, 1) := by decide +kernel
theorem dL_law_950 : decode cL_law 950 = .ok (.iload 4, 2) := by decide +kernel
theorem dL_law_952 : decode cL_law 952 = .ok (.iconst 1, 1) := by decide +kernel
theorem dL_law_953 : decode cL_law 953 = .ok (.iadd, 1) := by decide +kernel
theorem dL_law_954 : decode cL_law 954 = .ok (.iaload, 1) := by decide +kernel
theorem dL_law_955 : decode cL_law 955 = .ok (.aload_n 3, 1) := by decide +kernel
theorem dL_law_956 : decode cL_law 956 = .ok (.invokestatic 140, 3) := by decide +kernel
theorem dL_law_959 : decode cL_law 959 = .ok (.istore 5, 2) := by decide +kernel
theorem dL_law_961 : decode cL_law 961 = .ok (.aload_n 2, 1) := by decide +kernel
theorem dL_law_962 : decode cL_law 962 = .ok (.aload_n 0, 1) := by decide +kernel
theorem dL_law_963 : decode cL_law 963 = .ok (.iload 4, 2) := by decide +kernel
theorem dL_law_965 : decode cL_law 965 = .ok (.iconst 1, 1) := by decide +kernel
theorem dL_law_966 : decode cL_law 966 = .ok (.iadd, 1) := by decide +kernel
theorem dL_law_967 : decode cL_law 967 = .ok (.iaload, 1) := by decide +kernel
theorem dL_law_968 : decode cL_law 968 = .ok (.invokevirtual 142, 3) := by decide +kernel
theorem dL_law_971 : decode cL_law 971 = .ok (.istore 6, 2) := by decide +kernel
theorem dL_law_973 : decode cL_law 973 = .ok (.aload_n 2, 1) := by decide +kernel
theorem dL_law_974 : decode cL_law 974 = .ok (.invokevirtual 92, 3) := by decide +kernel
theorem dL_law_977 : decode cL_law 977 = .ok (.iload 5, 2) := by decide +kernel
theorem dL_law_979 : decode cL_law 979 = .ok (.if_icmp .eq 5, 3) := by decide +kernel
theorem dL_law_982 : decode cL_law 982 = .ok (.iconst 0, 1) := by decide +kernel
theorem dL_law_983 : decode cL_law 983 = .ok (.ireturn, 1) := by decide +kernel
theorem dL_law_984 : decode cL_law 984 = .ok (.iload 5, 2) := by decide +kernel
theorem dL_law_986 : decode cL_law 986 = .ok (.ifCond .ne 15, 3) := by decide +kernel
theorem dL_law_989 : decode cL_law 989 = .ok (.aload_n 3, 1) := by decide +kernel
theorem dL_law_990 : decode cL_law 990 = .ok (.iconst 0, 1) := by decide +kernel
theorem dL_law_991 : decode cL_law 991 = .ok (.laload, 1) := by decide +kernel
theorem dL_law_992 : decode cL_law 992 = .ok (.iload 6, 2) := by decide +kernel
theorem dL_law_994 : decode cL_law 994 = .ok (.i2l, 1) := by decide +kernel
theorem dL_law_995 : decode cL_law 995 = .ok (.lcmp, 1) := by decide +kernel
theorem dL_law_996 : decode cL_law 996 = .ok (.ifCond .eq 5, 3) := by decide +kernel
theorem dL_law_999 : decode cL_law 999 = .ok (.iconst 0, 1) := by decide +kernel
theorem dL_law_1000 : decode cL_law 1000 = .ok (.ireturn, 1) := by decide +kernel
theorem dL_law_1001 : decode cL_law 1001 = .ok (.goto 446, 3) := by decide +kernel
theorem dL_law_1004 : decode cL_law 1004 = .ok (.aload_n 1, 1) := by decide +kernel
theorem dL_law_1005 : decode cL_law 1005 = .ok (.aload_n 0, 1) := by decide +kernel
theorem dL_law_1006 : decode cL_law 1006 = .ok (.iload 4, 2) := by decide +kernel
theorem dL_law_1008 : decode cL_law 1008 = .ok (.iconst 1, 1) := by decide +kernel
theorem dL_law_1009 : decode cL_law 1009 = .ok (.iadd, 1) := by decide +kernel
theorem dL_law_1010 : decode cL_law 1010 = .ok (.iaload, 1) := by decide +kernel
theorem dL_law_1011 : decode cL_law 1011 = .ok (.aload_n 3, 1) := by decide +kernel
theorem dL_law_1012 : decode cL_law 1012 = .ok (.invokestatic 143, 3) := by decide +kernel
theorem dL_law_1015 : decode cL_law 1015 = .ok (.istore 5, 2) := by decide +kernel
theorem dL_law_1017 : decode cL_law 1017 = .ok (.aload_n 2, 1) := by decide +kernel
theorem dL_law_1018 : decode cL_law 1018 = .ok (.aload_n 0, 1) := by decide +kernel
theorem dL_law_1019 : decode cL_law 1019 = .ok (.iload 4, 2) := by decide +kernel
theorem dL_law_1021 : decode cL_law 1021 = .ok (.iconst 1, 1) := by decide +kernel
theorem dL_law_1022 : decode cL_law 1022 = .ok (.iadd, 1) := by decide +kernel
theorem dL_law_1023 : decode cL_law 1023 = .ok (.iaload, 1) := by decide +kernel
theorem dL_law_1024 : decode cL_law 1024 = .ok (.invokevirtual 145, 3) := by decide +kernel
theorem dL_law_1027 : decode cL_law 1027 = .ok (.istore 6, 2) := by decide +kernel
theorem dL_law_1029 : decode cL_law 1029 = .ok (.aload_n 2, 1) := by decide +kernel
theorem dL_law_1030 : decode cL_law 1030 = .ok (.invokevirtual 92, 3) := by decide +kernel
theorem dL_law_1033 : decode cL_law 1033 = .ok (.iload 5, 2) := by decide +kernel
theorem dL_law_1035 : decode cL_law 1035 = .ok (.if_icmp .eq 5, 3) := by decide +kernel
theorem dL_law_1038 : decode cL_law 1038 = .ok (.iconst 0, 1) := by decide +kernel
theorem dL_law_1039 : decode cL_law 1039 = .ok (.ireturn, 1) := by decide +kernel
theorem dL_law_1040 : decode cL_law 1040 = .ok (.iload 5, 2) := by decide +kernel
theorem dL_law_1042 : decode cL_law 1042 = .ok (.ifCond .ne 15, 3) := by decide +kernel
theorem dL_law_1045 : decode cL_law 1045 = .ok (.aload_n 3, 1) := by decide +kernel
theorem dL_law_1046 : decode cL_law 1046 = .ok (.iconst 0, 1) := by decide +kernel
theorem dL_law_1047 : decode cL_law 1047 = .ok (.laload, 1) := by decide +kernel
theorem dL_law_1048 : decode cL_law 1048 = .ok (.iload 6, 2) := by decide +kernel
theorem dL_law_1050 : decode cL_law 1050 = .ok (.i2l, 1) := by decide +kernel
theorem dL_law_1051 : decode cL_law 1051 = .ok (.lcmp, 1) := by decide +kernel
theorem dL_law_1052 : decode cL_law 1052 = .ok (.ifCond .eq 5, 3) := by decide +kernel
theorem dL_law_1055 : decode cL_law 1055 = .ok (.iconst 0, 1) := by decide +kernel
theorem dL_law_1056 : decode cL_law 1056 = .ok (.ireturn, 1) := by decide +kernel
theorem dL_law_1057 : decode cL_law 1057 = .ok (.goto 390, 3) := by decide +kernel
theorem dL_law_1060 : decode cL_law 1060 = .ok (.aload_n 1, 1) := by decide +kernel
theorem dL_law_1061 : decode cL_law 1061 = .ok (.aload_n 0, 1) := by decide +kernel
theorem dL_law_1062 : decode cL_law 1062 = .ok (.iload 4, 2) := by decide +kernel
theorem dL_law_1064 : decode cL_law 1064 = .ok (.iconst 1, 1) := by decide +kernel
theorem dL_law_1065 : decode cL_law 1065 = .ok (.iadd, 1) := by decide +kernel
theorem dL_law_1066 : decode cL_law 1066 = .ok (.iaload, 1) := by decide +kernel
theorem dL_law_1067 : decode cL_law 1067 = .ok (.aload_n 3, 1) := by decide +kernel
theorem dL_law_1068 : decode cL_law 1068 = .ok (.invokestatic 146, 3) := by decide +kernel
theorem dL_law_1071 : decode cL_law 1071 = .ok (.istore 5, 2) := by decide +kernel
theorem dL_law_1073 : decode cL_law 1073 = .ok (.aload_n 2, 1) := by decide +kernel
theorem dL_law_1074 : decode cL_law 1074 = .ok (.aload_n 0, 1) := by decide +kernel
theorem dL_law_1075 : decode cL_law 1075 = .ok (.iload 4, 2) := by decide +kernel
theorem dL_law_1077 : decode cL_law 1077 = .ok (.iconst 1, 1) := by decide +kernel
theorem dL_law_1078 : decode cL_law 1078 = .ok (.iadd, 1) := by decide +kernel
theorem dL_law_1079 : decode cL_law 1079 = .ok (.iaload, 1) := by decide +kernel
theorem dL_law_1080 : decode cL_law 1080 = .ok (.invokevirtual 148, 3) := by decide +kernel
theorem dL_law_1083 : decode cL_law 1083 = .ok (.istore 6, 2) := by decide +kernel
theorem dL_law_1085 : decode cL_law 1085 = .ok (.aload_n 2, 1) := by decide +kernel
theorem dL_law_1086 : decode cL_law 1086 = .ok (.invokevirtual 92, 3) := by decide +kernel
theorem dL_law_1089 : decode cL_law 1089 = .ok (.iload 5, 2) := by decide +kernel
theorem dL_law_1091 : decode cL_law 1091 = .ok (.if_icmp .eq 5, 3) := by decide +kernel
theorem dL_law_1094 : decode cL_law 1094 = .ok (.iconst 0, 1) := by decide +kernel
theorem dL_law_1095 : decode cL_law 1095 = .ok (.ireturn, 1) := by decide +kernel
theorem dL_law_1096 : decode cL_law 1096 = .ok (.iload 5, 2) := by decide +kernel
theorem dL_law_1098 : decode cL_law 1098 = .ok (.ifCond .ne 15, 3) := by decide +kernel
theorem dL_law_1101 : decode cL_law 1101 = .ok (.aload_n 3, 1) := by decide +kernel
theorem dL_law_1102 : decode cL_law 1102 = .ok (.iconst 0, 1) := by decide +kernel
theorem dL_law_1103 : decode cL_law 1103 = .ok (.laload, 1) := by decide +kernel
theorem dL_law_1104 : decode cL_law 1104 = .ok (.iload 6, 2) := by decide +kernel
theorem dL_law_1106 : decode cL_law 1106 = .ok (.i2l, 1) := by decide +kernel
theorem dL_law_1107 : decode cL_law 1107 = .ok (.lcmp, 1) := by decide +kernel
theorem dL_law_1108 : decode cL_law 1108 = .ok (.ifCond .eq 5, 3) := by decide +kernel
theorem dL_law_1111 : decode cL_law 1111 = .ok (.iconst 0, 1) := by decide +kernel
theorem dL_law_1112 : decode cL_law 1112 = .ok (.ireturn, 1) := by decide +kernel
theorem dL_law_1113 : decode cL_law 1113 = .ok (.goto 334, 3) := by decide +kernel
theorem dL_law_1116 : decode cL_law 1116 = .ok (.aload_n 1, 1) := by decide +kernel
theorem dL_law_1117 : decode cL_law 1117 = .ok (.aload_n 0, 1) := by decide +kernel
theorem dL_law_1118 : decode cL_law 1118 = .ok (.iload 4, 2) := by decide +kernel
theorem dL_law_1120 : decode cL_law 1120 = .ok (.iconst 1, 1) := by decide +kernel
theorem dL_law_1121 : decode cL_law 1121 = .ok (.iadd, 1) := by decide +kernel
theorem dL_law_1122 : decode cL_law 1122 = .ok (.iaload, 1) := by decide +kernel
theorem dL_law_1123 : decode cL_law 1123 = .ok (.aload_n 3, 1) := by decide +kernel
theorem dL_law_1124 : decode cL_law 1124 = .ok (.invokestatic 149, 3) := by decide +kernel
theorem dL_law_1127 : decode cL_law 1127 = .ok (.istore 5, 2) := by decide +kernel
theorem dL_law_1129 : decode cL_law 1129 = .ok (.aload_n 2, 1) := by decide +kernel
theorem dL_law_1130 : decode cL_law 1130 = .ok (.aload_n 0, 1) := by decide +kernel
theorem dL_law_1131 : decode cL_law 1131 = .ok (.iload 4, 2) := by decide +kernel
theorem dL_law_1133 : decode cL_law 1133 = .ok (.iconst 1, 1) := by decide +kernel
theorem dL_law_1134 : decode cL_law 1134 = .ok (.iadd, 1) := by decide +kernel
theorem dL_law_1135 : decode cL_law 1135 = .ok (.iaload, 1) := by decide +kernel
theorem dL_law_1136 : decode cL_law 1136 = .ok (.invokevirtual 151, 3) := by decide +kernel
theorem dL_law_1139 : decode cL_law 1139 = .ok (.istore 6, 2) := by decide +kernel
theorem dL_law_1141 : decode cL_law 1141 = .ok (.aload_n 2, 1) := by decide +kernel
theorem dL_law_1142 : decode cL_law 1142 = .ok (.invokevirtual 92, 3) := by decide +kernel
theorem dL_law_1145 : decode cL_law 1145 = .ok (.iload 5, 2) := by decide +kernel
theorem dL_law_1147 : decode cL_law 1147 = .ok (.if_icmp .eq 5, 3) := by decide +kernel
theorem dL_law_1150 : decode cL_law 1150 = .ok (.iconst 0, 1) := by decide +kernel
theorem dL_law_1151 : decode cL_law 1151 = .ok (.ireturn, 1) := by decide +kernel
theorem dL_law_1152 : decode cL_law 1152 = .ok (.iload 5, 2) := by decide +kernel
theorem dL_law_1154 : decode cL_law 1154 = .ok (.ifCond .ne 15, 3) := by decide +kernel
theorem dL_law_1157 : decode cL_law 1157 = .ok (.aload_n 3, 1) := by decide +kernel
theorem dL_law_1158 : decode cL_law 1158 = .ok (.iconst 0, 1) := by decide +kernel
theorem dL_law_1159 : decode cL_law 1159 = .ok (.laload, 1) := by decide +kernel
theorem dL_law_1160 : decode cL_law 1160 = .ok (.iload 6, 2) := by decide +kernel
theorem dL_law_1162 : decode cL_law 1162 = .ok (.i2l, 1) := by decide +kernel
theorem dL_law_1163 : decode cL_law 1163 = .ok (.lcmp, 1) := by decide +kernel
theorem dL_law_1164 : decode cL_law 1164 = .ok (.ifCond .eq 5, 3) := by decide +kernel
theorem dL_law_1167 : decode cL_law 1167 = .ok (.iconst 0, 1) := by decide +kernel
theorem dL_law_1168 : decode cL_law 1168 = .ok (.ireturn, 1) := by decide +kernel
theorem dL_law_1169 : decode cL_law 1169 = .ok (.goto 278, 3) := by decide +kernel
theorem dL_law_1172 : decode cL_law 1172 = .ok (.aload_n 1, 1) := by decide +kernel
theorem dL_law_1173 : decode cL_law 1173 = .ok (.aload_n 0, 1) := by decide +kernel
theorem dL_law_1174 : decode cL_law 1174 = .ok (.iload 4, 2) := by decide +kernel
theorem dL_law_1176 : decode cL_law 1176 = .ok (.iconst 1, 1) := by decide +kernel
theorem dL_law_1177 : decode cL_law 1177 = .ok (.iadd, 1) := by decide +kernel
theorem dL_law_1178 : decode cL_law 1178 = .ok (.iaload, 1) := by decide +kernel
theorem dL_law_1179 : decode cL_law 1179 = .ok (.aload_n 3, 1) := by decide +kernel
theorem dL_law_1180 : decode cL_law 1180 = .ok (.invokestatic 152, 3) := by decide +kernel
theorem dL_law_1183 : decode cL_law 1183 = .ok (.istore 5, 2) := by decide +kernel
theorem dL_law_1185 : decode cL_law 1185 = .ok (.aload_n 2, 1) := by decide +kernel
theorem dL_law_1186 : decode cL_law 1186 = .ok (.aload_n 0, 1) := by decide +kernel
theorem dL_law_1187 : decode cL_law 1187 = .ok (.iload 4, 2) := by decide +kernel
theorem dL_law_1189 : decode cL_law 1189 = .ok (.iconst 1, 1) := by decide +kernel
theorem dL_law_1190 : decode cL_law 1190 = .ok (.iadd, 1) := by decide +kernel
theorem dL_law_1191 : decode cL_law 1191 = .ok (.iaload, 1) := by decide +kernel
theorem dL_law_1192 : decode cL_law 1192 = .ok (.invokevirtual 154, 3) := by decide +kernel
theorem dL_law_1195 : decode cL_law 1195 = .ok (.istore 6, 2) := by decide +kernel
theorem dL_law_1197 : decode cL_law 1197 = .ok (.aload_n 2, 1) := by decide +kernel
theorem dL_law_1198 : decode cL_law 1198 = .ok (.invokevirtual 92, 3) := by decide +kernel
theorem dL_law_1201 : decode cL_law 1201 = .ok (.iload 5, 2) := by decide +kernel
theorem dL_law_1203 : decode cL_law 1203 = .ok (.if_icmp .eq 5, 3) := by decide +kernel
theorem dL_law_1206 : decode cL_law 1206 = .ok (.iconst 0, 1) := by decide +kernel
theorem dL_law_1207 : decode cL_law 1207 = .ok (.ireturn, 1) := by decide +kernel
theorem dL_law_1208 : decode cL_law 1208 = .ok (.iload 5, 2) := by decide +kernel
theorem dL_law_1210 : decode cL_law 1210 = .ok (.ifCond .ne 15, 3) := by decide +kernel
theorem dL_law_1213 : decode cL_law 1213 = .ok (.aload_n 3, 1) := by decide +kernel
theorem dL_law_1214 : decode cL_law 1214 = .ok (.iconst 0, 1) := by decide +kernel
theorem dL_law_1215 : decode cL_law 1215 = .ok (.laload, 1) := by decide +kernel
theorem dL_law_1216 : decode cL_law 1216 = .ok (.iload 6, 2) := by decide +kernel
theorem dL_law_1218 : decode cL_law 1218 = .ok (.i2l, 1) := by decide +kernel
theorem dL_law_1219 : decode cL_law 1219 = .ok (.lcmp, 1) := by decide +kernel
theorem dL_law_1220 : decode cL_law 1220 = .ok (.ifCond .eq 5, 3) := by decide +kernel
theorem dL_law_1223 : decode cL_law 1223 = .ok (.iconst 0, 1) := by decide +kernel
theorem dL_law_1224 : decode cL_law 1224 = .ok (.ireturn, 1) := by decide +kernel
theorem dL_law_1225 : decode cL_law 1225 = .ok (.goto 222, 3) := by decide +kernel
theorem dL_law_1228 : decode cL_law 1228 = .ok (.aload_n 1, 1) := by decide +kernel
theorem dL_law_1229 : decode cL_law 1229 = .ok (.aload_n 3, 1) := by decide +kernel
theorem dL_law_1230 : decode cL_law 1230 = .ok (.invokestatic 155, 3) := by decide +kernel
theorem dL_law_1233 : decode cL_law 1233 = .ok (.istore 5, 2) := by decide +kernel
theorem dL_law_1235 : decode cL_law 1235 = .ok (.aload_n 2, 1) := by decide +kernel
theorem dL_law_1236 : decode cL_law 1236 = .ok (.invokevirtual 158, 3) := by decide +kernel
theorem dL_law_1239 : decode cL_law 1239 = .ok (.istore 6, 2) := by decide +kernel
theorem dL_law_1241 : decode cL_law 1241 = .ok (.aload_n 2, 1) := by decide +kernel
theorem dL_law_1242 : decode cL_law 1242 = .ok (.invokevirtual 92, 3) := by decide +kernel
theorem dL_law_1245 : decode cL_law 1245 = .ok (.iload 5, 2) := by decide +kernel
theorem dL_law_1247 : decode cL_law 1247 = .ok (.if_icmp .eq 5, 3) := by decide +kernel
theorem dL_law_1250 : decode cL_law 1250 = .ok (.iconst 0, 1) := by decide +kernel
theorem dL_law_1251 : decode cL_law 1251 = .ok (.ireturn, 1) := by decide +kernel
theorem dL_law_1252 : decode cL_law 1252 = .ok (.iload 5, 2) := by decide +kernel
theorem dL_law_1254 : decode cL_law 1254 = .ok (.ifCond .ne 15, 3) := by decide +kernel
theorem dL_law_1257 : decode cL_law 1257 = .ok (.aload_n 3, 1) := by decide +kernel
theorem dL_law_1258 : decode cL_law 1258 = .ok (.iconst 0, 1) := by decide +kernel
theorem dL_law_1259 : decode cL_law 1259 = .ok (.laload, 1) := by decide +kernel
theorem dL_law_1260 : decode cL_law 1260 = .ok (.iload 6, 2) := by decide +kernel
theorem dL_law_1262 : decode cL_law 1262 = .ok (.i2l, 1) := by decide +kernel
theorem dL_law_1263 : decode cL_law 1263 = .ok (.lcmp, 1) := by decide +kernel
theorem dL_law_1264 : decode cL_law 1264 = .ok (.ifCond .eq 5, 3) := by decide +kernel
theorem dL_law_1267 : decode cL_law 1267 = .ok (.iconst 0, 1) := by decide +kernel
theorem dL_law_1268 : decode cL_law 1268 = .ok (.ireturn, 1) := by decide +kernel
theorem dL_law_1269 : decode cL_law 1269 = .ok (.goto 178, 3) := by decide +kernel
theorem dL_law_1272 : decode cL_law 1272 = .ok (.aload_n 1, 1) := by decide +kernel
theorem dL_law_1273 : decode cL_law 1273 = .ok (.aload_n 3, 1) := by decide +kernel
theorem dL_law_1274 : decode cL_law 1274 = .ok (.invokestatic 159, 3) := by decide +kernel
theorem dL_law_1277 : decode cL_law 1277 = .ok (.istore 5, 2) := by decide +kernel
theorem dL_law_1279 : decode cL_law 1279 = .ok (.aload_n 2, 1) := by decide +kernel
theorem dL_law_1280 : decode cL_law 1280 = .ok (.invokevirtual 161, 3) := by decide +kernel
theorem dL_law_1283 : decode cL_law 1283 = .ok (.istore 6, 2) := by decide +kernel
theorem dL_law_1285 : decode cL_law 1285 = .ok (.aload_n 2, 1) := by decide +kernel
theorem dL_law_1286 : decode cL_law 1286 = .ok (.invokevirtual 92, 3) := by decide +kernel
theorem dL_law_1289 : decode cL_law 1289 = .ok (.iload 5, 2) := by decide +kernel
theorem dL_law_1291 : decode cL_law 1291 = .ok (.if_icmp .eq 5, 3) := by decide +kernel
theorem dL_law_1294 : decode cL_law 1294 = .ok (.iconst 0, 1) := by decide +kernel
theorem dL_law_1295 : decode cL_law 1295 = .ok (.ireturn, 1) := by decide +kernel
theorem dL_law_1296 : decode cL_law 1296 = .ok (.iload 5, 2) := by decide +kernel
theorem dL_law_1298 : decode cL_law 1298 = .ok (.ifCond .ne 15, 3) := by decide +kernel
theorem dL_law_1301 : decode cL_law 1301 = .ok (.aload_n 3, 1) := by decide +kernel
theorem dL_law_1302 : decode cL_law 1302 = .ok (.iconst 0, 1) := by decide +kernel
theorem dL_law_1303 : decode cL_law 1303 = .ok (.laload, 1) := by decide +kernel
theorem dL_law_1304 : decode cL_law 1304 = .ok (.iload 6, 2) := by decide +kernel
theorem dL_law_1306 : decode cL_law 1306 = .ok (.i2l, 1) := by decide +kernel
theorem dL_law_1307 : decode cL_law 1307 = .ok (.lcmp, 1) := by decide +kernel
theorem dL_law_1308 : decode cL_law 1308 = .ok (.ifCond .eq 5, 3) := by decide +kernel
theorem dL_law_1311 : decode cL_law 1311 = .ok (.iconst 0, 1) := by decide +kernel
theorem dL_law_1312 : decode cL_law 1312 = .ok (.ireturn, 1) := by decide +kernel
theorem dL_law_1313 : decode cL_law 1313 = .ok (.goto 134, 3) := by decide +kernel
theorem dL_law_1316 : decode cL_law 1316 = .ok (.aload_n 1, 1) := by decide +kernel
theorem dL_law_1317 : decode cL_law 1317 = .ok (.aload_n 0, 1) := by decide +kernel
theorem dL_law_1318 : decode cL_law 1318 = .ok (.iload 4, 2) := by decide +kernel
theorem dL_law_1320 : decode cL_law 1320 = .ok (.iconst 1, 1) := by decide +kernel
theorem dL_law_1321 : decode cL_law 1321 = .ok (.iadd, 1) := by decide +kernel
theorem dL_law_1322 : decode cL_law 1322 = .ok (.iaload, 1) := by decide +kernel
theorem dL_law_1323 : decode cL_law 1323 = .ok (.aload_n 0, 1) := by decide +kernel
theorem dL_law_1324 : decode cL_law 1324 = .ok (.iload 4, 2) := by decide +kernel
theorem dL_law_1326 : decode cL_law 1326 = .ok (.iconst 2, 1) := by decide +kernel
theorem dL_law_1327 : decode cL_law 1327 = .ok (.iadd, 1) := by decide +kernel
theorem dL_law_1328 : decode cL_law 1328 = .ok (.iaload, 1) := by decide +kernel
theorem dL_law_1329 : decode cL_law 1329 = .ok (.aload_n 3, 1) := by decide +kernel
theorem dL_law_1330 : decode cL_law 1330 = .ok (.invokestatic 162, 3) := by decide +kernel
theorem dL_law_1333 : decode cL_law 1333 = .ok (.istore 5, 2) := by decide +kernel
theorem dL_law_1335 : decode cL_law 1335 = .ok (.aload_n 2, 1) := by decide +kernel
theorem dL_law_1336 : decode cL_law 1336 = .ok (.aload_n 0, 1) := by decide +kernel
theorem dL_law_1337 : decode cL_law 1337 = .ok (.iload 4, 2) := by decide +kernel
theorem dL_law_1339 : decode cL_law 1339 = .ok (.iconst 1, 1) := by decide +kernel
theorem dL_law_1340 : decode cL_law 1340 = .ok (.iadd, 1) := by decide +kernel
theorem dL_law_1341 : decode cL_law 1341 = .ok (.iaload, 1) := by decide +kernel
theorem dL_law_1342 : decode cL_law 1342 = .ok (.aload_n 0, 1) := by decide +kernel
theorem dL_law_1343 : decode cL_law 1343 = .ok (.iload 4, 2) := by decide +kernel
theorem dL_law_1345 : decode cL_law 1345 = .ok (.iconst 2, 1) := by decide +kernel
theorem dL_law_1346 : decode cL_law 1346 = .ok (.iadd, 1) := by decide +kernel
theorem dL_law_1347 : decode cL_law 1347 = .ok (.iaload, 1) := by decide +kernel
theorem dL_law_1348 : decode cL_law 1348 = .ok (.invokevirtual 164, 3) := by decide +kernel
theorem dL_law_1351 : decode cL_law 1351 = .ok (.istore 6, 2) := by decide +kernel
theorem dL_law_1353 : decode cL_law 1353 = .ok (.aload_n 2, 1) := by decide +kernel
theorem dL_law_1354 : decode cL_law 1354 = .ok (.invokevirtual 92, 3) := by decide +kernel
theorem dL_law_1357 : decode cL_law 1357 = .ok (.iload 5, 2) := by decide +kernel
theorem dL_law_1359 : decode cL_law 1359 = .ok (.if_icmp .eq 5, 3) := by decide +kernel
theorem dL_law_1362 : decode cL_law 1362 = .ok (.iconst 0, 1) := by decide +kernel
theorem dL_law_1363 : decode cL_law 1363 = .ok (.ireturn, 1) := by decide +kernel
theorem dL_law_1364 : decode cL_law 1364 = .ok (.iload 5, 2) := by decide +kernel
theorem dL_law_1366 : decode cL_law 1366 = .ok (.ifCond .ne 22, 3) := by decide +kernel
theorem dL_law_1369 : decode cL_law 1369 = .ok (.aload_n 3, 1) := by decide +kernel
theorem dL_law_1370 : decode cL_law 1370 = .ok (.iconst 0, 1) := by decide +kernel
theorem dL_law_1371 : decode cL_law 1371 = .ok (.laload, 1) := by decide +kernel
theorem dL_law_1372 : decode cL_law 1372 = .ok (.iload 6, 2) := by decide +kernel
theorem dL_law_1374 : decode cL_law 1374 = .ok (.ifCond .eq 7, 3) := by decide +kernel
theorem dL_law_1377 : decode cL_law 1377 = .ok (.lconst 1, 1) := by decide +kernel
theorem dL_law_1378 : decode cL_law 1378 = .ok (.goto 4, 3) := by decide +kernel
theorem dL_law_1381 : decode cL_law 1381 = .ok (.lconst 0, 1) := by decide +kernel
theorem dL_law_1382 : decode cL_law 1382 = .ok (.lcmp, 1) := by decide +kernel
theorem dL_law_1383 : decode cL_law 1383 = .ok (.ifCond .eq 5, 3) := by decide +kernel
theorem dL_law_1386 : decode cL_law 1386 = .ok (.iconst 0, 1) := by decide +kernel
theorem dL_law_1387 : decode cL_law 1387 = .ok (.ireturn, 1) := by decide +kernel
theorem dL_law_1388 : decode cL_law 1388 = .ok (.goto 59, 3) := by decide +kernel
theorem dL_law_1391 : decode cL_law 1391 = .ok (.aload_n 1, 1) := by decide +kernel
theorem dL_law_1392 : decode cL_law 1392 = .ok (.aload_n 0, 1) := by decide +kernel
theorem dL_law_1393 : decode cL_law 1393 = .ok (.iload 4, 2) := by decide +kernel
theorem dL_law_1395 : decode cL_law 1395 = .ok (.iconst 1, 1) := by decide +kernel
theorem dL_law_1396 : decode cL_law 1396 = .ok (.iadd, 1) := by decide +kernel
theorem dL_law_1397 : decode cL_law 1397 = .ok (.iaload, 1) := by decide +kernel
theorem dL_law_1398 : decode cL_law 1398 = .ok (.aload_n 3, 1) := by decide +kernel
theorem dL_law_1399 : decode cL_law 1399 = .ok (.invokestatic 165, 3) := by decide +kernel
theorem dL_law_1402 : decode cL_law 1402 = .ok (.istore 5, 2) := by decide +kernel
theorem dL_law_1404 : decode cL_law 1404 = .ok (.aload_n 2, 1) := by decide +kernel
theorem dL_law_1405 : decode cL_law 1405 = .ok (.aload_n 0, 1) := by decide +kernel
theorem dL_law_1406 : decode cL_law 1406 = .ok (.iload 4, 2) := by decide +kernel
theorem dL_law_1408 : decode cL_law 1408 = .ok (.iconst 1, 1) := by decide +kernel
theorem dL_law_1409 : decode cL_law 1409 = .ok (.iadd, 1) := by decide +kernel
theorem dL_law_1410 : decode cL_law 1410 = .ok (.iaload, 1) := by decide +kernel
theorem dL_law_1411 : decode cL_law 1411 = .ok (.invokevirtual 167, 3) := by decide +kernel
theorem dL_law_1414 : decode cL_law 1414 = .ok (.istore 6, 2) := by decide +kernel
theorem dL_law_1416 : decode cL_law 1416 = .ok (.aload_n 2, 1) := by decide +kernel
theorem dL_law_1417 : decode cL_law 1417 = .ok (.invokevirtual 92, 3) := by decide +kernel
theorem dL_law_1420 : decode cL_law 1420 = .ok (.iload 5, 2) := by decide +kernel
theorem dL_law_1422 : decode cL_law 1422 = .ok (.if_icmp .eq 5, 3) := by decide +kernel
theorem dL_law_1425 : decode cL_law 1425 = .ok (.iconst 0, 1) := by decide +kernel
theorem dL_law_1426 : decode cL_law 1426 = .ok (.ireturn, 1) := by decide +kernel
theorem dL_law_1427 : decode cL_law 1427 = .ok (.iload 5, 2) := by decide +kernel
theorem dL_law_1429 : decode cL_law 1429 = .ok (.ifCond .ne 15, 3) := by decide +kernel
theorem dL_law_1432 : decode cL_law 1432 = .ok (.aload_n 3, 1) := by decide +kernel
theorem dL_law_1433 : decode cL_law 1433 = .ok (.iconst 0, 1) := by decide +kernel
theorem dL_law_1434 : decode cL_law 1434 = .ok (.laload, 1) := by decide +kernel
theorem dL_law_1435 : decode cL_law 1435 = .ok (.iload 6, 2) := by decide +kernel
theorem dL_law_1437 : decode cL_law 1437 = .ok (.i2l, 1) := by decide +kernel
theorem dL_law_1438 : decode cL_law 1438 = .ok (.lcmp, 1) := by decide +kernel
theorem dL_law_1439 : decode cL_law 1439 = .ok (.ifCond .eq 5, 3) := by decide +kernel
theorem dL_law_1442 : decode cL_law 1442 = .ok (.iconst 0, 1) := by decide +kernel
theorem dL_law_1443 : decode cL_law 1443 = .ok (.ireturn, 1) := by decide +kernel
theorem dL_law_1444 : decode cL_law 1444 = .ok (.goto 3, 3) := by decide +kernel
theorem dL_law_1447 : decode cL_law 1447 = .ok (.iinc 4 6, 3) := by decide +kernel
theorem dL_law_1450 : decode cL_law 1450 = .ok (.goto (-1427), 3) := by decide +kernel
theorem dL_law_1453 : decode cL_law 1453 = .ok (.iconst 1, 1) := by decide +kernel
theorem dL_law_1454 : decode cL_law 1454 = .ok (.ireturn, 1) := by decide +kernel
end
section
/-! THE LAYER: one world for all: cells by number, at addresses g, with contents f; every contract speaks of the whole world, so no cell is ever cut out -/
def wd_l (g : Nat → Nat) (N : Nat) (f : Nat → va_E) : va_W := (List.range N).map (fun k => (g k, f k))
theorem wd_get {g : Nat → Nat} {N : Nat} {f : Nat → va_E} {k : Nat} (h : k < N) : (wd_l g N f)[k]? = some (g k, f k) := by simp [wd_l, h]
theorem wd_inv {g : Nat → Nat} {N : Nat} {f : Nat → va_E} {k : Nat} {q : Nat × va_E} (h : (wd_l g N f)[k]? = some q) : k < N ∧ q = (g k, f k) := by
  have hl : k < (wd_l g N f).length := (List.getElem?_eq_some_iff.mp h).1
  have hk : k < N := by simpa [wd_l] using hl
  rw [wd_get hk] at h
  exact ⟨hk, (Option.some.inj h).symm⟩
theorem wd_set (g : Nat → Nat) (N : Nat) (f : Nat → va_E) (k : Nat) (e : va_E) : (wd_l g N f).set k (g k, e) = wd_l g N (va_up f k e) := by
  apply List.ext_getElem?
  intro j
  by_cases hj : j < N
  · rw [wd_get hj]
    by_cases hk : j = k
    · subst hk
      rw [List.getElem?_set_self (by simpa [wd_l] using hj), va_up_self]
    · rw [List.getElem?_set_ne (Ne.symm hk), wd_get hj, va_up_ne _ _ hk]
  · rw [List.getElem?_eq_none (by simp [wd_l]; omega), List.getElem?_eq_none (by simp [wd_l]; omega)]
theorem wd_push (g : Nat → Nat) (N : Nat) (f : Nat → va_E) (a : Nat) (e : va_E) : wd_l g N f ++ [(a, e)] = wd_l (va_up g N a) (N + 1) (va_up f N e) := by
  simp only [wd_l, List.range_succ, List.map_append, List.map_cons, List.map_nil, va_up_self]
  congr 1
  apply List.map_congr_left
  intro b hb
  have h1 : b < N := List.mem_range.mp hb
  rw [va_up_ne _ _ (by omega), va_up_ne _ _ (by omega)]
/-- what a method may change: the world's cells, and new ones -/
def wA (g : Nat → Nat) (N sz : Nat) : Nat → Prop := fun q => (∃ k, k < N ∧ q = g k) ∨ sz ≤ q
def wTy (cy : Nat → ClassId) : List (ClassId × FieldType) := [(cy 0, .int), (cy 1, .boolean), (cy 2, .object "java/lang/Object"), (cy 3, .long)]
def wLay : List Cond := vwCl.flatMap (fun q => u_ws q.1 q.2.1 q.2.2)
def wExc : List Cond := vx_atS RX9 93 "java/lang/IllegalArgumentException" ["java/lang/RuntimeException", "java/lang/Exception"] ++ (vx_atS RX9 63 "java/lang/IllegalStateException" ["java/lang/RuntimeException", "java/lang/Exception"] ++ vx_atS RX9 155 "java/lang/IndexOutOfBoundsException" ["java/lang/RuntimeException", "java/lang/Exception"])
def wOkw : Cond → Bool
  | .fieldLinkNest .. => true
  | .methodLinkNest .. => true
  | .castable .. => true
  | .declares .. => true
  | w => w.onTables && w.keeps
theorem wOkw_warm {w : Cond} (h : wOkw w = true) {s U : State} (hW : s.WarmedH U.vm) (hb : w.before #[] s = true) : w.before #[] U = true := by
  cases w <;> first
    | exact va_Nw.warmF hW hb
    | exact va_Nw.warmM hW hb
    | exact va_Nw.warmC hW hb
    | exact va_Nw.warmD hW hb
    | exact word_at hW (Or.inl h) hb
def wWords : List Cond := wAll ++ (wLay ++ wExc)
theorem wWords_ok : wWords.all (fun w => wOkw w && w.onTables) = true := by decide +kernel
def wStrs : List (Nat × String) := [(61, "it or its opposite is a fact"), (91, "a literal follows a 0 or comes twice"), (94, "a literal comes twice"), (100, "there are 12 rules"), (153, "no such part"), (195, "no such preferred set"), (203, "0 is no literal"), (208, "literal out of range"), (210, "priority out of range"), (212, "no such rule"), (214, "too many arguments"), (216, "too many arguments for preferred sets"), (218, "no such argument")]
def xIA : String := "java/lang/IllegalArgumentException"
def xIS : String := "java/lang/IllegalStateException"
def xIB : String := "java/lang/IndexOutOfBoundsException"
def wNcs : List (String × String) := [(xIA, xIS), (xIA, xIB), (xIS, xIA), (xIS, xIB), (xIB, xIA), (xIB, xIS)]
/-- what stands through the whole run: tables, words, texts, statics -/
def wE (D : va_G) (cy : Nat → Nat) (A : Nat → Prop) (U : State) (H : Heap) : Prop :=
  va_K D vwCl (wTy cy) U ∧ (∀ w ∈ wWords, w.before #[] U = true) ∧ (∀ q ∈ wStrs, ∃ sa, vk_R RX9 q.1 q.2 sa U) ∧ (∀ q ∈ wNcs, va_Nc q.1 q.2 U) ∧
  vx_Zq Bundle.tN "UNASSIGNED_STACK" Bundle.steD A U H ∧ vx_Zq Bundle.tN "SUPPRESSED_SENTINEL" Bundle.listD A U H ∧
  va_Z "java/util/ArrayList" "DEFAULTCAPACITY_EMPTY_ELEMENTDATA" "[Ljava/lang/Object;" (.ref (cy 9)) A U H ∧ va_T (.object "java/lang/Object") (cy 9) 0 (fun _ => .null) A U H ∧ va_Mi "[Ljava/lang/Object;" (cy 8) U ∧ (∀ ty, ty = .int ∨ ty = .boolean ∨ ty = .long → (Cond.arrayClass ty).before #[] U = true)
theorem wE.go {D : va_G} {cy : Nat → Nat} {A B : Nat → Prop} {s U : State} {H H1 : Heap} (h : wE D cy A s H) (hW : s.WarmedH U.vm) (hq : ∀ q : Nat, q < H.size → ¬ A q → H1[q]? = H[q]?) (hAB : ∀ q, B q → A q) : wE D cy B U H1 := by
  obtain ⟨h1, h2, h3, h4, h5, h6, h7, h8, h9, h10⟩ := h
  have ha : s.vm.Alike U.vm := hW.alike
  refine ⟨va_K.moved ha h1, fun w hw => ?_, fun q hq => ?_, fun q hq => va_Nc.moved ha (h4 q hq), ((h5.kept hq).moved ha).narrow hAB, ((h6.kept hq).moved ha).narrow hAB, ((h7.kept hq).moved ha).narrow hAB, ((h8.kept hq).moved ha).narrow hAB, va_Mi.moved ha h9, fun ty hty => word_at hW (Or.inr ⟨ty, rfl⟩) (h10 ty hty)⟩
  · have hk := List.all_eq_true.mp wWords_ok w hw
    rw [Bool.and_eq_true] at hk
    exact wOkw_warm hk.1 hW (h2 w hw)
  · obtain ⟨sa, h⟩ := h3 q hq
    exact ⟨sa, vk_R.warm hW h⟩
theorem wE.calling {D : va_G} {cy : Nat → Nat} {A : Nat → Prop} {U : State} {H : Heap} {g : JFrame} {mk : MethodId} {a : Array Value} (h : wE D cy A U H) : wE D cy A (U.calling g mk a) H := h.go (U := U.calling g mk a) (State.WarmedH.refl U) (fun _ _ _ => rfl) (fun _ h => h)
/-- a method's start -/
def wPre (D : va_G) (cy : Nat → Nat) (g : Nat → Nat) (N : Nat) (f : Nat → va_E) (sz : Nat) (U : State) : Prop :=
  U.heap.size = sz ∧ va_P D vwCl (wd_l g N f) U.heap ∧ va_D (fun _ => True) (wd_l g N f) ∧ wE D cy (wA g N sz) U U.heap
def wPo (D : va_G) (g : Nat → Nat) (N sz : Nat) (f : Nat → va_E) (t : State) : Prop := va_P D vwCl (wd_l g N f) t.heap ∧ va_D (wA g N sz) (wd_l g N f)
def wR (d mc ms : Nat) : Room := { frames := d, cells := mc, slots := ms, locals := 40 * d }
/-- contracts: of methods that only read (an int, a cell), that write (an int, nothing), that make cells, that may throw -/
def cRi (l : Launch) (D : va_G) (cy : Nat → Nat) (y : MethodName) (cc : ByteArray) (maxL : Nat) (ret : Option FieldType) (d : Nat) (av : List Value) (g : Nat → Nat) (N : Nat) (f : Nat → va_E) (post : Int32 → Prop) : Prop :=
  Met l y [.code y cc maxL ret] (wR d 0 0) (va_Pc av (fun U => wPre D cy g N f U.heap.size U)) (vp_Si post) 0 0 (fun _ => False)
def cRr (l : Launch) (D : va_G) (cy : Nat → Nat) (y : MethodName) (cc : ByteArray) (maxL : Nat) (ret : Option FieldType) (d : Nat) (av : List Value) (g : Nat → Nat) (N : Nat) (f : Nat → va_E) (post : Nat → Prop) : Prop :=
  Met l y [.code y cc maxL ret] (wR d 0 0) (va_Pc av (fun U => wPre D cy g N f U.heap.size U)) (va_Sr post (fun k => .ref (g k))) 0 0 (fun _ => False)
def cWi (l : Launch) (D : va_G) (cy : Nat → Nat) (y : MethodName) (cc : ByteArray) (maxL : Nat) (ret : Option FieldType) (d mc ms : Nat) (av : List Value) (g : Nat → Nat) (N : Nat) (f : Nat → va_E) (post : Int32 → (Nat → va_E) → Prop) : Prop :=
  ∀ sz, Met l y [.code y cc maxL ret] (wR d mc ms) (va_Pc av (wPre D cy g N f sz)) (va_Qi post (fun f' t => wPo D g N sz f' t) (wA g N sz)) mc ms (wA g N sz)
def cWv (l : Launch) (D : va_G) (cy : Nat → Nat) (y : MethodName) (cc : ByteArray) (maxL : Nat) (ret : Option FieldType) (d mc ms : Nat) (av : List Value) (g : Nat → Nat) (N : Nat) (f : Nat → va_E) (post : (Nat → va_E) → Prop) : Prop :=
  ∀ sz, Met l y [.code y cc maxL ret] (wR d mc ms) (va_Pc av (wPre D cy g N f sz)) (va_Qv post (fun f' t => wPo D g N sz f' t) (wA g N sz)) mc ms (wA g N sz)
/-- what a maker leaves: addresses, number and contents anew; all in A -/
def wPn (D : va_G) (A : Nat → Prop) (u : (Nat → Nat) × Nat × (Nat → va_E)) (t : State) : Prop := va_P D vwCl (wd_l u.1 u.2.1 u.2.2) t.heap ∧ va_D A (wd_l u.1 u.2.1 u.2.2)
def cNv (l : Launch) (D : va_G) (cy : Nat → Nat) (y : MethodName) (cc : ByteArray) (maxL : Nat) (ret : Option FieldType) (d mc ms : Nat) (av : List Value) (g : Nat → Nat) (N : Nat) (f : Nat → va_E) (post : (Nat → Nat) × Nat × (Nat → va_E) → Prop) : Prop :=
  ∀ sz, Met l y [.code y cc maxL ret] (wR d mc ms) (va_Pc av (wPre D cy g N f sz)) (va_Qv post (fun u t => wPn D (wA g N sz) u t) (wA g N sz)) mc ms (wA g N sz)
def cNi (l : Launch) (D : va_G) (cy : Nat → Nat) (y : MethodName) (cc : ByteArray) (maxL : Nat) (ret : Option FieldType) (d mc ms : Nat) (av : List Value) (g : Nat → Nat) (N : Nat) (f : Nat → va_E) (post : Int32 → (Nat → Nat) × Nat × (Nat → va_E) → Prop) : Prop :=
  ∀ sz, Met l y [.code y cc maxL ret] (wR d mc ms) (va_Pc av (wPre D cy g N f sz)) (va_Qi post (fun u t => wPn D (wA g N sz) u t) (wA g N sz)) mc ms (wA g N sz)
def cNr (l : Launch) (D : va_G) (cy : Nat → Nat) (y : MethodName) (cc : ByteArray) (maxL : Nat) (ret : Option FieldType) (d mc ms : Nat) (av : List Value) (g : Nat → Nat) (N : Nat) (f : Nat → va_E) (post : (Nat → Nat) × Nat × (Nat → va_E) → Nat → Prop) : Prop :=
  ∀ sz, Met l y [.code y cc maxL ret] (wR d mc ms) (va_Pc av (wPre D cy g N f sz)) (va_Qr (fun _ => True) (fun u a t => post u a ∧ wPn D (wA g N sz) u t) (wA g N sz)) mc ms (wA g N sz)
/-- those that may throw: px says of the exception's name and the contents behind it -/
def wXc (D : va_G) (g : Nat → Nat) (N sz : Nat) (px : String → (Nat → va_E) → Prop) : String → State → State → Prop := vx_X (fun _ : Nat → va_E => True) (fun E f' t => px E f' ∧ wPo D g N sz f' t) (wA g N sz)
def cXi (l : Launch) (D : va_G) (cy : Nat → Nat) (y : MethodName) (cc : ByteArray) (maxL : Nat) (ret : Option FieldType) (d mc ms : Nat) (av : List Value) (g : Nat → Nat) (N : Nat) (f : Nat → va_E) (post : Int32 → (Nat → va_E) → Prop) (px : String → (Nat → va_E) → Prop) : Prop :=
  ∀ sz, vx_Met l y [.code y cc maxL ret] (wR d mc ms) (va_Pc av (wPre D cy g N f sz)) (va_Qi post (fun f' t => wPo D g N sz f' t) (wA g N sz)) (wXc D g N sz px) mc ms (wA g N sz)
def cXv (l : Launch) (D : va_G) (cy : Nat → Nat) (y : MethodName) (cc : ByteArray) (maxL : Nat) (ret : Option FieldType) (d mc ms : Nat) (av : List Value) (g : Nat → Nat) (N : Nat) (f : Nat → va_E) (post : (Nat → va_E) → Prop) (px : String → (Nat → va_E) → Prop) : Prop :=
  ∀ sz, vx_Met l y [.code y cc maxL ret] (wR d mc ms) (va_Pc av (wPre D cy g N f sz)) (va_Qv post (fun f' t => wPo D g N sz f' t) (wA g N sz)) (wXc D g N sz px) mc ms (wA g N sz)
def cXNi (l : Launch) (D : va_G) (cy : Nat → Nat) (y : MethodName) (cc : ByteArray) (maxL : Nat) (ret : Option FieldType) (d mc ms : Nat) (av : List Value) (g : Nat → Nat) (N : Nat) (f : Nat → va_E) (post : Int32 → (Nat → Nat) × Nat × (Nat → va_E) → Prop) (px : String → (Nat → va_E) → Prop) : Prop :=
  ∀ sz, vx_Met l y [.code y cc maxL ret] (wR d mc ms) (va_Pc av (wPre D cy g N f sz)) (va_Qi post (fun u t => wPn D (wA g N sz) u t) (wA g N sz)) (wXc D g N sz px) mc ms (wA g N sz)
/-- the world at a point of a method -/
def Wd (D : va_G) (A : Nat → Prop) (H0 : Heap) (g : Nat → Nat) (N : Nat) (f : Nat → va_E) (H : Heap) (locs : List Loc) : Prop := va_P D vwCl (wd_l g N f) H ∧ va_D A (wd_l g N f) ∧ va_S A H0 H locs
/-- what a method's body knows of its machine -/
def wCx (p : Program) (l : Launch) (s : State) (m : MethodId) (args : Array Value) (c : Code) (meth : Method) (cc : ByteArray) (nL : Nat) (own : String) (D : va_G) (cy : Nat → Nat) (A : Nat → Prop) : Prop :=
  p.tables.exec = Jvm.exec ∧ c.code = cc ∧ c.maxLocals = nL ∧ s.vm.findClass own = some m.cls ∧ (∀ w ∈ wWords, w.before args s = true) ∧ wE D cy A s s.heap ∧ (∀ q, s.heap.size ≤ q → A q) ∧ meth.locks = false ∧ l.stackTraces = false
theorem wE.words {D : va_G} {cy : Nat → Nat} {A : Nat → Prop} {U : State} {H : Heap} (h : wE D cy A U H) {args : Array Value} : ∀ w ∈ wWords, w.before args U = true := fun w hw => by
  have hk := List.all_eq_true.mp wWords_ok w hw
  rw [Bool.and_eq_true] at hk
  exact va_Nw.use hk.2 (h.2.1 w hw)
theorem wA_top {g : Nat → Nat} {N sz q : Nat} (h : sz ≤ q) : wA g N sz q := Or.inr h
/-- the callee's part lies in the caller's -/
theorem Wd.sub {D : va_G} {A : Nat → Prop} {H0 H : Heap} {g : Nat → Nat} {N : Nat} {f : Nat → va_E} {locs : List Loc} (h : Wd D A H0 g N f H locs) (hA : ∀ q, H0.size ≤ q → A q) : ∀ q, wA g N H.size q → A q := by
  intro q hq
  rcases hq with ⟨k, hk, rfl⟩ | hq
  · exact h.2.1.2 k _ (wd_get hk)
  · exact hA q (Nat.le_trans h.2.2.1 hq)
theorem wPre_start {D : va_G} {cy : Nat → Nat} {g : Nat → Nat} {N : Nat} {f : Nat → va_E} {sz : Nat} {s : State} (h : wPre D cy g N f sz s) : Wd D (wA g N sz) s.heap g N f s.heap [] := by
  obtain ⟨rfl, h1, h2, h3⟩ := h
  refine ⟨h1, ⟨h2.1, fun k q hk => ?_⟩, va_S.rf⟩
  obtain ⟨hk9, rfl⟩ := wd_inv hk
  exact Or.inl ⟨k, hk9, rfl⟩
theorem wPre_blind {D : va_G} {cy : Nat → Nat} {g : Nat → Nat} {N : Nat} {f : Nat → va_E} {av : List Value} {sz : Nat} : FrameBlind (va_Pc av (wPre D cy g N f sz)) := fun _ _ _ _ h => ⟨h.1, h.2.1, h.2.2.1, h.2.2.2.1, h.2.2.2.2.calling⟩
theorem wPre_blind0 {D : va_G} {cy : Nat → Nat} {g : Nat → Nat} {N : Nat} {f : Nat → va_E} {av : List Value} : FrameBlind (va_Pc av (fun U => wPre D cy g N f U.heap.size U)) := fun _ _ _ _ h => ⟨h.1, h.2.1, h.2.2.1, h.2.2.2.1, h.2.2.2.2.calling⟩
/-- a callee's start, out of the caller's world -/
theorem Wd.pre {p : Program} {l : Launch} {s : State} {m : MethodId} {args : Array Value} {c : Code} {meth : Method} {cc : ByteArray} {nL : Nat} {own : String} {D : va_G} {cy : Nat → Nat} {A : Nat → Prop} {H : Heap} {g : Nat → Nat} {N : Nat} {f : Nat → va_E} {locs : List Loc} (C : wCx p l s m args c meth cc nL own D cy A) (h : Wd D A s.heap g N f H locs) {U : State} (hU : U.heap = H) (hW : s.WarmedH U.vm) : wPre D cy g N f H.size U := by
  obtain ⟨-, -, -, -, -, hE, hA, -⟩ := C
  refine ⟨by rw [hU], by rw [hU]; exact h.1, h.2.1.weaken (fun _ _ _ _ => trivial), ?_⟩
  rw [hU]
  exact hE.go hW h.2.2.2.1 (h.sub hA)
end
section
section WR
variable {p : Program} {l : Launch} {e : Env} {R : Room} {s : State} {m : MethodId} {args : Array Value} {below : List Frame} {meth : Method} {c : Code} {H : Heap} {locs : List Loc} {cells slots : Nat} {Q : State → Prop}
variable {cc : ByteArray} {nL : Nat} {own : String} {pc : Nat} {ls : Array Slot} {rest : List Value} {D : va_G} {cy : Nat → Nat} {A : Nat → Prop} {g : Nat → Nat} {N : Nat} {f : Nat → va_E}
theorem wCx.lay {C0 : String} {T : u_T} {n ci : Nat} (C : wCx p l s m args c meth cc nL own D cy A) (hc : vwCl[ci]? = some (C0, T, n)) : ∀ w ∈ u_ws C0 T n, w.before args s = true := fun w hw =>
  C.2.2.2.2.1 w (List.mem_append_right _ (List.mem_append_left _ (List.mem_flatMap.mpr ⟨_, List.mem_of_getElem? hc, hw⟩)))
theorem wCx.w (C : wCx p l s m args c meth cc nL own D cy A) {w : Cond} (h : w ∈ wAll) : w.before args s = true := C.2.2.2.2.1 w (List.mem_append_left _ h)
theorem wCx.nw (C : wCx p l s m args c meth cc nL own D cy A) {w : Cond} (h : w ∈ wAll) : w.before #[] s = true := C.2.2.2.2.2.1.2.1 w (List.mem_append_left _ h)
/-- a field read -/
theorem w_get (C : wCx p l s m args c meth cc nL own D cy A) (h : Wd D A s.heap g N f H locs) {ci k j n index : Nat} {fs : List Value} {v : Value} {C0 : String} {T : u_T} (hk : k < N) (hf : f k = .inr (ci, fs)) (hc : vwCl[ci]? = some (C0, T, n)) (hj : j < n) (hlink : (Cond.fieldLink own index (T j).1 (T j).2.1 (T j).2.2.1) ∈ wAll) (hv : fs[j]? = some v) (hdg : decode cc pc = .ok (.getfield index, 3))
    (kk : W p l e R s m args below meth c H locs cells slots Q (F0 m (pc + 3) ls (v :: rest))) : W p l e R s m args below meth c H locs cells slots Q (F0 m pc ls (.ref (g k) :: rest)) :=
  va_get (D := D) (ci := ci) (C := C0) (T := T) (N := n) C.1 C.2.1 (C.lay hc) (fun _ h => h) C.2.2.2.1 C.2.2.2.2.2.1.1 h.1 k (by rw [wd_get hk, hf]) hc j hj (C.w hlink) (fun _ h => h) hv hdg kk
theorem w_getN (C : wCx p l s m args c meth cc nL own D cy A) (h : Wd D A s.heap g N f H locs) {ci k j n index : Nat} {fs : List Value} {v : Value} {C0 host : String} {T : u_T} (hk : k < N) (hf : f k = .inr (ci, fs)) (hc : vwCl[ci]? = some (C0, T, n)) (hj : j < n) (hlink : (Cond.fieldLinkNest own index (T j).1 (T j).2.1 (T j).2.2.1 host) ∈ wAll) (hv : fs[j]? = some v) (hdg : decode cc pc = .ok (.getfield index, 3))
    (kk : W p l e R s m args below meth c H locs cells slots Q (F0 m (pc + 3) ls (v :: rest))) : W p l e R s m args below meth c H locs cells slots Q (F0 m pc ls (.ref (g k) :: rest)) :=
  va_getN (D := D) (ci := ci) (C := C0) (T := T) (N := n) C.1 C.2.1 (C.lay hc) (fun _ h => h) C.2.2.2.1 C.2.2.2.2.2.1.1 h.1 k (by rw [wd_get hk, hf]) hc j hj (C.w hlink) (fun _ h => h) hv hdg kk
theorem Wd.upd {H1 : Heap} {locs1 : List Loc} {k : Nat} {e : va_E} {H0 : Heap} (h1 : va_P D vwCl ((wd_l g N f).set k (g k, e)) H1) (h2 : va_D A ((wd_l g N f).set k (g k, e))) (h3 : va_S A H0 H1 locs1) : Wd D A H0 g N (va_up f k e) H1 locs1 := by
  rw [wd_set] at h1 h2
  exact ⟨h1, h2, h3⟩
/-- a field written -/
theorem w_put (C : wCx p l s m args c meth cc nL own D cy A) (h : Wd D A s.heap g N f H locs) {ci k j n index : Nat} {fs : List Value} (fs' : List Value) {v : Value} {ty : Nat → FieldType} {C0 : String} {T : u_T} (hk : k < N) (hf : f k = .inr (ci, fs)) (hc : vwCl[ci]? = some (C0, T, n)) (hty : ∀ k, k < n → parseFieldDescriptor (T k).2.2.1 = some (ty k)) (hnm : ∀ a, a < n → ∀ b, b < n → a ≠ b → (T a).2.1 ≠ (T b).2.1) (hj : j < n) (hlink : (Cond.fieldLink own index (T j).1 (T j).2.1 (T j).2.2.1) ∈ wAll) (hfin : (T j).2.2.2 = false) (hn : narrow (ty j) v = v) (hfit : fits (ty j) v = true) (hl : j < fs.length) (hs : fs.set j v = fs') (hdg : decode cc pc = .ok (.putfield index, 3))
    (kk : ∀ (H1 : Heap) (locs1 : List Loc), Wd D A s.heap g N (va_up f k (.inr (ci, fs'))) H1 locs1 → W p l e R s m args below meth c H1 locs1 cells slots Q (F0 m (pc + 3) ls rest)) : W p l e R s m args below meth c H locs cells slots Q (F0 m pc ls (v :: .ref (g k) :: rest)) := by
  subst hs
  exact va_put (D := D) (ci := ci) (C := C0) (T := T) (N := n) C.1 C.2.1 (C.lay hc) (fun _ h => h) ty hty hnm C.2.2.2.1 C.2.2.2.2.2.1.1 h.1 h.2.1 h.2.2 k (by rw [wd_get hk, hf]) hc j hj (C.w hlink) (fun _ h => h) hfin (hty j hj) hn hfit hl hdg fun H1 locs1 h1 h2 h3 => kk H1 locs1 (Wd.upd h1 h2 h3)
theorem w_putN (C : wCx p l s m args c meth cc nL own D cy A) (h : Wd D A s.heap g N f H locs) {ci k j n index : Nat} {fs : List Value} (fs' : List Value) {v : Value} {ty : Nat → FieldType} {C0 host : String} {T : u_T} (hk : k < N) (hf : f k = .inr (ci, fs)) (hc : vwCl[ci]? = some (C0, T, n)) (hty : ∀ k, k < n → parseFieldDescriptor (T k).2.2.1 = some (ty k)) (hnm : ∀ a, a < n → ∀ b, b < n → a ≠ b → (T a).2.1 ≠ (T b).2.1) (hj : j < n) (hlink : (Cond.fieldLinkNest own index (T j).1 (T j).2.1 (T j).2.2.1 host) ∈ wAll) (hfin : (T j).2.2.2 = false) (hn : narrow (ty j) v = v) (hfit : fits (ty j) v = true) (hl : j < fs.length) (hs : fs.set j v = fs') (hdg : decode cc pc = .ok (.putfield index, 3))
    (kk : ∀ (H1 : Heap) (locs1 : List Loc), Wd D A s.heap g N (va_up f k (.inr (ci, fs'))) H1 locs1 → W p l e R s m args below meth c H1 locs1 cells slots Q (F0 m (pc + 3) ls rest)) : W p l e R s m args below meth c H locs cells slots Q (F0 m pc ls (v :: .ref (g k) :: rest)) := by
  subst hs
  exact va_putN (D := D) (ci := ci) (C := C0) (T := T) (N := n) C.1 C.2.1 (C.lay hc) (fun _ h => h) ty hty hnm C.2.2.2.1 C.2.2.2.2.2.1.1 h.1 h.2.1 h.2.2 k (by rw [wd_get hk, hf]) hc j hj (C.w hlink) (fun _ h => h) hfin (hty j hj) hn hfit hl hdg fun H1 locs1 h1 h2 h3 => kk H1 locs1 (Wd.upd h1 h2 h3)
/-- a final field, in its maker -/
theorem w_putF (C : wCx p l s m args c meth cc nL own D cy A) (hin : meth.name = "<init>") (h : Wd D A s.heap g N f H locs) {ci k j n index : Nat} {fs : List Value} (fs' : List Value) {v : Value} {ty : Nat → FieldType} {C0 : String} {T : u_T} (hk : k < N) (hf : f k = .inr (ci, fs)) (hc : vwCl[ci]? = some (C0, T, n)) (hty : ∀ k, k < n → parseFieldDescriptor (T k).2.2.1 = some (ty k)) (hnm : ∀ a, a < n → ∀ b, b < n → a ≠ b → (T a).2.1 ≠ (T b).2.1) (hj : j < n) (hlink : (Cond.fieldLink own index (T j).1 (T j).2.1 (T j).2.2.1) ∈ wAll) (hfin : (T j).2.2.2 = true) (hdecl : (T j).1 = own) (hn : narrow (ty j) v = v) (hfit : fits (ty j) v = true) (hl : j < fs.length) (hs : fs.set j v = fs') (hdg : decode cc pc = .ok (.putfield index, 3))
    (kk : ∀ (H1 : Heap) (locs1 : List Loc), Wd D A s.heap g N (va_up f k (.inr (ci, fs'))) H1 locs1 → W p l e R s m args below meth c H1 locs1 cells slots Q (F0 m (pc + 3) ls rest)) : W p l e R s m args below meth c H locs cells slots Q (F0 m pc ls (v :: .ref (g k) :: rest)) := by
  subst hs
  exact va_putF (D := D) (ci := ci) (C := C0) (T := T) (N := n) C.1 C.2.1 (C.lay hc) (fun _ h => h) ty hty hnm C.2.2.2.1 C.2.2.2.2.2.1.1 h.1 h.2.1 h.2.2 k (by rw [wd_get hk, hf]) hc j hj (C.w hlink) (fun _ h => h) hfin hin hdecl (hty j hj) hn hfit hl hdg fun H1 locs1 h1 h2 h3 => kk H1 locs1 (Wd.upd h1 h2 h3)
/-- arrays -/
theorem w_iald (C : wCx p l s m args c meth cc nL own D cy A) (h : Wd D A s.heap g N f H locs) {k n : Nat} {a : Nat → Int32} (hk : k < N) (hf : f k = .inl (cy 0, n, .inl a)) {i : Int32} (hin : vp_in i n) (hdg : decode cc pc = .ok (.iaload, 1))
    (kk : W p l e R s m args below meth c H locs cells slots Q (F0 m (pc + 1) ls (.int (a i.toNatClampNeg) :: rest))) : W p l e R s m args below meth c H locs cells slots Q (F0 m pc ls (.int i :: .ref (g k) :: rest)) :=
  va_iald C.1 C.2.1 C.2.2.2.2.2.1.1 h.1 k 0 (by rw [wd_get hk, hf]) rfl hin hdg kk
theorem w_zald (C : wCx p l s m args c meth cc nL own D cy A) (h : Wd D A s.heap g N f H locs) {k n : Nat} {a : Nat → Int32} (hk : k < N) (hf : f k = .inl (cy 1, n, .inl a)) {i : Int32} (hin : vp_in i n) (hdg : decode cc pc = .ok (.baload, 1))
    (kk : W p l e R s m args below meth c H locs cells slots Q (F0 m (pc + 1) ls (.int (a i.toNatClampNeg) :: rest))) : W p l e R s m args below meth c H locs cells slots Q (F0 m pc ls (.int i :: .ref (g k) :: rest)) :=
  va_zald C.1 C.2.1 C.2.2.2.2.2.1.1 h.1 k 1 (by rw [wd_get hk, hf]) rfl hin hdg kk
theorem w_lald (C : wCx p l s m args c meth cc nL own D cy A) (h : Wd D A s.heap g N f H locs) {k n : Nat} {a : Nat → Int64} (hk : k < N) (hf : f k = .inl (cy 3, n, .inr (.inl a))) {i : Int32} (hin : vp_in i n) (hdg : decode cc pc = .ok (.laload, 1))
    (kk : W p l e R s m args below meth c H locs cells slots Q (F0 m (pc + 1) ls (.long (a i.toNatClampNeg) :: rest))) : W p l e R s m args below meth c H locs cells slots Q (F0 m pc ls (.int i :: .ref (g k) :: rest)) :=
  va_lald C.1 C.2.1 C.2.2.2.2.2.1.1 h.1 k 3 (by rw [wd_get hk, hf]) rfl hin hdg kk
theorem w_iast (C : wCx p l s m args c meth cc nL own D cy A) (h : Wd D A s.heap g N f H locs) {k n : Nat} {a : Nat → Int32} (hk : k < N) (hf : f k = .inl (cy 0, n, .inl a)) {i x : Int32} (hin : vp_in i n) (hdg : decode cc pc = .ok (.iastore, 1))
    (kk : ∀ (H1 : Heap) (locs1 : List Loc), Wd D A s.heap g N (va_up f k (.inl (cy 0, n, .inl (upd a i.toNatClampNeg x)))) H1 locs1 → W p l e R s m args below meth c H1 locs1 cells slots Q (F0 m (pc + 1) ls rest)) : W p l e R s m args below meth c H locs cells slots Q (F0 m pc ls (.int x :: .int i :: .ref (g k) :: rest)) :=
  va_iast C.1 C.2.1 C.2.2.2.2.2.1.1 h.1 h.2.1 h.2.2 k 0 (by rw [wd_get hk, hf]) rfl hin hdg fun H1 locs1 h1 h2 h3 => kk H1 locs1 (Wd.upd h1 h2 h3)
theorem w_zast (C : wCx p l s m args c meth cc nL own D cy A) (h : Wd D A s.heap g N f H locs) {k n : Nat} {a : Nat → Int32} (hk : k < N) (hf : f k = .inl (cy 1, n, .inl a)) {i x : Int32} (hx : vp_nar .boolean x = x) (hin : vp_in i n) (hdg : decode cc pc = .ok (.bastore, 1))
    (kk : ∀ (H1 : Heap) (locs1 : List Loc), Wd D A s.heap g N (va_up f k (.inl (cy 1, n, .inl (upd a i.toNatClampNeg x)))) H1 locs1 → W p l e R s m args below meth c H1 locs1 cells slots Q (F0 m (pc + 1) ls rest)) : W p l e R s m args below meth c H locs cells slots Q (F0 m pc ls (.int x :: .int i :: .ref (g k) :: rest)) :=
  va_zast C.1 C.2.1 C.2.2.2.2.2.1.1 h.1 h.2.1 h.2.2 k 1 (by rw [wd_get hk, hf]) rfl hin hdg fun H1 locs1 h1 h2 h3 => kk H1 locs1 (by rw [hx] at h1 h2; exact Wd.upd h1 h2 h3)
theorem w_last (C : wCx p l s m args c meth cc nL own D cy A) (h : Wd D A s.heap g N f H locs) {k n : Nat} {a : Nat → Int64} (hk : k < N) (hf : f k = .inl (cy 3, n, .inr (.inl a))) {i : Int32} {x : Int64} (hin : vp_in i n) (hdg : decode cc pc = .ok (.lastore, 1))
    (kk : ∀ (H1 : Heap) (locs1 : List Loc), Wd D A s.heap g N (va_up f k (.inl (cy 3, n, .inr (.inl (vp_updL a i.toNatClampNeg x))))) H1 locs1 → W p l e R s m args below meth c H1 locs1 cells slots Q (F0 m (pc + 1) ls rest)) : W p l e R s m args below meth c H locs cells slots Q (F0 m pc ls (.long x :: .int i :: .ref (g k) :: rest)) :=
  va_last C.1 C.2.1 C.2.2.2.2.2.1.1 h.1 h.2.1 h.2.2 k 3 (by rw [wd_get hk, hf]) rfl hin hdg fun H1 locs1 h1 h2 h3 => kk H1 locs1 (Wd.upd h1 h2 h3)
/-- what a callee is, whoever calls -/
def wBV (y : MethodName) (bytes : ByteArray) (maxL : Nat) (ret : Option FieldType) (n : Nat) : Prop :=
  (Cond.instanceMethod y ∈ wAll ∧ Cond.selects y.cls y y ∈ wAll) ∧ Cond.initialized y.cls ∈ wAll ∧ Cond.code y bytes maxL ret ∈ wAll ∧ (y.cls ≠ "java/lang/invoke/MethodHandle" ∧ y.cls ≠ "java/lang/invoke/VarHandle") ∧ (parseMethodDescriptor y.desc).map (fun d => d.parameters.length) = some n ∧ maxL ≤ 21
def wBS (y : MethodName) (bytes : ByteArray) (maxL : Nat) (ret : Option FieldType) (n : Nat) : Prop :=
  Cond.static y ∈ wAll ∧ Cond.initialized y.cls ∈ wAll ∧ Cond.code y bytes maxL ret ∈ wAll ∧ (y.cls ≠ "java/lang/invoke/MethodHandle" ∧ y.cls ≠ "java/lang/invoke/VarHandle") ∧ (parseMethodDescriptor y.desc).map (fun d => d.parameters.length) = some n ∧ maxL ≤ 21
def wBI (y : MethodName) (bytes : ByteArray) (maxL : Nat) (n : Nat) : Prop :=
  (Cond.instanceMethod y ∈ wAll ∧ y.name = "<init>") ∧ Cond.initialized y.cls ∈ wAll ∧ Cond.code y bytes maxL none ∈ wAll ∧ (y.cls ≠ "java/lang/invoke/MethodHandle" ∧ y.cls ≠ "java/lang/invoke/VarHandle") ∧ (parseMethodDescriptor y.desc).map (fun d => d.parameters.length) = some n ∧ maxL ≤ 21
variable {y : MethodName} {bytes : ByteArray} {maxL : Nat} {ret : Option FieldType} {n index d dc mc ms : Nat} {host : String} {av : List Value}
theorem w_code {a a' : Array Value} {U : State} (hW : s.WarmedH U.vm) (h : (Cond.code y bytes maxL ret).before a s = true) : (Cond.code y bytes maxL ret).before a' U = true := word_at hW (Or.inl rfl) h
theorem w_cb (C : wCx p l s m args c meth cc nL own D cy A) (hi : Cond.initialized y.cls ∈ wAll) (hcode : Cond.code y bytes maxL ret ∈ wAll) (hy : y.cls ≠ "java/lang/invoke/MethodHandle" ∧ y.cls ≠ "java/lang/invoke/VarHandle") (hp : (parseMethodDescriptor y.desc).map (fun d => d.parameters.length) = some n) (hm : maxL ≤ 21) (hl : Cond.methodLink own index y ∈ wAll) (hR : R.frames = d ∧ R.locals = 40 * d) (hd : dc + 1 ≤ d) : CallB R s args own index y bytes maxL ret [.code y bytes maxL ret] (wR dc mc ms) mc ms n := by
  refine ⟨rfl, rfl, ?_, ?_, ?_, List.mem_cons_self, C.w hcode, C.w hi, hy, fun sig h => ?_, C.w hl⟩
  · rw [hR.1]; exact hd
  · rw [hR.2]; show 8 + (maxL + 11) + 40 * dc ≤ 40 * d; omega
  · intro w hw a' U hW
    rw [List.mem_singleton.mp hw]
    exact w_code hW (C.w hcode)
  · rw [h] at hp
    exact (Option.some.inj hp).symm
theorem w_cn (C : wCx p l s m args c meth cc nL own D cy A) (hi : Cond.initialized y.cls ∈ wAll) (hcode : Cond.code y bytes maxL ret ∈ wAll) (hy : y.cls ≠ "java/lang/invoke/MethodHandle" ∧ y.cls ≠ "java/lang/invoke/VarHandle") (hp : (parseMethodDescriptor y.desc).map (fun d => d.parameters.length) = some n) (hm : maxL ≤ 21) (hl : Cond.methodLinkNest own index y host ∈ wAll) (hR : R.frames = d ∧ R.locals = 40 * d) (hd : dc + 1 ≤ d) : va_CN R s args own index y host bytes maxL ret [.code y bytes maxL ret] (wR dc mc ms) mc ms n := by
  refine ⟨⟨rfl, rfl, ?_, ?_, ?_, List.mem_cons_self⟩, C.w hcode, C.w hi, hy, fun sig h => ?_, C.w hl⟩
  · rw [hR.1]; exact hd
  · rw [hR.2]; show 8 + (maxL + 11) + 40 * dc ≤ 40 * d; omega
  · intro w hw a' U hW
    rw [List.mem_singleton.mp hw]
    exact w_code hW (C.w hcode)
  · rw [h] at hp
    exact (Option.some.inj hp).symm
theorem wCx.fix (C : wCx p l s m args c meth cc nL own D cy A) : CallFix p m c cc nL s args wWords own := ⟨C.1, C.2.1, C.2.2.1, C.2.2.2.1, C.2.2.2.2.1⟩
/-- the receiver: an object of the class that the method names -/
theorem w_recv (C : wCx p l s m args c meth cc nL own D cy A) (h : Wd D A s.heap g N f H locs) {k ci : Nat} {fs : List Value} {C0 : String} {T : u_T} {n0 : Nat} (hk : k < N) (hf : f k = .inr (ci, fs)) (hc : vwCl[ci]? = some (C0, T, n0)) : ∃ cell : Cell, H[g k]? = some cell ∧ cell.vm.isStatics = false ∧ s.vm.findClass C0 = some cell.cls :=
  va_recv C.2.2.2.2.2.1.1 h.1 (ci := ci) (q0 := k) hc (by rw [wd_get hk, hf])
end WR
end
section
section WCL
variable {p : Program} {l : Launch} {e : Env} {R : Room} {s : State} {m : MethodId} {args : Array Value} {below : List Frame} {meth : Method} {c : Code} {H : Heap} {locs : List Loc} {cells slots : Nat} {Q : State → Prop}
variable {cc : ByteArray} {nL : Nat} {own : String} {pc : Nat} {ls : Array Slot} {rest st0 : List Value} {D : va_G} {cy : Nat → Nat} {A : Nat → Prop} {g : Nat → Nat} {N : Nat} {f : Nat → va_E}
variable {y : MethodName} {bytes : ByteArray} {maxL : Nat} {ret : Option FieldType} {n index d dc mc ms : Nat} {host : String} {As : List Value} {k ci n0 : Nat} {fs : List Value} {C0 : String} {T : u_T}
theorem w_blindR : FrameBlind (va_Pc As (fun U => wPre D cy g N f U.heap.size U)) := wPre_blind0
/-- calls of readers -/
theorem w_vRi {post : Int32 → Prop} (C : wCx p l s m args c meth cc nL own D cy A) (h : Wd D A s.heap g N f H locs) (b : wBV y bytes maxL ret n) (hl : Cond.methodLink own index y ∈ wAll) (hk : k < N) (hf : f k = .inr (ci, fs)) (hc : vwCl[ci]? = some (y.cls, T, n0)) (hM : cRi l D cy y bytes maxL ret dc (.ref (g k) :: As) g N f post) (hst : st0 = As.reverse ++ .ref (g k) :: rest) (hn : As.length = n) (hdg : decode cc pc = .ok (.invokevirtual index, 3)) (hR : R.frames = d ∧ R.locals = 40 * d) (hd : dc + 1 ≤ d) (hsz : ls.size = nL) (hW : (rest.map fun v => v.category).sum ≤ 8) (hfit : cells ≤ R.cells ∧ slots ≤ R.slots)
    (kk : ∀ r : Int32, post r → W p l e R s m args below meth c H locs cells slots Q (F0 m (pc + 3) ls (.int r :: rest))) : W p l e R s m args below meth c H locs cells slots Q (F0 m pc ls st0) := by
  refine vp_callSi (W.runV (As := As) (rest := rest) (b := g k) (C := y.cls) C.fix hM ⟨w_cb C b.2.1 b.2.2.1 b.2.2.2.1 b.2.2.2.2.1 b.2.2.2.2.2 hl hR hd, C.w b.1.1, C.w b.1.2⟩ ⟨wPre_blind0, w_recv C h hk hf hc, fun U hU hW => ⟨rfl, ?_⟩⟩ rfl hn hsz hst (lv_room hW) hdg hfit) kk
  show wPre D cy g N f (Array.size U.heap) U; rw [hU]; exact h.pre C hU hW
theorem w_vRr {post : Nat → Prop} (C : wCx p l s m args c meth cc nL own D cy A) (h : Wd D A s.heap g N f H locs) (b : wBV y bytes maxL ret n) (hl : Cond.methodLink own index y ∈ wAll) (hk : k < N) (hf : f k = .inr (ci, fs)) (hc : vwCl[ci]? = some (y.cls, T, n0)) (hM : cRr l D cy y bytes maxL ret dc (.ref (g k) :: As) g N f post) (hst : st0 = As.reverse ++ .ref (g k) :: rest) (hn : As.length = n) (hdg : decode cc pc = .ok (.invokevirtual index, 3)) (hR : R.frames = d ∧ R.locals = 40 * d) (hd : dc + 1 ≤ d) (hsz : ls.size = nL) (hW : (rest.map fun v => v.category).sum ≤ 8) (hfit : cells ≤ R.cells ∧ slots ≤ R.slots)
    (kk : ∀ r : Nat, post r → W p l e R s m args below meth c H locs cells slots Q (F0 m (pc + 3) ls (.ref (g r) :: rest))) : W p l e R s m args below meth c H locs cells slots Q (F0 m pc ls st0) := by
  refine va_csr (W.runV (As := As) (rest := rest) (b := g k) (C := y.cls) C.fix hM ⟨w_cb C b.2.1 b.2.2.1 b.2.2.2.1 b.2.2.2.2.1 b.2.2.2.2.2 hl hR hd, C.w b.1.1, C.w b.1.2⟩ ⟨wPre_blind0, w_recv C h hk hf hc, fun U hU hW => ⟨rfl, ?_⟩⟩ rfl hn hsz hst (lv_room hW) hdg hfit) kk
  show wPre D cy g N f (Array.size U.heap) U; rw [hU]; exact h.pre C hU hW
theorem w_sRi {post : Int32 → Prop} (C : wCx p l s m args c meth cc nL own D cy A) (h : Wd D A s.heap g N f H locs) (b : wBS y bytes maxL ret n) (hl : Cond.methodLink own index y ∈ wAll) (hM : cRi l D cy y bytes maxL ret dc As g N f post) (hst : st0 = As.reverse ++ rest) (hn : As.length = n) (hdg : decode cc pc = .ok (.invokestatic index, 3)) (hR : R.frames = d ∧ R.locals = 40 * d) (hd : dc + 1 ≤ d) (hsz : ls.size = nL) (hW : (rest.map fun v => v.category).sum ≤ 8) (hfit : cells ≤ R.cells ∧ slots ≤ R.slots)
    (kk : ∀ r : Int32, post r → W p l e R s m args below meth c H locs cells slots Q (F0 m (pc + 3) ls (.int r :: rest))) : W p l e R s m args below meth c H locs cells slots Q (F0 m pc ls st0) := by
  refine vp_callSi (W.runS (As := As) (rest := rest) C.fix hM ⟨w_cb C b.2.1 b.2.2.1 b.2.2.2.1 b.2.2.2.2.1 b.2.2.2.2.2 hl hR hd, C.w b.1⟩ ⟨wPre_blind0, fun U hU hW => ⟨rfl, ?_⟩⟩ rfl hn hsz hst (lv_room hW) hdg hfit) kk
  show wPre D cy g N f (Array.size U.heap) U; rw [hU]; exact h.pre C hU hW
/-- calls of writers -/
theorem w_vWi {post : Int32 → (Nat → va_E) → Prop} (C : wCx p l s m args c meth cc nL own D cy A) (h : Wd D A s.heap g N f H locs) (b : wBV y bytes maxL ret n) (hl : Cond.methodLink own index y ∈ wAll) (hk : k < N) (hf : f k = .inr (ci, fs)) (hc : vwCl[ci]? = some (y.cls, T, n0)) (hM : cWi l D cy y bytes maxL ret dc mc ms (.ref (g k) :: As) g N f post) (hst : st0 = As.reverse ++ .ref (g k) :: rest) (hn : As.length = n) (hdg : decode cc pc = .ok (.invokevirtual index, 3)) (hR : R.frames = d ∧ R.locals = 40 * d) (hd : dc + 1 ≤ d) (hsz : ls.size = nL) (hW : (rest.map fun v => v.category).sum ≤ 8) (hfit : cells + mc ≤ R.cells ∧ slots + ms ≤ R.slots)
    (kk : ∀ (r : Int32) (f1 : Nat → va_E) (H1 : Heap) (locs1 : List Loc), post r f1 → Wd D A s.heap g N f1 H1 locs1 → W p l e R s m args below meth c H1 locs1 (cells + mc) (slots + ms) Q (F0 m (pc + 3) ls (.int r :: rest))) : W p l e R s m args below meth c H locs cells slots Q (F0 m pc ls st0) := by
  have hsub := h.sub C.2.2.2.2.2.2.1
  refine va_calli (va_runV (As := As) (rest := rest) (b := g k) (C := y.cls) C.fix (hM H.size) ⟨w_cb C b.2.1 b.2.2.1 b.2.2.2.1 b.2.2.2.2.1 b.2.2.2.2.2 hl hR hd, C.w b.1.1, C.w b.1.2⟩ ⟨wPre_blind, w_recv C h hk hf hc, fun U hU hW => ⟨rfl, h.pre C hU hW⟩⟩ rfl hn hsz hst (lv_room hW) hdg hfit) h.2.2 (fun q _ hq => hsub q hq) hsub (fun r u t H1 locs1 ht _ hp hB _ _ hS => ?_)
  obtain ⟨hP1, hD1⟩ := hB
  rw [ht] at hP1
  exact kk r u H1 locs1 hp ⟨hP1, hD1.weaken (fun _ q _ hq => hsub q.1 hq), hS⟩
theorem w_vWv {post : (Nat → va_E) → Prop} (C : wCx p l s m args c meth cc nL own D cy A) (h : Wd D A s.heap g N f H locs) (b : wBV y bytes maxL ret n) (hl : Cond.methodLink own index y ∈ wAll) (hk : k < N) (hf : f k = .inr (ci, fs)) (hc : vwCl[ci]? = some (y.cls, T, n0)) (hM : cWv l D cy y bytes maxL ret dc mc ms (.ref (g k) :: As) g N f post) (hst : st0 = As.reverse ++ .ref (g k) :: rest) (hn : As.length = n) (hdg : decode cc pc = .ok (.invokevirtual index, 3)) (hR : R.frames = d ∧ R.locals = 40 * d) (hd : dc + 1 ≤ d) (hsz : ls.size = nL) (hW : (rest.map fun v => v.category).sum ≤ 8) (hfit : cells + mc ≤ R.cells ∧ slots + ms ≤ R.slots)
    (kk : ∀ (f1 : Nat → va_E) (H1 : Heap) (locs1 : List Loc), post f1 → Wd D A s.heap g N f1 H1 locs1 → W p l e R s m args below meth c H1 locs1 (cells + mc) (slots + ms) Q (F0 m (pc + 3) ls rest)) : W p l e R s m args below meth c H locs cells slots Q (F0 m pc ls st0) := by
  have hsub := h.sub C.2.2.2.2.2.2.1
  refine va_callv (va_runV (As := As) (rest := rest) (b := g k) (C := y.cls) C.fix (hM H.size) ⟨w_cb C b.2.1 b.2.2.1 b.2.2.2.1 b.2.2.2.2.1 b.2.2.2.2.2 hl hR hd, C.w b.1.1, C.w b.1.2⟩ ⟨wPre_blind, w_recv C h hk hf hc, fun U hU hW => ⟨rfl, h.pre C hU hW⟩⟩ rfl hn hsz hst (lv_room hW) hdg hfit) h.2.2 (fun q _ hq => hsub q hq) hsub (fun u t H1 locs1 ht _ hp hB _ _ hS => ?_)
  obtain ⟨hP1, hD1⟩ := hB
  rw [ht] at hP1
  exact kk u H1 locs1 hp ⟨hP1, hD1.weaken (fun _ q _ hq => hsub q.1 hq), hS⟩
theorem w_sWv {post : (Nat → va_E) → Prop} (C : wCx p l s m args c meth cc nL own D cy A) (h : Wd D A s.heap g N f H locs) (b : wBS y bytes maxL ret n) (hl : Cond.methodLink own index y ∈ wAll) (hM : cWv l D cy y bytes maxL ret dc mc ms As g N f post) (hst : st0 = As.reverse ++ rest) (hn : As.length = n) (hdg : decode cc pc = .ok (.invokestatic index, 3)) (hR : R.frames = d ∧ R.locals = 40 * d) (hd : dc + 1 ≤ d) (hsz : ls.size = nL) (hW : (rest.map fun v => v.category).sum ≤ 8) (hfit : cells + mc ≤ R.cells ∧ slots + ms ≤ R.slots)
    (kk : ∀ (f1 : Nat → va_E) (H1 : Heap) (locs1 : List Loc), post f1 → Wd D A s.heap g N f1 H1 locs1 → W p l e R s m args below meth c H1 locs1 (cells + mc) (slots + ms) Q (F0 m (pc + 3) ls rest)) : W p l e R s m args below meth c H locs cells slots Q (F0 m pc ls st0) := by
  have hsub := h.sub C.2.2.2.2.2.2.1
  refine va_callv (va_runS (As := As) (rest := rest) C.fix (hM H.size) ⟨w_cb C b.2.1 b.2.2.1 b.2.2.2.1 b.2.2.2.2.1 b.2.2.2.2.2 hl hR hd, C.w b.1⟩ ⟨wPre_blind, fun U hU hW => ⟨rfl, h.pre C hU hW⟩⟩ rfl hn hsz hst (lv_room hW) hdg hfit) h.2.2 (fun q _ hq => hsub q hq) hsub (fun u t H1 locs1 ht _ hp hB _ _ hS => ?_)
  obtain ⟨hP1, hD1⟩ := hB
  rw [ht] at hP1
  exact kk u H1 locs1 hp ⟨hP1, hD1.weaken (fun _ q _ hq => hsub q.1 hq), hS⟩
theorem w_nRi {post : Int32 → Prop} (C : wCx p l s m args c meth cc nL own D cy A) (h : Wd D A s.heap g N f H locs) (b : wBS y bytes maxL ret n) (hl : Cond.methodLinkNest own index y host ∈ wAll) (hM : cRi l D cy y bytes maxL ret dc As g N f post) (hst : st0 = As.reverse ++ rest) (hn : As.length = n) (hdg : decode cc pc = .ok (.invokestatic index, 3)) (hR : R.frames = d ∧ R.locals = 40 * d) (hd : dc + 1 ≤ d) (hsz : ls.size = nL) (hW : (rest.map fun v => v.category).sum ≤ 8) (hfit : cells ≤ R.cells ∧ slots ≤ R.slots)
    (kk : ∀ r : Int32, post r → W p l e R s m args below meth c H locs cells slots Q (F0 m (pc + 3) ls (.int r :: rest))) : W p l e R s m args below meth c H locs cells slots Q (F0 m pc ls st0) := by
  refine vp_callSi (va_Run.run (va_runSN (As := As) (rest := rest) (host := host) C.fix hM ⟨w_cn C b.2.1 b.2.2.1 b.2.2.2.1 b.2.2.2.2.1 b.2.2.2.2.2 hl hR hd, C.w b.1, trivial⟩ ⟨wPre_blind0, fun U hU hW => ⟨rfl, ?_⟩⟩ rfl hn hsz hst (lv_room hW) hdg hfit)) kk
  show wPre D cy g N f (Array.size U.heap) U; rw [hU]; exact h.pre C hU hW
/-- makers -/
theorem w_iNv {post : (Nat → Nat) × Nat × (Nat → va_E) → Prop} (C : wCx p l s m args c meth cc nL own D cy A) (h : Wd D A s.heap g N f H locs) (b : wBI y bytes maxL n) (hl : Cond.methodLink own index y ∈ wAll) (hM : cNv l D cy y bytes maxL none dc mc ms (.ref (g k) :: As) g N f post) (hst : st0 = As.reverse ++ .ref (g k) :: rest) (hn : As.length = n) (hdg : decode cc pc = .ok (.invokespecial index, 3)) (hR : R.frames = d ∧ R.locals = 40 * d) (hd : dc + 1 ≤ d) (hsz : ls.size = nL) (hW : (rest.map fun v => v.category).sum ≤ 8) (hfit : cells + mc ≤ R.cells ∧ slots + ms ≤ R.slots)
    (kk : ∀ (g1 : Nat → Nat) (N1 : Nat) (f1 : Nat → va_E) (H1 : Heap) (locs1 : List Loc), post (g1, N1, f1) → Wd D A s.heap g1 N1 f1 H1 locs1 → W p l e R s m args below meth c H1 locs1 (cells + mc) (slots + ms) Q (F0 m (pc + 3) ls rest)) : W p l e R s m args below meth c H locs cells slots Q (F0 m pc ls st0) := by
  have hsub := h.sub C.2.2.2.2.2.2.1
  refine va_callv (va_runI (As := As) (rest := rest) (b := g k) C.fix (hM H.size) ⟨w_cb C b.2.1 b.2.2.1 b.2.2.2.1 b.2.2.2.2.1 b.2.2.2.2.2 hl hR hd, b.1.2, C.w b.1.1⟩ ⟨wPre_blind, fun U hU hW => ⟨rfl, h.pre C hU hW⟩⟩ rfl hn hsz hst (lv_room hW) hdg hfit) h.2.2 (fun q _ hq => hsub q hq) hsub (fun u t H1 locs1 ht _ hp hB _ _ hS => ?_)
  obtain ⟨hP1, hD1⟩ := hB
  rw [ht] at hP1
  exact kk u.1 u.2.1 u.2.2 H1 locs1 hp ⟨hP1, hD1.weaken (fun _ q _ hq => hsub q.1 hq), hS⟩
theorem w_iWv {post : (Nat → va_E) → Prop} (C : wCx p l s m args c meth cc nL own D cy A) (h : Wd D A s.heap g N f H locs) (b : wBI y bytes maxL n) (hl : Cond.methodLink own index y ∈ wAll) (hM : cWv l D cy y bytes maxL none dc mc ms (.ref (g k) :: As) g N f post) (hst : st0 = As.reverse ++ .ref (g k) :: rest) (hn : As.length = n) (hdg : decode cc pc = .ok (.invokespecial index, 3)) (hR : R.frames = d ∧ R.locals = 40 * d) (hd : dc + 1 ≤ d) (hsz : ls.size = nL) (hW : (rest.map fun v => v.category).sum ≤ 8) (hfit : cells + mc ≤ R.cells ∧ slots + ms ≤ R.slots)
    (kk : ∀ (f1 : Nat → va_E) (H1 : Heap) (locs1 : List Loc), post f1 → Wd D A s.heap g N f1 H1 locs1 → W p l e R s m args below meth c H1 locs1 (cells + mc) (slots + ms) Q (F0 m (pc + 3) ls rest)) : W p l e R s m args below meth c H locs cells slots Q (F0 m pc ls st0) := by
  have hsub := h.sub C.2.2.2.2.2.2.1
  refine va_callv (va_runI (As := As) (rest := rest) (b := g k) C.fix (hM H.size) ⟨w_cb C b.2.1 b.2.2.1 b.2.2.2.1 b.2.2.2.2.1 b.2.2.2.2.2 hl hR hd, b.1.2, C.w b.1.1⟩ ⟨wPre_blind, fun U hU hW => ⟨rfl, h.pre C hU hW⟩⟩ rfl hn hsz hst (lv_room hW) hdg hfit) h.2.2 (fun q _ hq => hsub q hq) hsub (fun u t H1 locs1 ht _ hp hB _ _ hS => ?_)
  obtain ⟨hP1, hD1⟩ := hB
  rw [ht] at hP1
  exact kk u H1 locs1 hp ⟨hP1, hD1.weaken (fun _ q _ hq => hsub q.1 hq), hS⟩
theorem w_inNv {post : (Nat → Nat) × Nat × (Nat → va_E) → Prop} (C : wCx p l s m args c meth cc nL own D cy A) (h : Wd D A s.heap g N f H locs) (b : wBI y bytes maxL n) (hl : Cond.methodLinkNest own index y host ∈ wAll) (hM : cNv l D cy y bytes maxL none dc mc ms (.ref (g k) :: As) g N f post) (hst : st0 = As.reverse ++ .ref (g k) :: rest) (hn : As.length = n) (hdg : decode cc pc = .ok (.invokespecial index, 3)) (hR : R.frames = d ∧ R.locals = 40 * d) (hd : dc + 1 ≤ d) (hsz : ls.size = nL) (hW : (rest.map fun v => v.category).sum ≤ 8) (hfit : cells + mc ≤ R.cells ∧ slots + ms ≤ R.slots)
    (kk : ∀ (g1 : Nat → Nat) (N1 : Nat) (f1 : Nat → va_E) (H1 : Heap) (locs1 : List Loc), post (g1, N1, f1) → Wd D A s.heap g1 N1 f1 H1 locs1 → W p l e R s m args below meth c H1 locs1 (cells + mc) (slots + ms) Q (F0 m (pc + 3) ls rest)) : W p l e R s m args below meth c H locs cells slots Q (F0 m pc ls st0) := by
  have hsub := h.sub C.2.2.2.2.2.2.1
  refine va_callv (va_runIN (As := As) (rest := rest) (b := g k) (host := host) C.fix (hM H.size) ⟨w_cn C b.2.1 b.2.2.1 b.2.2.2.1 b.2.2.2.2.1 b.2.2.2.2.2 hl hR hd, b.1.2, C.w b.1.1⟩ ⟨wPre_blind, fun U hU hW => ⟨rfl, h.pre C hU hW⟩⟩ rfl hn hsz hst (lv_room hW) hdg hfit) h.2.2 (fun q _ hq => hsub q hq) hsub (fun u t H1 locs1 ht _ hp hB _ _ hS => ?_)
  obtain ⟨hP1, hD1⟩ := hB
  rw [ht] at hP1
  exact kk u.1 u.2.1 u.2.2 H1 locs1 hp ⟨hP1, hD1.weaken (fun _ q _ hq => hsub q.1 hq), hS⟩
/-- calls that may throw -/
theorem w_vXi {post : Int32 → (Nat → va_E) → Prop} {px : String → (Nat → va_E) → Prop} (C : wCx p l s m args c meth cc nL own D cy A) (h : Wd D A s.heap g N f H locs) (b : wBV y bytes maxL ret n) (hl : Cond.methodLink own index y ∈ wAll) (hk : k < N) (hf : f k = .inr (ci, fs)) (hc : vwCl[ci]? = some (y.cls, T, n0)) (hM : cXi l D cy y bytes maxL ret dc mc ms (.ref (g k) :: As) g N f post px) (hst : st0 = As.reverse ++ .ref (g k) :: rest) (hn : As.length = n) (hdg : decode cc pc = .ok (.invokevirtual index, 3)) (hR : R.frames = d ∧ R.locals = 40 * d) (hd : dc + 1 ≤ d) (hsz : ls.size = nL) (hW : (rest.map fun v => v.category).sum ≤ 8) (hfit : cells + mc ≤ R.cells ∧ slots + ms ≤ R.slots)
    (kx : ∀ (E : String) (ce : Cell) (q9 : Addr) (f1 : Nat → va_E) (H1 : Heap) (locs1 : List Loc), px E f1 → Wd D A s.heap g N f1 H1 locs1 → H1[q9]? = some ce → ce.vm = .none → s.vm.findClass E = some ce.cls → vx_W p l e R s m args below meth c H1 locs1 (cells + mc) (slots + ms) Q (F0 m pc ls rest) q9)
    (kk : ∀ (r : Int32) (f1 : Nat → va_E) (H1 : Heap) (locs1 : List Loc), post r f1 → Wd D A s.heap g N f1 H1 locs1 → W p l e R s m args below meth c H1 locs1 (cells + mc) (slots + ms) Q (F0 m (pc + 3) ls (.int r :: rest))) : W p l e R s m args below meth c H locs cells slots Q (F0 m pc ls st0) := by
  have hsub := h.sub C.2.2.2.2.2.2.1
  refine vx_calli (vx_runV (As := As) (rest := rest) (b := g k) (C := y.cls) C.fix (hM H.size) ⟨w_cb C b.2.1 b.2.2.1 b.2.2.2.1 b.2.2.2.2.1 b.2.2.2.2.2 hl hR hd, C.w b.1.1, C.w b.1.2⟩ ⟨wPre_blind, w_recv C h hk hf hc, fun U hU hW => ⟨rfl, h.pre C hU hW⟩⟩ rfl hn hsz hst (lv_room hW) hdg hfit) h.2.2 (fun q _ hq => hsub q hq) hsub (fun q _ hq => hsub q hq) (fun E ce q9 u t H1 locs1 ht _ _ hB _ _ hS h1 h2 h3 => ?_) (fun r u t H1 locs1 ht _ hp hB _ _ hS => ?_)
  · obtain ⟨hp, hP1, hD1⟩ := hB
    rw [ht] at hP1
    exact kx E ce q9 u H1 locs1 hp ⟨hP1, hD1.weaken (fun _ q _ hq => hsub q.1 hq), hS⟩ h1 h2 h3
  · obtain ⟨hP1, hD1⟩ := hB
    rw [ht] at hP1
    exact kk r u H1 locs1 hp ⟨hP1, hD1.weaken (fun _ q _ hq => hsub q.1 hq), hS⟩
theorem w_vXNi {post : Int32 → (Nat → Nat) × Nat × (Nat → va_E) → Prop} {px : String → (Nat → va_E) → Prop} (C : wCx p l s m args c meth cc nL own D cy A) (h : Wd D A s.heap g N f H locs) (b : wBV y bytes maxL ret n) (hl : Cond.methodLink own index y ∈ wAll) (hk : k < N) (hf : f k = .inr (ci, fs)) (hc : vwCl[ci]? = some (y.cls, T, n0)) (hM : cXNi l D cy y bytes maxL ret dc mc ms (.ref (g k) :: As) g N f post px) (hst : st0 = As.reverse ++ .ref (g k) :: rest) (hn : As.length = n) (hdg : decode cc pc = .ok (.invokevirtual index, 3)) (hR : R.frames = d ∧ R.locals = 40 * d) (hd : dc + 1 ≤ d) (hsz : ls.size = nL) (hW : (rest.map fun v => v.category).sum ≤ 8) (hfit : cells + mc ≤ R.cells ∧ slots + ms ≤ R.slots)
    (kx : ∀ (E : String) (ce : Cell) (q9 : Addr) (f1 : Nat → va_E) (H1 : Heap) (locs1 : List Loc), px E f1 → Wd D A s.heap g N f1 H1 locs1 → H1[q9]? = some ce → ce.vm = .none → s.vm.findClass E = some ce.cls → vx_W p l e R s m args below meth c H1 locs1 (cells + mc) (slots + ms) Q (F0 m pc ls rest) q9)
    (kk : ∀ (r : Int32) (g1 : Nat → Nat) (N1 : Nat) (f1 : Nat → va_E) (H1 : Heap) (locs1 : List Loc), post r (g1, N1, f1) → Wd D A s.heap g1 N1 f1 H1 locs1 → W p l e R s m args below meth c H1 locs1 (cells + mc) (slots + ms) Q (F0 m (pc + 3) ls (.int r :: rest))) : W p l e R s m args below meth c H locs cells slots Q (F0 m pc ls st0) := by
  have hsub := h.sub C.2.2.2.2.2.2.1
  refine vx_calli (vx_runV (As := As) (rest := rest) (b := g k) (C := y.cls) C.fix (hM H.size) ⟨w_cb C b.2.1 b.2.2.1 b.2.2.2.1 b.2.2.2.2.1 b.2.2.2.2.2 hl hR hd, C.w b.1.1, C.w b.1.2⟩ ⟨wPre_blind, w_recv C h hk hf hc, fun U hU hW => ⟨rfl, h.pre C hU hW⟩⟩ rfl hn hsz hst (lv_room hW) hdg hfit) h.2.2 (fun q _ hq => hsub q hq) hsub (fun q _ hq => hsub q hq) (fun E ce q9 u t H1 locs1 ht _ _ hB _ _ hS h1 h2 h3 => ?_) (fun r u t H1 locs1 ht _ hp hB _ _ hS => ?_)
  · obtain ⟨hp, hP1, hD1⟩ := hB
    rw [ht] at hP1
    exact kx E ce q9 u H1 locs1 hp ⟨hP1, hD1.weaken (fun _ q _ hq => hsub q.1 hq), hS⟩ h1 h2 h3
  · obtain ⟨hP1, hD1⟩ := hB
    rw [ht] at hP1
    exact kk r u.1 u.2.1 u.2.2 H1 locs1 hp ⟨hP1, hD1.weaken (fun _ q _ hq => hsub q.1 hq), hS⟩
theorem w_vXv {post : (Nat → va_E) → Prop} {px : String → (Nat → va_E) → Prop} (C : wCx p l s m args c meth cc nL own D cy A) (h : Wd D A s.heap g N f H locs) (b : wBV y bytes maxL ret n) (hl : Cond.methodLink own index y ∈ wAll) (hk : k < N) (hf : f k = .inr (ci, fs)) (hc : vwCl[ci]? = some (y.cls, T, n0)) (hM : cXv l D cy y bytes maxL ret dc mc ms (.ref (g k) :: As) g N f post px) (hst : st0 = As.reverse ++ .ref (g k) :: rest) (hn : As.length = n) (hdg : decode cc pc = .ok (.invokevirtual index, 3)) (hR : R.frames = d ∧ R.locals = 40 * d) (hd : dc + 1 ≤ d) (hsz : ls.size = nL) (hW : (rest.map fun v => v.category).sum ≤ 8) (hfit : cells + mc ≤ R.cells ∧ slots + ms ≤ R.slots)
    (kx : ∀ (E : String) (ce : Cell) (q9 : Addr) (f1 : Nat → va_E) (H1 : Heap) (locs1 : List Loc), px E f1 → Wd D A s.heap g N f1 H1 locs1 → H1[q9]? = some ce → ce.vm = .none → s.vm.findClass E = some ce.cls → vx_W p l e R s m args below meth c H1 locs1 (cells + mc) (slots + ms) Q (F0 m pc ls rest) q9)
    (kk : ∀ (f1 : Nat → va_E) (H1 : Heap) (locs1 : List Loc), post f1 → Wd D A s.heap g N f1 H1 locs1 → W p l e R s m args below meth c H1 locs1 (cells + mc) (slots + ms) Q (F0 m (pc + 3) ls rest)) : W p l e R s m args below meth c H locs cells slots Q (F0 m pc ls st0) := by
  have hsub := h.sub C.2.2.2.2.2.2.1
  refine vx_callv (vx_runV (As := As) (rest := rest) (b := g k) (C := y.cls) C.fix (hM H.size) ⟨w_cb C b.2.1 b.2.2.1 b.2.2.2.1 b.2.2.2.2.1 b.2.2.2.2.2 hl hR hd, C.w b.1.1, C.w b.1.2⟩ ⟨wPre_blind, w_recv C h hk hf hc, fun U hU hW => ⟨rfl, h.pre C hU hW⟩⟩ rfl hn hsz hst (lv_room hW) hdg hfit) h.2.2 (fun q _ hq => hsub q hq) hsub (fun q _ hq => hsub q hq) (fun E ce q9 u t H1 locs1 ht _ _ hB _ _ hS h1 h2 h3 => ?_) (fun u t H1 locs1 ht _ hp hB _ _ hS => ?_)
  · obtain ⟨hp, hP1, hD1⟩ := hB
    rw [ht] at hP1
    exact kx E ce q9 u H1 locs1 hp ⟨hP1, hD1.weaken (fun _ q _ hq => hsub q.1 hq), hS⟩ h1 h2 h3
  · obtain ⟨hP1, hD1⟩ := hB
    rw [ht] at hP1
    exact kk u H1 locs1 hp ⟨hP1, hD1.weaken (fun _ q _ hq => hsub q.1 hq), hS⟩
theorem w_sXv {post : (Nat → va_E) → Prop} {px : String → (Nat → va_E) → Prop} (C : wCx p l s m args c meth cc nL own D cy A) (h : Wd D A s.heap g N f H locs) (b : wBS y bytes maxL ret n) (hl : Cond.methodLink own index y ∈ wAll) (hM : cXv l D cy y bytes maxL ret dc mc ms As g N f post px) (hst : st0 = As.reverse ++ rest) (hn : As.length = n) (hdg : decode cc pc = .ok (.invokestatic index, 3)) (hR : R.frames = d ∧ R.locals = 40 * d) (hd : dc + 1 ≤ d) (hsz : ls.size = nL) (hW : (rest.map fun v => v.category).sum ≤ 8) (hfit : cells + mc ≤ R.cells ∧ slots + ms ≤ R.slots)
    (kx : ∀ (E : String) (ce : Cell) (q9 : Addr) (f1 : Nat → va_E) (H1 : Heap) (locs1 : List Loc), px E f1 → Wd D A s.heap g N f1 H1 locs1 → H1[q9]? = some ce → ce.vm = .none → s.vm.findClass E = some ce.cls → vx_W p l e R s m args below meth c H1 locs1 (cells + mc) (slots + ms) Q (F0 m pc ls rest) q9)
    (kk : ∀ (f1 : Nat → va_E) (H1 : Heap) (locs1 : List Loc), post f1 → Wd D A s.heap g N f1 H1 locs1 → W p l e R s m args below meth c H1 locs1 (cells + mc) (slots + ms) Q (F0 m (pc + 3) ls rest)) : W p l e R s m args below meth c H locs cells slots Q (F0 m pc ls st0) := by
  have hsub := h.sub C.2.2.2.2.2.2.1
  refine vx_callv (vx_runS (As := As) (rest := rest) C.fix (hM H.size) ⟨w_cb C b.2.1 b.2.2.1 b.2.2.2.1 b.2.2.2.2.1 b.2.2.2.2.2 hl hR hd, C.w b.1⟩ ⟨wPre_blind, fun U hU hW => ⟨rfl, h.pre C hU hW⟩⟩ rfl hn hsz hst (lv_room hW) hdg hfit) h.2.2 (fun q _ hq => hsub q hq) hsub (fun q _ hq => hsub q hq) (fun E ce q9 u t H1 locs1 ht _ _ hB _ _ hS h1 h2 h3 => ?_) (fun u t H1 locs1 ht _ hp hB _ _ hS => ?_)
  · obtain ⟨hp, hP1, hD1⟩ := hB
    rw [ht] at hP1
    exact kx E ce q9 u H1 locs1 hp ⟨hP1, hD1.weaken (fun _ q _ hq => hsub q.1 hq), hS⟩ h1 h2 h3
  · obtain ⟨hP1, hD1⟩ := hB
    rw [ht] at hP1
    exact kk u H1 locs1 hp ⟨hP1, hD1.weaken (fun _ q _ hq => hsub q.1 hq), hS⟩
end WCL
end
section
section WEN
variable {p : Program} {l : Launch} {e : Env} {R : Room} {s : State} {m : MethodId} {args : Array Value} {below : List Frame} {meth : Method} {c : Code} {H : Heap} {locs : List Loc} {cells slots : Nat} {Q : State → Prop}
variable {cc : ByteArray} {nL : Nat} {own : String} {pc : Nat} {ls : Array Slot} {rest st0 : List Value} {D : va_G} {cy : Nat → Nat} {A : Nat → Prop} {g : Nat → Nat} {N : Nat} {f : Nat → va_E}
variable {y : MethodName} {maxL : Nat} {ret : Option FieldType} {d mc ms sz : Nat} {av : List Value}
theorem w_enter {s₁ : State} {rm : Room} (B : BodyLoose p l y (headSpec [.code y cc maxL ret] rm) cc maxL ret e s m args below meth c s₁) (hml : c.maxLocals = maxL) (hpre : wPre D cy g N f sz s) (hown : y.cls = own) (hfl : l.stackTraces = false) : wCx p l s m args c meth cc maxL own D cy (wA g N s.heap.size) ∧ meth.sig.returnType = ret ∧ meth.name = y.name ∧ Wd D (wA g N s.heap.size) s.heap g N f s.heap [] ∧ s.heap.size = sz := by
  have h0 := hpre.1
  subst h0
  refine ⟨⟨B.exec, B.bytes, hml, by rw [← hown]; exact findClass_of_methodNamed B.named, hpre.2.2.2.words, hpre.2.2.2, fun q h => Or.inr h, B.notSynchronized, hfl⟩, B.returns, (name_of_methodNamed B.named B.method).1, wPre_start hpre, rfl⟩
/-- entries -/
theorem iRi {post : Int32 → Prop} (hy : plainName y.cls = true) (hown : y.cls = own) (hfl : l.stackTraces = false) (hav : (lg_sl av).length ≤ maxL)
    (body : ∀ (p : Program) (e : Env) (s : State) (m : MethodId) (below : List Frame) (meth : Method) (c : Code) (ls : Array Slot), wCx p l s m av.toArray c meth cc maxL own D cy (wA g N s.heap.size) → meth.sig.returnType = ret → Wd D (wA g N s.heap.size) s.heap g N f s.heap [] → lv_has ls maxL (lv_args 0 av) → W p l e (wR d 0 0) s m av.toArray below meth c s.heap [] 0 0 (MQ below (vp_Si post) av.toArray s 0 0 (fun _ => False)) (F0 m 0 ls [])) : cRi l D cy y cc maxL ret d av g N f post := by
  refine Met.ofW (cc := cc) (maxL := maxL) (ret := ret) hy rfl ?_
  intro p e s m args below meth c s₁ B hml hv
  obtain ⟨rfl, hpre⟩ := hv
  obtain ⟨hC, hr, hn, hw, -⟩ := w_enter B hml hpre hown hfl
  rw [lg_entry_eq]
  exact body p e s m below meth c _ hC hr hw (lv_entry av hav)
theorem iRr {post : Nat → Prop} (hy : plainName y.cls = true) (hown : y.cls = own) (hfl : l.stackTraces = false) (hav : (lg_sl av).length ≤ maxL)
    (body : ∀ (p : Program) (e : Env) (s : State) (m : MethodId) (below : List Frame) (meth : Method) (c : Code) (ls : Array Slot), wCx p l s m av.toArray c meth cc maxL own D cy (wA g N s.heap.size) → meth.sig.returnType = ret → Wd D (wA g N s.heap.size) s.heap g N f s.heap [] → lv_has ls maxL (lv_args 0 av) → W p l e (wR d 0 0) s m av.toArray below meth c s.heap [] 0 0 (MQ below (va_Sr post (fun k => .ref (g k))) av.toArray s 0 0 (fun _ => False)) (F0 m 0 ls [])) : cRr l D cy y cc maxL ret d av g N f post := by
  refine Met.ofW (cc := cc) (maxL := maxL) (ret := ret) hy rfl ?_
  intro p e s m args below meth c s₁ B hml hv
  obtain ⟨rfl, hpre⟩ := hv
  obtain ⟨hC, hr, hn, hw, -⟩ := w_enter B hml hpre hown hfl
  rw [lg_entry_eq]
  exact body p e s m below meth c _ hC hr hw (lv_entry av hav)
theorem iWi {post : Int32 → (Nat → va_E) → Prop} (hy : plainName y.cls = true) (hown : y.cls = own) (hfl : l.stackTraces = false) (hav : (lg_sl av).length ≤ maxL)
    (body : ∀ (p : Program) (e : Env) (s : State) (m : MethodId) (below : List Frame) (meth : Method) (c : Code) (ls : Array Slot), wCx p l s m av.toArray c meth cc maxL own D cy (wA g N s.heap.size) → meth.sig.returnType = ret → Wd D (wA g N s.heap.size) s.heap g N f s.heap [] → lv_has ls maxL (lv_args 0 av) → W p l e (wR d mc ms) s m av.toArray below meth c s.heap [] 0 0 (MQ below (va_Qi post (fun f' t => wPo D g N s.heap.size f' t) (wA g N s.heap.size) ) av.toArray s mc ms (wA g N s.heap.size)) (F0 m 0 ls [])) : cWi l D cy y cc maxL ret d mc ms av g N f post := by
  intro sz
  refine Met.ofW (cc := cc) (maxL := maxL) (ret := ret) hy rfl ?_
  intro p e s m args below meth c s₁ B hml hv
  obtain ⟨rfl, hpre⟩ := hv
  obtain ⟨hC, hr, hn, hw, hsz⟩ := w_enter B hml hpre hown hfl
  subst hsz
  rw [lg_entry_eq]
  exact body p e s m below meth c _ hC hr hw (lv_entry av hav)
theorem iWv {post : (Nat → va_E) → Prop} (hy : plainName y.cls = true) (hown : y.cls = own) (hfl : l.stackTraces = false) (hav : (lg_sl av).length ≤ maxL)
    (body : ∀ (p : Program) (e : Env) (s : State) (m : MethodId) (below : List Frame) (meth : Method) (c : Code) (ls : Array Slot), wCx p l s m av.toArray c meth cc maxL own D cy (wA g N s.heap.size) → meth.sig.returnType = ret ∧ meth.name = y.name → Wd D (wA g N s.heap.size) s.heap g N f s.heap [] → lv_has ls maxL (lv_args 0 av) → W p l e (wR d mc ms) s m av.toArray below meth c s.heap [] 0 0 (MQ below (va_Qv post (fun f' t => wPo D g N s.heap.size f' t) (wA g N s.heap.size)) av.toArray s mc ms (wA g N s.heap.size)) (F0 m 0 ls [])) : cWv l D cy y cc maxL ret d mc ms av g N f post := by
  intro sz
  refine Met.ofW (cc := cc) (maxL := maxL) (ret := ret) hy rfl ?_
  intro p e s m args below meth c s₁ B hml hv
  obtain ⟨rfl, hpre⟩ := hv
  obtain ⟨hC, hr, hn, hw, hsz⟩ := w_enter B hml hpre hown hfl
  subst hsz
  rw [lg_entry_eq]
  exact body p e s m below meth c _ hC ⟨hr, hn⟩ hw (lv_entry av hav)
theorem iNv {post : (Nat → Nat) × Nat × (Nat → va_E) → Prop} (hy : plainName y.cls = true) (hown : y.cls = own) (hfl : l.stackTraces = false) (hav : (lg_sl av).length ≤ maxL)
    (body : ∀ (p : Program) (e : Env) (s : State) (m : MethodId) (below : List Frame) (meth : Method) (c : Code) (ls : Array Slot), wCx p l s m av.toArray c meth cc maxL own D cy (wA g N s.heap.size) → meth.sig.returnType = ret ∧ meth.name = y.name → Wd D (wA g N s.heap.size) s.heap g N f s.heap [] → lv_has ls maxL (lv_args 0 av) → W p l e (wR d mc ms) s m av.toArray below meth c s.heap [] 0 0 (MQ below (va_Qv post (fun u t => wPn D (wA g N s.heap.size) u t) (wA g N s.heap.size)) av.toArray s mc ms (wA g N s.heap.size)) (F0 m 0 ls [])) : cNv l D cy y cc maxL ret d mc ms av g N f post := by
  intro sz
  refine Met.ofW (cc := cc) (maxL := maxL) (ret := ret) hy rfl ?_
  intro p e s m args below meth c s₁ B hml hv
  obtain ⟨rfl, hpre⟩ := hv
  obtain ⟨hC, hr, hn, hw, hsz⟩ := w_enter B hml hpre hown hfl
  subst hsz
  rw [lg_entry_eq]
  exact body p e s m below meth c _ hC ⟨hr, hn⟩ hw (lv_entry av hav)
theorem iNi {post : Int32 → (Nat → Nat) × Nat × (Nat → va_E) → Prop} (hy : plainName y.cls = true) (hown : y.cls = own) (hfl : l.stackTraces = false) (hav : (lg_sl av).length ≤ maxL)
    (body : ∀ (p : Program) (e : Env) (s : State) (m : MethodId) (below : List Frame) (meth : Method) (c : Code) (ls : Array Slot), wCx p l s m av.toArray c meth cc maxL own D cy (wA g N s.heap.size) → meth.sig.returnType = ret → Wd D (wA g N s.heap.size) s.heap g N f s.heap [] → lv_has ls maxL (lv_args 0 av) → W p l e (wR d mc ms) s m av.toArray below meth c s.heap [] 0 0 (MQ below (va_Qi post (fun u t => wPn D (wA g N s.heap.size) u t) (wA g N s.heap.size)) av.toArray s mc ms (wA g N s.heap.size)) (F0 m 0 ls [])) : cNi l D cy y cc maxL ret d mc ms av g N f post := by
  intro sz
  refine Met.ofW (cc := cc) (maxL := maxL) (ret := ret) hy rfl ?_
  intro p e s m args below meth c s₁ B hml hv
  obtain ⟨rfl, hpre⟩ := hv
  obtain ⟨hC, hr, hn, hw, hsz⟩ := w_enter B hml hpre hown hfl
  subst hsz
  rw [lg_entry_eq]
  exact body p e s m below meth c _ hC hr hw (lv_entry av hav)
theorem iNr {post : (Nat → Nat) × Nat × (Nat → va_E) → Nat → Prop} (hy : plainName y.cls = true) (hown : y.cls = own) (hfl : l.stackTraces = false) (hav : (lg_sl av).length ≤ maxL)
    (body : ∀ (p : Program) (e : Env) (s : State) (m : MethodId) (below : List Frame) (meth : Method) (c : Code) (ls : Array Slot), wCx p l s m av.toArray c meth cc maxL own D cy (wA g N s.heap.size) → meth.sig.returnType = ret → Wd D (wA g N s.heap.size) s.heap g N f s.heap [] → lv_has ls maxL (lv_args 0 av) → W p l e (wR d mc ms) s m av.toArray below meth c s.heap [] 0 0 (MQ below (va_Qr (fun _ => True) (fun u a t => post u a ∧ wPn D (wA g N s.heap.size) u t) (wA g N s.heap.size)) av.toArray s mc ms (wA g N s.heap.size)) (F0 m 0 ls [])) : cNr l D cy y cc maxL ret d mc ms av g N f post := by
  intro sz
  refine Met.ofW (cc := cc) (maxL := maxL) (ret := ret) hy rfl ?_
  intro p e s m args below meth c s₁ B hml hv
  obtain ⟨rfl, hpre⟩ := hv
  obtain ⟨hC, hr, hn, hw, hsz⟩ := w_enter B hml hpre hown hfl
  subst hsz
  rw [lg_entry_eq]
  exact body p e s m below meth c _ hC hr hw (lv_entry av hav)
theorem iXi {post : Int32 → (Nat → va_E) → Prop} {px : String → (Nat → va_E) → Prop} (hy : plainName y.cls = true) (hown : y.cls = own) (hfl : l.stackTraces = false) (hav : (lg_sl av).length ≤ maxL)
    (body : ∀ (p : Program) (e : Env) (s : State) (m : MethodId) (below : List Frame) (meth : Method) (c : Code) (ls : Array Slot), wCx p l s m av.toArray c meth cc maxL own D cy (wA g N s.heap.size) → meth.sig.returnType = ret → (∀ x ∈ c.exceptionTable.toList, False) → Wd D (wA g N s.heap.size) s.heap g N f s.heap [] → lv_has ls maxL (lv_args 0 av) → W p l e (wR d mc ms) s m av.toArray below meth c s.heap [] 0 0 (vx_MQ below (va_Qi post (fun f' t => wPo D g N s.heap.size f' t) (wA g N s.heap.size)) (wXc D g N s.heap.size px) av.toArray s mc ms (wA g N s.heap.size)) (F0 m 0 ls [])) : cXi l D cy y cc maxL ret d mc ms av g N f post px := by
  intro sz
  refine vx_ofW (cc := cc) (maxL := maxL) (ret := ret) hy rfl ?_
  intro p e s m args below meth c s₁ B hml hx hv
  obtain ⟨rfl, hpre⟩ := hv
  obtain ⟨hC, hr, hn, hw, hsz⟩ := w_enter B hml hpre hown hfl
  subst hsz
  rw [lg_entry_eq]
  exact body p e s m below meth c _ hC hr hx hw (lv_entry av hav)
theorem iXNi {post : Int32 → (Nat → Nat) × Nat × (Nat → va_E) → Prop} {px : String → (Nat → va_E) → Prop} (hy : plainName y.cls = true) (hown : y.cls = own) (hfl : l.stackTraces = false) (hav : (lg_sl av).length ≤ maxL)
    (body : ∀ (p : Program) (e : Env) (s : State) (m : MethodId) (below : List Frame) (meth : Method) (c : Code) (ls : Array Slot), wCx p l s m av.toArray c meth cc maxL own D cy (wA g N s.heap.size) → meth.sig.returnType = ret → (∀ x ∈ c.exceptionTable.toList, False) → Wd D (wA g N s.heap.size) s.heap g N f s.heap [] → lv_has ls maxL (lv_args 0 av) → W p l e (wR d mc ms) s m av.toArray below meth c s.heap [] 0 0 (vx_MQ below (va_Qi post (fun u t => wPn D (wA g N s.heap.size) u t) (wA g N s.heap.size)) (wXc D g N s.heap.size px) av.toArray s mc ms (wA g N s.heap.size)) (F0 m 0 ls [])) : cXNi l D cy y cc maxL ret d mc ms av g N f post px := by
  intro sz
  refine vx_ofW (cc := cc) (maxL := maxL) (ret := ret) hy rfl ?_
  intro p e s m args below meth c s₁ B hml hx hv
  obtain ⟨rfl, hpre⟩ := hv
  obtain ⟨hC, hr, hn, hw, hsz⟩ := w_enter B hml hpre hown hfl
  subst hsz
  rw [lg_entry_eq]
  exact body p e s m below meth c _ hC hr hx hw (lv_entry av hav)
theorem iXv {post : (Nat → va_E) → Prop} {px : String → (Nat → va_E) → Prop} (hy : plainName y.cls = true) (hown : y.cls = own) (hfl : l.stackTraces = false) (hav : (lg_sl av).length ≤ maxL)
    (body : ∀ (p : Program) (e : Env) (s : State) (m : MethodId) (below : List Frame) (meth : Method) (c : Code) (ls : Array Slot), wCx p l s m av.toArray c meth cc maxL own D cy (wA g N s.heap.size) → meth.sig.returnType = ret → (∀ x ∈ c.exceptionTable.toList, False) → Wd D (wA g N s.heap.size) s.heap g N f s.heap [] → lv_has ls maxL (lv_args 0 av) → W p l e (wR d mc ms) s m av.toArray below meth c s.heap [] 0 0 (vx_MQ below (va_Qv post (fun f' t => wPo D g N s.heap.size f' t) (wA g N s.heap.size)) (wXc D g N s.heap.size px) av.toArray s mc ms (wA g N s.heap.size)) (F0 m 0 ls [])) : cXv l D cy y cc maxL ret d mc ms av g N f post px := by
  intro sz
  refine vx_ofW (cc := cc) (maxL := maxL) (ret := ret) hy rfl ?_
  intro p e s m args below meth c s₁ B hml hx hv
  obtain ⟨rfl, hpre⟩ := hv
  obtain ⟨hC, hr, hn, hw, hsz⟩ := w_enter B hml hpre hown hfl
  subst hsz
  rw [lg_entry_eq]
  exact body p e s m below meth c _ hC hr hx hw (lv_entry av hav)
/-- ends -/
theorem eRi {post : Int32 → Prop} {v : Int32} (C : wCx p l s m args c meth cc nL own D cy A) (hr : meth.sig.returnType = some .int) (hp : post v) (hdg : decode cc pc = .ok (.ireturn, 1)) : W p l e R s m args below meth c s.heap [] 0 0 (MQ below (vp_Si post) args s 0 0 (fun _ => False)) (F0 m pc ls [.int v]) :=
  W.iret C.1 C.2.1 hr (fun t ht _ => ⟨v, rfl, hp, ht⟩) (fun _ h => by cases h) hdg C.2.2.2.2.2.2.2.1
theorem w_nar {v : Int32} (h : v = 0 ∨ v = 1) : narrow .boolean (.int v) = .int v := by rcases h with rfl | rfl <;> rfl
theorem eRz {post : Int32 → Prop} {v : Int32} (C : wCx p l s m args c meth cc nL own D cy A) (hr : meth.sig.returnType = some .boolean) (hz : v = 0 ∨ v = 1) (hp : post v) (hdg : decode cc pc = .ok (.ireturn, 1)) : W p l e R s m args below meth c s.heap [] 0 0 (MQ below (vp_Si post) args s 0 0 (fun _ => False)) (F0 m pc ls [.int v]) :=
  W.zret C.1 C.2.1 hr (w_nar hz) (fun t ht _ => ⟨v, rfl, hp, ht⟩) (fun _ h => by cases h) hdg C.2.2.2.2.2.2.2.1
theorem eRr {post : Nat → Prop} {k : Nat} {C0 : String} (C : wCx p l s m args c meth cc nL own D cy A) (hr : meth.sig.returnType = some (.object C0)) (hp : post k) (hdg : decode cc pc = .ok (.areturn, 1)) : W p l e R s m args below meth c s.heap [] 0 0 (MQ below (va_Sr post (fun k => .ref (g k))) args s 0 0 (fun _ => False)) (F0 m pc ls [.ref (g k)]) :=
  W.aret C.1 C.2.1 hr (Or.inl ⟨_, rfl⟩) (Or.inr ⟨_, rfl⟩) (fun t ht _ => ⟨k, rfl, hp, ht⟩) (fun _ h => by cases h) hdg C.2.2.2.2.2.2.2.1
theorem eWi {post : Int32 → (Nat → va_E) → Prop} {v : Int32} (C : wCx p l s m args c meth cc nL own D cy (wA g N s.heap.size)) (h : Wd D (wA g N s.heap.size) s.heap g N f H locs) (hr : meth.sig.returnType = some .int) (hp : post v f) (hc : cells ≤ mc) (hs : slots ≤ ms) (hdg : decode cc pc = .ok (.ireturn, 1)) : W p l e R s m args below meth c H locs cells slots (MQ below (va_Qi post (fun f' t => wPo D g N s.heap.size f' t) (wA g N s.heap.size)) args s mc ms (wA g N s.heap.size)) (F0 m pc ls [.int v]) :=
  W.widen hc hs (W.iret C.1 C.2.1 hr (fun t ht _ => ⟨⟨v, f, rfl, hp, by rw [ht]; exact h.1, h.2.1⟩, h.2.2.F ht⟩) h.2.2.2.2 hdg C.2.2.2.2.2.2.2.1)
theorem eWz {post : Int32 → (Nat → va_E) → Prop} {v : Int32} (C : wCx p l s m args c meth cc nL own D cy (wA g N s.heap.size)) (h : Wd D (wA g N s.heap.size) s.heap g N f H locs) (hr : meth.sig.returnType = some .boolean) (hz : v = 0 ∨ v = 1) (hp : post v f) (hc : cells ≤ mc) (hs : slots ≤ ms) (hdg : decode cc pc = .ok (.ireturn, 1)) : W p l e R s m args below meth c H locs cells slots (MQ below (va_Qi post (fun f' t => wPo D g N s.heap.size f' t) (wA g N s.heap.size)) args s mc ms (wA g N s.heap.size)) (F0 m pc ls [.int v]) :=
  W.widen hc hs (W.zret C.1 C.2.1 hr (w_nar hz) (fun t ht _ => ⟨⟨v, f, rfl, hp, by rw [ht]; exact h.1, h.2.1⟩, h.2.2.F ht⟩) h.2.2.2.2 hdg C.2.2.2.2.2.2.2.1)
theorem eWv {post : (Nat → va_E) → Prop} (C : wCx p l s m args c meth cc nL own D cy (wA g N s.heap.size)) (h : Wd D (wA g N s.heap.size) s.heap g N f H locs) (hr : meth.sig.returnType = none) (hp : post f) (hc : cells ≤ mc) (hs : slots ≤ ms) (hdg : decode cc pc = .ok (.return_, 1)) : W p l e R s m args below meth c H locs cells slots (MQ below (va_Qv post (fun f' t => wPo D g N s.heap.size f' t) (wA g N s.heap.size)) args s mc ms (wA g N s.heap.size)) (F0 m pc ls []) :=
  W.widen hc hs (W.vret C.1 C.2.1 hr (fun t ht _ => ⟨⟨f, rfl, hp, by rw [ht]; exact h.1, h.2.1⟩, h.2.2.F ht⟩) h.2.2.2.2 hdg C.2.2.2.2.2.2.2.1)
theorem eNv {post : (Nat → Nat) × Nat × (Nat → va_E) → Prop} {g1 : Nat → Nat} {N1 : Nat} {f1 : Nat → va_E} (C : wCx p l s m args c meth cc nL own D cy (wA g N s.heap.size)) (h : Wd D (wA g N s.heap.size) s.heap g1 N1 f1 H locs) (hr : meth.sig.returnType = none) (hp : post (g1, N1, f1)) (hc : cells ≤ mc) (hs : slots ≤ ms) (hdg : decode cc pc = .ok (.return_, 1)) : W p l e R s m args below meth c H locs cells slots (MQ below (va_Qv post (fun u t => wPn D (wA g N s.heap.size) u t) (wA g N s.heap.size)) args s mc ms (wA g N s.heap.size)) (F0 m pc ls []) :=
  W.widen hc hs (W.vret C.1 C.2.1 hr (fun t ht _ => ⟨⟨(g1, N1, f1), rfl, hp, by rw [ht]; exact h.1, h.2.1⟩, h.2.2.F ht⟩) h.2.2.2.2 hdg C.2.2.2.2.2.2.2.1)
theorem eNi {post : Int32 → (Nat → Nat) × Nat × (Nat → va_E) → Prop} {v : Int32} {g1 : Nat → Nat} {N1 : Nat} {f1 : Nat → va_E} (C : wCx p l s m args c meth cc nL own D cy (wA g N s.heap.size)) (h : Wd D (wA g N s.heap.size) s.heap g1 N1 f1 H locs) (hr : meth.sig.returnType = some .int) (hp : post v (g1, N1, f1)) (hc : cells ≤ mc) (hs : slots ≤ ms) (hdg : decode cc pc = .ok (.ireturn, 1)) : W p l e R s m args below meth c H locs cells slots (MQ below (va_Qi post (fun u t => wPn D (wA g N s.heap.size) u t) (wA g N s.heap.size)) args s mc ms (wA g N s.heap.size)) (F0 m pc ls [.int v]) :=
  W.widen hc hs (W.iret C.1 C.2.1 hr (fun t ht _ => ⟨⟨v, (g1, N1, f1), rfl, hp, by rw [ht]; exact h.1, h.2.1⟩, h.2.2.F ht⟩) h.2.2.2.2 hdg C.2.2.2.2.2.2.2.1)
theorem eNz {post : Int32 → (Nat → Nat) × Nat × (Nat → va_E) → Prop} {v : Int32} {g1 : Nat → Nat} {N1 : Nat} {f1 : Nat → va_E} (C : wCx p l s m args c meth cc nL own D cy (wA g N s.heap.size)) (h : Wd D (wA g N s.heap.size) s.heap g1 N1 f1 H locs) (hr : meth.sig.returnType = some .boolean) (hz : v = 0 ∨ v = 1) (hp : post v (g1, N1, f1)) (hc : cells ≤ mc) (hs : slots ≤ ms) (hdg : decode cc pc = .ok (.ireturn, 1)) : W p l e R s m args below meth c H locs cells slots (MQ below (va_Qi post (fun u t => wPn D (wA g N s.heap.size) u t) (wA g N s.heap.size)) args s mc ms (wA g N s.heap.size)) (F0 m pc ls [.int v]) :=
  W.widen hc hs (W.zret C.1 C.2.1 hr (w_nar hz) (fun t ht _ => ⟨⟨v, (g1, N1, f1), rfl, hp, by rw [ht]; exact h.1, h.2.1⟩, h.2.2.F ht⟩) h.2.2.2.2 hdg C.2.2.2.2.2.2.2.1)
theorem eNr {post : (Nat → Nat) × Nat × (Nat → va_E) → Nat → Prop} {a : Nat} {g1 : Nat → Nat} {N1 : Nat} {f1 : Nat → va_E} {t0 : FieldType} (C : wCx p l s m args c meth cc nL own D cy (wA g N s.heap.size)) (h : Wd D (wA g N s.heap.size) s.heap g1 N1 f1 H locs) (hr : meth.sig.returnType = some (.array t0)) (hp : post (g1, N1, f1) a) (hc : cells ≤ mc) (hs : slots ≤ ms) (hdg : decode cc pc = .ok (.areturn, 1)) : W p l e R s m args below meth c H locs cells slots (MQ below (va_Qr (fun _ => True) (fun u a t => post u a ∧ wPn D (wA g N s.heap.size) u t) (wA g N s.heap.size)) args s mc ms (wA g N s.heap.size)) (F0 m pc ls [.ref a]) :=
  W.widen hc hs (W.aret C.1 C.2.1 hr (Or.inr ⟨_, rfl⟩) (Or.inr ⟨_, rfl⟩) (fun t ht _ => ⟨⟨(g1, N1, f1), a, rfl, trivial, hp, by rw [ht]; exact h.1, h.2.1⟩, h.2.2.F ht⟩) h.2.2.2.2 hdg C.2.2.2.2.2.2.2.1)
/-- ends by a throw that a callee made -/
theorem eOut {Qc : Array Value → State → Outcome → State → Prop} {px : String → (Nat → va_E) → Prop} {E : String} {ce : Cell} {q9 : Addr} (C : wCx p l s m args c meth cc nL own D cy (wA g N s.heap.size)) (hx : ∀ x ∈ c.exceptionTable.toList, False) (h : Wd D (wA g N s.heap.size) s.heap g N f H locs) (hp : px E f) (h1 : H[q9]? = some ce) (h2 : ce.vm = .none) (h3 : s.vm.findClass E = some ce.cls) (hc : cells ≤ mc) (hs : slots ≤ ms) : vx_W p l e R s m args below meth c H locs cells slots (vx_MQ below Qc (wXc D g N s.heap.size px) args s mc ms (wA g N s.heap.size)) (F0 m pc ls rest) q9 :=
  vx_out (fun x hx9 => (hx x hx9).elim) C.2.2.2.2.2.2.2.1 h1 h2 h3 (fun t ht _ => ⟨f, trivial, ⟨hp, by rw [ht]; exact h.1, h.2.1⟩, h.2.2.F ht⟩) h.2.2.2.2 hc hs
/-- ends by a throw of its own -/
theorem wExc_ok : ∀ q ∈ ([(93, "java/lang/IllegalArgumentException", 89), (63, "java/lang/IllegalStateException", 59), (155, "java/lang/IndexOutOfBoundsException", 151)] : List (Nat × String × Nat)), (Cond.classLink RX9 q.2.2 q.2.1 :: Cond.initialized q.2.1 :: vx_atS RX9 q.1 q.2.1 ["java/lang/RuntimeException", "java/lang/Exception"]).all (fun w => vx_ot w && decide (w ∈ wWords)) = true := by decide +kernel
theorem eThrow {Qc : Array Value → State → Outcome → State → Prop} {px : String → (Nat → va_E) → Prop} {ik ic is : Nat} {cls text : String} (C : wCx p l s m args c meth cc nL RX9 D cy (wA g N s.heap.size)) (hx : ∀ x ∈ c.exceptionTable.toList, False) (h : Wd D (wA g N s.heap.size) s.heap g N f H locs) (hq : (ic, cls, ik) ∈ ([(93, "java/lang/IllegalArgumentException", 89), (63, "java/lang/IllegalStateException", 59), (155, "java/lang/IndexOutOfBoundsException", 151)] : List (Nat × String × Nat))) (hcls : Bundle.fit cls = true) (htx : (is, text) ∈ wStrs) (hp : px cls f) (hsz : ls.size = nL)
    (d0 : decode cc pc = .ok (.new ik, 3)) (d3 : decode cc (pc + 3) = .ok (.dup, 1)) (d4 : decode cc (pc + 4) = .ok (.ldc is, 2)) (d6 : decode cc (pc + 6) = .ok (.invokespecial ic, 3)) (d9 : decode cc (pc + 9) = .ok (.athrow, 1))
    (hR : 6 ≤ R.frames ∧ 120 ≤ R.locals ∧ cells + 1 ≤ R.cells ∧ slots + 6 ≤ R.slots) (hrest : rest = []) (hc : cells + 1 ≤ mc) (hs : slots + 6 ≤ ms) : W p l e R s m args below meth c H locs cells slots (vx_MQ below Qc (wXc D g N s.heap.size px) args s mc ms (wA g N s.heap.size)) (F0 m pc ls rest) := by
  have hall := List.all_eq_true.mp (wExc_ok _ hq)
  have hmem : ∀ w ∈ (Cond.classLink RX9 ik cls :: Cond.initialized cls :: vx_atS RX9 ic cls ["java/lang/RuntimeException", "java/lang/Exception"]), vx_ot w = true ∧ w ∈ wWords := fun w hw => by
    have h1 := hall w hw
    rw [Bool.and_eq_true] at h1
    exact ⟨h1.1, of_decide_eq_true h1.2⟩
  have hb := C.2.2.2.2.1
  obtain ⟨sa, hstr⟩ := C.2.2.2.2.2.1.2.2.1 _ htx
  subst hrest
  refine vx_throwS (own := RX9) (cls := cls) (text := text) (names := ["java/lang/RuntimeException", "java/lang/Exception"]) (ik := ik) (is := is) (ic := ic) (sa := sa) (A := wA g N s.heap.size) C.1 C.2.1 C.2.2.2.2.2.2.2.2 C.2.2.2.1 hcls ?_ (hb _ (hmem _ List.mem_cons_self).2) (hb _ (hmem _ (List.mem_cons_of_mem _ List.mem_cons_self)).2) hstr (fun w hw => hb _ (hmem _ (List.mem_cons_of_mem _ (List.mem_cons_of_mem _ hw))).2) (fun w hw => (hmem w hw).1) C.2.2.2.2.2.1.2.2.2.2.1 C.2.2.2.2.2.1.2.2.2.2.2.1 h.2.2 (hsz.trans C.2.2.1.symm) d0 d3 d4 d6 d9 (fun x hx9 => (hx x hx9).elim) ?_ ?_ hR.2.2.1 hR.2.2.2 C.2.2.2.2.2.2.2.1 ?_ h.2.2.2.2 hc hs
  · decide
  · exact hR.1
  · show 0 + (13 * (2 + 1) + 43) ≤ R.locals
    have := hR.2.1
    omega
  · intro t _ hz hk
    refine ⟨f, trivial, ⟨hp, ?_, h.2.1⟩, ?_⟩
    · exact h.1.kept (fun k q hk9 => hk q.1 (h.1 k q hk9).lt)
    · exact ⟨Nat.le_trans h.2.2.1 hz, fun q h1 h2 => (hk q (Nat.lt_of_lt_of_le h1 h.2.2.1)).trans (h.2.2.2.1 q h1 h2)⟩
end WEN
end
section
/-! what each method is to its callers -/
theorem bX0_init : wBI yX0_init cX0_init 1 0 := ⟨⟨k332, rfl⟩, k25, k0, ⟨by decide, by decide⟩, by decide +kernel, by decide⟩
theorem bX0_conclusionAt : wBV yX0_conclusionAt cX0_conclusionAt 2 (some .int) 1 := ⟨⟨k72, k73⟩, k25, k9, ⟨by decide, by decide⟩, by decide +kernel, by decide⟩
theorem bX0_makerAt : wBV yX0_makerAt cX0_makerAt 2 (some .int) 1 := ⟨⟨k106, k107⟩, k25, k10, ⟨by decide, by decide⟩, by decide +kernel, by decide⟩
theorem bX0_depthAt : wBV yX0_depthAt cX0_depthAt 2 (some .int) 1 := ⟨⟨k65, k66⟩, k25, k11, ⟨by decide, by decide⟩, by decide +kernel, by decide⟩
theorem bX0_partAt : wBV yX0_partAt cX0_partAt 3 (some .int) 2 := ⟨⟨k117, k118⟩, k25, k12, ⟨by decide, by decide⟩, by decide +kernel, by decide⟩
theorem bX0_reachedAt : wBV yX0_reachedAt cX0_reachedAt 2 (some .int) 1 := ⟨⟨k27, k28⟩, k25, k13, ⟨by decide, by decide⟩, by decide +kernel, by decide⟩
theorem bX9_isLiteralOrNone : wBS yX9_isLiteralOrNone cX9_isLiteralOrNone 1 (some .boolean) 1 := ⟨k17, k18, k14, ⟨by decide, by decide⟩, by decide +kernel, by decide⟩
theorem bX2_has : wBV yX2_has cX2_has 2 (some .boolean) 1 := ⟨⟨k82, k83⟩, k84, k15, ⟨by decide, by decide⟩, by decide +kernel, by decide⟩
theorem bX0_literalBit : wBS yX0_literalBit cX0_literalBit 1 (some .int) 1 := ⟨k24, k25, k19, ⟨by decide, by decide⟩, by decide +kernel, by decide⟩
theorem bX0_add : wBV yX0_add cX0_add 7 none 6 := ⟨⟨k78, k79⟩, k25, k20, ⟨by decide, by decide⟩, by decide +kernel, by decide⟩
theorem bJx4a65c_size_8abf5 : wBV yJx4a65c_size_8abf5 cJx4a65c_size_8abf5 1 (some .int) 0 := ⟨⟨k34, k35⟩, k36, k29, ⟨by decide, by decide⟩, by decide +kernel, by decide⟩
theorem bX5_size : wBV yX5_size cX5_size 1 (some .int) 0 := ⟨⟨k86, k87⟩, k88, k31, ⟨by decide, by decide⟩, by decide +kernel, by decide⟩
theorem bJ3_checkIndex_8e157 : wBS yJ3_checkIndex_8e157 cJ3_checkIndex_8e157 3 (some .int) 3 := ⟨k40, k41, k37, ⟨by decide, by decide⟩, by decide +kernel, by decide⟩
theorem bJ15_checkIndex_7cf53 : wBS yJ15_checkIndex_7cf53 cJ15_checkIndex_7cf53 2 (some .int) 2 := ⟨k46, k47, k38, ⟨by decide, by decide⟩, by decide +kernel, by decide⟩
theorem bJx4a65c_elementData_915e3 : wBV yJx4a65c_elementData_915e3 cJx4a65c_elementData_915e3 2 (some (.object "java/lang/Object")) 1 := ⟨⟨k49, k50⟩, k36, k42, ⟨by decide, by decide⟩, by decide +kernel, by decide⟩
theorem bJx4a65c_get_915e3 : wBV yJx4a65c_get_915e3 cJx4a65c_get_915e3 2 (some (.object "java/lang/Object")) 1 := ⟨⟨k54, k55⟩, k36, k44, ⟨by decide, by decide⟩, by decide +kernel, by decide⟩
theorem bX5_at : wBV yX5_at cX5_at 2 (some (.object "RuleArguments$Rule")) 1 := ⟨⟨k90, k91⟩, k88, k56, ⟨by decide, by decide⟩, by decide +kernel, by decide⟩
theorem bX0_choicesEnd : wBS yX0_choicesEnd cX0_choicesEnd 2 (some .int) 2 := ⟨k68, k25, k57, ⟨by decide, by decide⟩, by decide +kernel, by decide⟩
theorem bX0_choicesStart : wBS yX0_choicesStart cX0_choicesStart 1 (some .int) 1 := ⟨k70, k25, k58, ⟨by decide, by decide⟩, by decide +kernel, by decide⟩
theorem bX0_fits : wBV yX0_fits cX0_fits 8 (some .boolean) 5 := ⟨⟨k75, k76⟩, k25, k59, ⟨by decide, by decide⟩, by decide +kernel, by decide⟩
theorem bX0_addMadeBy : wBV yX0_addMadeBy cX0_addMadeBy 11 none 4 := ⟨⟨k93, k94⟩, k25, k80, ⟨by decide, by decide⟩, by decide +kernel, by decide⟩
theorem bX0_build : wBV yX0_build cX0_build 6 none 2 := ⟨⟨k390, k391⟩, k25, k95, ⟨by decide, by decide⟩, by decide +kernel, by decide⟩
theorem bX1_init : wBI yX1_init cX1_init 1 0 := ⟨⟨k333, rfl⟩, k104, k96, ⟨by decide, by decide⟩, by decide +kernel, by decide⟩
theorem bX1_attackersOf : wBV yX1_attackersOf cX1_attackersOf 2 (some .int) 1 := ⟨⟨k102, k103⟩, k104, k99, ⟨by decide, by decide⟩, by decide +kernel, by decide⟩
theorem bX1_leads : wBV yX1_leads cX1_leads 3 (some .boolean) 2 := ⟨⟨k270, k271⟩, k104, k100, ⟨by decide, by decide⟩, by decide +kernel, by decide⟩
theorem bX1_strength : wBS yX1_strength cX1_strength 4 (some .int) 3 := ⟨k112, k104, k109, ⟨by decide, by decide⟩, by decide +kernel, by decide⟩
theorem bX1_attackersOfRule : wBS yX1_attackersOfRule cX1_attackersOfRule 7 (some .int) 3 := ⟨k115, k104, k113, ⟨by decide, by decide⟩, by decide +kernel, by decide⟩
theorem bX1_build : wBV yX1_build cX1_build 6 none 2 := ⟨⟨k393, k394⟩, k104, k119, ⟨by decide, by decide⟩, by decide +kernel, by decide⟩
theorem bX2_init : wBI yX2_init cX2_init 1 0 := ⟨⟨k329, rfl⟩, k84, k120, ⟨by decide, by decide⟩, by decide +kernel, by decide⟩
theorem bX2_put : wBV yX2_put cX2_put 2 none 1 := ⟨⟨k354, k355⟩, k84, k122, ⟨by decide, by decide⟩, by decide +kernel, by decide⟩
theorem bX2_drop : wBV yX2_drop cX2_drop 2 none 1 := ⟨⟨k361, k362⟩, k84, k125, ⟨by decide, by decide⟩, by decide +kernel, by decide⟩
theorem bX3_init : wBI yX3_init cX3_init 1 0 := ⟨⟨k334, rfl⟩, k137, k126, ⟨by decide, by decide⟩, by decide +kernel, by decide⟩
theorem bX3_labelAt : wBV yX3_labelAt cX3_labelAt 2 (some .int) 1 := ⟨⟨k135, k136⟩, k137, k129, ⟨by decide, by decide⟩, by decide +kernel, by decide⟩
theorem bX3_roundAt : wBV yX3_roundAt cX3_roundAt 2 (some .int) 1 := ⟨⟨k427, k428⟩, k137, k132, ⟨by decide, by decide⟩, by decide +kernel, by decide⟩
theorem bX3_unattacked : wBV yX3_unattacked cX3_unattacked 5 (some .int) 2 := ⟨⟨k142, k143⟩, k137, k133, ⟨by decide, by decide⟩, by decide +kernel, by decide⟩
theorem bX3_defeated : wBV yX3_defeated cX3_defeated 5 (some .int) 2 := ⟨⟨k145, k146⟩, k137, k139, ⟨by decide, by decide⟩, by decide +kernel, by decide⟩
theorem bX3_noteRound : wBV yX3_noteRound cX3_noteRound 4 none 2 := ⟨⟨k148, k149⟩, k137, k140, ⟨by decide, by decide⟩, by decide +kernel, by decide⟩
theorem bX3_build : wBV yX3_build cX3_build 6 none 2 := ⟨⟨k396, k397⟩, k137, k150, ⟨by decide, by decide⟩, by decide +kernel, by decide⟩
theorem bX4_init : wBI yX4_init cX4_init 6 5 := ⟨⟨k180, rfl⟩, k176, k151, ⟨by decide, by decide⟩, by decide +kernel, by decide⟩
theorem bJxa1e45_init_da8c8 : wBI yJxa1e45_init_da8c8 cJxa1e45_init_da8c8 1 0 := ⟨⟨k164, rfl⟩, k165, k159, ⟨by decide, by decide⟩, by decide +kernel, by decide⟩
theorem bJxc12de_init_da8c8 : wBI yJxc12de_init_da8c8 cJxc12de_init_da8c8 1 0 := ⟨⟨k169, rfl⟩, k170, k161, ⟨by decide, by decide⟩, by decide +kernel, by decide⟩
theorem bJx4a65c_init_da8c8 : wBI yJx4a65c_init_da8c8 cJx4a65c_init_da8c8 1 0 := ⟨⟨k178, rfl⟩, k36, k166, ⟨by decide, by decide⟩, by decide +kernel, by decide⟩
theorem bX5_init : wBI yX5_init cX5_init 1 0 := ⟨⟨k331, rfl⟩, k88, k181, ⟨by decide, by decide⟩, by decide +kernel, by decide⟩
theorem bJ8_hugeLength_7cf53 : wBS yJ8_hugeLength_7cf53 cJ8_hugeLength_7cf53 3 (some .int) 2 := ⟨k187, k188, k182, ⟨by decide, by decide⟩, by decide +kernel, by decide⟩
theorem bJ8_newLength_cabcc : wBS yJ8_newLength_cabcc cJ8_newLength_cabcc 4 (some .int) 3 := ⟨k210, k188, k184, ⟨by decide, by decide⟩, by decide +kernel, by decide⟩
theorem bJ7_copyOf_6403c : wBS yJ7_copyOf_6403c cJ7_copyOf_6403c 4 (some (.array (.object "java/lang/Object"))) 3 := ⟨k205, k206, k189, ⟨by decide, by decide⟩, by decide +kernel, by decide⟩
theorem bJ7_copyOf_1904c : wBS yJ7_copyOf_1904c cJ7_copyOf_1904c 2 (some (.array (.object "java/lang/Object"))) 2 := ⟨k212, k206, k199, ⟨by decide, by decide⟩, by decide +kernel, by decide⟩
theorem bJx4a65c_grow_92f84 : wBV yJx4a65c_grow_92f84 cJx4a65c_grow_92f84 4 (some (.array (.object "java/lang/Object"))) 1 := ⟨⟨k215, k216⟩, k36, k213, ⟨by decide, by decide⟩, by decide +kernel, by decide⟩
theorem bJx4a65c_grow_d5877 : wBV yJx4a65c_grow_d5877 cJx4a65c_grow_d5877 1 (some (.array (.object "java/lang/Object"))) 0 := ⟨⟨k219, k220⟩, k36, k217, ⟨by decide, by decide⟩, by decide +kernel, by decide⟩
theorem bJx4a65c_add_72be8 : wBV yJx4a65c_add_72be8 cJx4a65c_add_72be8 4 none 3 := ⟨⟨k225, k226⟩, k36, k221, ⟨by decide, by decide⟩, by decide +kernel, by decide⟩
theorem bJx4a65c_add_9ea2d : wBV yJx4a65c_add_9ea2d cJx4a65c_add_9ea2d 2 (some .boolean) 1 := ⟨⟨k229, k230⟩, k36, k227, ⟨by decide, by decide⟩, by decide +kernel, by decide⟩
theorem bX5_put : wBV yX5_put cX5_put 2 none 1 := ⟨⟨k374, k375⟩, k88, k231, ⟨by decide, by decide⟩, by decide +kernel, by decide⟩
theorem bX6_init : wBI yX6_init cX6_init 1 0 := ⟨⟨k260, rfl⟩, k256, k232, ⟨by decide, by decide⟩, by decide +kernel, by decide⟩
theorem bX6_clear : wBV yX6_clear cX6_clear 1 none 0 := ⟨⟨k306, k307⟩, k256, k235, ⟨by decide, by decide⟩, by decide +kernel, by decide⟩
theorem bX6_keep : wBV yX6_keep cX6_keep 2 none 1 := ⟨⟨k297, k298⟩, k256, k237, ⟨by decide, by decide⟩, by decide +kernel, by decide⟩
theorem bX6_covers : wBV yX6_covers cX6_covers 3 (some .boolean) 1 := ⟨⟨k291, k292⟩, k256, k238, ⟨by decide, by decide⟩, by decide +kernel, by decide⟩
theorem bX9_setBit : wBS yX9_setBit cX9_setBit 1 (some .int) 1 := ⟨k241, k18, k239, ⟨by decide, by decide⟩, by decide +kernel, by decide⟩
theorem bX6_contains : wBV yX6_contains cX6_contains 4 (some .boolean) 2 := ⟨⟨k459, k460⟩, k256, k240, ⟨by decide, by decide⟩, by decide +kernel, by decide⟩
theorem bX8_init : wBI yX8_init cX8_init 1 0 := ⟨⟨k259, rfl⟩, k251, k242, ⟨by decide, by decide⟩, by decide +kernel, by decide⟩
theorem bX7_init : wBI yX7_init cX7_init 1 0 := ⟨⟨k335, rfl⟩, k289, k247, ⟨by decide, by decide⟩, by decide +kernel, by decide⟩
theorem bX8_clearRows : wBV yX8_clearRows cX8_clearRows 2 none 0 := ⟨⟨k267, k268⟩, k251, k261, ⟨by decide, by decide⟩, by decide +kernel, by decide⟩
theorem bX8_addToRow : wBV yX8_addToRow cX8_addToRow 3 none 2 := ⟨⟨k273, k274⟩, k251, k262, ⟨by decide, by decide⟩, by decide +kernel, by decide⟩
theorem bX8_fillHalves : wBV yX8_fillHalves cX8_fillHalves 4 none 0 := ⟨⟨k276, k277⟩, k251, k263, ⟨by decide, by decide⟩, by decide +kernel, by decide⟩
theorem bX7_prepare : wBV yX7_prepare cX7_prepare 5 none 2 := ⟨⟨k399, k400⟩, k289, k278, ⟨by decide, by decide⟩, by decide +kernel, by decide⟩
theorem bX7_restFrom : wBV yX7_restFrom cX7_restFrom 3 (some .int) 1 := ⟨⟨k287, k288⟩, k289, k279, ⟨by decide, by decide⟩, by decide +kernel, by decide⟩
theorem bX8_of : wBV yX8_of cX8_of 2 (some .int) 1 := ⟨⟨k283, k284⟩, k251, k280, ⟨by decide, by decide⟩, by decide +kernel, by decide⟩
theorem bX7_canDefend : wBV yX7_canDefend cX7_canDefend 3 (some .boolean) 2 := ⟨⟨k294, k295⟩, k289, k281, ⟨by decide, by decide⟩, by decide +kernel, by decide⟩
theorem bX7_isPeaceful : wBV yX7_isPeaceful cX7_isPeaceful 2 (some .boolean) 1 := ⟨⟨k300, k301⟩, k289, k285, ⟨by decide, by decide⟩, by decide +kernel, by decide⟩
theorem bX7_tryFrom : wBS yX7_tryFrom cX7_tryFrom 5 none 3 := ⟨k303, k289, k304, ⟨by decide, by decide⟩, by decide +kernel, by decide⟩
theorem bX7_tryAll : wBV yX7_tryAll cX7_tryAll 1 none 0 := ⟨⟨k440, k441⟩, k289, k308, ⟨by decide, by decide⟩, by decide +kernel, by decide⟩
theorem bX7_sweep : wBV yX7_sweep cX7_sweep 3 none 0 := ⟨⟨k451, k452⟩, k289, k309, ⟨by decide, by decide⟩, by decide +kernel, by decide⟩
theorem bX9_init : wBI yX9_init cX9_init 1 0 := ⟨⟨k709, rfl⟩, k18, k336, ⟨by decide, by decide⟩, by decide +kernel, by decide⟩
theorem bX9_demandLiteralOrNone : wBS yX9_demandLiteralOrNone cX9_demandLiteralOrNone 1 none 1 := ⟨k343, k18, k337, ⟨by decide, by decide⟩, by decide +kernel, by decide⟩
theorem bX9_demandLiteral : wBS yX9_demandLiteral cX9_demandLiteral 1 none 1 := ⟨k351, k18, k341, ⟨by decide, by decide⟩, by decide +kernel, by decide⟩
theorem bX9_forget : wBV yX9_forget cX9_forget 1 none 0 := ⟨⟨k357, k358⟩, k18, k344, ⟨by decide, by decide⟩, by decide +kernel, by decide⟩
theorem bX9_addFact : wBV yX9_addFact cX9_addFact 2 (some .int) 1 := ⟨⟨k624, k625⟩, k18, k359, ⟨by decide, by decide⟩, by decide +kernel, by decide⟩
theorem bX9_takeBack : wBV yX9_takeBack cX9_takeBack 2 (some .boolean) 1 := ⟨⟨k628, k629⟩, k18, k363, ⟨by decide, by decide⟩, by decide +kernel, by decide⟩
theorem bX9_demandPriority : wBS yX9_demandPriority cX9_demandPriority 1 none 1 := ⟨k368, k18, k364, ⟨by decide, by decide⟩, by decide +kernel, by decide⟩
theorem bX9_followsInBody : wBS yX9_followsInBody cX9_followsInBody 2 (some .boolean) 2 := ⟨k370, k18, k365, ⟨by decide, by decide⟩, by decide +kernel, by decide⟩
theorem bX9_addRule : wBV yX9_addRule cX9_addRule 6 (some .int) 5 := ⟨⟨k632, k633⟩, k18, k376, ⟨by decide, by decide⟩, by decide +kernel, by decide⟩
theorem bX9_demandRule : wBV yX9_demandRule cX9_demandRule 2 none 1 := ⟨⟨k381, k382⟩, k18, k377, ⟨by decide, by decide⟩, by decide +kernel, by decide⟩
theorem bX9_setPriority : wBV yX9_setPriority cX9_setPriority 5 (some .int) 2 := ⟨⟨k637, k638⟩, k18, k384, ⟨by decide, by decide⟩, by decide +kernel, by decide⟩
theorem bX9_setException : wBV yX9_setException cX9_setException 5 (some .int) 2 := ⟨⟨k641, k642⟩, k18, k385, ⟨by decide, by decide⟩, by decide +kernel, by decide⟩
theorem bX9_turn : wBV yX9_turn cX9_turn 5 (some .boolean) 2 := ⟨⟨k645, k646⟩, k18, k386, ⟨by decide, by decide⟩, by decide +kernel, by decide⟩
theorem bX9_facts : wBV yX9_facts cX9_facts 1 (some .int) 0 := ⟨⟨k747, k748⟩, k18, k387, ⟨by decide, by decide⟩, by decide +kernel, by decide⟩
theorem bX9_rules : wBV yX9_rules cX9_rules 1 (some .int) 0 := ⟨⟨k753, k754⟩, k18, k388, ⟨by decide, by decide⟩, by decide +kernel, by decide⟩
theorem bX9_build : wBV yX9_build cX9_build 1 none 0 := ⟨⟨k403, k404⟩, k18, k401, ⟨by decide, by decide⟩, by decide +kernel, by decide⟩
theorem bX9_arguments : wBV yX9_arguments cX9_arguments 1 (some .int) 0 := ⟨⟨k759, k760⟩, k18, k405, ⟨by decide, by decide⟩, by decide +kernel, by decide⟩
theorem bX9_demandTold : wBV yX9_demandTold cX9_demandTold 1 none 0 := ⟨⟨k409, k410⟩, k18, k406, ⟨by decide, by decide⟩, by decide +kernel, by decide⟩
theorem bX9_demandArgument : wBV yX9_demandArgument cX9_demandArgument 2 none 1 := ⟨⟨k412, k413⟩, k18, k407, ⟨by decide, by decide⟩, by decide +kernel, by decide⟩
theorem bX9_conclusion : wBV yX9_conclusion cX9_conclusion 2 (some .int) 1 := ⟨⟨k649, k650⟩, k18, k415, ⟨by decide, by decide⟩, by decide +kernel, by decide⟩
theorem bX9_madeBy : wBV yX9_madeBy cX9_madeBy 2 (some .int) 1 := ⟨⟨k653, k654⟩, k18, k417, ⟨by decide, by decide⟩, by decide +kernel, by decide⟩
theorem bX9_part : wBV yX9_part cX9_part 4 (some .int) 2 := ⟨⟨k657, k658⟩, k18, k419, ⟨by decide, by decide⟩, by decide +kernel, by decide⟩
theorem bX9_depth : wBV yX9_depth cX9_depth 2 (some .int) 1 := ⟨⟨k661, k662⟩, k18, k421, ⟨by decide, by decide⟩, by decide +kernel, by decide⟩
theorem bX9_attacks : wBV yX9_attacks cX9_attacks 3 (some .boolean) 2 := ⟨⟨k665, k666⟩, k18, k423, ⟨by decide, by decide⟩, by decide +kernel, by decide⟩
theorem bX9_label : wBV yX9_label cX9_label 2 (some .int) 1 := ⟨⟨k669, k670⟩, k18, k425, ⟨by decide, by decide⟩, by decide +kernel, by decide⟩
theorem bX9_round : wBV yX9_round cX9_round 2 (some .int) 1 := ⟨⟨k673, k674⟩, k18, k429, ⟨by decide, by decide⟩, by decide +kernel, by decide⟩
theorem bX9_holds : wBV yX9_holds cX9_holds 4 (some .int) 1 := ⟨⟨k677, k678⟩, k18, k431, ⟨by decide, by decide⟩, by decide +kernel, by decide⟩
theorem bX9_reasonFor : wBV yX9_reasonFor cX9_reasonFor 3 (some .int) 1 := ⟨⟨k681, k682⟩, k18, k432, ⟨by decide, by decide⟩, by decide +kernel, by decide⟩
theorem bX9_lowestAttacker : wBV yX9_lowestAttacker cX9_lowestAttacker 4 (some .int) 2 := ⟨⟨k435, k436⟩, k18, k433, ⟨by decide, by decide⟩, by decide +kernel, by decide⟩
theorem bX9_reasonAgainst : wBV yX9_reasonAgainst cX9_reasonAgainst 3 (some .int) 1 := ⟨⟨k685, k686⟩, k18, k437, ⟨by decide, by decide⟩, by decide +kernel, by decide⟩
theorem bX9_demandFew : wBV yX9_demandFew cX9_demandFew 1 none 0 := ⟨⟨k444, k445⟩, k18, k438, ⟨by decide, by decide⟩, by decide +kernel, by decide⟩
theorem bX9_trySets : wBV yX9_trySets cX9_trySets 1 none 0 := ⟨⟨k447, k448⟩, k18, k442, ⟨by decide, by decide⟩, by decide +kernel, by decide⟩
theorem bX9_preferred : wBV yX9_preferred cX9_preferred 1 (some .int) 0 := ⟨⟨k689, k690⟩, k18, k449, ⟨by decide, by decide⟩, by decide +kernel, by decide⟩
theorem bX9_sweepSets : wBV yX9_sweepSets cX9_sweepSets 1 none 0 := ⟨⟨k455, k456⟩, k18, k453, ⟨by decide, by decide⟩, by decide +kernel, by decide⟩
theorem bX9_preferredByAllSets : wBV yX9_preferredByAllSets cX9_preferredByAllSets 1 (some .int) 0 := ⟨⟨k693, k694⟩, k18, k457, ⟨by decide, by decide⟩, by decide +kernel, by decide⟩
theorem bX9_isInSet : wBV yX9_isInSet cX9_isInSet 3 (some .boolean) 2 := ⟨⟨k697, k698⟩, k18, k461, ⟨by decide, by decide⟩, by decide +kernel, by decide⟩
theorem bX9_concludesInSet : wBV yX9_concludesInSet cX9_concludesInSet 4 (some .boolean) 2 := ⟨⟨k464, k465⟩, k18, k462, ⟨by decide, by decide⟩, by decide +kernel, by decide⟩
theorem bX9_setsFor : wBV yX9_setsFor cX9_setsFor 4 (some .int) 1 := ⟨⟨k701, k702⟩, k18, k466, ⟨by decide, by decide⟩, by decide +kernel, by decide⟩
theorem bX10_init : wBI yX10_init cX10_init 1 0 := ⟨⟨k711, rfl⟩, k494, k467, ⟨by decide, by decide⟩, by decide +kernel, by decide⟩
theorem bX10_thrown : wBV yX10_thrown cX10_thrown 1 (some .int) 0 := ⟨⟨k719, k720⟩, k494, k485, ⟨by decide, by decide⟩, by decide +kernel, by decide⟩
theorem bX10_isLiteral : wBS yX10_isLiteral cX10_isLiteral 1 (some .boolean) 1 := ⟨k493, k494, k487, ⟨by decide, by decide⟩, by decide +kernel, by decide⟩
theorem bX10_isLiteralOrNone : wBS yX10_isLiteralOrNone cX10_isLiteralOrNone 1 (some .boolean) 1 := ⟨k505, k494, k488, ⟨by decide, by decide⟩, by decide +kernel, by decide⟩
theorem bX10_passes : wBV yX10_passes cX10_passes 2 (some .boolean) 1 := ⟨⟨k496, k497⟩, k494, k489, ⟨by decide, by decide⟩, by decide +kernel, by decide⟩
theorem bX10_factsNow : wBV yX10_factsNow cX10_factsNow 3 (some .int) 0 := ⟨⟨k499, k500⟩, k494, k490, ⟨by decide, by decide⟩, by decide +kernel, by decide⟩
theorem bX10_addFact : wBV yX10_addFact cX10_addFact 3 (some .int) 1 := ⟨⟨k716, k717⟩, k494, k491, ⟨by decide, by decide⟩, by decide +kernel, by decide⟩
theorem bX10_takeBack : wBV yX10_takeBack cX10_takeBack 3 (some .boolean) 1 := ⟨⟨k724, k725⟩, k494, k501, ⟨by decide, by decide⟩, by decide +kernel, by decide⟩
theorem bX10_addRule : wBV yX10_addRule cX10_addRule 9 (some .int) 5 := ⟨⟨k729, k730⟩, k494, k502, ⟨by decide, by decide⟩, by decide +kernel, by decide⟩
theorem bX10_isRule : wBV yX10_isRule cX10_isRule 2 (some .boolean) 1 := ⟨⟨k509, k510⟩, k494, k506, ⟨by decide, by decide⟩, by decide +kernel, by decide⟩
theorem bX10_setPriority : wBV yX10_setPriority cX10_setPriority 4 (some .int) 2 := ⟨⟨k734, k735⟩, k494, k507, ⟨by decide, by decide⟩, by decide +kernel, by decide⟩
theorem bX10_setException : wBV yX10_setException cX10_setException 4 (some .int) 2 := ⟨⟨k739, k740⟩, k494, k511, ⟨by decide, by decide⟩, by decide +kernel, by decide⟩
theorem bX10_turn : wBV yX10_turn cX10_turn 4 (some .boolean) 2 := ⟨⟨k744, k745⟩, k494, k512, ⟨by decide, by decide⟩, by decide +kernel, by decide⟩
theorem bX10_facts : wBV yX10_facts cX10_facts 1 (some .int) 0 := ⟨⟨k750, k751⟩, k494, k513, ⟨by decide, by decide⟩, by decide +kernel, by decide⟩
theorem bX10_rules : wBV yX10_rules cX10_rules 1 (some .int) 0 := ⟨⟨k756, k757⟩, k494, k514, ⟨by decide, by decide⟩, by decide +kernel, by decide⟩
theorem bX10_withAll : wBV yX10_withAll cX10_withAll 2 (some .int) 1 := ⟨⟨k520, k521⟩, k494, k515, ⟨by decide, by decide⟩, by decide +kernel, by decide⟩
theorem bX10_lays : wBV yX10_lays cX10_lays 7 none 6 := ⟨⟨k535, k536⟩, k494, k516, ⟨by decide, by decide⟩, by decide +kernel, by decide⟩
theorem bX10_isPart : wBV yX10_isPart cX10_isPart 5 (some .boolean) 3 := ⟨⟨k526, k527⟩, k494, k522, ⟨by decide, by decide⟩, by decide +kernel, by decide⟩
theorem bX10_isBuiltOf : wBV yX10_isBuiltOf cX10_isBuiltOf 5 (some .boolean) 2 := ⟨⟨k532, k533⟩, k494, k523, ⟨by decide, by decide⟩, by decide +kernel, by decide⟩
theorem bX10_depthOf : wBV yX10_depthOf cX10_depthOf 2 (some .int) 1 := ⟨⟨k529, k530⟩, k494, k524, ⟨by decide, by decide⟩, by decide +kernel, by decide⟩
theorem bX10_makes : wBV yX10_makes cX10_makes 9 none 3 := ⟨⟨k539, k540⟩, k494, k537, ⟨by decide, by decide⟩, by decide +kernel, by decide⟩
theorem bX10_builds : wBV yX10_builds cX10_builds 4 none 0 := ⟨⟨k552, k553⟩, k494, k541, ⟨by decide, by decide⟩, by decide +kernel, by decide⟩
theorem bX10_strengthOf : wBV yX10_strengthOf cX10_strengthOf 2 (some .int) 1 := ⟨⟨k545, k546⟩, k494, k542, ⟨by decide, by decide⟩, by decide +kernel, by decide⟩
theorem bX10_opposes : wBV yX10_opposes cX10_opposes 4 (some .boolean) 2 := ⟨⟨k549, k550⟩, k494, k543, ⟨by decide, by decide⟩, by decide +kernel, by decide⟩
theorem bX10_laysAttacks : wBV yX10_laysAttacks cX10_laysAttacks 5 none 0 := ⟨⟨k555, k556⟩, k494, k547, ⟨by decide, by decide⟩, by decide +kernel, by decide⟩
theorem bX10_isTold : wBV yX10_isTold cX10_isTold 2 (some .boolean) 1 := ⟨⟨k559, k560⟩, k494, k557, ⟨by decide, by decide⟩, by decide +kernel, by decide⟩
theorem bX10_isArgument : wBV yX10_isArgument cX10_isArgument 2 (some .boolean) 1 := ⟨⟨k564, k565⟩, k494, k561, ⟨by decide, by decide⟩, by decide +kernel, by decide⟩
theorem bX10_arguments : wBV yX10_arguments cX10_arguments 1 (some .int) 0 := ⟨⟨k762, k763⟩, k494, k562, ⟨by decide, by decide⟩, by decide +kernel, by decide⟩
theorem bX10_conclusion : wBV yX10_conclusion cX10_conclusion 2 (some .int) 1 := ⟨⟨k767, k768⟩, k494, k566, ⟨by decide, by decide⟩, by decide +kernel, by decide⟩
theorem bX10_madeBy : wBV yX10_madeBy cX10_madeBy 2 (some .int) 1 := ⟨⟨k772, k773⟩, k494, k567, ⟨by decide, by decide⟩, by decide +kernel, by decide⟩
theorem bX10_part : wBV yX10_part cX10_part 4 (some .int) 2 := ⟨⟨k777, k778⟩, k494, k568, ⟨by decide, by decide⟩, by decide +kernel, by decide⟩
theorem bX10_depth : wBV yX10_depth cX10_depth 2 (some .int) 1 := ⟨⟨k782, k783⟩, k494, k569, ⟨by decide, by decide⟩, by decide +kernel, by decide⟩
theorem bX10_attacks : wBV yX10_attacks cX10_attacks 3 (some .boolean) 2 := ⟨⟨k787, k788⟩, k494, k570, ⟨by decide, by decide⟩, by decide +kernel, by decide⟩
theorem bX10_withLabel : wBV yX10_withLabel cX10_withLabel 4 (some .int) 1 := ⟨⟨k574, k575⟩, k494, k571, ⟨by decide, by decide⟩, by decide +kernel, by decide⟩
theorem bX10_labelsAll : wBV yX10_labelsAll cX10_labelsAll 6 none 0 := ⟨⟨k577, k578⟩, k494, k572, ⟨by decide, by decide⟩, by decide +kernel, by decide⟩
theorem bX10_label : wBV yX10_label cX10_label 2 (some .int) 1 := ⟨⟨k792, k793⟩, k494, k579, ⟨by decide, by decide⟩, by decide +kernel, by decide⟩
theorem bX10_round : wBV yX10_round cX10_round 2 (some .int) 1 := ⟨⟨k797, k798⟩, k494, k580, ⟨by decide, by decide⟩, by decide +kernel, by decide⟩
theorem bX10_isAsked : wBV yX10_isAsked cX10_isAsked 2 (some .boolean) 1 := ⟨⟨k583, k584⟩, k494, k581, ⟨by decide, by decide⟩, by decide +kernel, by decide⟩
theorem bX10_holds : wBV yX10_holds cX10_holds 4 (some .int) 1 := ⟨⟨k802, k803⟩, k494, k585, ⟨by decide, by decide⟩, by decide +kernel, by decide⟩
theorem bX10_reasonFor : wBV yX10_reasonFor cX10_reasonFor 4 (some .int) 1 := ⟨⟨k807, k808⟩, k494, k586, ⟨by decide, by decide⟩, by decide +kernel, by decide⟩
theorem bX10_lowest : wBS yX10_lowest cX10_lowest 3 (some .int) 1 := ⟨k589, k494, k587, ⟨by decide, by decide⟩, by decide +kernel, by decide⟩
theorem bX10_reasonAgainst : wBV yX10_reasonAgainst cX10_reasonAgainst 3 (some .int) 1 := ⟨⟨k812, k813⟩, k494, k590, ⟨by decide, by decide⟩, by decide +kernel, by decide⟩
theorem bX10_has : wBV yX10_has cX10_has 3 (some .boolean) 2 := ⟨⟨k594, k595⟩, k494, k591, ⟨by decide, by decide⟩, by decide +kernel, by decide⟩
theorem bX10_turned : wBV yX10_turned cX10_turned 4 (some .int) 1 := ⟨⟨k598, k599⟩, k494, k592, ⟨by decide, by decide⟩, by decide +kernel, by decide⟩
theorem bX10_isAdmissible : wBV yX10_isAdmissible cX10_isAdmissible 6 (some .boolean) 1 := ⟨⟨k602, k603⟩, k494, k596, ⟨by decide, by decide⟩, by decide +kernel, by decide⟩
theorem bX10_prefers : wBV yX10_prefers cX10_prefers 5 (some .int) 0 := ⟨⟨k609, k610⟩, k494, k600, ⟨by decide, by decide⟩, by decide +kernel, by decide⟩
theorem bX10_areFew : wBV yX10_areFew cX10_areFew 2 (some .boolean) 1 := ⟨⟨k606, k607⟩, k494, k604, ⟨by decide, by decide⟩, by decide +kernel, by decide⟩
theorem bX10_preferred : wBV yX10_preferred cX10_preferred 1 (some .int) 0 := ⟨⟨k817, k818⟩, k494, k611, ⟨by decide, by decide⟩, by decide +kernel, by decide⟩
theorem bX10_preferredByAllSets : wBV yX10_preferredByAllSets cX10_preferredByAllSets 1 (some .int) 0 := ⟨⟨k822, k823⟩, k494, k612, ⟨by decide, by decide⟩, by decide +kernel, by decide⟩
theorem bX10_setAt : wBV yX10_setAt cX10_setAt 4 (some .int) 1 := ⟨⟨k615, k616⟩, k494, k613, ⟨by decide, by decide⟩, by decide +kernel, by decide⟩
theorem bX10_isInSet : wBV yX10_isInSet cX10_isInSet 4 (some .boolean) 2 := ⟨⟨k827, k828⟩, k494, k617, ⟨by decide, by decide⟩, by decide +kernel, by decide⟩
theorem bX10_setsFor : wBV yX10_setsFor cX10_setsFor 8 (some .int) 1 := ⟨⟨k832, k833⟩, k494, k618, ⟨by decide, by decide⟩, by decide +kernel, by decide⟩
end
section
/-! THE SHAPE: each cell by its number; what it holds is a row of ints -/
def rid (j : Nat) : Nat := if j = 0 then 47 else if j ≤ 9 then 48 + j else if j = 10 then 58 else 60
def wElem (cy g : Nat → Nat) (n : Int32) : Nat := if n = 0 then cy 9 else if n ≤ 10 then g 48 else g 59
def sh (g cy : Nat → Nat) (j : Nat) (row : Nat → Int32) : va_E := match j with
  | 0 => .inr (10, [.ref (g 1), .ref (g 3), .ref (g 6), .ref (g 12), .ref (g 14), .ref (g 16), .int (row 6), .int (row 7), .int (row 8)])
  | 1 => .inr (3, [.ref (g 2), .int (row 1)])
  | 2 => .inl (cy 1, 21, .inl row)
  | 3 => .inr (6, [.ref (g 4), .ref (g 5)])
  | 4 => .inr (0, [.int (row 0), .ref (wElem cy g (row 2)), .int (row 2)])
  | 5 => .inr (5, [.int (row 0), .int (row 1), .int (row 2), .int (row 3), .int (row 4), .int (row 5), .int (row 6)])
  | 6 => .inr (1, [.ref (g 7), .ref (g 8), .ref (g 9), .ref (g 10), .ref (g 11), .int (row 5), .int (row 6)])
  | 7 => .inl (cy 0, 24, .inl row)
  | 8 => .inl (cy 0, 24, .inl row)
  | 9 => .inl (cy 0, 24, .inl row)
  | 10 => .inl (cy 0, 72, .inl row)
  | 11 => .inl (cy 0, 24, .inl row)
  | 12 => .inr (2, [.ref (g 13)])
  | 13 => .inl (cy 0, 24, .inl row)
  | 14 => .inr (4, [.ref (g 15), .int (row 1), .int (row 2)])
  | 15 => .inl (cy 0, 24, .inl row)
  | 16 => .inr (8, [.ref (g 17), .ref (g 21), .ref (g 25), .ref (g 27), .int (row 4)])
  | 17 => .inr (9, [.ref (g 18), .ref (g 19), .ref (g 20)])
  | 18 => .inl (cy 0, 14, .inl row)
  | 19 => .inl (cy 0, 128, .inl row)
  | 20 => .inl (cy 0, 128, .inl row)
  | 21 => .inr (9, [.ref (g 22), .ref (g 23), .ref (g 24)])
  | 22 => .inl (cy 0, 14, .inl row)
  | 23 => .inl (cy 0, 128, .inl row)
  | 24 => .inl (cy 0, 128, .inl row)
  | 25 => .inr (7, [.ref (g 26), .int (row 1)])
  | 26 => .inl (cy 0, 162, .inl row)
  | 27 => .inr (7, [.ref (g 28), .int (row 1)])
  | 28 => .inl (cy 0, 162, .inl row)
  | 29 => .inr (11, [.int (row 0), .ref (g 30), .int (row 2), .ref (g 31), .ref (g 32), .ref (g 33), .ref (g 34), .ref (g 35), .int (row 8), .int (row 9), .ref (g 36), .ref (g 37), .ref (g 38), .ref (g 39), .ref (g 40), .ref (g 41), .ref (g 42), .ref (g 43), .ref (g 44), .ref (g 45)])
  | 30 => .inl (cy 1, 21, .inl row)
  | 31 => .inl (cy 0, 12, .inl row)
  | 32 => .inl (cy 0, 36, .inl row)
  | 33 => .inl (cy 0, 12, .inl row)
  | 34 => .inl (cy 0, 12, .inl row)
  | 35 => .inl (cy 1, 12, .inl row)
  | 36 => .inl (cy 0, 24, .inl row)
  | 37 => .inl (cy 0, 24, .inl row)
  | 38 => .inl (cy 0, 72, .inl row)
  | 39 => .inl (cy 0, 24, .inl row)
  | 40 => .inl (cy 0, 24, .inl row)
  | 41 => .inl (cy 0, 24, .inl row)
  | 42 => .inl (cy 0, 24, .inl row)
  | 43 => .inl (cy 0, 24, .inl row)
  | 44 => .inl (cy 1, 16384, .inl row)
  | 45 => .inl (cy 1, 16384, .inl row)
  | 46 => .inl (cy 3, 1, .inr (.inl (fun j => (row j).toInt64)))
  | 48 => .inl (cy 2, 10, .inr (.inr (.inr (.inr (fun j => if row j = 0 then none else some (g (rid j)))))))
  | 59 => .inl (cy 2, 15, .inr (.inr (.inr (.inr (fun j => if row j = 0 then none else some (g (rid j)))))))
  | _ => .inr (5, [.int (row 0), .int (row 1), .int (row 2), .int (row 3), .int (row 4), .int (row 5), .int (row 6)])
def shp (g cy : Nat → Nat) (X : Nat → Nat → Int32) : Nat → va_E := fun j => sh g cy j (X j)
def up (X : Nat → Nat → Int32) (k : Nat) (row : Nat → Int32) : Nat → Nat → Int32 := fun j => if j = k then row else X j
theorem sh_0 (g cy : Nat → Nat) (row : Nat → Int32) : sh g cy 0 row = .inr (10, [.ref (g 1), .ref (g 3), .ref (g 6), .ref (g 12), .ref (g 14), .ref (g 16), .int (row 6), .int (row 7), .int (row 8)]) := rfl
theorem sh_1 (g cy : Nat → Nat) (row : Nat → Int32) : sh g cy 1 row = .inr (3, [.ref (g 2), .int (row 1)]) := rfl
theorem sh_2 (g cy : Nat → Nat) (row : Nat → Int32) : sh g cy 2 row = .inl (cy 1, 21, .inl row) := rfl
theorem sh_3 (g cy : Nat → Nat) (row : Nat → Int32) : sh g cy 3 row = .inr (6, [.ref (g 4), .ref (g 5)]) := rfl
theorem sh_4 (g cy : Nat → Nat) (row : Nat → Int32) : sh g cy 4 row = .inr (0, [.int (row 0), .ref (wElem cy g (row 2)), .int (row 2)]) := rfl
theorem sh_5 (g cy : Nat → Nat) (row : Nat → Int32) : sh g cy 5 row = .inr (5, [.int (row 0), .int (row 1), .int (row 2), .int (row 3), .int (row 4), .int (row 5), .int (row 6)]) := rfl
theorem sh_6 (g cy : Nat → Nat) (row : Nat → Int32) : sh g cy 6 row = .inr (1, [.ref (g 7), .ref (g 8), .ref (g 9), .ref (g 10), .ref (g 11), .int (row 5), .int (row 6)]) := rfl
theorem sh_7 (g cy : Nat → Nat) (row : Nat → Int32) : sh g cy 7 row = .inl (cy 0, 24, .inl row) := rfl
theorem sh_8 (g cy : Nat → Nat) (row : Nat → Int32) : sh g cy 8 row = .inl (cy 0, 24, .inl row) := rfl
theorem sh_9 (g cy : Nat → Nat) (row : Nat → Int32) : sh g cy 9 row = .inl (cy 0, 24, .inl row) := rfl
theorem sh_10 (g cy : Nat → Nat) (row : Nat → Int32) : sh g cy 10 row = .inl (cy 0, 72, .inl row) := rfl
theorem sh_11 (g cy : Nat → Nat) (row : Nat → Int32) : sh g cy 11 row = .inl (cy 0, 24, .inl row) := rfl
theorem sh_12 (g cy : Nat → Nat) (row : Nat → Int32) : sh g cy 12 row = .inr (2, [.ref (g 13)]) := rfl
theorem sh_13 (g cy : Nat → Nat) (row : Nat → Int32) : sh g cy 13 row = .inl (cy 0, 24, .inl row) := rfl
theorem sh_14 (g cy : Nat → Nat) (row : Nat → Int32) : sh g cy 14 row = .inr (4, [.ref (g 15), .int (row 1), .int (row 2)]) := rfl
theorem sh_15 (g cy : Nat → Nat) (row : Nat → Int32) : sh g cy 15 row = .inl (cy 0, 24, .inl row) := rfl
theorem sh_16 (g cy : Nat → Nat) (row : Nat → Int32) : sh g cy 16 row = .inr (8, [.ref (g 17), .ref (g 21), .ref (g 25), .ref (g 27), .int (row 4)]) := rfl
theorem sh_17 (g cy : Nat → Nat) (row : Nat → Int32) : sh g cy 17 row = .inr (9, [.ref (g 18), .ref (g 19), .ref (g 20)]) := rfl
theorem sh_18 (g cy : Nat → Nat) (row : Nat → Int32) : sh g cy 18 row = .inl (cy 0, 14, .inl row) := rfl
theorem sh_19 (g cy : Nat → Nat) (row : Nat → Int32) : sh g cy 19 row = .inl (cy 0, 128, .inl row) := rfl
theorem sh_20 (g cy : Nat → Nat) (row : Nat → Int32) : sh g cy 20 row = .inl (cy 0, 128, .inl row) := rfl
theorem sh_21 (g cy : Nat → Nat) (row : Nat → Int32) : sh g cy 21 row = .inr (9, [.ref (g 22), .ref (g 23), .ref (g 24)]) := rfl
theorem sh_22 (g cy : Nat → Nat) (row : Nat → Int32) : sh g cy 22 row = .inl (cy 0, 14, .inl row) := rfl
theorem sh_23 (g cy : Nat → Nat) (row : Nat → Int32) : sh g cy 23 row = .inl (cy 0, 128, .inl row) := rfl
theorem sh_24 (g cy : Nat → Nat) (row : Nat → Int32) : sh g cy 24 row = .inl (cy 0, 128, .inl row) := rfl
theorem sh_25 (g cy : Nat → Nat) (row : Nat → Int32) : sh g cy 25 row = .inr (7, [.ref (g 26), .int (row 1)]) := rfl
theorem sh_26 (g cy : Nat → Nat) (row : Nat → Int32) : sh g cy 26 row = .inl (cy 0, 162, .inl row) := rfl
theorem sh_27 (g cy : Nat → Nat) (row : Nat → Int32) : sh g cy 27 row = .inr (7, [.ref (g 28), .int (row 1)]) := rfl
theorem sh_28 (g cy : Nat → Nat) (row : Nat → Int32) : sh g cy 28 row = .inl (cy 0, 162, .inl row) := rfl
theorem sh_29 (g cy : Nat → Nat) (row : Nat → Int32) : sh g cy 29 row = .inr (11, [.int (row 0), .ref (g 30), .int (row 2), .ref (g 31), .ref (g 32), .ref (g 33), .ref (g 34), .ref (g 35), .int (row 8), .int (row 9), .ref (g 36), .ref (g 37), .ref (g 38), .ref (g 39), .ref (g 40), .ref (g 41), .ref (g 42), .ref (g 43), .ref (g 44), .ref (g 45)]) := rfl
theorem sh_30 (g cy : Nat → Nat) (row : Nat → Int32) : sh g cy 30 row = .inl (cy 1, 21, .inl row) := rfl
theorem sh_31 (g cy : Nat → Nat) (row : Nat → Int32) : sh g cy 31 row = .inl (cy 0, 12, .inl row) := rfl
theorem sh_32 (g cy : Nat → Nat) (row : Nat → Int32) : sh g cy 32 row = .inl (cy 0, 36, .inl row) := rfl
theorem sh_33 (g cy : Nat → Nat) (row : Nat → Int32) : sh g cy 33 row = .inl (cy 0, 12, .inl row) := rfl
theorem sh_34 (g cy : Nat → Nat) (row : Nat → Int32) : sh g cy 34 row = .inl (cy 0, 12, .inl row) := rfl
theorem sh_35 (g cy : Nat → Nat) (row : Nat → Int32) : sh g cy 35 row = .inl (cy 1, 12, .inl row) := rfl
theorem sh_36 (g cy : Nat → Nat) (row : Nat → Int32) : sh g cy 36 row = .inl (cy 0, 24, .inl row) := rfl
theorem sh_37 (g cy : Nat → Nat) (row : Nat → Int32) : sh g cy 37 row = .inl (cy 0, 24, .inl row) := rfl
theorem sh_38 (g cy : Nat → Nat) (row : Nat → Int32) : sh g cy 38 row = .inl (cy 0, 72, .inl row) := rfl
theorem sh_39 (g cy : Nat → Nat) (row : Nat → Int32) : sh g cy 39 row = .inl (cy 0, 24, .inl row) := rfl
theorem sh_40 (g cy : Nat → Nat) (row : Nat → Int32) : sh g cy 40 row = .inl (cy 0, 24, .inl row) := rfl
theorem sh_41 (g cy : Nat → Nat) (row : Nat → Int32) : sh g cy 41 row = .inl (cy 0, 24, .inl row) := rfl
theorem sh_42 (g cy : Nat → Nat) (row : Nat → Int32) : sh g cy 42 row = .inl (cy 0, 24, .inl row) := rfl
theorem sh_43 (g cy : Nat → Nat) (row : Nat → Int32) : sh g cy 43 row = .inl (cy 0, 24, .inl row) := rfl
theorem sh_44 (g cy : Nat → Nat) (row : Nat → Int32) : sh g cy 44 row = .inl (cy 1, 16384, .inl row) := rfl
theorem sh_45 (g cy : Nat → Nat) (row : Nat → Int32) : sh g cy 45 row = .inl (cy 1, 16384, .inl row) := rfl
theorem sh_46 (g cy : Nat → Nat) (row : Nat → Int32) : sh g cy 46 row = .inl (cy 3, 1, .inr (.inl (fun j => (row j).toInt64))) := rfl
theorem sh_48 (g cy : Nat → Nat) (row : Nat → Int32) : sh g cy 48 row = .inl (cy 2, 10, .inr (.inr (.inr (.inr (fun j => if row j = 0 then none else some (g (rid j))))))) := rfl
theorem sh_59 (g cy : Nat → Nat) (row : Nat → Int32) : sh g cy 59 row = .inl (cy 2, 15, .inr (.inr (.inr (.inr (fun j => if row j = 0 then none else some (g (rid j))))))) := rfl
theorem shp_up {g cy : Nat → Nat} {X : Nat → Nat → Int32} {k : Nat} {row : Nat → Int32} {e : va_E} (h : sh g cy k row = e) : va_up (shp g cy X) k e = shp g cy (up X k row) := by
  funext j
  by_cases hj : j = k
  · subst hj
    rw [va_up_self, ← h]
    show _ = sh g cy j (if j = j then row else X j)
    rw [if_pos rfl]
  · rw [va_up_ne _ _ hj]
    show sh g cy j (X j) = sh g cy j (if j = k then row else X j)
    rw [if_neg hj]
theorem up_self (X : Nat → Nat → Int32) (k : Nat) : up X k (X k) = X := by
  funext j
  by_cases hj : j = k
  · subst hj; simp [up]
  · simp [up, hj]
theorem up_at (X : Nat → Nat → Int32) (k : Nat) (r : Nat → Int32) : up X k r k = r := by simp [up]
theorem up_ne {X : Nat → Nat → Int32} {k j : Nat} {r : Nat → Int32} (h : j ≠ k) : up X k r j = X j := by simp [up, h]
/-- a number that a rule can have -/
def isRl (t : Nat) : Prop := t = 5 ∨ (46 < t ∧ t ≠ 48 ∧ t ≠ 59)
theorem sh_rl (g cy : Nat → Nat) {t : Nat} (h : isRl t) (row : Nat → Int32) : sh g cy t row = .inr (5, [.int (row 0), .int (row 1), .int (row 2), .int (row 3), .int (row 4), .int (row 5), .int (row 6)]) := by
  rcases h with rfl | ⟨h1, h2, h3⟩
  · rfl
  · unfold sh
    split <;> first | rfl | omega
def aid (sz i : Int32) : Nat := if i < 0 then 5 else if sz ≤ i then 5 else rid i.toNatClampNeg
theorem rid_rl (j : Nat) : isRl (rid j) := by
  unfold rid isRl
  split
  · omega
  · split
    · omega
    · split <;> omega
theorem aid_rl (sz i : Int32) : isRl (aid sz i) := by
  unfold aid
  split
  · exact Or.inl rfl
  · split
    · exact Or.inl rfl
    · exact rid_rl _
/-- the rules' cells stand, and hold what RR says -/
def rkt (X RR : Nat → Nat → Int32) (N t : Nat) : Prop := isRl t ∧ t < N ∧ X t = RR t
def rok (X RR : Nat → Nat → Int32) (N : Nat) : Prop := 47 ≤ N ∧ X 4 2 = RR 4 2 ∧ (RR 4 2).toNatClampNeg ≤ 12 ∧ ¬ RR 4 2 < 0 ∧ (∀ i, rkt X RR N (aid (RR 4 2) i)) ∧ (¬ RR 4 2 = 0 → 48 < N) ∧ (¬ RR 4 2 ≤ 10 → 59 < N) ∧ (∀ j, j < (RR 4 2).toNatClampNeg → X (if RR 4 2 ≤ 10 then 48 else 59) j = 1)
theorem rkt_up {X RR : Nat → Nat → Int32} {N t k : Nat} {r : Nat → Int32} (h : rkt X RR N t) (hk : k < 47 ∧ k ≠ 5) : rkt (up X k r) RR N t := by
  refine ⟨h.1, h.2.1, (up_ne ?_).trans h.2.2⟩
  rcases h.1 with h | h <;> omega
theorem rok_up {X RR : Nat → Nat → Int32} {N k : Nat} {r : Nat → Int32} (h : rok X RR N) (hk : k < 47 ∧ k ≠ 5 ∧ k ≠ 4) : rok (up X k r) RR N := by
  obtain ⟨h1, h2, h3, h4, h5, h6, h7, h8⟩ := h
  refine ⟨h1, ?_, h3, h4, fun i => rkt_up (h5 i) ⟨hk.1, hk.2.1⟩, h6, h7, fun j hj => ?_⟩
  · rw [up_ne (Ne.symm hk.2.2)]; exact h2
  · rw [up_ne (by split <;> omega)]; exact h8 j hj
theorem q47 {N k : Nat} (hN : 47 ≤ N) (h : Nat.ble (k + 1) 47 = true) : k < N := Nat.lt_of_lt_of_le (Nat.le_of_ble_eq_true h) hN
theorem ob {α β : Type} {x : Option α} {k : α → Option β} {R : β} (h : Option.bind x k = some R) : ∃ u, x = some u ∧ k u = some R := by
  cases x with
  | none => cases h
  | some u => exact ⟨u, rfl, h⟩
theorem oi_t {α : Type} {P : Prop} [Decidable P] {a b : Option α} {R : α} (c : P) (h : (if P then a else b) = some R) : a = some R := by rwa [if_pos c] at h
theorem oi_f {α : Type} {P : Prop} [Decidable P] {a b : Option α} {R : α} (c : ¬ P) (h : (if P then a else b) = some R) : b = some R := by rwa [if_neg c] at h
theorem oi_c {α : Type} {P : Prop} [Decidable P] {a : Option α} {R : α} (h : (if P then a else none) = some R) : P ∧ a = some R := by
  by_cases c : P
  · exact ⟨c, oi_t c h⟩
  · have := oi_f c h
    cases this
end
section
section SRW
variable {p : Program} {l : Launch} {e : Env} {R : Room} {s : State} {m : MethodId} {args : Array Value} {below : List Frame} {meth : Method} {c : Code} {H : Heap} {locs : List Loc} {cells slots : Nat} {Q : State → Prop}
variable {cc : ByteArray} {nL : Nat} {own : String} {pc : Nat} {ls : Array Slot} {rest : List Value} {D : va_G} {cy : Nat → Nat} {A : Nat → Prop} {g : Nat → Nat} {N : Nat} {X : Nat → Nat → Int32}
theorem w_norm {x y : Int32} (h : x = y) (kk : W p l e R s m args below meth c H locs cells slots Q (F0 m pc ls (.int y :: rest))) : W p l e R s m args below meth c H locs cells slots Q (F0 m pc ls (.int x :: rest)) := by rw [h]; exact kk
theorem w_dup2 (hexec : p.tables.exec = Jvm.exec) (hb : c.code = cc) {v w : Value} (h1 : v.category = 1) (h2 : w.category = 1) (hdg : decode cc pc = .ok (.dup2, 1)) (k : W p l e R s m args below meth c H locs cells slots Q (F0 m (pc + 1) ls (w :: v :: w :: v :: rest))) : W p l e R s m args below meth c H locs cells slots Q (F0 m pc ls (w :: v :: rest)) := lv_dup2_11 hexec hb hdg h2 h1 k
/-- writes over the shape -/
theorem s_put (C : wCx p l s m args c meth cc nL own D cy A) (h : Wd D A s.heap g N (shp g cy X) H locs) {ci k j n index : Nat} {fs : List Value} (row : Nat → Int32) {v : Value} {ty : Nat → FieldType} {C0 : String} {T : u_T} (hk : k < N) (hf : shp g cy X k = .inr (ci, fs)) (hc : vwCl[ci]? = some (C0, T, n)) (hty : ∀ k, k < n → parseFieldDescriptor (T k).2.2.1 = some (ty k)) (hnm : ∀ a, a < n → ∀ b, b < n → a ≠ b → (T a).2.1 ≠ (T b).2.1) (hj : j < n) (hlink : (Cond.fieldLink own index (T j).1 (T j).2.1 (T j).2.2.1) ∈ wAll) (hfin : (T j).2.2.2 = false) (hn : narrow (ty j) v = v) (hfit : fits (ty j) v = true) (hl : j < fs.length) (he : sh g cy k row = .inr (ci, fs.set j v)) (hdg : decode cc pc = .ok (.putfield index, 3))
    (kk : ∀ (H1 : Heap) (locs1 : List Loc), Wd D A s.heap g N (shp g cy (up X k row)) H1 locs1 → W p l e R s m args below meth c H1 locs1 cells slots Q (F0 m (pc + 3) ls rest)) : W p l e R s m args below meth c H locs cells slots Q (F0 m pc ls (v :: .ref (g k) :: rest)) :=
  w_put C h _ hk hf hc hty hnm hj hlink hfin hn hfit hl rfl hdg fun H1 locs1 h1 => kk H1 locs1 (by rw [shp_up he] at h1; exact h1)
theorem s_putN (C : wCx p l s m args c meth cc nL own D cy A) (h : Wd D A s.heap g N (shp g cy X) H locs) {ci k j n index : Nat} {fs : List Value} (row : Nat → Int32) {v : Value} {ty : Nat → FieldType} {C0 host : String} {T : u_T} (hk : k < N) (hf : shp g cy X k = .inr (ci, fs)) (hc : vwCl[ci]? = some (C0, T, n)) (hty : ∀ k, k < n → parseFieldDescriptor (T k).2.2.1 = some (ty k)) (hnm : ∀ a, a < n → ∀ b, b < n → a ≠ b → (T a).2.1 ≠ (T b).2.1) (hj : j < n) (hlink : (Cond.fieldLinkNest own index (T j).1 (T j).2.1 (T j).2.2.1 host) ∈ wAll) (hfin : (T j).2.2.2 = false) (hn : narrow (ty j) v = v) (hfit : fits (ty j) v = true) (hl : j < fs.length) (he : sh g cy k row = .inr (ci, fs.set j v)) (hdg : decode cc pc = .ok (.putfield index, 3))
    (kk : ∀ (H1 : Heap) (locs1 : List Loc), Wd D A s.heap g N (shp g cy (up X k row)) H1 locs1 → W p l e R s m args below meth c H1 locs1 cells slots Q (F0 m (pc + 3) ls rest)) : W p l e R s m args below meth c H locs cells slots Q (F0 m pc ls (v :: .ref (g k) :: rest)) :=
  w_putN C h _ hk hf hc hty hnm hj hlink hfin hn hfit hl rfl hdg fun H1 locs1 h1 => kk H1 locs1 (by rw [shp_up he] at h1; exact h1)
theorem s_iast (C : wCx p l s m args c meth cc nL own D cy A) (h : Wd D A s.heap g N (shp g cy X) H locs) {k n : Nat} {a : Nat → Int32} (hk : k < N) (hf : ∀ r, sh g cy k r = .inl (cy 0, n, .inl r)) (ha : X k = a) {i x : Int32} (hin : ¬ (i < 0 ∨ n ≤ i.toNatClampNeg)) (hdg : decode cc pc = .ok (.iastore, 1))
    (kk : ∀ (H1 : Heap) (locs1 : List Loc) (w : Nat → Int32), w = upd a i.toNatClampNeg x → Wd D A s.heap g N (shp g cy (up X k w)) H1 locs1 → W p l e R s m args below meth c H1 locs1 cells slots Q (F0 m (pc + 1) ls rest)) : W p l e R s m args below meth c H locs cells slots Q (F0 m pc ls (.int x :: .int i :: .ref (g k) :: rest)) := by
  subst ha
  exact w_iast C h hk (hf _) hin hdg fun H1 locs1 h1 => kk H1 locs1 _ rfl (by rw [shp_up (hf _)] at h1; exact h1)
theorem s_nar {x : Int32} (h : x = 0 ∨ x = 1) : vp_nar .boolean x = x := by rcases h with rfl | rfl <;> rfl
theorem s_zast (C : wCx p l s m args c meth cc nL own D cy A) (h : Wd D A s.heap g N (shp g cy X) H locs) {k n : Nat} {a : Nat → Int32} (hk : k < N) (hf : ∀ r, sh g cy k r = .inl (cy 1, n, .inl r)) (ha : X k = a) {i x : Int32} (hx : x = 0 ∨ x = 1) (hin : ¬ (i < 0 ∨ n ≤ i.toNatClampNeg)) (hdg : decode cc pc = .ok (.bastore, 1))
    (kk : ∀ (H1 : Heap) (locs1 : List Loc) (w : Nat → Int32), w = upd a i.toNatClampNeg x → Wd D A s.heap g N (shp g cy (up X k w)) H1 locs1 → W p l e R s m args below meth c H1 locs1 cells slots Q (F0 m (pc + 1) ls rest)) : W p l e R s m args below meth c H locs cells slots Q (F0 m pc ls (.int x :: .int i :: .ref (g k) :: rest)) := by
  subst ha
  exact w_zast C h hk (hf _) (s_nar hx) hin hdg fun H1 locs1 h1 => kk H1 locs1 _ rfl (by rw [shp_up (hf _)] at h1; exact h1)
theorem s_iald (C : wCx p l s m args c meth cc nL own D cy A) (h : Wd D A s.heap g N (shp g cy X) H locs) {k n : Nat} {a : Nat → Int32} (hk : k < N) (hf : ∀ r, sh g cy k r = .inl (cy 0, n, .inl r)) (ha : X k = a) {i : Int32} (hin : ¬ (i < 0 ∨ n ≤ i.toNatClampNeg)) (hdg : decode cc pc = .ok (.iaload, 1))
    (kk : W p l e R s m args below meth c H locs cells slots Q (F0 m (pc + 1) ls (.int (a i.toNatClampNeg) :: rest))) : W p l e R s m args below meth c H locs cells slots Q (F0 m pc ls (.int i :: .ref (g k) :: rest)) := by
  subst ha
  exact w_iald C h hk (hf _) hin hdg kk
theorem s_zald (C : wCx p l s m args c meth cc nL own D cy A) (h : Wd D A s.heap g N (shp g cy X) H locs) {k n : Nat} {a : Nat → Int32} (hk : k < N) (hf : ∀ r, sh g cy k r = .inl (cy 1, n, .inl r)) (ha : X k = a) {i : Int32} (hin : ¬ (i < 0 ∨ n ≤ i.toNatClampNeg)) (hdg : decode cc pc = .ok (.baload, 1))
    (kk : W p l e R s m args below meth c H locs cells slots Q (F0 m (pc + 1) ls (.int (a i.toNatClampNeg) :: rest))) : W p l e R s m args below meth c H locs cells slots Q (F0 m pc ls (.int i :: .ref (g k) :: rest)) := by
  subst ha
  exact w_zald C h hk (hf _) hin hdg kk
/-- a rule's field -/
theorem s_getRN (C : wCx p l s m args c meth cc nL own D cy A) (h : Wd D A s.heap g N (shp g cy X) H locs) {RR : Nat → Nat → Int32} {t j index : Nat} {host : String} (ht : rkt X RR N t) (hj : j < 7) (hlink : (Cond.fieldLinkNest own index (TX4 j).1 (TX4 j).2.1 (TX4 j).2.2.1 host) ∈ wAll) (hdg : decode cc pc = .ok (.getfield index, 3))
    (kk : W p l e R s m args below meth c H locs cells slots Q (F0 m (pc + 3) ls (.int (RR t j) :: rest))) : W p l e R s m args below meth c H locs cells slots Q (F0 m pc ls (.ref (g t) :: rest)) := by
  refine w_getN C h (k := t) (ci := 5) (C0 := RX4) (T := TX4) (n := 7) (j := j) (v := .int (RR t j)) ht.2.1 (sh_rl g cy ht.1 (X t)) rfl hj hlink ?_ hdg kk
  rw [ht.2.2]
  match j, hj with
  | 0, _ => rfl
  | 1, _ => rfl
  | 2, _ => rfl
  | 3, _ => rfl
  | 4, _ => rfl
  | 5, _ => rfl
  | 6, _ => rfl
  | j + 7, hj => omega
theorem up_up (X : Nat → Nat → Int32) (k : Nat) (a b : Nat → Int32) : up (up X k a) k b = up X k b := by
  funext j
  by_cases h : j = k <;> simp [up, h]
end SRW
end
section
/-! contracts over the shape -/
def xN (t : Nat) : String := if t = 1 then xIA else if t = 2 then xIS else xIB
abbrev sRi (l : Launch) (D : va_G) (cy : Nat → Nat) (y : MethodName) (cc : ByteArray) (maxL : Nat) (ret : Option FieldType) (d : Nat) (av : List Value) (g : Nat → Nat) (N : Nat) (X : Nat → Nat → Int32) (R : Int32) : Prop := cRi l D cy y cc maxL ret d av g N (shp g cy X) (fun r => r = R)
abbrev sRr (l : Launch) (D : va_G) (cy : Nat → Nat) (y : MethodName) (cc : ByteArray) (maxL : Nat) (ret : Option FieldType) (d : Nat) (av : List Value) (g : Nat → Nat) (N : Nat) (X : Nat → Nat → Int32) (R : Nat) : Prop := cRr l D cy y cc maxL ret d av g N (shp g cy X) (fun r => r = R)
abbrev sWi (l : Launch) (D : va_G) (cy : Nat → Nat) (y : MethodName) (cc : ByteArray) (maxL : Nat) (ret : Option FieldType) (d mc ms : Nat) (av : List Value) (g : Nat → Nat) (N : Nat) (X : Nat → Nat → Int32) (R : Int32) (X' : Nat → Nat → Int32) : Prop := cWi l D cy y cc maxL ret d mc ms av g N (shp g cy X) (fun r f' => r = R ∧ f' = shp g cy X')
abbrev sWv (l : Launch) (D : va_G) (cy : Nat → Nat) (y : MethodName) (cc : ByteArray) (maxL : Nat) (ret : Option FieldType) (d mc ms : Nat) (av : List Value) (g : Nat → Nat) (N : Nat) (X X' : Nat → Nat → Int32) : Prop := cWv l D cy y cc maxL ret d mc ms av g N (shp g cy X) (fun f' => f' = shp g cy X')
abbrev sXi (l : Launch) (D : va_G) (cy : Nat → Nat) (y : MethodName) (cc : ByteArray) (maxL : Nat) (ret : Option FieldType) (d mc ms : Nat) (av : List Value) (g : Nat → Nat) (N : Nat) (X : Nat → Nat → Int32) (tag : Nat) (R : Int32) (X' : Nat → Nat → Int32) : Prop := cXi l D cy y cc maxL ret d mc ms av g N (shp g cy X) (fun r f' => tag = 0 ∧ r = R ∧ f' = shp g cy X') (fun E f' => ¬ tag = 0 ∧ E = xN tag ∧ f' = shp g cy X')
abbrev sXv (l : Launch) (D : va_G) (cy : Nat → Nat) (y : MethodName) (cc : ByteArray) (maxL : Nat) (ret : Option FieldType) (d mc ms : Nat) (av : List Value) (g : Nat → Nat) (N : Nat) (X : Nat → Nat → Int32) (tag : Nat) (X' : Nat → Nat → Int32) : Prop := cXv l D cy y cc maxL ret d mc ms av g N (shp g cy X) (fun f' => tag = 0 ∧ f' = shp g cy X') (fun E f' => ¬ tag = 0 ∧ E = xN tag ∧ f' = shp g cy X')
section SCL
variable {p : Program} {l : Launch} {e : Env} {R : Room} {s : State} {m : MethodId} {args : Array Value} {below : List Frame} {meth : Method} {c : Code} {H : Heap} {locs : List Loc} {cells slots : Nat} {Q : State → Prop}
variable {cc : ByteArray} {nL : Nat} {own : String} {pc : Nat} {ls : Array Slot} {rest st0 : List Value} {D : va_G} {cy : Nat → Nat} {A : Nat → Prop} {g : Nat → Nat} {N : Nat} {X X' : Nat → Nat → Int32}
variable {y : MethodName} {bytes : ByteArray} {maxL : Nat} {ret : Option FieldType} {n index d dc mc ms tag : Nat} {host : String} {As : List Value} {k ci n0 : Nat} {fs : List Value} {C0 : String} {T : u_T}

theorem s_vRi {r0 : Int32} (C : wCx p l s m args c meth cc nL own D cy A) (h : Wd D A s.heap g N (shp g cy X) H locs) (b : wBV y bytes maxL ret n) (hl : Cond.methodLink own index y ∈ wAll) (hk : k < N) (hf : shp g cy X k = .inr (ci, fs)) (hc : vwCl[ci]? = some (y.cls, T, n0)) (hM : sRi l D cy y bytes maxL ret dc (.ref (g k) :: As) g N X r0) (hst : st0 = As.reverse ++ .ref (g k) :: rest) (hn : As.length = n) (hdg : decode cc pc = .ok (.invokevirtual index, 3)) (hR : R.frames = d ∧ R.locals = 40 * d) (hd : dc + 1 ≤ d) (hsz : ls.size = nL) (hW : (rest.map fun v => v.category).sum ≤ 8) (hfit : cells ≤ R.cells ∧ slots ≤ R.slots)
    (kk : W p l e R s m args below meth c H locs cells slots Q (F0 m (pc + 3) ls (.int r0 :: rest))) : W p l e R s m args below meth c H locs cells slots Q (F0 m pc ls st0) :=
  w_vRi C h b hl hk hf hc hM hst hn hdg hR hd hsz hW hfit (fun r hr => by rw [hr]; exact kk)
theorem s_vRr {r0 : Nat} (C : wCx p l s m args c meth cc nL own D cy A) (h : Wd D A s.heap g N (shp g cy X) H locs) (b : wBV y bytes maxL ret n) (hl : Cond.methodLink own index y ∈ wAll) (hk : k < N) (hf : shp g cy X k = .inr (ci, fs)) (hc : vwCl[ci]? = some (y.cls, T, n0)) (hM : sRr l D cy y bytes maxL ret dc (.ref (g k) :: As) g N X r0) (hst : st0 = As.reverse ++ .ref (g k) :: rest) (hn : As.length = n) (hdg : decode cc pc = .ok (.invokevirtual index, 3)) (hR : R.frames = d ∧ R.locals = 40 * d) (hd : dc + 1 ≤ d) (hsz : ls.size = nL) (hW : (rest.map fun v => v.category).sum ≤ 8) (hfit : cells ≤ R.cells ∧ slots ≤ R.slots)
    (kk : W p l e R s m args below meth c H locs cells slots Q (F0 m (pc + 3) ls (.ref (g r0) :: rest))) : W p l e R s m args below meth c H locs cells slots Q (F0 m pc ls st0) :=
  w_vRr C h b hl hk hf hc hM hst hn hdg hR hd hsz hW hfit (fun r hr => by rw [hr]; exact kk)
theorem s_vWi {r0 : Int32} (C : wCx p l s m args c meth cc nL own D cy A) (h : Wd D A s.heap g N (shp g cy X) H locs) (b : wBV y bytes maxL ret n) (hl : Cond.methodLink own index y ∈ wAll) (hk : k < N) (hf : shp g cy X k = .inr (ci, fs)) (hc : vwCl[ci]? = some (y.cls, T, n0)) (hM : sWi l D cy y bytes maxL ret dc mc ms (.ref (g k) :: As) g N X r0 X') (hst : st0 = As.reverse ++ .ref (g k) :: rest) (hn : As.length = n) (hdg : decode cc pc = .ok (.invokevirtual index, 3)) (hR : R.frames = d ∧ R.locals = 40 * d) (hd : dc + 1 ≤ d) (hsz : ls.size = nL) (hW : (rest.map fun v => v.category).sum ≤ 8) (hfit : cells + mc ≤ R.cells ∧ slots + ms ≤ R.slots)
    (kk : ∀ (H1 : Heap) (locs1 : List Loc), Wd D A s.heap g N (shp g cy X') H1 locs1 → W p l e R s m args below meth c H1 locs1 (cells + mc) (slots + ms) Q (F0 m (pc + 3) ls (.int r0 :: rest))) : W p l e R s m args below meth c H locs cells slots Q (F0 m pc ls st0) :=
  w_vWi C h b hl hk hf hc hM hst hn hdg hR hd hsz hW hfit (fun r f1 H1 locs1 hr hw => by rw [hr.1]; rw [hr.2] at hw; exact kk H1 locs1 hw)
theorem s_vXi {r0 : Int32} (C : wCx p l s m args c meth cc nL own D cy A) (h : Wd D A s.heap g N (shp g cy X) H locs) (b : wBV y bytes maxL ret n) (hl : Cond.methodLink own index y ∈ wAll) (hk : k < N) (hf : shp g cy X k = .inr (ci, fs)) (hc : vwCl[ci]? = some (y.cls, T, n0)) (hM : sXi l D cy y bytes maxL ret dc mc ms (.ref (g k) :: As) g N X tag r0 X') (hst : st0 = As.reverse ++ .ref (g k) :: rest) (hn : As.length = n) (hdg : decode cc pc = .ok (.invokevirtual index, 3)) (hR : R.frames = d ∧ R.locals = 40 * d) (hd : dc + 1 ≤ d) (hsz : ls.size = nL) (hW : (rest.map fun v => v.category).sum ≤ 8) (hfit : cells + mc ≤ R.cells ∧ slots + ms ≤ R.slots)
    (kx : ∀ (ce : Cell) (q9 : Addr) (H1 : Heap) (locs1 : List Loc), ¬ tag = 0 → Wd D A s.heap g N (shp g cy X') H1 locs1 → H1[q9]? = some ce → ce.vm = .none → s.vm.findClass (xN tag) = some ce.cls → vx_W p l e R s m args below meth c H1 locs1 (cells + mc) (slots + ms) Q (F0 m pc ls rest) q9)
    (kk : ∀ (H1 : Heap) (locs1 : List Loc), tag = 0 → Wd D A s.heap g N (shp g cy X') H1 locs1 → W p l e R s m args below meth c H1 locs1 (cells + mc) (slots + ms) Q (F0 m (pc + 3) ls (.int r0 :: rest))) : W p l e R s m args below meth c H locs cells slots Q (F0 m pc ls st0) :=
  w_vXi C h b hl hk hf hc hM hst hn hdg hR hd hsz hW hfit (fun E ce q9 f1 H1 locs1 hr hw h1 h2 h3 => by rw [hr.2.2] at hw; rw [hr.2.1] at h3; exact kx ce q9 H1 locs1 hr.1 hw h1 h2 h3) (fun r f1 H1 locs1 hr hw => by rw [hr.2.1]; rw [hr.2.2] at hw; exact kk H1 locs1 hr.1 hw)
theorem s_vWv (C : wCx p l s m args c meth cc nL own D cy A) (h : Wd D A s.heap g N (shp g cy X) H locs) (b : wBV y bytes maxL ret n) (hl : Cond.methodLink own index y ∈ wAll) (hk : k < N) (hf : shp g cy X k = .inr (ci, fs)) (hc : vwCl[ci]? = some (y.cls, T, n0)) (hM : sWv l D cy y bytes maxL ret dc mc ms (.ref (g k) :: As) g N X X') (hst : st0 = As.reverse ++ .ref (g k) :: rest) (hn : As.length = n) (hdg : decode cc pc = .ok (.invokevirtual index, 3)) (hR : R.frames = d ∧ R.locals = 40 * d) (hd : dc + 1 ≤ d) (hsz : ls.size = nL) (hW : (rest.map fun v => v.category).sum ≤ 8) (hfit : cells + mc ≤ R.cells ∧ slots + ms ≤ R.slots)
    (kk : ∀ (H1 : Heap) (locs1 : List Loc), Wd D A s.heap g N (shp g cy X') H1 locs1 → W p l e R s m args below meth c H1 locs1 (cells + mc) (slots + ms) Q (F0 m (pc + 3) ls rest)) : W p l e R s m args below meth c H locs cells slots Q (F0 m pc ls st0) :=
  w_vWv C h b hl hk hf hc hM hst hn hdg hR hd hsz hW hfit (fun f1 H1 locs1 hr hw => by rw [hr] at hw; exact kk H1 locs1 hw)
theorem s_vXv (C : wCx p l s m args c meth cc nL own D cy A) (h : Wd D A s.heap g N (shp g cy X) H locs) (b : wBV y bytes maxL ret n) (hl : Cond.methodLink own index y ∈ wAll) (hk : k < N) (hf : shp g cy X k = .inr (ci, fs)) (hc : vwCl[ci]? = some (y.cls, T, n0)) (hM : sXv l D cy y bytes maxL ret dc mc ms (.ref (g k) :: As) g N X tag X') (hst : st0 = As.reverse ++ .ref (g k) :: rest) (hn : As.length = n) (hdg : decode cc pc = .ok (.invokevirtual index, 3)) (hR : R.frames = d ∧ R.locals = 40 * d) (hd : dc + 1 ≤ d) (hsz : ls.size = nL) (hW : (rest.map fun v => v.category).sum ≤ 8) (hfit : cells + mc ≤ R.cells ∧ slots + ms ≤ R.slots)
    (kx : ∀ (ce : Cell) (q9 : Addr) (H1 : Heap) (locs1 : List Loc), ¬ tag = 0 → Wd D A s.heap g N (shp g cy X') H1 locs1 → H1[q9]? = some ce → ce.vm = .none → s.vm.findClass (xN tag) = some ce.cls → vx_W p l e R s m args below meth c H1 locs1 (cells + mc) (slots + ms) Q (F0 m pc ls rest) q9)
    (kk : ∀ (H1 : Heap) (locs1 : List Loc), tag = 0 → Wd D A s.heap g N (shp g cy X') H1 locs1 → W p l e R s m args below meth c H1 locs1 (cells + mc) (slots + ms) Q (F0 m (pc + 3) ls rest)) : W p l e R s m args below meth c H locs cells slots Q (F0 m pc ls st0) :=
  w_vXv C h b hl hk hf hc hM hst hn hdg hR hd hsz hW hfit (fun E ce q9 f1 H1 locs1 hr hw h1 h2 h3 => by rw [hr.2.2] at hw; rw [hr.2.1] at h3; exact kx ce q9 H1 locs1 hr.1 hw h1 h2 h3) (fun f1 H1 locs1 hr hw => by rw [hr.2] at hw; exact kk H1 locs1 hr.1 hw)
theorem s_sRi {r0 : Int32} (C : wCx p l s m args c meth cc nL own D cy A) (h : Wd D A s.heap g N (shp g cy X) H locs) (b : wBS y bytes maxL ret n) (hl : Cond.methodLink own index y ∈ wAll) (hM : sRi l D cy y bytes maxL ret dc As g N X r0) (hst : st0 = As.reverse ++ rest) (hn : As.length = n) (hdg : decode cc pc = .ok (.invokestatic index, 3)) (hR : R.frames = d ∧ R.locals = 40 * d) (hd : dc + 1 ≤ d) (hsz : ls.size = nL) (hW : (rest.map fun v => v.category).sum ≤ 8) (hfit : cells ≤ R.cells ∧ slots ≤ R.slots)
    (kk : W p l e R s m args below meth c H locs cells slots Q (F0 m (pc + 3) ls (.int r0 :: rest))) : W p l e R s m args below meth c H locs cells slots Q (F0 m pc ls st0) :=
  w_sRi C h b hl  hM hst hn hdg hR hd hsz hW hfit (fun r hr => by rw [hr]; exact kk)
theorem s_sWv (C : wCx p l s m args c meth cc nL own D cy A) (h : Wd D A s.heap g N (shp g cy X) H locs) (b : wBS y bytes maxL ret n) (hl : Cond.methodLink own index y ∈ wAll) (hM : sWv l D cy y bytes maxL ret dc mc ms As g N X X') (hst : st0 = As.reverse ++ rest) (hn : As.length = n) (hdg : decode cc pc = .ok (.invokestatic index, 3)) (hR : R.frames = d ∧ R.locals = 40 * d) (hd : dc + 1 ≤ d) (hsz : ls.size = nL) (hW : (rest.map fun v => v.category).sum ≤ 8) (hfit : cells + mc ≤ R.cells ∧ slots + ms ≤ R.slots)
    (kk : ∀ (H1 : Heap) (locs1 : List Loc), Wd D A s.heap g N (shp g cy X') H1 locs1 → W p l e R s m args below meth c H1 locs1 (cells + mc) (slots + ms) Q (F0 m (pc + 3) ls rest)) : W p l e R s m args below meth c H locs cells slots Q (F0 m pc ls st0) :=
  w_sWv C h b hl  hM hst hn hdg hR hd hsz hW hfit (fun f1 H1 locs1 hr hw => by rw [hr] at hw; exact kk H1 locs1 hw)
theorem s_sXv (C : wCx p l s m args c meth cc nL own D cy A) (h : Wd D A s.heap g N (shp g cy X) H locs) (b : wBS y bytes maxL ret n) (hl : Cond.methodLink own index y ∈ wAll) (hM : sXv l D cy y bytes maxL ret dc mc ms As g N X tag X') (hst : st0 = As.reverse ++ rest) (hn : As.length = n) (hdg : decode cc pc = .ok (.invokestatic index, 3)) (hR : R.frames = d ∧ R.locals = 40 * d) (hd : dc + 1 ≤ d) (hsz : ls.size = nL) (hW : (rest.map fun v => v.category).sum ≤ 8) (hfit : cells + mc ≤ R.cells ∧ slots + ms ≤ R.slots)
    (kx : ∀ (ce : Cell) (q9 : Addr) (H1 : Heap) (locs1 : List Loc), ¬ tag = 0 → Wd D A s.heap g N (shp g cy X') H1 locs1 → H1[q9]? = some ce → ce.vm = .none → s.vm.findClass (xN tag) = some ce.cls → vx_W p l e R s m args below meth c H1 locs1 (cells + mc) (slots + ms) Q (F0 m pc ls rest) q9)
    (kk : ∀ (H1 : Heap) (locs1 : List Loc), tag = 0 → Wd D A s.heap g N (shp g cy X') H1 locs1 → W p l e R s m args below meth c H1 locs1 (cells + mc) (slots + ms) Q (F0 m (pc + 3) ls rest)) : W p l e R s m args below meth c H locs cells slots Q (F0 m pc ls st0) :=
  w_sXv C h b hl  hM hst hn hdg hR hd hsz hW hfit (fun E ce q9 f1 H1 locs1 hr hw h1 h2 h3 => by rw [hr.2.2] at hw; rw [hr.2.1] at h3; exact kx ce q9 H1 locs1 hr.1 hw h1 h2 h3) (fun f1 H1 locs1 hr hw => by rw [hr.2] at hw; exact kk H1 locs1 hr.1 hw)
theorem s_nRi {r0 : Int32} (C : wCx p l s m args c meth cc nL own D cy A) (h : Wd D A s.heap g N (shp g cy X) H locs) (b : wBS y bytes maxL ret n) (hl : Cond.methodLinkNest own index y host ∈ wAll) (hM : sRi l D cy y bytes maxL ret dc As g N X r0) (hst : st0 = As.reverse ++ rest) (hn : As.length = n) (hdg : decode cc pc = .ok (.invokestatic index, 3)) (hR : R.frames = d ∧ R.locals = 40 * d) (hd : dc + 1 ≤ d) (hsz : ls.size = nL) (hW : (rest.map fun v => v.category).sum ≤ 8) (hfit : cells ≤ R.cells ∧ slots ≤ R.slots)
    (kk : W p l e R s m args below meth c H locs cells slots Q (F0 m (pc + 3) ls (.int r0 :: rest))) : W p l e R s m args below meth c H locs cells slots Q (F0 m pc ls st0) :=
  w_nRi C h b hl  hM hst hn hdg hR hd hsz hW hfit (fun r hr => by rw [hr]; exact kk)
end SCL
end
section
section SEN
variable {l : Launch} {D : va_G} {cy : Nat → Nat} {g : Nat → Nat} {N : Nat} {X X' : Nat → Nat → Int32} {own : String}
variable {y : MethodName} {cc : ByteArray} {maxL : Nat} {ret : Option FieldType} {d mc ms tag : Nat} {av : List Value} {r0 : Int32}
/-- entries over the shape: the end is handed in -/
theorem jRi (hy : plainName y.cls = true) (hown : y.cls = own) (hfl : l.stackTraces = false) (hav : (lg_sl av).length ≤ maxL) (hret : ret = some .int)
    (body : ∀ (p : Program) (e : Env) (R : Room) (s : State) (m : MethodId) (args : Array Value) (below : List Frame) (meth : Method) (c : Code) (ls : Array Slot) (A : Nat → Prop) (Q : State → Prop), R = wR d 0 0 → wCx p l s m args c meth cc maxL own D cy A → Wd D A s.heap g N (shp g cy X) s.heap [] → lv_has ls maxL (lv_args 0 av) →
      (∀ (pc : Nat) (ls : Array Slot) (v : Int32), v = r0 → decode cc pc = .ok (.ireturn, 1) → W p l e R s m args below meth c s.heap [] 0 0 Q (F0 m pc ls [.int v])) → W p l e R s m args below meth c s.heap [] 0 0 Q (F0 m 0 ls [])) : sRi l D cy y cc maxL ret d av g N X r0 :=
  iRi hy hown hfl hav (fun p e s m below meth c ls C hr hw hl => body p e _ s m _ below meth c ls _ _ rfl C hw hl (fun pc ls v hv hd => eRi C (hr.trans hret) hv hd))
theorem jRz (hy : plainName y.cls = true) (hown : y.cls = own) (hfl : l.stackTraces = false) (hav : (lg_sl av).length ≤ maxL) (hret : ret = some .boolean)
    (body : ∀ (p : Program) (e : Env) (R : Room) (s : State) (m : MethodId) (args : Array Value) (below : List Frame) (meth : Method) (c : Code) (ls : Array Slot) (A : Nat → Prop) (Q : State → Prop), R = wR d 0 0 → wCx p l s m args c meth cc maxL own D cy A → Wd D A s.heap g N (shp g cy X) s.heap [] → lv_has ls maxL (lv_args 0 av) →
      (∀ (pc : Nat) (ls : Array Slot) (v : Int32), v = r0 → (v = 0 ∨ v = 1) → decode cc pc = .ok (.ireturn, 1) → W p l e R s m args below meth c s.heap [] 0 0 Q (F0 m pc ls [.int v])) → W p l e R s m args below meth c s.heap [] 0 0 Q (F0 m 0 ls [])) : sRi l D cy y cc maxL ret d av g N X r0 :=
  iRi hy hown hfl hav (fun p e s m below meth c ls C hr hw hl => body p e _ s m _ below meth c ls _ _ rfl C hw hl (fun pc ls v hv hz hd => eRz C (hr.trans hret) hz hv hd))
theorem jWi (hy : plainName y.cls = true) (hown : y.cls = own) (hfl : l.stackTraces = false) (hav : (lg_sl av).length ≤ maxL) (hret : ret = some .int)
    (body : ∀ (p : Program) (e : Env) (R : Room) (s : State) (m : MethodId) (args : Array Value) (below : List Frame) (meth : Method) (c : Code) (ls : Array Slot) (A : Nat → Prop) (Q : State → Prop), R = wR d mc ms → wCx p l s m args c meth cc maxL own D cy A → Wd D A s.heap g N (shp g cy X) s.heap [] → lv_has ls maxL (lv_args 0 av) →
      (∀ (pc : Nat) (ls : Array Slot) (v : Int32) (H : Heap) (locs : List Loc) (cells slots : Nat), v = r0 → Wd D A s.heap g N (shp g cy X') H locs → cells ≤ mc → slots ≤ ms → decode cc pc = .ok (.ireturn, 1) → W p l e R s m args below meth c H locs cells slots Q (F0 m pc ls [.int v])) → W p l e R s m args below meth c s.heap [] 0 0 Q (F0 m 0 ls [])) : sWi l D cy y cc maxL ret d mc ms av g N X r0 X' :=
  iWi hy hown hfl hav (fun p e s m below meth c ls C hr hw hl => body p e _ s m _ below meth c ls _ _ rfl C hw hl (fun pc ls v H locs cells slots hv hw h1 h2 hd => eWi C hw (hr.trans hret) ⟨hv, rfl⟩ h1 h2 hd))
theorem jWz (hy : plainName y.cls = true) (hown : y.cls = own) (hfl : l.stackTraces = false) (hav : (lg_sl av).length ≤ maxL) (hret : ret = some .boolean)
    (body : ∀ (p : Program) (e : Env) (R : Room) (s : State) (m : MethodId) (args : Array Value) (below : List Frame) (meth : Method) (c : Code) (ls : Array Slot) (A : Nat → Prop) (Q : State → Prop), R = wR d mc ms → wCx p l s m args c meth cc maxL own D cy A → Wd D A s.heap g N (shp g cy X) s.heap [] → lv_has ls maxL (lv_args 0 av) →
      (∀ (pc : Nat) (ls : Array Slot) (v : Int32) (H : Heap) (locs : List Loc) (cells slots : Nat), v = r0 → (v = 0 ∨ v = 1) → Wd D A s.heap g N (shp g cy X') H locs → cells ≤ mc → slots ≤ ms → decode cc pc = .ok (.ireturn, 1) → W p l e R s m args below meth c H locs cells slots Q (F0 m pc ls [.int v])) → W p l e R s m args below meth c s.heap [] 0 0 Q (F0 m 0 ls [])) : sWi l D cy y cc maxL ret d mc ms av g N X r0 X' :=
  iWi hy hown hfl hav (fun p e s m below meth c ls C hr hw hl => body p e _ s m _ below meth c ls _ _ rfl C hw hl (fun pc ls v H locs cells slots hv hz hw h1 h2 hd => eWz C hw (hr.trans hret) hz ⟨hv, rfl⟩ h1 h2 hd))
theorem jWv (hy : plainName y.cls = true) (hown : y.cls = own) (hfl : l.stackTraces = false) (hav : (lg_sl av).length ≤ maxL) (hret : ret = none)
    (body : ∀ (p : Program) (e : Env) (R : Room) (s : State) (m : MethodId) (args : Array Value) (below : List Frame) (meth : Method) (c : Code) (ls : Array Slot) (A : Nat → Prop) (Q : State → Prop), R = wR d mc ms → wCx p l s m args c meth cc maxL own D cy A → Wd D A s.heap g N (shp g cy X) s.heap [] → lv_has ls maxL (lv_args 0 av) →
      (∀ (pc : Nat) (ls : Array Slot) (H : Heap) (locs : List Loc) (cells slots : Nat), Wd D A s.heap g N (shp g cy X') H locs → cells ≤ mc → slots ≤ ms → decode cc pc = .ok (.return_, 1) → W p l e R s m args below meth c H locs cells slots Q (F0 m pc ls [])) → W p l e R s m args below meth c s.heap [] 0 0 Q (F0 m 0 ls [])) : sWv l D cy y cc maxL ret d mc ms av g N X X' :=
  iWv hy hown hfl hav (fun p e s m below meth c ls C hr hw hl => body p e _ s m _ below meth c ls _ _ rfl C hw hl (fun pc ls H locs cells slots hw h1 h2 hd => eWv C hw (hr.1.trans hret) rfl h1 h2 hd))
/-- the own throw, as it is used -/
def wThr (p : Program) (l : Launch) (e : Env) (R : Room) (s : State) (m : MethodId) (args : Array Value) (below : List Frame) (meth : Method) (c : Code) (Q : State → Prop) (D : va_G) (A : Nat → Prop) (g : Nat → Nat) (N : Nat) (f : Nat → va_E) (cc : ByteArray) (nL tag mc ms : Nat) : Prop :=
  ∀ (pc : Nat) (ls : Array Slot) (H : Heap) (locs : List Loc) (cells slots ik ic is : Nat) (cls text : String), ¬ tag = 0 → cls = xN tag → Wd D A s.heap g N f H locs → (ic, cls, ik) ∈ ([(93, "java/lang/IllegalArgumentException", 89), (63, "java/lang/IllegalStateException", 59), (155, "java/lang/IndexOutOfBoundsException", 151)] : List (Nat × String × Nat)) → Bundle.fit cls = true → (is, text) ∈ wStrs → ls.size = nL →
    decode cc pc = .ok (.new ik, 3) → decode cc (pc + 3) = .ok (.dup, 1) → decode cc (pc + 4) = .ok (.ldc is, 2) → decode cc (pc + 6) = .ok (.invokespecial ic, 3) → decode cc (pc + 9) = .ok (.athrow, 1) → (6 ≤ R.frames ∧ 120 ≤ R.locals ∧ cells + 1 ≤ R.cells ∧ slots + 6 ≤ R.slots) → cells + 1 ≤ mc → slots + 6 ≤ ms → W p l e R s m args below meth c H locs cells slots Q (F0 m pc ls [])
/-- a callee's throw goes on -/
def wOut (p : Program) (l : Launch) (e : Env) (R : Room) (s : State) (m : MethodId) (args : Array Value) (below : List Frame) (meth : Method) (c : Code) (Q : State → Prop) (D : va_G) (A : Nat → Prop) (g : Nat → Nat) (N : Nat) (f : Nat → va_E) (tag mc ms : Nat) : Prop :=
  ∀ (pc : Nat) (ls : Array Slot) (rest : List Value) (H : Heap) (locs : List Loc) (cells slots t2 : Nat) (ce : Cell) (q9 : Addr), ¬ tag = 0 → t2 = tag → Wd D A s.heap g N f H locs → H[q9]? = some ce → ce.vm = .none → s.vm.findClass (xN t2) = some ce.cls → cells ≤ mc → slots ≤ ms → vx_W p l e R s m args below meth c H locs cells slots Q (F0 m pc ls rest) q9
theorem jXi (hy : plainName y.cls = true) (hown : y.cls = RX9) (hfl : l.stackTraces = false) (hav : (lg_sl av).length ≤ maxL) (hret : ret = some .int)
    (body : ∀ (p : Program) (e : Env) (R : Room) (s : State) (m : MethodId) (args : Array Value) (below : List Frame) (meth : Method) (c : Code) (ls : Array Slot) (A : Nat → Prop) (Q : State → Prop), R = wR d mc ms → wCx p l s m args c meth cc maxL RX9 D cy A → Wd D A s.heap g N (shp g cy X) s.heap [] → lv_has ls maxL (lv_args 0 av) →
      (∀ (pc : Nat) (ls : Array Slot) (v : Int32) (H : Heap) (locs : List Loc) (cells slots : Nat), tag = 0 → v = r0 → Wd D A s.heap g N (shp g cy X') H locs → cells ≤ mc → slots ≤ ms → decode cc pc = .ok (.ireturn, 1) → W p l e R s m args below meth c H locs cells slots Q (F0 m pc ls [.int v])) → wThr p l e R s m args below meth c Q D A g N (shp g cy X') cc maxL tag mc ms → wOut p l e R s m args below meth c Q D A g N (shp g cy X') tag mc ms → W p l e R s m args below meth c s.heap [] 0 0 Q (F0 m 0 ls [])) : sXi l D cy y cc maxL ret d mc ms av g N X tag r0 X' :=
  iXi hy hown hfl hav (fun p e s m below meth c ls C hr hx hw hl => body p e _ s m _ below meth c ls _ _ rfl C hw hl
    (fun pc ls v H locs cells slots ht hv hw h1 h2 hd => vx_ret (eWi C hw (hr.trans hret) ⟨ht, hv, rfl⟩ h1 h2 hd))
    (fun pc ls H locs cells slots ik ic is cls text ht hc hw hq hf htx hsz d0 d3 d4 d6 d9 hR h1 h2 => eThrow C hx hw hq hf htx ⟨ht, hc, rfl⟩ hsz d0 d3 d4 d6 d9 hR rfl h1 h2)
    (fun pc ls rest H locs cells slots t2 ce q9 ht h0 hw h1 h2 h3 h4 h5 => by subst h0; exact eOut C hx hw ⟨ht, rfl, rfl⟩ h1 h2 h3 h4 h5))
theorem eXz {s : State} {m : MethodId} {args : Array Value} {below : List Frame} {meth : Method} {c : Code} {H : Heap} {locs : List Loc} {cells slots : Nat} {p : Program} {e : Env} {R : Room} {pc : Nat} {ls : Array Slot} {nL : Nat} {post : Int32 → (Nat → va_E) → Prop} {XC : String → State → State → Prop} {v : Int32} {f : Nat → va_E} (C : wCx p l s m args c meth cc nL own D cy (wA g N s.heap.size)) (h : Wd D (wA g N s.heap.size) s.heap g N f H locs) (hr : meth.sig.returnType = some .boolean) (hz : v = 0 ∨ v = 1) (hp : post v f) (hc : cells ≤ mc) (hs : slots ≤ ms) (hdg : decode cc pc = .ok (.ireturn, 1)) : W p l e R s m args below meth c H locs cells slots (vx_MQ below (va_Qi post (fun f' t => wPo D g N s.heap.size f' t) (wA g N s.heap.size)) XC args s mc ms (wA g N s.heap.size)) (F0 m pc ls [.int v]) := vx_ret (eWz C h hr hz hp hc hs hdg)
theorem jXz (hy : plainName y.cls = true) (hown : y.cls = RX9) (hfl : l.stackTraces = false) (hav : (lg_sl av).length ≤ maxL) (hret : ret = some .boolean)
    (body : ∀ (p : Program) (e : Env) (R : Room) (s : State) (m : MethodId) (args : Array Value) (below : List Frame) (meth : Method) (c : Code) (ls : Array Slot) (A : Nat → Prop) (Q : State → Prop), R = wR d mc ms → wCx p l s m args c meth cc maxL RX9 D cy A → Wd D A s.heap g N (shp g cy X) s.heap [] → lv_has ls maxL (lv_args 0 av) →
      (∀ (pc : Nat) (ls : Array Slot) (v : Int32) (H : Heap) (locs : List Loc) (cells slots : Nat), tag = 0 → v = r0 → (v = 0 ∨ v = 1) → Wd D A s.heap g N (shp g cy X') H locs → cells ≤ mc → slots ≤ ms → decode cc pc = .ok (.ireturn, 1) → W p l e R s m args below meth c H locs cells slots Q (F0 m pc ls [.int v])) → wThr p l e R s m args below meth c Q D A g N (shp g cy X') cc maxL tag mc ms → wOut p l e R s m args below meth c Q D A g N (shp g cy X') tag mc ms → W p l e R s m args below meth c s.heap [] 0 0 Q (F0 m 0 ls [])) : sXi l D cy y cc maxL ret d mc ms av g N X tag r0 X' :=
  iXi hy hown hfl hav (fun p e s m below meth c ls C hr hx hw hl => body p e _ s m _ below meth c ls _ _ rfl C hw hl
    (fun pc ls v H locs cells slots ht hv hz hw h1 h2 hd => eXz C hw (hr.trans hret) hz ⟨ht, hv, rfl⟩ h1 h2 hd)
    (fun pc ls H locs cells slots ik ic is cls text ht hc hw hq hf htx hsz d0 d3 d4 d6 d9 hR h1 h2 => eThrow C hx hw hq hf htx ⟨ht, hc, rfl⟩ hsz d0 d3 d4 d6 d9 hR rfl h1 h2)
    (fun pc ls rest H locs cells slots t2 ce q9 ht h0 hw h1 h2 h3 h4 h5 => by subst h0; exact eOut C hx hw ⟨ht, rfl, rfl⟩ h1 h2 h3 h4 h5))
theorem jXv (hy : plainName y.cls = true) (hown : y.cls = RX9) (hfl : l.stackTraces = false) (hav : (lg_sl av).length ≤ maxL) (hret : ret = none)
    (body : ∀ (p : Program) (e : Env) (R : Room) (s : State) (m : MethodId) (args : Array Value) (below : List Frame) (meth : Method) (c : Code) (ls : Array Slot) (A : Nat → Prop) (Q : State → Prop), R = wR d mc ms → wCx p l s m args c meth cc maxL RX9 D cy A → Wd D A s.heap g N (shp g cy X) s.heap [] → lv_has ls maxL (lv_args 0 av) →
      (∀ (pc : Nat) (ls : Array Slot) (H : Heap) (locs : List Loc) (cells slots : Nat), tag = 0 → Wd D A s.heap g N (shp g cy X') H locs → cells ≤ mc → slots ≤ ms → decode cc pc = .ok (.return_, 1) → W p l e R s m args below meth c H locs cells slots Q (F0 m pc ls [])) → wThr p l e R s m args below meth c Q D A g N (shp g cy X') cc maxL tag mc ms → wOut p l e R s m args below meth c Q D A g N (shp g cy X') tag mc ms → W p l e R s m args below meth c s.heap [] 0 0 Q (F0 m 0 ls [])) : sXv l D cy y cc maxL ret d mc ms av g N X tag X' :=
  iXv hy hown hfl hav (fun p e s m below meth c ls C hr hx hw hl => body p e _ s m _ below meth c ls _ _ rfl C hw hl
    (fun pc ls H locs cells slots ht hw h1 h2 hd => vx_ret (eWv C hw (hr.trans hret) ⟨ht, rfl⟩ h1 h2 hd))
    (fun pc ls H locs cells slots ik ic is cls text ht hc hw hq hf htx hsz d0 d3 d4 d6 d9 hR h1 h2 => eThrow C hx hw hq hf htx ⟨ht, hc, rfl⟩ hsz d0 d3 d4 d6 d9 hR rfl h1 h2)
    (fun pc ls rest H locs cells slots t2 ce q9 ht h0 hw h1 h2 h3 h4 h5 => by subst h0; exact eOut C hx hw ⟨ht, rfl, rfl⟩ h1 h2 h3 h4 h5))
end SEN
end
section
def m_X9_isLiteralOrNone (F : Nat) (a0 : Int32) : Option (Int32) := if a0 < (-10) then (some (0 : Int32)) else (if 10 < a0 then (some (0 : Int32)) else (some (1 : Int32)))
set_option maxHeartbeats 4000000 in
set_option maxRecDepth 100000 in
theorem c_X9_isLiteralOrNone {l : Launch} {D : va_G} {cy : Nat → Nat} {g : Nat → Nat} {N : Nat} {X : Nat → Nat → Int32} {F : Nat} {a0 : Int32} {R0 : Int32} (hfl : l.stackTraces = false) (hN : 47 ≤ N) (hinv : m_X9_isLiteralOrNone F a0 = some R0) : sRi l D cy yX9_isLiteralOrNone cX9_isLiteralOrNone 1 (some .boolean) 0 [.int a0] g N X R0 := by
  refine jRz (own := RX9) (by decide) rfl hfl (Nat.le_of_ble_eq_true rfl) rfl ?_
  intro p e R s m args below meth c ls A Q hRe C hw hl hret
  subst hRe
  have hx := C.1
  have hb := C.2.1
  have hl : lv_has ls 1 [(0, .int a0)] := hl
  rw [m_X9_isLiteralOrNone] at hinv
  refine lv_iload_n hx hb dX9_isLiteralOrNone_0 rfl (lv_at hl 0 rfl) ?_
  refine lv_bipush (v := (-10)) hx hb dX9_isLiteralOrNone_1 (by decide) ?_
  refine lv_icmp_lt (tgt := 16) hx hb dX9_isLiteralOrNone_3 (by decide) (fun c_3 => ?_) (fun c_3 => ?_)
  · have hinv := oi_t c_3 hinv
    refine lv_iconst (v := 0) hx hb dX9_isLiteralOrNone_16 (by decide) ?_
    exact hret 17 ls 0 (Option.some.inj hinv) (by decide) dX9_isLiteralOrNone_17
  · have hinv := oi_f c_3 hinv
    refine lv_iload_n hx hb dX9_isLiteralOrNone_6 rfl (lv_at hl 0 rfl) ?_
    refine lv_bipush (v := 10) hx hb dX9_isLiteralOrNone_7 (by decide) ?_
    refine lv_icmp_gt (tgt := 16) hx hb dX9_isLiteralOrNone_9 (by decide) (fun c_9 => ?_) (fun c_9 => ?_)
    · have hinv := oi_t c_9 hinv
      refine lv_iconst (v := 0) hx hb dX9_isLiteralOrNone_16 (by decide) ?_
      exact hret 17 ls 0 (Option.some.inj hinv) (by decide) dX9_isLiteralOrNone_17
    · have hinv := oi_f c_9 hinv
      refine lv_iconst (v := 1) hx hb dX9_isLiteralOrNone_12 (by decide) ?_
      refine lv_goto (tgt := 17) hx hb dX9_isLiteralOrNone_13 (by decide) ?_
      exact hret 17 ls 1 (Option.some.inj hinv) (by decide) dX9_isLiteralOrNone_17
def m_X9_setBit (F : Nat) (a0 : Int32) : Option (Int32) := if a0 < 0 then (some (0 : Int32)) else (if 14 ≤ a0 then (some (0 : Int32)) else (some ((1 : Int32) <<< ((13 - a0) &&& 31))))
set_option maxHeartbeats 4000000 in
set_option maxRecDepth 100000 in
theorem c_X9_setBit {l : Launch} {D : va_G} {cy : Nat → Nat} {g : Nat → Nat} {N : Nat} {X : Nat → Nat → Int32} {F : Nat} {a0 : Int32} {R0 : Int32} (hfl : l.stackTraces = false) (hN : 47 ≤ N) (hinv : m_X9_setBit F a0 = some R0) : sRi l D cy yX9_setBit cX9_setBit 1 (some .int) 0 [.int a0] g N X R0 := by
  refine jRi (own := RX9) (by decide) rfl hfl (Nat.le_of_ble_eq_true rfl) rfl ?_
  intro p e R s m args below meth c ls A Q hRe C hw hl hret
  subst hRe
  have hx := C.1
  have hb := C.2.1
  have hl : lv_has ls 1 [(0, .int a0)] := hl
  rw [m_X9_setBit] at hinv
  refine lv_iload_n hx hb dX9_setBit_0 rfl (lv_at hl 0 rfl) ?_
  refine lv_if_lt (tgt := 19) hx hb dX9_setBit_1 (by decide) (fun c_1 => ?_) (fun c_1 => ?_)
  · have hinv := oi_t c_1 hinv
    refine lv_iconst (v := 0) hx hb dX9_setBit_19 (by decide) ?_
    exact hret 20 ls 0 (Option.some.inj hinv) dX9_setBit_20
  · have hinv := oi_f c_1 hinv
    refine lv_iload_n hx hb dX9_setBit_4 rfl (lv_at hl 0 rfl) ?_
    refine lv_bipush (v := 14) hx hb dX9_setBit_5 (by decide) ?_
    refine lv_icmp_ge (tgt := 19) hx hb dX9_setBit_7 (by decide) (fun c_7 => ?_) (fun c_7 => ?_)
    · have hinv := oi_t c_7 hinv
      refine lv_iconst (v := 0) hx hb dX9_setBit_19 (by decide) ?_
      exact hret 20 ls 0 (Option.some.inj hinv) dX9_setBit_20
    · have hinv := oi_f c_7 hinv
      refine lv_iconst (v := 1) hx hb dX9_setBit_10 (by decide) ?_
      refine lv_bipush (v := 13) hx hb dX9_setBit_11 (by decide) ?_
      refine lv_iload_n hx hb dX9_setBit_13 rfl (lv_at hl 0 rfl) ?_
      refine lv_isub hx hb dX9_setBit_14 ?_
      refine lv_ishl hx hb dX9_setBit_15 ?_
      refine lv_goto (tgt := 20) hx hb dX9_setBit_16 (by decide) ?_
      exact hret 20 ls ((1 : Int32) <<< ((13 - a0) &&& 31)) (Option.some.inj hinv) dX9_setBit_20
def m_X9_followsInBody (F : Nat) (a0 : Int32) (a1 : Int32) : Option (Int32) := if a0 = 0 then (some (1 : Int32)) else (if a1 = 0 then (some (0 : Int32)) else (if a0 = a1 then (some (0 : Int32)) else (some (1 : Int32))))
set_option maxHeartbeats 4000000 in
set_option maxRecDepth 100000 in
theorem c_X9_followsInBody {l : Launch} {D : va_G} {cy : Nat → Nat} {g : Nat → Nat} {N : Nat} {X : Nat → Nat → Int32} {F : Nat} {a0 : Int32} {a1 : Int32} {R0 : Int32} (hfl : l.stackTraces = false) (hN : 47 ≤ N) (hinv : m_X9_followsInBody F a0 a1 = some R0) : sRi l D cy yX9_followsInBody cX9_followsInBody 2 (some .boolean) 0 [.int a0, .int a1] g N X R0 := by
  refine jRz (own := RX9) (by decide) rfl hfl (Nat.le_of_ble_eq_true rfl) rfl ?_
  intro p e R s m args below meth c ls A Q hRe C hw hl hret
  subst hRe
  have hx := C.1
  have hb := C.2.1
  have hl : lv_has ls 2 [(0, .int a0), (1, .int a1)] := hl
  rw [m_X9_followsInBody] at hinv
  refine lv_iload_n hx hb dX9_followsInBody_0 rfl (lv_at hl 0 rfl) ?_
  refine lv_if_eq (tgt := 13) hx hb dX9_followsInBody_1 (by decide) (fun c_1 => ?_) (fun c_1 => ?_)
  · have hinv := oi_t c_1 hinv
    refine lv_iconst (v := 1) hx hb dX9_followsInBody_13 (by decide) ?_
    refine lv_goto (tgt := 18) hx hb dX9_followsInBody_14 (by decide) ?_
    exact hret 18 ls 1 (Option.some.inj hinv) (by decide) dX9_followsInBody_18
  · have hinv := oi_f c_1 hinv
    refine lv_iload_n hx hb dX9_followsInBody_4 rfl (lv_at hl 1 rfl) ?_
    refine lv_if_eq (tgt := 17) hx hb dX9_followsInBody_5 (by decide) (fun c_5 => ?_) (fun c_5 => ?_)
    · have hinv := oi_t c_5 hinv
      refine lv_iconst (v := 0) hx hb dX9_followsInBody_17 (by decide) ?_
      exact hret 18 ls 0 (Option.some.inj hinv) (by decide) dX9_followsInBody_18
    · have hinv := oi_f c_5 hinv
      refine lv_iload_n hx hb dX9_followsInBody_8 rfl (lv_at hl 0 rfl) ?_
      refine lv_iload_n hx hb dX9_followsInBody_9 rfl (lv_at hl 1 rfl) ?_
      refine lv_icmp_eq (tgt := 17) hx hb dX9_followsInBody_10 (by decide) (fun c_10 => ?_) (fun c_10 => ?_)
      · have hinv := oi_t c_10 hinv
        refine lv_iconst (v := 0) hx hb dX9_followsInBody_17 (by decide) ?_
        exact hret 18 ls 0 (Option.some.inj hinv) (by decide) dX9_followsInBody_18
      · have hinv := oi_f c_10 hinv
        refine lv_iconst (v := 1) hx hb dX9_followsInBody_13 (by decide) ?_
        refine lv_goto (tgt := 18) hx hb dX9_followsInBody_14 (by decide) ?_
        exact hret 18 ls 1 (Option.some.inj hinv) (by decide) dX9_followsInBody_18
def m_X2_has (F : Nat) (r2 : Nat → Int32) (a1 : Int32) : Option (Int32) := Option.bind (m_X9_isLiteralOrNone F a1) (fun u1 => if u1 = 0 then (some (0 : Int32)) else (if ¬ ((a1 + 10) < 0 ∨ 21 ≤ (a1 + 10).toNatClampNeg) then (if (r2 (a1 + 10).toNatClampNeg) = 0 then (some (0 : Int32)) else (some (1 : Int32))) else none))
set_option maxHeartbeats 4000000 in
set_option maxRecDepth 100000 in
theorem c_X2_has {l : Launch} {D : va_G} {cy : Nat → Nat} {g : Nat → Nat} {N : Nat} {X : Nat → Nat → Int32} {F : Nat} {a1 : Int32} {R0 : Int32} (hfl : l.stackTraces = false) (hN : 47 ≤ N) (hinv : m_X2_has F (X 2) a1 = some R0) : sRi l D cy yX2_has cX2_has 2 (some .boolean) 1 [.ref (g 1), .int a1] g N X R0 := by
  refine jRz (own := RX2) (by decide) rfl hfl (Nat.le_of_ble_eq_true rfl) rfl ?_
  intro p e R s m args below meth c ls A Q hRe C hw hl hret
  subst hRe
  have hx := C.1
  have hb := C.2.1
  have hl : lv_has ls 2 [(0, .ref (g 1)), (1, .int a1)] := hl
  rw [m_X2_has] at hinv
  refine lv_iload_n hx hb dX2_has_0 rfl (lv_at hl 1 rfl) ?_
  obtain ⟨u1, hu1, hinv⟩ := ob hinv
  refine s_nRi (r0 := u1) C hw (As := [.int a1]) bX9_isLiteralOrNone k860 (c_X9_isLiteralOrNone (X := X) hfl hN hu1) rfl rfl dX2_has_1 ⟨rfl, rfl⟩ (by decide) hl.1 (Nat.le_of_ble_eq_true rfl) (by decide) ?_
  refine lv_if_eq (tgt := 23) hx hb dX2_has_4 (by decide) (fun c_4 => ?_) (fun c_4 => ?_)
  · have hinv := oi_t c_4 hinv
    refine lv_iconst (v := 0) hx hb dX2_has_23 (by decide) ?_
    exact hret 24 ls 0 (Option.some.inj hinv) (by decide) dX2_has_24
  · have hinv := oi_f c_4 hinv
    refine lv_aload_n hx hb dX2_has_7 rfl (lv_at hl 0 rfl) ?_
    refine w_get C hw (k := 1) (v := .ref (g 2)) (j := 0) (q47 hN rfl) (sh_1 g cy _) rfl (by decide) k16 rfl dX2_has_8 ?_
    refine lv_iload_n hx hb dX2_has_11 rfl (lv_at hl 1 rfl) ?_
    refine lv_bipush (v := 10) hx hb dX2_has_12 (by decide) ?_
    refine lv_iadd hx hb dX2_has_14 ?_
    obtain ⟨hb_15, hinv⟩ := oi_c hinv
    refine s_zald C hw (k := 2) (a := (X 2)) (q47 hN rfl) (fun r => sh_2 g cy r) rfl hb_15 dX2_has_15 ?_
    refine lv_if_eq (tgt := 23) hx hb dX2_has_16 (by decide) (fun c_16 => ?_) (fun c_16 => ?_)
    · have hinv := oi_t c_16 hinv
      refine lv_iconst (v := 0) hx hb dX2_has_23 (by decide) ?_
      exact hret 24 ls 0 (Option.some.inj hinv) (by decide) dX2_has_24
    · have hinv := oi_f c_16 hinv
      refine lv_iconst (v := 1) hx hb dX2_has_19 (by decide) ?_
      refine lv_goto (tgt := 24) hx hb dX2_has_20 (by decide) ?_
      exact hret 24 ls 1 (Option.some.inj hinv) (by decide) dX2_has_24
def m_X2_put (F : Nat) (r1 : Nat → Int32) (r2 : Nat → Int32) (a1 : Int32) : Option ((Nat → Int32) × (Nat → Int32)) := Option.bind (m_X9_isLiteralOrNone F a1) (fun u1 => if u1 = 0 then (some (r1, r2)) else (Option.bind (m_X2_has F r2 a1) (fun u2 => if u2 = 0 then (if ¬ ((a1 + 10) < 0 ∨ 21 ≤ (a1 + 10).toNatClampNeg) then (some ((upd r1 1 ((r1 1) + 1)), (upd r2 (a1 + 10).toNatClampNeg 1))) else none) else (some (r1, r2)))))
set_option maxHeartbeats 4000000 in
set_option maxRecDepth 100000 in
theorem c_X2_put {l : Launch} {D : va_G} {cy : Nat → Nat} {g : Nat → Nat} {N : Nat} {X : Nat → Nat → Int32} {F : Nat} {a1 : Int32} {R0 : (Nat → Int32) × (Nat → Int32)} (hfl : l.stackTraces = false) (hN : 47 ≤ N) (hinv : m_X2_put F (X 1) (X 2) a1 = some R0) : sWv l D cy yX2_put cX2_put 2 none 2 0 0 [.ref (g 1), .int a1] g N X (up (up X 1 R0.1) 2 R0.2) := by
  refine jWv (own := RX2) (by decide) rfl hfl (Nat.le_of_ble_eq_true rfl) rfl ?_
  intro p e R s m args below meth c ls A Q hRe C hw hl hret
  subst hRe
  have hx := C.1
  have hb := C.2.1
  have hl : lv_has ls 2 [(0, .ref (g 1)), (1, .int a1)] := hl
  rw [m_X2_put] at hinv
  refine lv_iload_n hx hb dX2_put_0 rfl (lv_at hl 1 rfl) ?_
  obtain ⟨u1, hu1, hinv⟩ := ob hinv
  refine s_nRi (r0 := u1) C hw (As := [.int a1]) bX9_isLiteralOrNone k860 (c_X9_isLiteralOrNone (X := X) hfl hN hu1) rfl rfl dX2_put_1 ⟨rfl, rfl⟩ (by decide) hl.1 (Nat.le_of_ble_eq_true rfl) (by decide) ?_
  refine lv_if_eq (tgt := 35) hx hb dX2_put_4 (by decide) (fun c_4 => ?_) (fun c_4 => ?_)
  · have hinv := oi_t c_4 hinv
    have hR0 := (Option.some.inj hinv).symm
    subst hR0
    have hXe : X = (up (up X 1 (X 1)) 2 (X 2)) := by
      funext j
      by_cases h1 : j = 1
      · subst h1; simp [up]
      by_cases h2 : j = 2
      · subst h2; simp [up]
      simp [up, h1, h2]
    rw [hXe] at hw
    exact hret 35 ls _ _ _ _ hw (by decide) (by decide) dX2_put_35
  · have hinv := oi_f c_4 hinv
    refine lv_aload_n hx hb dX2_put_7 rfl (lv_at hl 0 rfl) ?_
    refine lv_iload_n hx hb dX2_put_8 rfl (lv_at hl 1 rfl) ?_
    obtain ⟨u2, hu2, hinv⟩ := ob hinv
    refine s_vRi (r0 := u2) C hw (As := [.int a1]) bX2_has k124 (k := 1) (q47 hN rfl) (sh_1 g cy _) rfl (c_X2_has (X := X) hfl hN hu2) rfl rfl dX2_put_9 ⟨rfl, rfl⟩ (by decide) hl.1 (Nat.le_of_ble_eq_true rfl) (by decide) ?_
    refine lv_if_ne (tgt := 35) hx hb dX2_put_12 (by decide) (fun c_12 => ?_) (fun c_12 => ?_)
    · have hinv := oi_f c_12 hinv
      have hR0 := (Option.some.inj hinv).symm
      subst hR0
      have hXe : X = (up (up X 1 (X 1)) 2 (X 2)) := by
        funext j
        by_cases h1 : j = 1
        · subst h1; simp [up]
        by_cases h2 : j = 2
        · subst h2; simp [up]
        simp [up, h1, h2]
      rw [hXe] at hw
      exact hret 35 ls _ _ _ _ hw (by decide) (by decide) dX2_put_35
    · have hinv := oi_t c_12 hinv
      refine lv_aload_n hx hb dX2_put_15 rfl (lv_at hl 0 rfl) ?_
      refine w_get C hw (k := 1) (v := .ref (g 2)) (j := 0) (q47 hN rfl) (sh_1 g cy _) rfl (by decide) k16 rfl dX2_put_16 ?_
      refine lv_iload_n hx hb dX2_put_19 rfl (lv_at hl 1 rfl) ?_
      refine lv_bipush (v := 10) hx hb dX2_put_20 (by decide) ?_
      refine lv_iadd hx hb dX2_put_22 ?_
      refine lv_iconst (v := 1) hx hb dX2_put_23 (by decide) ?_
      obtain ⟨hb_24, hinv⟩ := oi_c hinv
      refine s_zast C hw (k := 2) (a := (X 2)) (q47 hN rfl) (fun r => sh_2 g cy r) rfl (by decide) hb_24 dX2_put_24 (fun H locs w24 hw24 hw => ?_)
      try rw [← hw24] at hinv
      refine lv_aload_n hx hb dX2_put_25 rfl (lv_at hl 0 rfl) ?_
      refine lv_dup hx hb dX2_put_26 rfl ?_
      refine w_get C hw (k := 1) (v := .int ((X 1) 1)) (j := 1) (q47 hN rfl) (sh_1 g cy _) rfl (by decide) k123 rfl dX2_put_27 ?_
      refine lv_iconst (v := 1) hx hb dX2_put_30 (by decide) ?_
      refine lv_iadd hx hb dX2_put_31 ?_
      refine s_put C hw (k := 1) (row := (upd (X 1) 1 (((X 1) 1) + 1))) (ty := tyX2) (v := .int (((X 1) 1) + 1)) (j := 1) (q47 hN rfl) (sh_1 g cy _) rfl tyX2_ok nmX2 (by decide) k123 rfl rfl rfl (Nat.le_of_ble_eq_true rfl) (sh_1 g cy _) dX2_put_32 (fun H locs hw => ?_)
      have hR0 := (Option.some.inj hinv).symm
      subst hR0
      have hXe : (up (up X 2 w24) 1 (upd (X 1) 1 (((X 1) 1) + 1))) = (up (up X 1 (upd (X 1) 1 (((X 1) 1) + 1))) 2 w24) := by
        funext j
        by_cases h1 : j = 1
        · subst h1; simp [up]
        by_cases h2 : j = 2
        · subst h2; simp [up]
        simp [up, h1, h2]
      rw [hXe] at hw
      exact hret 35 ls _ _ _ _ hw (by decide) (by decide) dX2_put_35
def m_X2_drop (F : Nat) (r1 : Nat → Int32) (r2 : Nat → Int32) (a1 : Int32) : Option ((Nat → Int32) × (Nat → Int32)) := Option.bind (m_X2_has F r2 a1) (fun u1 => if u1 = 0 then (some (r1, r2)) else (if ¬ ((a1 + 10) < 0 ∨ 21 ≤ (a1 + 10).toNatClampNeg) then (some ((upd r1 1 ((r1 1) - 1)), (upd r2 (a1 + 10).toNatClampNeg 0))) else none))
set_option maxHeartbeats 4000000 in
set_option maxRecDepth 100000 in
theorem c_X2_drop {l : Launch} {D : va_G} {cy : Nat → Nat} {g : Nat → Nat} {N : Nat} {X : Nat → Nat → Int32} {F : Nat} {a1 : Int32} {R0 : (Nat → Int32) × (Nat → Int32)} (hfl : l.stackTraces = false) (hN : 47 ≤ N) (hinv : m_X2_drop F (X 1) (X 2) a1 = some R0) : sWv l D cy yX2_drop cX2_drop 2 none 2 0 0 [.ref (g 1), .int a1] g N X (up (up X 1 R0.1) 2 R0.2) := by
  refine jWv (own := RX2) (by decide) rfl hfl (Nat.le_of_ble_eq_true rfl) rfl ?_
  intro p e R s m args below meth c ls A Q hRe C hw hl hret
  subst hRe
  have hx := C.1
  have hb := C.2.1
  have hl : lv_has ls 2 [(0, .ref (g 1)), (1, .int a1)] := hl
  rw [m_X2_drop] at hinv
  refine lv_aload_n hx hb dX2_drop_0 rfl (lv_at hl 0 rfl) ?_
  refine lv_iload_n hx hb dX2_drop_1 rfl (lv_at hl 1 rfl) ?_
  obtain ⟨u1, hu1, hinv⟩ := ob hinv
  refine s_vRi (r0 := u1) C hw (As := [.int a1]) bX2_has k124 (k := 1) (q47 hN rfl) (sh_1 g cy _) rfl (c_X2_has (X := X) hfl hN hu1) rfl rfl dX2_drop_2 ⟨rfl, rfl⟩ (by decide) hl.1 (Nat.le_of_ble_eq_true rfl) (by decide) ?_
  refine lv_if_eq (tgt := 28) hx hb dX2_drop_5 (by decide) (fun c_5 => ?_) (fun c_5 => ?_)
  · have hinv := oi_t c_5 hinv
    have hR0 := (Option.some.inj hinv).symm
    subst hR0
    have hXe : X = (up (up X 1 (X 1)) 2 (X 2)) := by
      funext j
      by_cases h1 : j = 1
      · subst h1; simp [up]
      by_cases h2 : j = 2
      · subst h2; simp [up]
      simp [up, h1, h2]
    rw [hXe] at hw
    exact hret 28 ls _ _ _ _ hw (by decide) (by decide) dX2_drop_28
  · have hinv := oi_f c_5 hinv
    refine lv_aload_n hx hb dX2_drop_8 rfl (lv_at hl 0 rfl) ?_
    refine w_get C hw (k := 1) (v := .ref (g 2)) (j := 0) (q47 hN rfl) (sh_1 g cy _) rfl (by decide) k16 rfl dX2_drop_9 ?_
    refine lv_iload_n hx hb dX2_drop_12 rfl (lv_at hl 1 rfl) ?_
    refine lv_bipush (v := 10) hx hb dX2_drop_13 (by decide) ?_
    refine lv_iadd hx hb dX2_drop_15 ?_
    refine lv_iconst (v := 0) hx hb dX2_drop_16 (by decide) ?_
    obtain ⟨hb_17, hinv⟩ := oi_c hinv
    refine s_zast C hw (k := 2) (a := (X 2)) (q47 hN rfl) (fun r => sh_2 g cy r) rfl (by decide) hb_17 dX2_drop_17 (fun H locs w17 hw17 hw => ?_)
    try rw [← hw17] at hinv
    refine lv_aload_n hx hb dX2_drop_18 rfl (lv_at hl 0 rfl) ?_
    refine lv_dup hx hb dX2_drop_19 rfl ?_
    refine w_get C hw (k := 1) (v := .int ((X 1) 1)) (j := 1) (q47 hN rfl) (sh_1 g cy _) rfl (by decide) k123 rfl dX2_drop_20 ?_
    refine lv_iconst (v := 1) hx hb dX2_drop_23 (by decide) ?_
    refine lv_isub hx hb dX2_drop_24 ?_
    refine s_put C hw (k := 1) (row := (upd (X 1) 1 (((X 1) 1) - 1))) (ty := tyX2) (v := .int (((X 1) 1) - 1)) (j := 1) (q47 hN rfl) (sh_1 g cy _) rfl tyX2_ok nmX2 (by decide) k123 rfl rfl rfl (Nat.le_of_ble_eq_true rfl) (sh_1 g cy _) dX2_drop_25 (fun H locs hw => ?_)
    have hR0 := (Option.some.inj hinv).symm
    subst hR0
    have hXe : (up (up X 2 w17) 1 (upd (X 1) 1 (((X 1) 1) - 1))) = (up (up X 1 (upd (X 1) 1 (((X 1) 1) - 1))) 2 w17) := by
      funext j
      by_cases h1 : j = 1
      · subst h1; simp [up]
      by_cases h2 : j = 2
      · subst h2; simp [up]
      simp [up, h1, h2]
    rw [hXe] at hw
    exact hret 28 ls _ _ _ _ hw (by decide) (by decide) dX2_drop_28
def m_X0_conclusionAt (F : Nat) (r7 : Nat → Int32) (a1 : Int32) : Option (Int32) := if a1 < 0 then (some (0 : Int32)) else (if 24 ≤ a1 then (some (0 : Int32)) else (if ¬ (a1 < 0 ∨ 24 ≤ a1.toNatClampNeg) then (some (r7 a1.toNatClampNeg)) else none))
set_option maxHeartbeats 4000000 in
set_option maxRecDepth 100000 in
theorem c_X0_conclusionAt {l : Launch} {D : va_G} {cy : Nat → Nat} {g : Nat → Nat} {N : Nat} {X : Nat → Nat → Int32} {F : Nat} {a1 : Int32} {R0 : Int32} (hfl : l.stackTraces = false) (hN : 47 ≤ N) (hinv : m_X0_conclusionAt F (X 7) a1 = some R0) : sRi l D cy yX0_conclusionAt cX0_conclusionAt 2 (some .int) 0 [.ref (g 6), .int a1] g N X R0 := by
  refine jRi (own := RX0) (by decide) rfl hfl (Nat.le_of_ble_eq_true rfl) rfl ?_
  intro p e R s m args below meth c ls A Q hRe C hw hl hret
  subst hRe
  have hx := C.1
  have hb := C.2.1
  have hl : lv_has ls 2 [(0, .ref (g 6)), (1, .int a1)] := hl
  rw [m_X0_conclusionAt] at hinv
  refine lv_iload_n hx hb dX0_conclusionAt_0 rfl (lv_at hl 1 rfl) ?_
  refine lv_if_lt (tgt := 19) hx hb dX0_conclusionAt_1 (by decide) (fun c_1 => ?_) (fun c_1 => ?_)
  · have hinv := oi_t c_1 hinv
    refine lv_iconst (v := 0) hx hb dX0_conclusionAt_19 (by decide) ?_
    exact hret 20 ls 0 (Option.some.inj hinv) dX0_conclusionAt_20
  · have hinv := oi_f c_1 hinv
    refine lv_iload_n hx hb dX0_conclusionAt_4 rfl (lv_at hl 1 rfl) ?_
    refine lv_bipush (v := 24) hx hb dX0_conclusionAt_5 (by decide) ?_
    refine lv_icmp_ge (tgt := 19) hx hb dX0_conclusionAt_7 (by decide) (fun c_7 => ?_) (fun c_7 => ?_)
    · have hinv := oi_t c_7 hinv
      refine lv_iconst (v := 0) hx hb dX0_conclusionAt_19 (by decide) ?_
      exact hret 20 ls 0 (Option.some.inj hinv) dX0_conclusionAt_20
    · have hinv := oi_f c_7 hinv
      refine lv_aload_n hx hb dX0_conclusionAt_10 rfl (lv_at hl 0 rfl) ?_
      refine w_get C hw (k := 6) (v := .ref (g 7)) (j := 0) (q47 hN rfl) (sh_6 g cy _) rfl (by decide) k4 rfl dX0_conclusionAt_11 ?_
      refine lv_iload_n hx hb dX0_conclusionAt_14 rfl (lv_at hl 1 rfl) ?_
      obtain ⟨hb_15, hinv⟩ := oi_c hinv
      refine s_iald C hw (k := 7) (a := (X 7)) (q47 hN rfl) (fun r => sh_7 g cy r) rfl hb_15 dX0_conclusionAt_15 ?_
      refine lv_goto (tgt := 20) hx hb dX0_conclusionAt_16 (by decide) ?_
      exact hret 20 ls ((X 7) a1.toNatClampNeg) (Option.some.inj hinv) dX0_conclusionAt_20
def m_X0_makerAt (F : Nat) (r8 : Nat → Int32) (a1 : Int32) : Option (Int32) := if a1 < 0 then (some ((-1) : Int32)) else (if 24 ≤ a1 then (some ((-1) : Int32)) else (if ¬ (a1 < 0 ∨ 24 ≤ a1.toNatClampNeg) then (some (r8 a1.toNatClampNeg)) else none))
set_option maxHeartbeats 4000000 in
set_option maxRecDepth 100000 in
theorem c_X0_makerAt {l : Launch} {D : va_G} {cy : Nat → Nat} {g : Nat → Nat} {N : Nat} {X : Nat → Nat → Int32} {F : Nat} {a1 : Int32} {R0 : Int32} (hfl : l.stackTraces = false) (hN : 47 ≤ N) (hinv : m_X0_makerAt F (X 8) a1 = some R0) : sRi l D cy yX0_makerAt cX0_makerAt 2 (some .int) 0 [.ref (g 6), .int a1] g N X R0 := by
  refine jRi (own := RX0) (by decide) rfl hfl (Nat.le_of_ble_eq_true rfl) rfl ?_
  intro p e R s m args below meth c ls A Q hRe C hw hl hret
  subst hRe
  have hx := C.1
  have hb := C.2.1
  have hl : lv_has ls 2 [(0, .ref (g 6)), (1, .int a1)] := hl
  rw [m_X0_makerAt] at hinv
  refine lv_iload_n hx hb dX0_makerAt_0 rfl (lv_at hl 1 rfl) ?_
  refine lv_if_lt (tgt := 19) hx hb dX0_makerAt_1 (by decide) (fun c_1 => ?_) (fun c_1 => ?_)
  · have hinv := oi_t c_1 hinv
    refine lv_iconst (v := (-1)) hx hb dX0_makerAt_19 (by decide) ?_
    exact hret 20 ls (-1) (Option.some.inj hinv) dX0_makerAt_20
  · have hinv := oi_f c_1 hinv
    refine lv_iload_n hx hb dX0_makerAt_4 rfl (lv_at hl 1 rfl) ?_
    refine lv_bipush (v := 24) hx hb dX0_makerAt_5 (by decide) ?_
    refine lv_icmp_ge (tgt := 19) hx hb dX0_makerAt_7 (by decide) (fun c_7 => ?_) (fun c_7 => ?_)
    · have hinv := oi_t c_7 hinv
      refine lv_iconst (v := (-1)) hx hb dX0_makerAt_19 (by decide) ?_
      exact hret 20 ls (-1) (Option.some.inj hinv) dX0_makerAt_20
    · have hinv := oi_f c_7 hinv
      refine lv_aload_n hx hb dX0_makerAt_10 rfl (lv_at hl 0 rfl) ?_
      refine w_get C hw (k := 6) (v := .ref (g 8)) (j := 1) (q47 hN rfl) (sh_6 g cy _) rfl (by decide) k5 rfl dX0_makerAt_11 ?_
      refine lv_iload_n hx hb dX0_makerAt_14 rfl (lv_at hl 1 rfl) ?_
      obtain ⟨hb_15, hinv⟩ := oi_c hinv
      refine s_iald C hw (k := 8) (a := (X 8)) (q47 hN rfl) (fun r => sh_8 g cy r) rfl hb_15 dX0_makerAt_15 ?_
      refine lv_goto (tgt := 20) hx hb dX0_makerAt_16 (by decide) ?_
      exact hret 20 ls ((X 8) a1.toNatClampNeg) (Option.some.inj hinv) dX0_makerAt_20
def m_X0_depthAt (F : Nat) (r9 : Nat → Int32) (a1 : Int32) : Option (Int32) := if a1 < 0 then (some (0 : Int32)) else (if 24 ≤ a1 then (some (0 : Int32)) else (if ¬ (a1 < 0 ∨ 24 ≤ a1.toNatClampNeg) then (some (r9 a1.toNatClampNeg)) else none))
set_option maxHeartbeats 4000000 in
set_option maxRecDepth 100000 in
theorem c_X0_depthAt {l : Launch} {D : va_G} {cy : Nat → Nat} {g : Nat → Nat} {N : Nat} {X : Nat → Nat → Int32} {F : Nat} {a1 : Int32} {R0 : Int32} (hfl : l.stackTraces = false) (hN : 47 ≤ N) (hinv : m_X0_depthAt F (X 9) a1 = some R0) : sRi l D cy yX0_depthAt cX0_depthAt 2 (some .int) 0 [.ref (g 6), .int a1] g N X R0 := by
  refine jRi (own := RX0) (by decide) rfl hfl (Nat.le_of_ble_eq_true rfl) rfl ?_
  intro p e R s m args below meth c ls A Q hRe C hw hl hret
  subst hRe
  have hx := C.1
  have hb := C.2.1
  have hl : lv_has ls 2 [(0, .ref (g 6)), (1, .int a1)] := hl
  rw [m_X0_depthAt] at hinv
  refine lv_iload_n hx hb dX0_depthAt_0 rfl (lv_at hl 1 rfl) ?_
  refine lv_if_lt (tgt := 19) hx hb dX0_depthAt_1 (by decide) (fun c_1 => ?_) (fun c_1 => ?_)
  · have hinv := oi_t c_1 hinv
    refine lv_iconst (v := 0) hx hb dX0_depthAt_19 (by decide) ?_
    exact hret 20 ls 0 (Option.some.inj hinv) dX0_depthAt_20
  · have hinv := oi_f c_1 hinv
    refine lv_iload_n hx hb dX0_depthAt_4 rfl (lv_at hl 1 rfl) ?_
    refine lv_bipush (v := 24) hx hb dX0_depthAt_5 (by decide) ?_
    refine lv_icmp_ge (tgt := 19) hx hb dX0_depthAt_7 (by decide) (fun c_7 => ?_) (fun c_7 => ?_)
    · have hinv := oi_t c_7 hinv
      refine lv_iconst (v := 0) hx hb dX0_depthAt_19 (by decide) ?_
      exact hret 20 ls 0 (Option.some.inj hinv) dX0_depthAt_20
    · have hinv := oi_f c_7 hinv
      refine lv_aload_n hx hb dX0_depthAt_10 rfl (lv_at hl 0 rfl) ?_
      refine w_get C hw (k := 6) (v := .ref (g 9)) (j := 2) (q47 hN rfl) (sh_6 g cy _) rfl (by decide) k6 rfl dX0_depthAt_11 ?_
      refine lv_iload_n hx hb dX0_depthAt_14 rfl (lv_at hl 1 rfl) ?_
      obtain ⟨hb_15, hinv⟩ := oi_c hinv
      refine s_iald C hw (k := 9) (a := (X 9)) (q47 hN rfl) (fun r => sh_9 g cy r) rfl hb_15 dX0_depthAt_15 ?_
      refine lv_goto (tgt := 20) hx hb dX0_depthAt_16 (by decide) ?_
      exact hret 20 ls ((X 9) a1.toNatClampNeg) (Option.some.inj hinv) dX0_depthAt_20
def m_X0_partAt (F : Nat) (r10 : Nat → Int32) (a1 : Int32) (a2 : Int32) : Option (Int32) := if a1 < 0 then (some ((-1) : Int32)) else (if 24 ≤ a1 then (some ((-1) : Int32)) else (if a2 < 0 then (some ((-1) : Int32)) else (if a2 < 3 then (if ¬ (((a1 * 3) + a2) < 0 ∨ 72 ≤ ((a1 * 3) + a2).toNatClampNeg) then (some (r10 ((a1 * 3) + a2).toNatClampNeg)) else none) else (some ((-1) : Int32)))))
set_option maxHeartbeats 4000000 in
set_option maxRecDepth 100000 in
theorem c_X0_partAt {l : Launch} {D : va_G} {cy : Nat → Nat} {g : Nat → Nat} {N : Nat} {X : Nat → Nat → Int32} {F : Nat} {a1 : Int32} {a2 : Int32} {R0 : Int32} (hfl : l.stackTraces = false) (hN : 47 ≤ N) (hinv : m_X0_partAt F (X 10) a1 a2 = some R0) : sRi l D cy yX0_partAt cX0_partAt 3 (some .int) 0 [.ref (g 6), .int a1, .int a2] g N X R0 := by
  refine jRi (own := RX0) (by decide) rfl hfl (Nat.le_of_ble_eq_true rfl) rfl ?_
  intro p e R s m args below meth c ls A Q hRe C hw hl hret
  subst hRe
  have hx := C.1
  have hb := C.2.1
  have hl : lv_has ls 3 [(0, .ref (g 6)), (1, .int a1), (2, .int a2)] := hl
  rw [m_X0_partAt] at hinv
  refine lv_iload_n hx hb dX0_partAt_0 rfl (lv_at hl 1 rfl) ?_
  refine lv_if_lt (tgt := 19) hx hb dX0_partAt_1 (by decide) (fun c_1 => ?_) (fun c_1 => ?_)
  · have hinv := oi_t c_1 hinv
    refine lv_iconst (v := (-1)) hx hb dX0_partAt_19 (by decide) ?_
    exact hret 20 ls (-1) (Option.some.inj hinv) dX0_partAt_20
  · have hinv := oi_f c_1 hinv
    refine lv_iload_n hx hb dX0_partAt_4 rfl (lv_at hl 1 rfl) ?_
    refine lv_bipush (v := 24) hx hb dX0_partAt_5 (by decide) ?_
    refine lv_icmp_ge (tgt := 19) hx hb dX0_partAt_7 (by decide) (fun c_7 => ?_) (fun c_7 => ?_)
    · have hinv := oi_t c_7 hinv
      refine lv_iconst (v := (-1)) hx hb dX0_partAt_19 (by decide) ?_
      exact hret 20 ls (-1) (Option.some.inj hinv) dX0_partAt_20
    · have hinv := oi_f c_7 hinv
      refine lv_iload_n hx hb dX0_partAt_10 rfl (lv_at hl 2 rfl) ?_
      refine lv_if_lt (tgt := 19) hx hb dX0_partAt_11 (by decide) (fun c_11 => ?_) (fun c_11 => ?_)
      · have hinv := oi_t c_11 hinv
        refine lv_iconst (v := (-1)) hx hb dX0_partAt_19 (by decide) ?_
        exact hret 20 ls (-1) (Option.some.inj hinv) dX0_partAt_20
      · have hinv := oi_f c_11 hinv
        refine lv_iload_n hx hb dX0_partAt_14 rfl (lv_at hl 2 rfl) ?_
        refine lv_iconst (v := 3) hx hb dX0_partAt_15 (by decide) ?_
        refine lv_icmp_lt (tgt := 21) hx hb dX0_partAt_16 (by decide) (fun c_16 => ?_) (fun c_16 => ?_)
        · have hinv := oi_t c_16 hinv
          refine lv_aload_n hx hb dX0_partAt_21 rfl (lv_at hl 0 rfl) ?_
          refine w_get C hw (k := 6) (v := .ref (g 10)) (j := 3) (q47 hN rfl) (sh_6 g cy _) rfl (by decide) k7 rfl dX0_partAt_22 ?_
          refine lv_iload_n hx hb dX0_partAt_25 rfl (lv_at hl 1 rfl) ?_
          refine lv_iconst (v := 3) hx hb dX0_partAt_26 (by decide) ?_
          refine lv_imul hx hb dX0_partAt_27 ?_
          refine lv_iload_n hx hb dX0_partAt_28 rfl (lv_at hl 2 rfl) ?_
          refine lv_iadd hx hb dX0_partAt_29 ?_
          obtain ⟨hb_30, hinv⟩ := oi_c hinv
          refine s_iald C hw (k := 10) (a := (X 10)) (q47 hN rfl) (fun r => sh_10 g cy r) rfl hb_30 dX0_partAt_30 ?_
          exact hret 31 ls ((X 10) ((a1 * 3) + a2).toNatClampNeg) (Option.some.inj hinv) dX0_partAt_31
        · have hinv := oi_f c_16 hinv
          refine lv_iconst (v := (-1)) hx hb dX0_partAt_19 (by decide) ?_
          exact hret 20 ls (-1) (Option.some.inj hinv) dX0_partAt_20
def m_X0_reachedAt (F : Nat) (r11 : Nat → Int32) (a1 : Int32) : Option (Int32) := if a1 < 0 then (some (0 : Int32)) else (if 24 ≤ a1 then (some (0 : Int32)) else (if ¬ (a1 < 0 ∨ 24 ≤ a1.toNatClampNeg) then (some (r11 a1.toNatClampNeg)) else none))
set_option maxHeartbeats 4000000 in
set_option maxRecDepth 100000 in
theorem c_X0_reachedAt {l : Launch} {D : va_G} {cy : Nat → Nat} {g : Nat → Nat} {N : Nat} {X : Nat → Nat → Int32} {F : Nat} {a1 : Int32} {R0 : Int32} (hfl : l.stackTraces = false) (hN : 47 ≤ N) (hinv : m_X0_reachedAt F (X 11) a1 = some R0) : sRi l D cy yX0_reachedAt cX0_reachedAt 2 (some .int) 0 [.ref (g 6), .int a1] g N X R0 := by
  refine jRi (own := RX0) (by decide) rfl hfl (Nat.le_of_ble_eq_true rfl) rfl ?_
  intro p e R s m args below meth c ls A Q hRe C hw hl hret
  subst hRe
  have hx := C.1
  have hb := C.2.1
  have hl : lv_has ls 2 [(0, .ref (g 6)), (1, .int a1)] := hl
  rw [m_X0_reachedAt] at hinv
  refine lv_iload_n hx hb dX0_reachedAt_0 rfl (lv_at hl 1 rfl) ?_
  refine lv_if_lt (tgt := 19) hx hb dX0_reachedAt_1 (by decide) (fun c_1 => ?_) (fun c_1 => ?_)
  · have hinv := oi_t c_1 hinv
    refine lv_iconst (v := 0) hx hb dX0_reachedAt_19 (by decide) ?_
    exact hret 20 ls 0 (Option.some.inj hinv) dX0_reachedAt_20
  · have hinv := oi_f c_1 hinv
    refine lv_iload_n hx hb dX0_reachedAt_4 rfl (lv_at hl 1 rfl) ?_
    refine lv_bipush (v := 24) hx hb dX0_reachedAt_5 (by decide) ?_
    refine lv_icmp_ge (tgt := 19) hx hb dX0_reachedAt_7 (by decide) (fun c_7 => ?_) (fun c_7 => ?_)
    · have hinv := oi_t c_7 hinv
      refine lv_iconst (v := 0) hx hb dX0_reachedAt_19 (by decide) ?_
      exact hret 20 ls 0 (Option.some.inj hinv) dX0_reachedAt_20
    · have hinv := oi_f c_7 hinv
      refine lv_aload_n hx hb dX0_reachedAt_10 rfl (lv_at hl 0 rfl) ?_
      refine w_get C hw (k := 6) (v := .ref (g 11)) (j := 4) (q47 hN rfl) (sh_6 g cy _) rfl (by decide) k8 rfl dX0_reachedAt_11 ?_
      refine lv_iload_n hx hb dX0_reachedAt_14 rfl (lv_at hl 1 rfl) ?_
      obtain ⟨hb_15, hinv⟩ := oi_c hinv
      refine s_iald C hw (k := 11) (a := (X 11)) (q47 hN rfl) (fun r => sh_11 g cy r) rfl hb_15 dX0_reachedAt_15 ?_
      refine lv_goto (tgt := 20) hx hb dX0_reachedAt_16 (by decide) ?_
      exact hret 20 ls ((X 11) a1.toNatClampNeg) (Option.some.inj hinv) dX0_reachedAt_20
def m_X0_choicesStart (F : Nat) (a0 : Int32) : Option (Int32) := if a0 = 0 then (some ((-1) : Int32)) else (some (0 : Int32))
set_option maxHeartbeats 4000000 in
set_option maxRecDepth 100000 in
theorem c_X0_choicesStart {l : Launch} {D : va_G} {cy : Nat → Nat} {g : Nat → Nat} {N : Nat} {X : Nat → Nat → Int32} {F : Nat} {a0 : Int32} {R0 : Int32} (hfl : l.stackTraces = false) (hN : 47 ≤ N) (hinv : m_X0_choicesStart F a0 = some R0) : sRi l D cy yX0_choicesStart cX0_choicesStart 1 (some .int) 0 [.int a0] g N X R0 := by
  refine jRi (own := RX0) (by decide) rfl hfl (Nat.le_of_ble_eq_true rfl) rfl ?_
  intro p e R s m args below meth c ls A Q hRe C hw hl hret
  subst hRe
  have hx := C.1
  have hb := C.2.1
  have hl : lv_has ls 1 [(0, .int a0)] := hl
  rw [m_X0_choicesStart] at hinv
  refine lv_iload_n hx hb dX0_choicesStart_0 rfl (lv_at hl 0 rfl) ?_
  refine lv_if_ne (tgt := 8) hx hb dX0_choicesStart_1 (by decide) (fun c_1 => ?_) (fun c_1 => ?_)
  · have hinv := oi_f c_1 hinv
    refine lv_iconst (v := 0) hx hb dX0_choicesStart_8 (by decide) ?_
    exact hret 9 ls 0 (Option.some.inj hinv) dX0_choicesStart_9
  · have hinv := oi_t c_1 hinv
    refine lv_iconst (v := (-1)) hx hb dX0_choicesStart_4 (by decide) ?_
    refine lv_goto (tgt := 9) hx hb dX0_choicesStart_5 (by decide) ?_
    exact hret 9 ls (-1) (Option.some.inj hinv) dX0_choicesStart_9
def m_X0_choicesEnd (F : Nat) (a0 : Int32) (a1 : Int32) : Option (Int32) := if a0 = 0 then (some (0 : Int32)) else (some a1)
set_option maxHeartbeats 4000000 in
set_option maxRecDepth 100000 in
theorem c_X0_choicesEnd {l : Launch} {D : va_G} {cy : Nat → Nat} {g : Nat → Nat} {N : Nat} {X : Nat → Nat → Int32} {F : Nat} {a0 : Int32} {a1 : Int32} {R0 : Int32} (hfl : l.stackTraces = false) (hN : 47 ≤ N) (hinv : m_X0_choicesEnd F a0 a1 = some R0) : sRi l D cy yX0_choicesEnd cX0_choicesEnd 2 (some .int) 0 [.int a0, .int a1] g N X R0 := by
  refine jRi (own := RX0) (by decide) rfl hfl (Nat.le_of_ble_eq_true rfl) rfl ?_
  intro p e R s m args below meth c ls A Q hRe C hw hl hret
  subst hRe
  have hx := C.1
  have hb := C.2.1
  have hl : lv_has ls 2 [(0, .int a0), (1, .int a1)] := hl
  rw [m_X0_choicesEnd] at hinv
  refine lv_iload_n hx hb dX0_choicesEnd_0 rfl (lv_at hl 0 rfl) ?_
  refine lv_if_ne (tgt := 8) hx hb dX0_choicesEnd_1 (by decide) (fun c_1 => ?_) (fun c_1 => ?_)
  · have hinv := oi_f c_1 hinv
    refine lv_iload_n hx hb dX0_choicesEnd_8 rfl (lv_at hl 1 rfl) ?_
    exact hret 9 ls a1 (Option.some.inj hinv) dX0_choicesEnd_9
  · have hinv := oi_t c_1 hinv
    refine lv_iconst (v := 0) hx hb dX0_choicesEnd_4 (by decide) ?_
    refine lv_goto (tgt := 9) hx hb dX0_choicesEnd_5 (by decide) ?_
    exact hret 9 ls 0 (Option.some.inj hinv) dX0_choicesEnd_9
def m_X0_literalBit (F : Nat) (a0 : Int32) : Option (Int32) := some ((1 : Int32) <<< ((a0 + 10) &&& 31))
set_option maxHeartbeats 4000000 in
set_option maxRecDepth 100000 in
theorem c_X0_literalBit {l : Launch} {D : va_G} {cy : Nat → Nat} {g : Nat → Nat} {N : Nat} {X : Nat → Nat → Int32} {F : Nat} {a0 : Int32} {R0 : Int32} (hfl : l.stackTraces = false) (hN : 47 ≤ N) (hinv : m_X0_literalBit F a0 = some R0) : sRi l D cy yX0_literalBit cX0_literalBit 1 (some .int) 0 [.int a0] g N X R0 := by
  refine jRi (own := RX0) (by decide) rfl hfl (Nat.le_of_ble_eq_true rfl) rfl ?_
  intro p e R s m args below meth c ls A Q hRe C hw hl hret
  subst hRe
  have hx := C.1
  have hb := C.2.1
  have hl : lv_has ls 1 [(0, .int a0)] := hl
  rw [m_X0_literalBit] at hinv
  refine lv_iconst (v := 1) hx hb dX0_literalBit_0 (by decide) ?_
  refine lv_iload_n hx hb dX0_literalBit_1 rfl (lv_at hl 0 rfl) ?_
  refine lv_bipush (v := 10) hx hb dX0_literalBit_2 (by decide) ?_
  refine lv_iadd hx hb dX0_literalBit_4 ?_
  refine lv_ishl hx hb dX0_literalBit_5 ?_
  exact hret 6 ls ((1 : Int32) <<< ((a0 + 10) &&& 31)) (Option.some.inj hinv) dX0_literalBit_6
def m_X0_fits (F : Nat) (r9 : Nat → Int32) (r11 : Nat → Int32) (a1 : Int32) (a2 : Int32) (a3 : Int32) (a4 : Int32) (a5 : Int32) : Option (Int32) := Option.bind (m_X0_depthAt F r9 a2) (fun u1 => Option.bind (m_X0_depthAt F r9 a3) (fun u2 => Option.bind (m_X0_depthAt F r9 a4) (fun u3 => Option.bind (m_X0_reachedAt F r11 a2) (fun u4 => Option.bind (m_X0_reachedAt F r11 a3) (fun u5 => Option.bind (m_X0_reachedAt F r11 a4) (fun u6 => if ((if u1 < (if u2 < u3 then u3 else u2) then (if u2 < u3 then u3 else u2) else u1) + 1) = a5 then (Option.bind (m_X0_literalBit F a1) (fun u7 => if (((u4 ||| u5) ||| u6) &&& u7) = 0 then (some (1 : Int32)) else (some (0 : Int32)))) else (some (0 : Int32))))))))
set_option maxHeartbeats 4000000 in
set_option maxRecDepth 100000 in
theorem c_X0_fits {l : Launch} {D : va_G} {cy : Nat → Nat} {g : Nat → Nat} {N : Nat} {X : Nat → Nat → Int32} {F : Nat} {a1 : Int32} {a2 : Int32} {a3 : Int32} {a4 : Int32} {a5 : Int32} {R0 : Int32} (hfl : l.stackTraces = false) (hN : 47 ≤ N) (hinv : m_X0_fits F (X 9) (X 11) a1 a2 a3 a4 a5 = some R0) : sRi l D cy yX0_fits cX0_fits 8 (some .boolean) 1 [.ref (g 6), .int a1, .int a2, .int a3, .int a4, .int a5] g N X R0 := by
  refine jRz (own := RX0) (by decide) rfl hfl (Nat.le_of_ble_eq_true rfl) rfl ?_
  intro p e R s m args below meth c ls A Q hRe C hw hl hret
  subst hRe
  have hx := C.1
  have hb := C.2.1
  have hl : lv_has ls 8 [(0, .ref (g 6)), (1, .int a1), (2, .int a2), (3, .int a3), (4, .int a4), (5, .int a5)] := hl
  rw [m_X0_fits] at hinv
  refine lv_aload_n hx hb dX0_fits_0 rfl (lv_at hl 0 rfl) ?_
  refine lv_iload_n hx hb dX0_fits_1 rfl (lv_at hl 2 rfl) ?_
  obtain ⟨u1, hu1, hinv⟩ := ob hinv
  refine s_vRi (r0 := u1) C hw (As := [.int a2]) bX0_depthAt k64 (k := 6) (q47 hN rfl) (sh_6 g cy _) rfl (c_X0_depthAt (X := X) hfl hN hu1) rfl rfl dX0_fits_2 ⟨rfl, rfl⟩ (by decide) hl.1 (Nat.le_of_ble_eq_true rfl) (by decide) ?_
  refine lv_aload_n hx hb dX0_fits_5 rfl (lv_at hl 0 rfl) ?_
  refine lv_iload_n hx hb dX0_fits_6 rfl (lv_at hl 3 rfl) ?_
  obtain ⟨u2, hu2, hinv⟩ := ob hinv
  refine s_vRi (r0 := u2) C hw (As := [.int a3]) bX0_depthAt k64 (k := 6) (q47 hN rfl) (sh_6 g cy _) rfl (c_X0_depthAt (X := X) hfl hN hu2) rfl rfl dX0_fits_7 ⟨rfl, rfl⟩ (by decide) hl.1 (Nat.le_of_ble_eq_true rfl) (by decide) ?_
  refine lv_aload_n hx hb dX0_fits_10 rfl (lv_at hl 0 rfl) ?_
  refine lv_iload hx hb dX0_fits_11 (lv_at hl 4 rfl) ?_
  obtain ⟨u3, hu3, hinv⟩ := ob hinv
  refine s_vRi (r0 := u3) C hw (As := [.int a4]) bX0_depthAt k64 (k := 6) (q47 hN rfl) (sh_6 g cy _) rfl (c_X0_depthAt (X := X) hfl hN hu3) rfl rfl dX0_fits_13 ⟨rfl, rfl⟩ (by decide) hl.1 (Nat.le_of_ble_eq_true rfl) (by decide) ?_
  refine va_mmax hx hb (by rw [C.2.2.1]; exact hl.1.symm) C.2.2.2.1 (C.w k60) (C.w k61) (C.w k62) (C.w k63) (Nat.le_of_ble_eq_true rfl) (Nat.le_of_ble_eq_true rfl) (Nat.le_of_ble_eq_true rfl) (Nat.le_of_ble_eq_true rfl) dX0_fits_16 ?_
  refine va_mmax hx hb (by rw [C.2.2.1]; exact hl.1.symm) C.2.2.2.1 (C.w k60) (C.w k61) (C.w k62) (C.w k63) (Nat.le_of_ble_eq_true rfl) (Nat.le_of_ble_eq_true rfl) (Nat.le_of_ble_eq_true rfl) (Nat.le_of_ble_eq_true rfl) dX0_fits_19 ?_
  refine lv_istore (lv' := [(6, .int (if u1 < (if u2 < u3 then u3 else u2) then (if u2 < u3 then u3 else u2) else u1)), (0, .ref (g 6)), (1, .int a1), (2, .int a2), (3, .int a3), (4, .int a4), (5, .int a5)]) hx hb dX0_fits_22 hl (by decide) rfl (fun ls hl => ?_)
  refine lv_aload_n hx hb dX0_fits_24 rfl (lv_at hl 1 rfl) ?_
  refine lv_iload_n hx hb dX0_fits_25 rfl (lv_at hl 3 rfl) ?_
  obtain ⟨u4, hu4, hinv⟩ := ob hinv
  refine s_vRi (r0 := u4) C hw (As := [.int a2]) bX0_reachedAt k26 (k := 6) (q47 hN rfl) (sh_6 g cy _) rfl (c_X0_reachedAt (X := X) hfl hN hu4) rfl rfl dX0_fits_26 ⟨rfl, rfl⟩ (by decide) hl.1 (Nat.le_of_ble_eq_true rfl) (by decide) ?_
  refine lv_aload_n hx hb dX0_fits_29 rfl (lv_at hl 1 rfl) ?_
  refine lv_iload_n hx hb dX0_fits_30 rfl (lv_at hl 4 rfl) ?_
  obtain ⟨u5, hu5, hinv⟩ := ob hinv
  refine s_vRi (r0 := u5) C hw (As := [.int a3]) bX0_reachedAt k26 (k := 6) (q47 hN rfl) (sh_6 g cy _) rfl (c_X0_reachedAt (X := X) hfl hN hu5) rfl rfl dX0_fits_31 ⟨rfl, rfl⟩ (by decide) hl.1 (Nat.le_of_ble_eq_true rfl) (by decide) ?_
  refine lv_ior hx hb dX0_fits_34 ?_
  refine lv_aload_n hx hb dX0_fits_35 rfl (lv_at hl 1 rfl) ?_
  refine lv_iload hx hb dX0_fits_36 (lv_at hl 5 rfl) ?_
  obtain ⟨u6, hu6, hinv⟩ := ob hinv
  refine s_vRi (r0 := u6) C hw (As := [.int a4]) bX0_reachedAt k26 (k := 6) (q47 hN rfl) (sh_6 g cy _) rfl (c_X0_reachedAt (X := X) hfl hN hu6) rfl rfl dX0_fits_38 ⟨rfl, rfl⟩ (by decide) hl.1 (Nat.le_of_ble_eq_true rfl) (by decide) ?_
  refine lv_ior hx hb dX0_fits_41 ?_
  refine lv_istore (lv' := [(7, .int ((u4 ||| u5) ||| u6)), (6, .int (if u1 < (if u2 < u3 then u3 else u2) then (if u2 < u3 then u3 else u2) else u1)), (0, .ref (g 6)), (1, .int a1), (2, .int a2), (3, .int a3), (4, .int a4), (5, .int a5)]) hx hb dX0_fits_42 hl (by decide) rfl (fun ls hl => ?_)
  refine lv_iload hx hb dX0_fits_44 (lv_at hl 1 rfl) ?_
  refine lv_iconst (v := 1) hx hb dX0_fits_46 (by decide) ?_
  refine lv_iadd hx hb dX0_fits_47 ?_
  refine lv_iload hx hb dX0_fits_48 (lv_at hl 7 rfl) ?_
  refine lv_icmp_ne (tgt := 67) hx hb dX0_fits_50 (by decide) (fun c_50 => ?_) (fun c_50 => ?_)
  · have hinv := oi_f c_50 hinv
    refine lv_iconst (v := 0) hx hb dX0_fits_67 (by decide) ?_
    exact hret 68 ls 0 (Option.some.inj hinv) (by decide) dX0_fits_68
  · have hinv := oi_t c_50 hinv
    refine lv_iload hx hb dX0_fits_53 (lv_at hl 0 rfl) ?_
    refine lv_iload_n hx hb dX0_fits_55 rfl (lv_at hl 3 rfl) ?_
    obtain ⟨u7, hu7, hinv⟩ := ob hinv
    refine s_sRi (r0 := u7) C hw (As := [.int a1]) bX0_literalBit k23 (c_X0_literalBit (X := X) hfl hN hu7) rfl rfl dX0_fits_56 ⟨rfl, rfl⟩ (by decide) hl.1 (Nat.le_of_ble_eq_true rfl) (by decide) ?_
    refine lv_iand hx hb dX0_fits_59 ?_
    refine lv_if_ne (tgt := 67) hx hb dX0_fits_60 (by decide) (fun c_60 => ?_) (fun c_60 => ?_)
    · have hinv := oi_f c_60 hinv
      refine lv_iconst (v := 0) hx hb dX0_fits_67 (by decide) ?_
      exact hret 68 ls 0 (Option.some.inj hinv) (by decide) dX0_fits_68
    · have hinv := oi_t c_60 hinv
      refine lv_iconst (v := 1) hx hb dX0_fits_63 (by decide) ?_
      refine lv_goto (tgt := 68) hx hb dX0_fits_64 (by decide) ?_
      exact hret 68 ls 1 (Option.some.inj hinv) (by decide) dX0_fits_68
def m_X0_add (F : Nat) (r6 : Nat → Int32) (r7 : Nat → Int32) (r8 : Nat → Int32) (r9 : Nat → Int32) (r10 : Nat → Int32) (r11 : Nat → Int32) (a1 : Int32) (a2 : Int32) (a3 : Int32) (a4 : Int32) (a5 : Int32) (a6 : Int32) : Option ((Nat → Int32) × (Nat → Int32) × (Nat → Int32) × (Nat → Int32) × (Nat → Int32) × (Nat → Int32)) := if (r6 5) < 24 then (if ¬ ((r6 5) < 0 ∨ 24 ≤ (r6 5).toNatClampNeg) then (if ¬ ((r6 5) < 0 ∨ 24 ≤ (r6 5).toNatClampNeg) then (if ¬ ((r6 5) < 0 ∨ 24 ≤ (r6 5).toNatClampNeg) then (if ¬ (((r6 5) * 3) < 0 ∨ 72 ≤ ((r6 5) * 3).toNatClampNeg) then (if ¬ ((((r6 5) * 3) + 1) < 0 ∨ 72 ≤ (((r6 5) * 3) + 1).toNatClampNeg) then (if ¬ ((((r6 5) * 3) + 2) < 0 ∨ 72 ≤ (((r6 5) * 3) + 2).toNatClampNeg) then (Option.bind (m_X0_literalBit F a1) (fun u1 => Option.bind (m_X0_reachedAt F r11 a4) (fun u2 => Option.bind (m_X0_reachedAt F r11 a5) (fun u3 => Option.bind (m_X0_reachedAt F r11 a6) (fun u4 => if ¬ ((r6 5) < 0 ∨ 24 ≤ (r6 5).toNatClampNeg) then (some ((upd r6 5 ((r6 5) + 1)), (upd r7 (r6 5).toNatClampNeg a1), (upd r8 (r6 5).toNatClampNeg a2), (upd r9 (r6 5).toNatClampNeg a3), (upd (upd (upd r10 ((r6 5) * 3).toNatClampNeg a4) (((r6 5) * 3) + 1).toNatClampNeg a5) (((r6 5) * 3) + 2).toNatClampNeg a6), (upd r11 (r6 5).toNatClampNeg (((u1 ||| u2) ||| u3) ||| u4)))) else none))))) else none) else none) else none) else none) else none) else none) else (some ((upd r6 6 1), r7, r8, r9, r10, r11))
set_option maxHeartbeats 4000000 in
set_option maxRecDepth 100000 in
theorem c_X0_add {l : Launch} {D : va_G} {cy : Nat → Nat} {g : Nat → Nat} {N : Nat} {X : Nat → Nat → Int32} {F : Nat} {a1 : Int32} {a2 : Int32} {a3 : Int32} {a4 : Int32} {a5 : Int32} {a6 : Int32} {R0 : (Nat → Int32) × (Nat → Int32) × (Nat → Int32) × (Nat → Int32) × (Nat → Int32) × (Nat → Int32)} (hfl : l.stackTraces = false) (hN : 47 ≤ N) (hinv : m_X0_add F (X 6) (X 7) (X 8) (X 9) (X 10) (X 11) a1 a2 a3 a4 a5 a6 = some R0) : sWv l D cy yX0_add cX0_add 7 none 1 0 0 [.ref (g 6), .int a1, .int a2, .int a3, .int a4, .int a5, .int a6] g N X (up (up (up (up (up (up X 6 R0.1) 7 R0.2.1) 8 R0.2.2.1) 9 R0.2.2.2.1) 10 R0.2.2.2.2.1) 11 R0.2.2.2.2.2) := by
  refine jWv (own := RX0) (by decide) rfl hfl (Nat.le_of_ble_eq_true rfl) rfl ?_
  intro p e R s m args below meth c ls A Q hRe C hw hl hret
  subst hRe
  have hx := C.1
  have hb := C.2.1
  have hl : lv_has ls 7 [(0, .ref (g 6)), (1, .int a1), (2, .int a2), (3, .int a3), (4, .int a4), (5, .int a5), (6, .int a6)] := hl
  rw [m_X0_add] at hinv
  refine lv_aload_n hx hb dX0_add_0 rfl (lv_at hl 0 rfl) ?_
  refine w_get C hw (k := 6) (v := .int ((X 6) 5)) (j := 5) (q47 hN rfl) (sh_6 g cy _) rfl (by decide) k21 rfl dX0_add_1 ?_
  refine lv_bipush (v := 24) hx hb dX0_add_4 (by decide) ?_
  refine lv_icmp_lt (tgt := 15) hx hb dX0_add_6 (by decide) (fun c_6 => ?_) (fun c_6 => ?_)
  · have hinv := oi_t c_6 hinv
    refine lv_aload_n hx hb dX0_add_15 rfl (lv_at hl 0 rfl) ?_
    refine w_get C hw (k := 6) (v := .ref (g 7)) (j := 0) (q47 hN rfl) (sh_6 g cy _) rfl (by decide) k4 rfl dX0_add_16 ?_
    refine lv_aload_n hx hb dX0_add_19 rfl (lv_at hl 0 rfl) ?_
    refine w_get C hw (k := 6) (v := .int ((X 6) 5)) (j := 5) (q47 hN rfl) (sh_6 g cy _) rfl (by decide) k21 rfl dX0_add_20 ?_
    refine lv_iload_n hx hb dX0_add_23 rfl (lv_at hl 1 rfl) ?_
    obtain ⟨hb_24, hinv⟩ := oi_c hinv
    refine s_iast C hw (k := 7) (a := (X 7)) (q47 hN rfl) (fun r => sh_7 g cy r) rfl hb_24 dX0_add_24 (fun H locs w24 hw24 hw => ?_)
    try rw [← hw24] at hinv
    refine lv_aload_n hx hb dX0_add_25 rfl (lv_at hl 0 rfl) ?_
    refine w_get C hw (k := 6) (v := .ref (g 8)) (j := 1) (q47 hN rfl) (sh_6 g cy _) rfl (by decide) k5 rfl dX0_add_26 ?_
    refine lv_aload_n hx hb dX0_add_29 rfl (lv_at hl 0 rfl) ?_
    refine w_get C hw (k := 6) (v := .int ((X 6) 5)) (j := 5) (q47 hN rfl) (sh_6 g cy _) rfl (by decide) k21 rfl dX0_add_30 ?_
    refine lv_iload_n hx hb dX0_add_33 rfl (lv_at hl 2 rfl) ?_
    obtain ⟨hb_34, hinv⟩ := oi_c hinv
    refine s_iast C hw (k := 8) (a := (X 8)) (q47 hN rfl) (fun r => sh_8 g cy r) rfl hb_34 dX0_add_34 (fun H locs w34 hw34 hw => ?_)
    try rw [← hw34] at hinv
    refine lv_aload_n hx hb dX0_add_35 rfl (lv_at hl 0 rfl) ?_
    refine w_get C hw (k := 6) (v := .ref (g 9)) (j := 2) (q47 hN rfl) (sh_6 g cy _) rfl (by decide) k6 rfl dX0_add_36 ?_
    refine lv_aload_n hx hb dX0_add_39 rfl (lv_at hl 0 rfl) ?_
    refine w_get C hw (k := 6) (v := .int ((X 6) 5)) (j := 5) (q47 hN rfl) (sh_6 g cy _) rfl (by decide) k21 rfl dX0_add_40 ?_
    refine lv_iload_n hx hb dX0_add_43 rfl (lv_at hl 3 rfl) ?_
    obtain ⟨hb_44, hinv⟩ := oi_c hinv
    refine s_iast C hw (k := 9) (a := (X 9)) (q47 hN rfl) (fun r => sh_9 g cy r) rfl hb_44 dX0_add_44 (fun H locs w44 hw44 hw => ?_)
    try rw [← hw44] at hinv
    refine lv_aload_n hx hb dX0_add_45 rfl (lv_at hl 0 rfl) ?_
    refine w_get C hw (k := 6) (v := .ref (g 10)) (j := 3) (q47 hN rfl) (sh_6 g cy _) rfl (by decide) k7 rfl dX0_add_46 ?_
    refine lv_aload_n hx hb dX0_add_49 rfl (lv_at hl 0 rfl) ?_
    refine w_get C hw (k := 6) (v := .int ((X 6) 5)) (j := 5) (q47 hN rfl) (sh_6 g cy _) rfl (by decide) k21 rfl dX0_add_50 ?_
    refine lv_iconst (v := 3) hx hb dX0_add_53 (by decide) ?_
    refine lv_imul hx hb dX0_add_54 ?_
    refine lv_iload hx hb dX0_add_55 (lv_at hl 4 rfl) ?_
    obtain ⟨hb_57, hinv⟩ := oi_c hinv
    refine s_iast C hw (k := 10) (a := (X 10)) (q47 hN rfl) (fun r => sh_10 g cy r) rfl hb_57 dX0_add_57 (fun H locs w57 hw57 hw => ?_)
    try rw [← hw57] at hinv
    refine lv_aload_n hx hb dX0_add_58 rfl (lv_at hl 0 rfl) ?_
    refine w_get C hw (k := 6) (v := .ref (g 10)) (j := 3) (q47 hN rfl) (sh_6 g cy _) rfl (by decide) k7 rfl dX0_add_59 ?_
    refine lv_aload_n hx hb dX0_add_62 rfl (lv_at hl 0 rfl) ?_
    refine w_get C hw (k := 6) (v := .int ((X 6) 5)) (j := 5) (q47 hN rfl) (sh_6 g cy _) rfl (by decide) k21 rfl dX0_add_63 ?_
    refine lv_iconst (v := 3) hx hb dX0_add_66 (by decide) ?_
    refine lv_imul hx hb dX0_add_67 ?_
    refine lv_iconst (v := 1) hx hb dX0_add_68 (by decide) ?_
    refine lv_iadd hx hb dX0_add_69 ?_
    refine lv_iload hx hb dX0_add_70 (lv_at hl 5 rfl) ?_
    obtain ⟨hb_72, hinv⟩ := oi_c hinv
    refine s_iast C hw (k := 10) (a := w57) (q47 hN rfl) (fun r => sh_10 g cy r) rfl hb_72 dX0_add_72 (fun H locs w72 hw72 hw => ?_)
    try rw [← hw72] at hinv
    rw [up_up] at hw
    refine lv_aload_n hx hb dX0_add_73 rfl (lv_at hl 0 rfl) ?_
    refine w_get C hw (k := 6) (v := .ref (g 10)) (j := 3) (q47 hN rfl) (sh_6 g cy _) rfl (by decide) k7 rfl dX0_add_74 ?_
    refine lv_aload_n hx hb dX0_add_77 rfl (lv_at hl 0 rfl) ?_
    refine w_get C hw (k := 6) (v := .int ((X 6) 5)) (j := 5) (q47 hN rfl) (sh_6 g cy _) rfl (by decide) k21 rfl dX0_add_78 ?_
    refine lv_iconst (v := 3) hx hb dX0_add_81 (by decide) ?_
    refine lv_imul hx hb dX0_add_82 ?_
    refine lv_iconst (v := 2) hx hb dX0_add_83 (by decide) ?_
    refine lv_iadd hx hb dX0_add_84 ?_
    refine lv_iload hx hb dX0_add_85 (lv_at hl 6 rfl) ?_
    obtain ⟨hb_87, hinv⟩ := oi_c hinv
    refine s_iast C hw (k := 10) (a := w72) (q47 hN rfl) (fun r => sh_10 g cy r) rfl hb_87 dX0_add_87 (fun H locs w87 hw87 hw => ?_)
    try rw [← hw87] at hinv
    rw [up_up] at hw
    refine lv_aload_n hx hb dX0_add_88 rfl (lv_at hl 0 rfl) ?_
    refine w_get C hw (k := 6) (v := .ref (g 11)) (j := 4) (q47 hN rfl) (sh_6 g cy _) rfl (by decide) k8 rfl dX0_add_89 ?_
    refine lv_aload_n hx hb dX0_add_92 rfl (lv_at hl 0 rfl) ?_
    refine w_get C hw (k := 6) (v := .int ((X 6) 5)) (j := 5) (q47 hN rfl) (sh_6 g cy _) rfl (by decide) k21 rfl dX0_add_93 ?_
    refine lv_iload_n hx hb dX0_add_96 rfl (lv_at hl 1 rfl) ?_
    obtain ⟨u1, hu1, hinv⟩ := ob hinv
    refine s_sRi (r0 := u1) C hw (As := [.int a1]) bX0_literalBit k23 (c_X0_literalBit (X := (up (up (up (up X 7 w24) 8 w34) 9 w44) 10 w87)) hfl hN hu1) rfl rfl dX0_add_97 ⟨rfl, rfl⟩ (by decide) hl.1 (Nat.le_of_ble_eq_true rfl) (by decide) ?_
    refine lv_aload_n hx hb dX0_add_100 rfl (lv_at hl 0 rfl) ?_
    refine lv_iload hx hb dX0_add_101 (lv_at hl 4 rfl) ?_
    obtain ⟨u2, hu2, hinv⟩ := ob hinv
    refine s_vRi (r0 := u2) C hw (As := [.int a4]) bX0_reachedAt k26 (k := 6) (q47 hN rfl) (sh_6 g cy _) rfl (c_X0_reachedAt (X := (up (up (up (up X 7 w24) 8 w34) 9 w44) 10 w87)) hfl hN hu2) rfl rfl dX0_add_103 ⟨rfl, rfl⟩ (by decide) hl.1 (Nat.le_of_ble_eq_true rfl) (by decide) ?_
    refine lv_ior hx hb dX0_add_106 ?_
    refine lv_aload_n hx hb dX0_add_107 rfl (lv_at hl 0 rfl) ?_
    refine lv_iload hx hb dX0_add_108 (lv_at hl 5 rfl) ?_
    obtain ⟨u3, hu3, hinv⟩ := ob hinv
    refine s_vRi (r0 := u3) C hw (As := [.int a5]) bX0_reachedAt k26 (k := 6) (q47 hN rfl) (sh_6 g cy _) rfl (c_X0_reachedAt (X := (up (up (up (up X 7 w24) 8 w34) 9 w44) 10 w87)) hfl hN hu3) rfl rfl dX0_add_110 ⟨rfl, rfl⟩ (by decide) hl.1 (Nat.le_of_ble_eq_true rfl) (by decide) ?_
    refine lv_ior hx hb dX0_add_113 ?_
    refine lv_aload_n hx hb dX0_add_114 rfl (lv_at hl 0 rfl) ?_
    refine lv_iload hx hb dX0_add_115 (lv_at hl 6 rfl) ?_
    obtain ⟨u4, hu4, hinv⟩ := ob hinv
    refine s_vRi (r0 := u4) C hw (As := [.int a6]) bX0_reachedAt k26 (k := 6) (q47 hN rfl) (sh_6 g cy _) rfl (c_X0_reachedAt (X := (up (up (up (up X 7 w24) 8 w34) 9 w44) 10 w87)) hfl hN hu4) rfl rfl dX0_add_117 ⟨rfl, rfl⟩ (by decide) hl.1 (Nat.le_of_ble_eq_true rfl) (by decide) ?_
    refine lv_ior hx hb dX0_add_120 ?_
    obtain ⟨hb_121, hinv⟩ := oi_c hinv
    refine s_iast C hw (k := 11) (a := (X 11)) (q47 hN rfl) (fun r => sh_11 g cy r) rfl hb_121 dX0_add_121 (fun H locs w121 hw121 hw => ?_)
    try rw [← hw121] at hinv
    refine lv_aload_n hx hb dX0_add_122 rfl (lv_at hl 0 rfl) ?_
    refine lv_dup hx hb dX0_add_123 rfl ?_
    refine w_get C hw (k := 6) (v := .int ((X 6) 5)) (j := 5) (q47 hN rfl) (sh_6 g cy _) rfl (by decide) k21 rfl dX0_add_124 ?_
    refine lv_iconst (v := 1) hx hb dX0_add_127 (by decide) ?_
    refine lv_iadd hx hb dX0_add_128 ?_
    refine s_put C hw (k := 6) (row := (upd (X 6) 5 (((X 6) 5) + 1))) (ty := tyX0) (v := .int (((X 6) 5) + 1)) (j := 5) (q47 hN rfl) (sh_6 g cy _) rfl tyX0_ok nmX0 (by decide) k21 rfl rfl rfl (Nat.le_of_ble_eq_true rfl) (sh_6 g cy _) dX0_add_129 (fun H locs hw => ?_)
    have hR0 := (Option.some.inj hinv).symm
    subst hR0
    have hXe : (up (up (up (up (up (up X 7 w24) 8 w34) 9 w44) 10 w87) 11 w121) 6 (upd (X 6) 5 (((X 6) 5) + 1))) = (up (up (up (up (up (up X 6 (upd (X 6) 5 (((X 6) 5) + 1))) 7 w24) 8 w34) 9 w44) 10 w87) 11 w121) := by
      funext j
      by_cases h6 : j = 6
      · subst h6; simp [up]
      by_cases h7 : j = 7
      · subst h7; simp [up]
      by_cases h8 : j = 8
      · subst h8; simp [up]
      by_cases h9 : j = 9
      · subst h9; simp [up]
      by_cases h10 : j = 10
      · subst h10; simp [up]
      by_cases h11 : j = 11
      · subst h11; simp [up]
      simp [up, h6, h7, h8, h9, h10, h11]
    rw [hXe] at hw
    exact hret 132 ls _ _ _ _ hw (by decide) (by decide) dX0_add_132
  · have hinv := oi_f c_6 hinv
    refine lv_aload_n hx hb dX0_add_9 rfl (lv_at hl 0 rfl) ?_
    refine lv_iconst (v := 1) hx hb dX0_add_10 (by decide) ?_
    refine s_put C hw (k := 6) (row := (upd (X 6) 6 1)) (ty := tyX0) (v := .int 1) (j := 6) (q47 hN rfl) (sh_6 g cy _) rfl tyX0_ok nmX0 (by decide) k22 rfl rfl rfl (Nat.le_of_ble_eq_true rfl) (sh_6 g cy _) dX0_add_11 (fun H locs hw => ?_)
    have hR0 := (Option.some.inj hinv).symm
    subst hR0
    have hXe : (up X 6 (upd (X 6) 6 1)) = (up (up (up (up (up (up X 6 (upd (X 6) 6 1)) 7 (X 7)) 8 (X 8)) 9 (X 9)) 10 (X 10)) 11 (X 11)) := by
      funext j
      by_cases h6 : j = 6
      · subst h6; simp [up]
      by_cases h7 : j = 7
      · subst h7; simp [up]
      by_cases h8 : j = 8
      · subst h8; simp [up]
      by_cases h9 : j = 9
      · subst h9; simp [up]
      by_cases h10 : j = 10
      · subst h10; simp [up]
      by_cases h11 : j = 11
      · subst h11; simp [up]
      simp [up, h6, h7, h8, h9, h10, h11]
    rw [hXe] at hw
    exact hret 14 ls _ _ _ _ hw (by decide) (by decide) dX0_add_14
end
section
theorem zz_end : True := trivial
end
