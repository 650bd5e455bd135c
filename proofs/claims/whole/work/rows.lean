section
/-- a private method of a class that the tables say can be made, by its rows of tables_1 -/
def lw_okq (q : MethodName × Nat) : Prop := (q.1.cls ≠ "java/lang/invoke/MethodHandle" ∧ q.1.cls ≠ "java/lang/invoke/VarHandle") ∧ Cond.instantiable q.1.cls q.2 ∈ tables_1 ∧ Cond.privateMethod q.1 ∈ tables_1 ∧ Cond.instanceMethod q.1 ∈ tables_1
theorem lw_p0 : lw_okq (⟨"TeaLaws", "textOf", "(I)LTeaLaws$Text;"⟩, 10) := ⟨⟨by decide +kernel, by decide +kernel⟩, List.mem_of_getElem? (i := 17) (by decide +kernel), List.mem_of_getElem? (i := 198) (by decide +kernel), List.mem_of_getElem? (i := 199) (by decide +kernel)⟩
theorem lw_p1 : lw_okq (⟨"TeaLaws$Text", "parse", "()V"⟩, 7) := ⟨⟨by decide +kernel, by decide +kernel⟩, List.mem_of_getElem? (i := 25) (by decide +kernel), List.mem_of_getElem? (i := 206) (by decide +kernel), List.mem_of_getElem? (i := 207) (by decide +kernel)⟩
theorem lw_p2 : lw_okq (⟨"TeaLaws$Text", "signs", "(I)Ljava/lang/String;"⟩, 7) := ⟨⟨by decide +kernel, by decide +kernel⟩, List.mem_of_getElem? (i := 25) (by decide +kernel), List.mem_of_getElem? (i := 213) (by decide +kernel), List.mem_of_getElem? (i := 214) (by decide +kernel)⟩
theorem lw_p3 : lw_okq (⟨"TeaLaws$Cup", "sortRules", "()V"⟩, 15) := ⟨⟨by decide +kernel, by decide +kernel⟩, List.mem_of_getElem? (i := 80) (by decide +kernel), List.mem_of_getElem? (i := 374) (by decide +kernel), List.mem_of_getElem? (i := 375) (by decide +kernel)⟩
theorem lw_p4 : lw_okq (⟨"TeaLaws$Cup", "readRules", "()V"⟩, 15) := ⟨⟨by decide +kernel, by decide +kernel⟩, List.mem_of_getElem? (i := 80) (by decide +kernel), List.mem_of_getElem? (i := 379) (by decide +kernel), List.mem_of_getElem? (i := 380) (by decide +kernel)⟩
theorem lw_p5 : lw_okq (⟨"TeaLaws$Cup", "layLeaves", "(I)V"⟩, 15) := ⟨⟨by decide +kernel, by decide +kernel⟩, List.mem_of_getElem? (i := 80) (by decide +kernel), List.mem_of_getElem? (i := 383) (by decide +kernel), List.mem_of_getElem? (i := 384) (by decide +kernel)⟩
theorem lw_p6 : lw_okq (⟨"TeaLaws$Cup", "isCracked", "(II)Z"⟩, 15) := ⟨⟨by decide +kernel, by decide +kernel⟩, List.mem_of_getElem? (i := 80) (by decide +kernel), List.mem_of_getElem? (i := 387) (by decide +kernel), List.mem_of_getElem? (i := 388) (by decide +kernel)⟩
theorem lw_p7 : lw_okq (⟨"TeaLaws$Cup", "pairLeaves", "(I)V"⟩, 15) := ⟨⟨by decide +kernel, by decide +kernel⟩, List.mem_of_getElem? (i := 80) (by decide +kernel), List.mem_of_getElem? (i := 391) (by decide +kernel), List.mem_of_getElem? (i := 392) (by decide +kernel)⟩
theorem lw_p8 : lw_okq (⟨"TeaLaws$Cup", "counts", "(II)Z"⟩, 15) := ⟨⟨by decide +kernel, by decide +kernel⟩, List.mem_of_getElem? (i := 80) (by decide +kernel), List.mem_of_getElem? (i := 395) (by decide +kernel), List.mem_of_getElem? (i := 396) (by decide +kernel)⟩
theorem lw_p9 : lw_okq (⟨"TeaLaws$Cup", "madeWith", "(IIIII)I"⟩, 15) := ⟨⟨by decide +kernel, by decide +kernel⟩, List.mem_of_getElem? (i := 80) (by decide +kernel), List.mem_of_getElem? (i := 399) (by decide +kernel), List.mem_of_getElem? (i := 400) (by decide +kernel)⟩
theorem lw_p10 : lw_okq (⟨"TeaLaws$Cup", "madeInOrder", "(IIIZ)I"⟩, 15) := ⟨⟨by decide +kernel, by decide +kernel⟩, List.mem_of_getElem? (i := 80) (by decide +kernel), List.mem_of_getElem? (i := 407) (by decide +kernel), List.mem_of_getElem? (i := 408) (by decide +kernel)⟩
theorem lw_p11 : lw_okq (⟨"TeaLaws", "turnsOn", "(I)I"⟩, 10) := ⟨⟨by decide +kernel, by decide +kernel⟩, List.mem_of_getElem? (i := 17) (by decide +kernel), List.mem_of_getElem? (i := 419) (by decide +kernel), List.mem_of_getElem? (i := 420) (by decide +kernel)⟩
theorem lw_p12 : lw_okq (⟨"TeaLaws", "brokenDeeds", "(LTeaLaws$Cup;)I"⟩, 10) := ⟨⟨by decide +kernel, by decide +kernel⟩, List.mem_of_getElem? (i := 17) (by decide +kernel), List.mem_of_getElem? (i := 427) (by decide +kernel), List.mem_of_getElem? (i := 428) (by decide +kernel)⟩
theorem lw_p13 : lw_okq (⟨"TeaLaws", "earliestDeed", "(I)I"⟩, 10) := ⟨⟨by decide +kernel, by decide +kernel⟩, List.mem_of_getElem? (i := 17) (by decide +kernel), List.mem_of_getElem? (i := 435) (by decide +kernel), List.mem_of_getElem? (i := 436) (by decide +kernel)⟩
theorem lw_p14 : lw_okq (⟨"TeaLaws$Cup", "applies", "(II)Z"⟩, 15) := ⟨⟨by decide +kernel, by decide +kernel⟩, List.mem_of_getElem? (i := 80) (by decide +kernel), List.mem_of_getElem? (i := 451) (by decide +kernel), List.mem_of_getElem? (i := 452) (by decide +kernel)⟩
theorem lw_p15 : lw_okq (⟨"TeaLaws$Cup", "contradictsEarlier", "(II)Z"⟩, 15) := ⟨⟨by decide +kernel, by decide +kernel⟩, List.mem_of_getElem? (i := 80) (by decide +kernel), List.mem_of_getElem? (i := 455) (by decide +kernel), List.mem_of_getElem? (i := 456) (by decide +kernel)⟩
def lw_privs_1 : List (MethodName × Nat) := [(⟨"TeaLaws", "textOf", "(I)LTeaLaws$Text;"⟩, 10), (⟨"TeaLaws$Text", "parse", "()V"⟩, 7), (⟨"TeaLaws$Text", "signs", "(I)Ljava/lang/String;"⟩, 7), (⟨"TeaLaws$Cup", "sortRules", "()V"⟩, 15), (⟨"TeaLaws$Cup", "readRules", "()V"⟩, 15), (⟨"TeaLaws$Cup", "layLeaves", "(I)V"⟩, 15), (⟨"TeaLaws$Cup", "isCracked", "(II)Z"⟩, 15), (⟨"TeaLaws$Cup", "pairLeaves", "(I)V"⟩, 15), (⟨"TeaLaws$Cup", "counts", "(II)Z"⟩, 15), (⟨"TeaLaws$Cup", "madeWith", "(IIIII)I"⟩, 15), (⟨"TeaLaws$Cup", "madeInOrder", "(IIIZ)I"⟩, 15), (⟨"TeaLaws", "turnsOn", "(I)I"⟩, 10), (⟨"TeaLaws", "brokenDeeds", "(LTeaLaws$Cup;)I"⟩, 10), (⟨"TeaLaws", "earliestDeed", "(I)I"⟩, 10), (⟨"TeaLaws$Cup", "applies", "(II)Z"⟩, 15), (⟨"TeaLaws$Cup", "contradictsEarlier", "(II)Z"⟩, 15)]
theorem lw_r1 : ∀ q ∈ lw_privs_1, lw_okq q := List.forall_mem_cons.mpr ⟨lw_p0, List.forall_mem_cons.mpr ⟨lw_p1, List.forall_mem_cons.mpr ⟨lw_p2, List.forall_mem_cons.mpr ⟨lw_p3, List.forall_mem_cons.mpr ⟨lw_p4, List.forall_mem_cons.mpr ⟨lw_p5, List.forall_mem_cons.mpr ⟨lw_p6, List.forall_mem_cons.mpr ⟨lw_p7, List.forall_mem_cons.mpr ⟨lw_p8, List.forall_mem_cons.mpr ⟨lw_p9, List.forall_mem_cons.mpr ⟨lw_p10, List.forall_mem_cons.mpr ⟨lw_p11, List.forall_mem_cons.mpr ⟨lw_p12, List.forall_mem_cons.mpr ⟨lw_p13, List.forall_mem_cons.mpr ⟨lw_p14, List.forall_mem_cons.mpr ⟨lw_p15, fun _ h => absurd h List.not_mem_nil⟩⟩⟩⟩⟩⟩⟩⟩⟩⟩⟩⟩⟩⟩⟩⟩
theorem lw_p16 : lw_okq (⟨"TeaLaws$Cup", "alike", "(III)Z"⟩, 15) := ⟨⟨by decide +kernel, by decide +kernel⟩, List.mem_of_getElem? (i := 80) (by decide +kernel), List.mem_of_getElem? (i := 459) (by decide +kernel), List.mem_of_getElem? (i := 460) (by decide +kernel)⟩
theorem lw_p17 : lw_okq (⟨"TeaLaws$Cup", "fillRulesByLeaves", "(I)V"⟩, 15) := ⟨⟨by decide +kernel, by decide +kernel⟩, List.mem_of_getElem? (i := 80) (by decide +kernel), List.mem_of_getElem? (i := 484) (by decide +kernel), List.mem_of_getElem? (i := 485) (by decide +kernel)⟩
theorem lw_p18 : lw_okq (⟨"TeaLaws$Cup", "changes", "(IIIII)Z"⟩, 15) := ⟨⟨by decide +kernel, by decide +kernel⟩, List.mem_of_getElem? (i := 80) (by decide +kernel), List.mem_of_getElem? (i := 515) (by decide +kernel), List.mem_of_getElem? (i := 516) (by decide +kernel)⟩
theorem lw_p19 : lw_okq (⟨"TeaLaws", "find", "(I)I"⟩, 10) := ⟨⟨by decide +kernel, by decide +kernel⟩, List.mem_of_getElem? (i := 17) (by decide +kernel), List.mem_of_getElem? (i := 548) (by decide +kernel), List.mem_of_getElem? (i := 549) (by decide +kernel)⟩
theorem lw_p20 : lw_okq (⟨"TeaLaws", "wouldFit", "(LTeaLaws$Cup;II)Z"⟩, 10) := ⟨⟨by decide +kernel, by decide +kernel⟩, List.mem_of_getElem? (i := 17) (by decide +kernel), List.mem_of_getElem? (i := 557) (by decide +kernel), List.mem_of_getElem? (i := 558) (by decide +kernel)⟩
theorem lw_p21 : lw_okq (⟨"TeaLaws$Cup", "inForceWithoutLeaf", "(II)I"⟩, 15) := ⟨⟨by decide +kernel, by decide +kernel⟩, List.mem_of_getElem? (i := 80) (by decide +kernel), List.mem_of_getElem? (i := 565) (by decide +kernel), List.mem_of_getElem? (i := 566) (by decide +kernel)⟩
theorem lw_p22 : lw_okq (⟨"TeaLaws$Cup", "inForceWithTurnedRule", "(II)I"⟩, 15) := ⟨⟨by decide +kernel, by decide +kernel⟩, List.mem_of_getElem? (i := 80) (by decide +kernel), List.mem_of_getElem? (i := 569) (by decide +kernel), List.mem_of_getElem? (i := 570) (by decide +kernel)⟩
theorem lw_p23 : lw_okq (⟨"TeaLaws$Cup", "countChoices", "(II)V"⟩, 15) := ⟨⟨by decide +kernel, by decide +kernel⟩, List.mem_of_getElem? (i := 80) (by decide +kernel), List.mem_of_getElem? (i := 582) (by decide +kernel), List.mem_of_getElem? (i := 583) (by decide +kernel)⟩
theorem lw_p24 : lw_okq (⟨"TeaLaws", "rulesWithPlus", "()I"⟩, 10) := ⟨⟨by decide +kernel, by decide +kernel⟩, List.mem_of_getElem? (i := 17) (by decide +kernel), List.mem_of_getElem? (i := 650) (by decide +kernel), List.mem_of_getElem? (i := 651) (by decide +kernel)⟩
theorem lw_p25 : lw_okq (⟨"TeaLaws", "digestOfTexts", "(J)J"⟩, 10) := ⟨⟨by decide +kernel, by decide +kernel⟩, List.mem_of_getElem? (i := 17) (by decide +kernel), List.mem_of_getElem? (i := 661) (by decide +kernel), List.mem_of_getElem? (i := 662) (by decide +kernel)⟩
theorem lw_p26 : lw_okq (⟨"TeaLaws", "digestOfTurns", "(JI)J"⟩, 10) := ⟨⟨by decide +kernel, by decide +kernel⟩, List.mem_of_getElem? (i := 17) (by decide +kernel), List.mem_of_getElem? (i := 668) (by decide +kernel), List.mem_of_getElem? (i := 669) (by decide +kernel)⟩
theorem lw_p27 : lw_okq (⟨"TeaLaws", "digestOfLaw", "(JI)J"⟩, 10) := ⟨⟨by decide +kernel, by decide +kernel⟩, List.mem_of_getElem? (i := 17) (by decide +kernel), List.mem_of_getElem? (i := 677) (by decide +kernel), List.mem_of_getElem? (i := 678) (by decide +kernel)⟩
theorem lw_p28 : lw_okq (⟨"TeaLawsModel", "finds", "(I)I"⟩, 26) := ⟨⟨by decide +kernel, by decide +kernel⟩, List.mem_of_getElem? (i := 688) (by decide +kernel), List.mem_of_getElem? (i := 785) (by decide +kernel), List.mem_of_getElem? (i := 786) (by decide +kernel)⟩
theorem lw_p29 : lw_okq (⟨"TeaLawsModel", "lacks", "(III)I"⟩, 26) := ⟨⟨by decide +kernel, by decide +kernel⟩, List.mem_of_getElem? (i := 688) (by decide +kernel), List.mem_of_getElem? (i := 797) (by decide +kernel), List.mem_of_getElem? (i := 798) (by decide +kernel)⟩
theorem lw_p30 : lw_okq (⟨"TeaLawsModel", "readsText", "(I)I"⟩, 26) := ⟨⟨by decide +kernel, by decide +kernel⟩, List.mem_of_getElem? (i := 688) (by decide +kernel), List.mem_of_getElem? (i := 833) (by decide +kernel), List.mem_of_getElem? (i := 834) (by decide +kernel)⟩
theorem lw_p31 : lw_okq (⟨"TeaLawsModel", "empty", "(I)V"⟩, 26) := ⟨⟨by decide +kernel, by decide +kernel⟩, List.mem_of_getElem? (i := 688) (by decide +kernel), List.mem_of_getElem? (i := 837) (by decide +kernel), List.mem_of_getElem? (i := 838) (by decide +kernel)⟩
def lw_privs_2 : List (MethodName × Nat) := [(⟨"TeaLaws$Cup", "alike", "(III)Z"⟩, 15), (⟨"TeaLaws$Cup", "fillRulesByLeaves", "(I)V"⟩, 15), (⟨"TeaLaws$Cup", "changes", "(IIIII)Z"⟩, 15), (⟨"TeaLaws", "find", "(I)I"⟩, 10), (⟨"TeaLaws", "wouldFit", "(LTeaLaws$Cup;II)Z"⟩, 10), (⟨"TeaLaws$Cup", "inForceWithoutLeaf", "(II)I"⟩, 15), (⟨"TeaLaws$Cup", "inForceWithTurnedRule", "(II)I"⟩, 15), (⟨"TeaLaws$Cup", "countChoices", "(II)V"⟩, 15), (⟨"TeaLaws", "rulesWithPlus", "()I"⟩, 10), (⟨"TeaLaws", "digestOfTexts", "(J)J"⟩, 10), (⟨"TeaLaws", "digestOfTurns", "(JI)J"⟩, 10), (⟨"TeaLaws", "digestOfLaw", "(JI)J"⟩, 10), (⟨"TeaLawsModel", "finds", "(I)I"⟩, 26), (⟨"TeaLawsModel", "lacks", "(III)I"⟩, 26), (⟨"TeaLawsModel", "readsText", "(I)I"⟩, 26), (⟨"TeaLawsModel", "empty", "(I)V"⟩, 26)]
theorem lw_r2 : ∀ q ∈ lw_privs_2, lw_okq q := List.forall_mem_cons.mpr ⟨lw_p16, List.forall_mem_cons.mpr ⟨lw_p17, List.forall_mem_cons.mpr ⟨lw_p18, List.forall_mem_cons.mpr ⟨lw_p19, List.forall_mem_cons.mpr ⟨lw_p20, List.forall_mem_cons.mpr ⟨lw_p21, List.forall_mem_cons.mpr ⟨lw_p22, List.forall_mem_cons.mpr ⟨lw_p23, List.forall_mem_cons.mpr ⟨lw_p24, List.forall_mem_cons.mpr ⟨lw_p25, List.forall_mem_cons.mpr ⟨lw_p26, List.forall_mem_cons.mpr ⟨lw_p27, List.forall_mem_cons.mpr ⟨lw_p28, List.forall_mem_cons.mpr ⟨lw_p29, List.forall_mem_cons.mpr ⟨lw_p30, List.forall_mem_cons.mpr ⟨lw_p31, fun _ h => absurd h List.not_mem_nil⟩⟩⟩⟩⟩⟩⟩⟩⟩⟩⟩⟩⟩⟩⟩⟩
theorem lw_p32 : lw_okq (⟨"TeaLawsModel", "readsThing", "(I)Z"⟩, 26) := ⟨⟨by decide +kernel, by decide +kernel⟩, List.mem_of_getElem? (i := 688) (by decide +kernel), List.mem_of_getElem? (i := 841) (by decide +kernel), List.mem_of_getElem? (i := 842) (by decide +kernel)⟩
theorem lw_p33 : lw_okq (⟨"TeaLawsModel", "reads", "()V"⟩, 26) := ⟨⟨by decide +kernel, by decide +kernel⟩, List.mem_of_getElem? (i := 688) (by decide +kernel), List.mem_of_getElem? (i := 861) (by decide +kernel), List.mem_of_getElem? (i := 862) (by decide +kernel)⟩
theorem lw_p34 : lw_okq (⟨"TeaLawsModel", "isLeaf", "(I)Z"⟩, 26) := ⟨⟨by decide +kernel, by decide +kernel⟩, List.mem_of_getElem? (i := 688) (by decide +kernel), List.mem_of_getElem? (i := 865) (by decide +kernel), List.mem_of_getElem? (i := 866) (by decide +kernel)⟩
theorem lw_p35 : lw_okq (⟨"TeaLawsModel", "turnsOne", "(II)V"⟩, 26) := ⟨⟨by decide +kernel, by decide +kernel⟩, List.mem_of_getElem? (i := 688) (by decide +kernel), List.mem_of_getElem? (i := 906) (by decide +kernel), List.mem_of_getElem? (i := 907) (by decide +kernel)⟩
theorem lw_p36 : lw_okq (⟨"TeaLawsModel", "readingOf", "(II)I"⟩, 26) := ⟨⟨by decide +kernel, by decide +kernel⟩, List.mem_of_getElem? (i := 688) (by decide +kernel), List.mem_of_getElem? (i := 914) (by decide +kernel), List.mem_of_getElem? (i := 915) (by decide +kernel)⟩
theorem lw_p37 : lw_okq (⟨"TeaLawsModel", "turnsCup", "(I)V"⟩, 26) := ⟨⟨by decide +kernel, by decide +kernel⟩, List.mem_of_getElem? (i := 688) (by decide +kernel), List.mem_of_getElem? (i := 918) (by decide +kernel), List.mem_of_getElem? (i := 919) (by decide +kernel)⟩
theorem lw_p38 : lw_okq (⟨"TeaLawsModel", "laysOut", "()V"⟩, 26) := ⟨⟨by decide +kernel, by decide +kernel⟩, List.mem_of_getElem? (i := 688) (by decide +kernel), List.mem_of_getElem? (i := 922) (by decide +kernel), List.mem_of_getElem? (i := 923) (by decide +kernel)⟩
theorem lw_p39 : lw_okq (⟨"TeaLawsModel", "isCracked", "(II)Z"⟩, 26) := ⟨⟨by decide +kernel, by decide +kernel⟩, List.mem_of_getElem? (i := 688) (by decide +kernel), List.mem_of_getElem? (i := 926) (by decide +kernel), List.mem_of_getElem? (i := 927) (by decide +kernel)⟩
theorem lw_p40 : lw_okq (⟨"TeaLawsModel", "pairs", "(I)V"⟩, 26) := ⟨⟨by decide +kernel, by decide +kernel⟩, List.mem_of_getElem? (i := 688) (by decide +kernel), List.mem_of_getElem? (i := 930) (by decide +kernel), List.mem_of_getElem? (i := 931) (by decide +kernel)⟩
theorem lw_p41 : lw_okq (⟨"TeaLawsModel", "lieSo", "(III)Z"⟩, 26) := ⟨⟨by decide +kernel, by decide +kernel⟩, List.mem_of_getElem? (i := 688) (by decide +kernel), List.mem_of_getElem? (i := 934) (by decide +kernel), List.mem_of_getElem? (i := 935) (by decide +kernel)⟩
theorem lw_p42 : lw_okq (⟨"TeaLawsModel", "appliesNow", "()I"⟩, 26) := ⟨⟨by decide +kernel, by decide +kernel⟩, List.mem_of_getElem? (i := 688) (by decide +kernel), List.mem_of_getElem? (i := 941) (by decide +kernel), List.mem_of_getElem? (i := 942) (by decide +kernel)⟩
theorem lw_p43 : lw_okq (⟨"TeaLawsModel", "applies", "(II)Z"⟩, 26) := ⟨⟨by decide +kernel, by decide +kernel⟩, List.mem_of_getElem? (i := 688) (by decide +kernel), List.mem_of_getElem? (i := 945) (by decide +kernel), List.mem_of_getElem? (i := 946) (by decide +kernel)⟩
theorem lw_p44 : lw_okq (⟨"TeaLawsModel", "readBy", "(I)I"⟩, 26) := ⟨⟨by decide +kernel, by decide +kernel⟩, List.mem_of_getElem? (i := 688) (by decide +kernel), List.mem_of_getElem? (i := 952) (by decide +kernel), List.mem_of_getElem? (i := 953) (by decide +kernel)⟩
theorem lw_p45 : lw_okq (⟨"TeaLawsModel", "dayOf", "(I)I"⟩, 26) := ⟨⟨by decide +kernel, by decide +kernel⟩, List.mem_of_getElem? (i := 688) (by decide +kernel), List.mem_of_getElem? (i := 960) (by decide +kernel), List.mem_of_getElem? (i := 961) (by decide +kernel)⟩
theorem lw_p46 : lw_okq (⟨"TeaLawsModel", "readNow", "(I)I"⟩, 26) := ⟨⟨by decide +kernel, by decide +kernel⟩, List.mem_of_getElem? (i := 688) (by decide +kernel), List.mem_of_getElem? (i := 964) (by decide +kernel), List.mem_of_getElem? (i := 965) (by decide +kernel)⟩
theorem lw_p47 : lw_okq (⟨"TeaLawsModel", "brokenNow", "()I"⟩, 26) := ⟨⟨by decide +kernel, by decide +kernel⟩, List.mem_of_getElem? (i := 688) (by decide +kernel), List.mem_of_getElem? (i := 972) (by decide +kernel), List.mem_of_getElem? (i := 973) (by decide +kernel)⟩
def lw_privs_3 : List (MethodName × Nat) := [(⟨"TeaLawsModel", "readsThing", "(I)Z"⟩, 26), (⟨"TeaLawsModel", "reads", "()V"⟩, 26), (⟨"TeaLawsModel", "isLeaf", "(I)Z"⟩, 26), (⟨"TeaLawsModel", "turnsOne", "(II)V"⟩, 26), (⟨"TeaLawsModel", "readingOf", "(II)I"⟩, 26), (⟨"TeaLawsModel", "turnsCup", "(I)V"⟩, 26), (⟨"TeaLawsModel", "laysOut", "()V"⟩, 26), (⟨"TeaLawsModel", "isCracked", "(II)Z"⟩, 26), (⟨"TeaLawsModel", "pairs", "(I)V"⟩, 26), (⟨"TeaLawsModel", "lieSo", "(III)Z"⟩, 26), (⟨"TeaLawsModel", "appliesNow", "()I"⟩, 26), (⟨"TeaLawsModel", "applies", "(II)Z"⟩, 26), (⟨"TeaLawsModel", "readBy", "(I)I"⟩, 26), (⟨"TeaLawsModel", "dayOf", "(I)I"⟩, 26), (⟨"TeaLawsModel", "readNow", "(I)I"⟩, 26), (⟨"TeaLawsModel", "brokenNow", "()I"⟩, 26)]
theorem lw_r3 : ∀ q ∈ lw_privs_3, lw_okq q := List.forall_mem_cons.mpr ⟨lw_p32, List.forall_mem_cons.mpr ⟨lw_p33, List.forall_mem_cons.mpr ⟨lw_p34, List.forall_mem_cons.mpr ⟨lw_p35, List.forall_mem_cons.mpr ⟨lw_p36, List.forall_mem_cons.mpr ⟨lw_p37, List.forall_mem_cons.mpr ⟨lw_p38, List.forall_mem_cons.mpr ⟨lw_p39, List.forall_mem_cons.mpr ⟨lw_p40, List.forall_mem_cons.mpr ⟨lw_p41, List.forall_mem_cons.mpr ⟨lw_p42, List.forall_mem_cons.mpr ⟨lw_p43, List.forall_mem_cons.mpr ⟨lw_p44, List.forall_mem_cons.mpr ⟨lw_p45, List.forall_mem_cons.mpr ⟨lw_p46, List.forall_mem_cons.mpr ⟨lw_p47, fun _ h => absurd h List.not_mem_nil⟩⟩⟩⟩⟩⟩⟩⟩⟩⟩⟩⟩⟩⟩⟩⟩
theorem lw_p48 : lw_okq (⟨"TeaLawsModel", "firstBroken", "()I"⟩, 26) := ⟨⟨by decide +kernel, by decide +kernel⟩, List.mem_of_getElem? (i := 688) (by decide +kernel), List.mem_of_getElem? (i := 976) (by decide +kernel), List.mem_of_getElem? (i := 977) (by decide +kernel)⟩
theorem lw_p49 : lw_okq (⟨"TeaLawsModel", "freeOf", "(I)I"⟩, 26) := ⟨⟨by decide +kernel, by decide +kernel⟩, List.mem_of_getElem? (i := 688) (by decide +kernel), List.mem_of_getElem? (i := 984) (by decide +kernel), List.mem_of_getElem? (i := 985) (by decide +kernel)⟩
theorem lw_p50 : lw_okq (⟨"TeaLawsModel", "clashOf", "(I)I"⟩, 26) := ⟨⟨by decide +kernel, by decide +kernel⟩, List.mem_of_getElem? (i := 688) (by decide +kernel), List.mem_of_getElem? (i := 992) (by decide +kernel), List.mem_of_getElem? (i := 993) (by decide +kernel)⟩
theorem lw_p51 : lw_okq (⟨"TeaLawsModel", "pourOf", "(I)I"⟩, 26) := ⟨⟨by decide +kernel, by decide +kernel⟩, List.mem_of_getElem? (i := 688) (by decide +kernel), List.mem_of_getElem? (i := 1003) (by decide +kernel), List.mem_of_getElem? (i := 1004) (by decide +kernel)⟩
theorem lw_p52 : lw_okq (⟨"TeaLawsModel", "strainOf", "(III)I"⟩, 26) := ⟨⟨by decide +kernel, by decide +kernel⟩, List.mem_of_getElem? (i := 688) (by decide +kernel), List.mem_of_getElem? (i := 1014) (by decide +kernel), List.mem_of_getElem? (i := 1015) (by decide +kernel)⟩
theorem lw_p53 : lw_okq (⟨"TeaLawsModel", "strikeOf", "(II)I"⟩, 26) := ⟨⟨by decide +kernel, by decide +kernel⟩, List.mem_of_getElem? (i := 688) (by decide +kernel), List.mem_of_getElem? (i := 1025) (by decide +kernel), List.mem_of_getElem? (i := 1026) (by decide +kernel)⟩
theorem lw_p54 : lw_okq (⟨"TeaLawsModel", "placeOf", "(II)I"⟩, 26) := ⟨⟨by decide +kernel, by decide +kernel⟩, List.mem_of_getElem? (i := 688) (by decide +kernel), List.mem_of_getElem? (i := 1033) (by decide +kernel), List.mem_of_getElem? (i := 1034) (by decide +kernel)⟩
theorem lw_p55 : lw_okq (⟨"TeaLawsModel", "isFree", "(II)Z"⟩, 26) := ⟨⟨by decide +kernel, by decide +kernel⟩, List.mem_of_getElem? (i := 688) (by decide +kernel), List.mem_of_getElem? (i := 1037) (by decide +kernel), List.mem_of_getElem? (i := 1038) (by decide +kernel)⟩
theorem lw_p56 : lw_okq (⟨"TeaLawsModel", "sidesOf", "(II)I"⟩, 26) := ⟨⟨by decide +kernel, by decide +kernel⟩, List.mem_of_getElem? (i := 688) (by decide +kernel), List.mem_of_getElem? (i := 1045) (by decide +kernel), List.mem_of_getElem? (i := 1046) (by decide +kernel)⟩
theorem lw_p57 : lw_okq (⟨"TeaLawsModel", "fitsOf", "(I)I"⟩, 26) := ⟨⟨by decide +kernel, by decide +kernel⟩, List.mem_of_getElem? (i := 688) (by decide +kernel), List.mem_of_getElem? (i := 1066) (by decide +kernel), List.mem_of_getElem? (i := 1067) (by decide +kernel)⟩
theorem lw_p58 : lw_okq (⟨"TeaLawsModel", "isRead", "(I)Z"⟩, 26) := ⟨⟨by decide +kernel, by decide +kernel⟩, List.mem_of_getElem? (i := 688) (by decide +kernel), List.mem_of_getElem? (i := 1070) (by decide +kernel), List.mem_of_getElem? (i := 1071) (by decide +kernel)⟩
theorem lw_p59 : lw_okq (⟨"TeaLawsModel", "sinksOf", "(IIII)J"⟩, 26) := ⟨⟨by decide +kernel, by decide +kernel⟩, List.mem_of_getElem? (i := 688) (by decide +kernel), List.mem_of_getElem? (i := 1079) (by decide +kernel), List.mem_of_getElem? (i := 1080) (by decide +kernel)⟩
theorem lw_p60 : lw_okq (⟨"TeaLawsModel", "morningsOf", "(III)I"⟩, 26) := ⟨⟨by decide +kernel, by decide +kernel⟩, List.mem_of_getElem? (i := 688) (by decide +kernel), List.mem_of_getElem? (i := 1095) (by decide +kernel), List.mem_of_getElem? (i := 1096) (by decide +kernel)⟩
theorem lw_p61 : lw_okq (⟨"TeaLawsModel", "tellsTurns", "(JI)J"⟩, 26) := ⟨⟨by decide +kernel, by decide +kernel⟩, List.mem_of_getElem? (i := 688) (by decide +kernel), List.mem_of_getElem? (i := 1115) (by decide +kernel), List.mem_of_getElem? (i := 1116) (by decide +kernel)⟩
theorem lw_p62 : lw_okq (⟨"TeaLawsModel", "tellsLaw", "(JI)J"⟩, 26) := ⟨⟨by decide +kernel, by decide +kernel⟩, List.mem_of_getElem? (i := 688) (by decide +kernel), List.mem_of_getElem? (i := 1119) (by decide +kernel), List.mem_of_getElem? (i := 1120) (by decide +kernel)⟩
def lw_privs_4 : List (MethodName × Nat) := [(⟨"TeaLawsModel", "firstBroken", "()I"⟩, 26), (⟨"TeaLawsModel", "freeOf", "(I)I"⟩, 26), (⟨"TeaLawsModel", "clashOf", "(I)I"⟩, 26), (⟨"TeaLawsModel", "pourOf", "(I)I"⟩, 26), (⟨"TeaLawsModel", "strainOf", "(III)I"⟩, 26), (⟨"TeaLawsModel", "strikeOf", "(II)I"⟩, 26), (⟨"TeaLawsModel", "placeOf", "(II)I"⟩, 26), (⟨"TeaLawsModel", "isFree", "(II)Z"⟩, 26), (⟨"TeaLawsModel", "sidesOf", "(II)I"⟩, 26), (⟨"TeaLawsModel", "fitsOf", "(I)I"⟩, 26), (⟨"TeaLawsModel", "isRead", "(I)Z"⟩, 26), (⟨"TeaLawsModel", "sinksOf", "(IIII)J"⟩, 26), (⟨"TeaLawsModel", "morningsOf", "(III)I"⟩, 26), (⟨"TeaLawsModel", "tellsTurns", "(JI)J"⟩, 26), (⟨"TeaLawsModel", "tellsLaw", "(JI)J"⟩, 26)]
theorem lw_r4 : ∀ q ∈ lw_privs_4, lw_okq q := List.forall_mem_cons.mpr ⟨lw_p48, List.forall_mem_cons.mpr ⟨lw_p49, List.forall_mem_cons.mpr ⟨lw_p50, List.forall_mem_cons.mpr ⟨lw_p51, List.forall_mem_cons.mpr ⟨lw_p52, List.forall_mem_cons.mpr ⟨lw_p53, List.forall_mem_cons.mpr ⟨lw_p54, List.forall_mem_cons.mpr ⟨lw_p55, List.forall_mem_cons.mpr ⟨lw_p56, List.forall_mem_cons.mpr ⟨lw_p57, List.forall_mem_cons.mpr ⟨lw_p58, List.forall_mem_cons.mpr ⟨lw_p59, List.forall_mem_cons.mpr ⟨lw_p60, List.forall_mem_cons.mpr ⟨lw_p61, List.forall_mem_cons.mpr ⟨lw_p62, fun _ h => absurd h List.not_mem_nil⟩⟩⟩⟩⟩⟩⟩⟩⟩⟩⟩⟩⟩⟩⟩
def lw_privs : List (MethodName × Nat) := lw_privs_1 ++ (lw_privs_2 ++ (lw_privs_3 ++ (lw_privs_4)))
def lw_tbl : List Cond := k2_sels lw_privs ++ tables_1
theorem lw_privs_ok : ∀ q ∈ lw_privs, lw_okq q := by
  show ∀ q ∈ lw_privs_1 ++ (lw_privs_2 ++ (lw_privs_3 ++ (lw_privs_4))), lw_okq q
  exact List.forall_mem_append.mpr ⟨lw_r1, List.forall_mem_append.mpr ⟨lw_r2, List.forall_mem_append.mpr ⟨lw_r3, lw_r4⟩⟩⟩
end
section
def RX0 : String := "TeaLaws$Cup"
def TX0 : u_T := fun k => match k with
  | 0 => ("TeaLaws$Cup", "leaves", "LTeaLaws$Text;", true)
  | 1 => ("TeaLaws$Cup", "rules", "LTeaLaws$Text;", true)
  | 2 => ("TeaLaws$Cup", "cracks", "LTeaLaws$Pairs;", true)
  | 3 => ("TeaLaws$Cup", "columns", "[[I", true)
  | 4 => ("TeaLaws$Cup", "rows", "[[I", true)
  | 5 => ("TeaLaws$Cup", "counting", "[I", true)
  | 6 => ("TeaLaws$Cup", "applying", "[I", true)
  | 7 => ("TeaLaws$Cup", "inForce", "[I", true)
  | 8 => ("TeaLaws$Cup", "madeByPair", "[[I", true)
  | 9 => ("TeaLaws$Cup", "rulesOfKind", "[[I", true)
  | 10 => ("TeaLaws$Cup", "lawsByRules", "[I", true)
  | 11 => ("TeaLaws$Cup", "rulesByLeaves", "[I", true)
  | 12 => ("TeaLaws$Cup", "turnsOfRulesByLeaves", "I", false)
  | 13 => ("TeaLaws$Cup", "choices", "[I", true)
  | _ => ("TeaLaws$Cup", "stale", "Z", false)
def tyX0 : Nat → FieldType := fun k => match k with
  | 0 => .object "TeaLaws$Text"
  | 1 => .object "TeaLaws$Text"
  | 2 => .object "TeaLaws$Pairs"
  | 3 => .array (.array .int)
  | 4 => .array (.array .int)
  | 5 => .array .int
  | 6 => .array .int
  | 7 => .array .int
  | 8 => .array (.array .int)
  | 9 => .array (.array .int)
  | 10 => .array .int
  | 11 => .array .int
  | 12 => .int
  | 13 => .array .int
  | _ => .boolean
theorem nmX0 : ∀ a, a < 15 → ∀ b, b < 15 → a ≠ b → (TX0 a).2.1 ≠ (TX0 b).2.1 := by decide +kernel
theorem tyX0_ok : ∀ k, k < 15 → parseFieldDescriptor (TX0 k).2.2.1 = some (tyX0 k) := by decide +kernel
abbrev cX0_init : ByteArray := prog_2_method_1_code
def yX0_init : MethodName := ⟨RX0, "<init>", "(LTeaLaws$Text;LTeaLaws$Text;LTeaLaws$Pairs;)V"⟩
abbrev cX0_settled : ByteArray := prog_2_method_2_code
def yX0_settled : MethodName := ⟨RX0, "settled", "()LTeaLaws$Cup;"⟩
abbrev cX0_sortRules : ByteArray := prog_2_method_3_code
def yX0_sortRules : MethodName := ⟨RX0, "sortRules", "()V"⟩
abbrev cX0_readRules : ByteArray := prog_2_method_4_code
def yX0_readRules : MethodName := ⟨RX0, "readRules", "()V"⟩
abbrev cX0_layLeaves : ByteArray := prog_2_method_5_code
def yX0_layLeaves : MethodName := ⟨RX0, "layLeaves", "(I)V"⟩
abbrev cX0_isCracked : ByteArray := prog_2_method_6_code
def yX0_isCracked : MethodName := ⟨RX0, "isCracked", "(II)Z"⟩
abbrev cX0_counts : ByteArray := prog_2_method_7_code
def yX0_counts : MethodName := ⟨RX0, "counts", "(II)Z"⟩
abbrev cX0_pairLeaves : ByteArray := prog_2_method_8_code
def yX0_pairLeaves : MethodName := ⟨RX0, "pairLeaves", "(I)V"⟩
abbrev cX0_madeWith : ByteArray := prog_2_method_9_code
def yX0_madeWith : MethodName := ⟨RX0, "madeWith", "(IIIII)I"⟩
abbrev cX0_madeInOrder : ByteArray := prog_2_method_10_code
def yX0_madeInOrder : MethodName := ⟨RX0, "madeInOrder", "(IIIZ)I"⟩
abbrev cX0_isInForce : ByteArray := prog_2_method_11_code
def yX0_isInForce : MethodName := ⟨RX0, "isInForce", "(II)Z"⟩
abbrev cX0_firstClash : ByteArray := prog_2_method_12_code
def yX0_firstClash : MethodName := ⟨RX0, "firstClash", "(I)I"⟩
abbrev cX0_applies : ByteArray := prog_2_method_13_code
def yX0_applies : MethodName := ⟨RX0, "applies", "(II)Z"⟩
abbrev cX0_alike : ByteArray := prog_2_method_14_code
def yX0_alike : MethodName := ⟨RX0, "alike", "(III)Z"⟩
abbrev cX0_contradictsEarlier : ByteArray := prog_2_method_15_code
def yX0_contradictsEarlier : MethodName := ⟨RX0, "contradictsEarlier", "(II)Z"⟩
abbrev cX0_fillRulesByLeaves : ByteArray := prog_2_method_16_code
def yX0_fillRulesByLeaves : MethodName := ⟨RX0, "fillRulesByLeaves", "(I)V"⟩
abbrev cX0_fewestLeavesOut : ByteArray := prog_2_method_17_code
def yX0_fewestLeavesOut : MethodName := ⟨RX0, "fewestLeavesOut", "(III)I"⟩
abbrev cX0_fewestRulesStruck : ByteArray := prog_2_method_18_code
def yX0_fewestRulesStruck : MethodName := ⟨RX0, "fewestRulesStruck", "(II)I"⟩
abbrev cX0_leastLeafThatChanges : ByteArray := prog_2_method_19_code
def yX0_leastLeafThatChanges : MethodName := ⟨RX0, "leastLeafThatChanges", "(II)I"⟩
abbrev cX0_changes : ByteArray := prog_2_method_20_code
def yX0_changes : MethodName := ⟨RX0, "changes", "(IIIII)Z"⟩
abbrev cX0_turnsThatHold : ByteArray := prog_2_method_21_code
def yX0_turnsThatHold : MethodName := ⟨RX0, "turnsThatHold", "(I)I"⟩
abbrev cX0_inForceHad : ByteArray := prog_2_method_22_code
def yX0_inForceHad : MethodName := ⟨RX0, "inForceHad", "(III)I"⟩
abbrev cX0_inForceWithoutLeaf : ByteArray := prog_2_method_23_code
def yX0_inForceWithoutLeaf : MethodName := ⟨RX0, "inForceWithoutLeaf", "(II)I"⟩
abbrev cX0_inForceWithTurnedRule : ByteArray := prog_2_method_24_code
def yX0_inForceWithTurnedRule : MethodName := ⟨RX0, "inForceWithTurnedRule", "(II)I"⟩
abbrev cX0_chanceAbove : ByteArray := prog_2_method_25_code
def yX0_chanceAbove : MethodName := ⟨RX0, "chanceAbove", "(III)J"⟩
abbrev cX0_countChoices : ByteArray := prog_2_method_26_code
def yX0_countChoices : MethodName := ⟨RX0, "countChoices", "(II)V"⟩
abbrev cX0_power : ByteArray := prog_2_method_27_code
def yX0_power : MethodName := ⟨RX0, "power", "(JI)J"⟩
def RX1 : String := "TeaLaws$Pairs"
def TX1 : u_T := fun k => match k with
  | 0 => ("TeaLaws$Pairs", "ones", "[I", true)
  | 1 => ("TeaLaws$Pairs", "others", "[I", true)
  | _ => ("TeaLaws$Pairs", "size", "I", false)
def tyX1 : Nat → FieldType := fun k => match k with
  | 0 => .array .int
  | 1 => .array .int
  | _ => .int
theorem nmX1 : ∀ a, a < 3 → ∀ b, b < 3 → a ≠ b → (TX1 a).2.1 ≠ (TX1 b).2.1 := by decide +kernel
theorem tyX1_ok : ∀ k, k < 3 → parseFieldDescriptor (TX1 k).2.2.1 = some (tyX1 k) := by decide +kernel
abbrev cX1_init : ByteArray := prog_3_method_1_code
def yX1_init : MethodName := ⟨RX1, "<init>", "(I)V"⟩
abbrev cX1_append : ByteArray := prog_3_method_2_code
def yX1_append : MethodName := ⟨RX1, "append", "(II)I"⟩
abbrev cX1_dropLast : ByteArray := prog_3_method_3_code
def yX1_dropLast : MethodName := ⟨RX1, "dropLast", "()I"⟩
abbrev cX1_empty : ByteArray := prog_3_method_4_code
def yX1_empty : MethodName := ⟨RX1, "empty", "()I"⟩
def RX2 : String := "TeaLaws$Sheet"
def TX2 : u_T := fun k => match k with
  | 0 => ("TeaLaws$Sheet", "items", "[I", true)
  | 1 => ("TeaLaws$Sheet", "form", "I", false)
  | _ => ("TeaLaws$Sheet", "size", "I", false)
def tyX2 : Nat → FieldType := fun k => match k with
  | 0 => .array .int
  | 1 => .int
  | _ => .int
theorem nmX2 : ∀ a, a < 3 → ∀ b, b < 3 → a ≠ b → (TX2 a).2.1 ≠ (TX2 b).2.1 := by decide +kernel
theorem tyX2_ok : ∀ k, k < 3 → parseFieldDescriptor (TX2 k).2.2.1 = some (tyX2 k) := by decide +kernel
abbrev cX2_init : ByteArray := prog_4_method_1_code
def yX2_init : MethodName := ⟨RX2, "<init>", "()V"⟩
abbrev cX2_isLost : ByteArray := prog_4_method_2_code
def yX2_isLost : MethodName := ⟨RX2, "isLost", "()Z"⟩
abbrev cX2_begin : ByteArray := prog_4_method_3_code
def yX2_begin : MethodName := ⟨RX2, "begin", "(II)V"⟩
abbrev cX2_end : ByteArray := prog_4_method_4_code
def yX2_end : MethodName := ⟨RX2, "end", "()I"⟩
abbrev cX2_has : ByteArray := prog_4_method_5_code
def yX2_has : MethodName := ⟨RX2, "has", "(II)Z"⟩
abbrev cX2_put : ByteArray := prog_4_method_6_code
def yX2_put : MethodName := ⟨RX2, "put", "(II)V"⟩
def RX3 : String := "TeaLaws$Text"
def TX3 : u_T := fun k => match k with
  | 0 => ("TeaLaws$Text", "ofLeaves", "Z", true)
  | 1 => ("TeaLaws$Text", "width", "I", true)
  | 2 => ("TeaLaws$Text", "bytes", "[I", true)
  | 3 => ("TeaLaws$Text", "parts", "[I", true)
  | 4 => ("TeaLaws$Text", "length", "I", false)
  | 5 => ("TeaLaws$Text", "things", "I", false)
  | _ => ("TeaLaws$Text", "faultAt", "I", false)
def tyX3 : Nat → FieldType := fun k => match k with
  | 0 => .boolean
  | 1 => .int
  | 2 => .array .int
  | 3 => .array .int
  | 4 => .int
  | 5 => .int
  | _ => .int
theorem nmX3 : ∀ a, a < 7 → ∀ b, b < 7 → a ≠ b → (TX3 a).2.1 ≠ (TX3 b).2.1 := by decide +kernel
theorem tyX3_ok : ∀ k, k < 7 → parseFieldDescriptor (TX3 k).2.2.1 = some (tyX3 k) := by decide +kernel
abbrev cX3_init : ByteArray := prog_5_method_1_code
def yX3_init : MethodName := ⟨RX3, "<init>", "(ZII)V"⟩
abbrev cX3_append : ByteArray := prog_5_method_2_code
def yX3_append : MethodName := ⟨RX3, "append", "(I)I"⟩
abbrev cX3_empty : ByteArray := prog_5_method_3_code
def yX3_empty : MethodName := ⟨RX3, "empty", "()I"⟩
abbrev cX3_dropLast : ByteArray := prog_5_method_4_code
def yX3_dropLast : MethodName := ⟨RX3, "dropLast", "()I"⟩
abbrev cX3_part : ByteArray := prog_5_method_5_code
def yX3_part : MethodName := ⟨RX3, "part", "(II)I"⟩
abbrev cX3_parse : ByteArray := prog_5_method_6_code
def yX3_parse : MethodName := ⟨RX3, "parse", "()V"⟩
abbrev cX3_separator : ByteArray := prog_5_method_7_code
def yX3_separator : MethodName := ⟨RX3, "separator", "(I)I"⟩
abbrev cX3_signs : ByteArray := prog_5_method_8_code
def yX3_signs : MethodName := ⟨RX3, "signs", "(I)Ljava/lang/String;"⟩
def RX4 : String := "TeaLaws"
def TX4 : u_T := fun k => match k with
  | 0 => ("TeaLaws", "leaves", "LTeaLaws$Text;", true)
  | 1 => ("TeaLaws", "rules", "LTeaLaws$Text;", true)
  | 2 => ("TeaLaws", "cracks", "LTeaLaws$Pairs;", true)
  | 3 => ("TeaLaws", "deeds", "LTeaLaws$Pairs;", true)
  | 4 => ("TeaLaws", "memory", "LTeaLaws$Pairs;", true)
  | 5 => ("TeaLaws", "cup", "LTeaLaws$Cup;", true)
  | 6 => ("TeaLaws", "sheets", "[LTeaLaws$Sheet;", true)
  | 7 => ("TeaLaws", "firstTurns", "I", false)
  | 8 => ("TeaLaws", "stepTurns", "I", false)
  | _ => ("TeaLaws", "latestFinding", "I", false)
def tyX4 : Nat → FieldType := fun k => match k with
  | 0 => .object "TeaLaws$Text"
  | 1 => .object "TeaLaws$Text"
  | 2 => .object "TeaLaws$Pairs"
  | 3 => .object "TeaLaws$Pairs"
  | 4 => .object "TeaLaws$Pairs"
  | 5 => .object "TeaLaws$Cup"
  | 6 => .array (.object "TeaLaws$Sheet")
  | 7 => .int
  | 8 => .int
  | _ => .int
theorem nmX4 : ∀ a, a < 10 → ∀ b, b < 10 → a ≠ b → (TX4 a).2.1 ≠ (TX4 b).2.1 := by decide +kernel
theorem tyX4_ok : ∀ k, k < 10 → parseFieldDescriptor (TX4 k).2.2.1 = some (tyX4 k) := by decide +kernel
abbrev cX4_init : ByteArray := prog_1_method_1_code
def yX4_init : MethodName := ⟨RX4, "<init>", "()V"⟩
abbrev cX4_type : ByteArray := prog_1_method_2_code
def yX4_type : MethodName := ⟨RX4, "type", "(II)I"⟩
abbrev cX4_wipe : ByteArray := prog_1_method_3_code
def yX4_wipe : MethodName := ⟨RX4, "wipe", "(I)I"⟩
abbrev cX4_undo : ByteArray := prog_1_method_4_code
def yX4_undo : MethodName := ⟨RX4, "undo", "(I)I"⟩
abbrev cX4_fault : ByteArray := prog_1_method_5_code
def yX4_fault : MethodName := ⟨RX4, "fault", "(I)I"⟩
abbrev cX4_leaf : ByteArray := prog_1_method_6_code
def yX4_leaf : MethodName := ⟨RX4, "leaf", "(II)I"⟩
abbrev cX4_rule : ByteArray := prog_1_method_7_code
def yX4_rule : MethodName := ⟨RX4, "rule", "(II)I"⟩
abbrev cX4_crack : ByteArray := prog_1_method_8_code
def yX4_crack : MethodName := ⟨RX4, "crack", "(II)I"⟩
abbrev cX4_deed : ByteArray := prog_1_method_9_code
def yX4_deed : MethodName := ⟨RX4, "deed", "(II)I"⟩
abbrev cX4_back : ByteArray := prog_1_method_10_code
def yX4_back : MethodName := ⟨RX4, "back", "(I)I"⟩
abbrev cX4_set : ByteArray := prog_1_method_11_code
def yX4_set : MethodName := ⟨RX4, "set", "(II)I"⟩
abbrev cX4_lies : ByteArray := prog_1_method_12_code
def yX4_lies : MethodName := ⟨RX4, "lies", "(III)I"⟩
abbrev cX4_reading : ByteArray := prog_1_method_13_code
def yX4_reading : MethodName := ⟨RX4, "reading", "(II)I"⟩
abbrev cX4_day : ByteArray := prog_1_method_14_code
def yX4_day : MethodName := ⟨RX4, "day", "(I)I"⟩
abbrev cX4_broken : ByteArray := prog_1_method_15_code
def yX4_broken : MethodName := ⟨RX4, "broken", "(I)I"⟩
abbrev cX4_free : ByteArray := prog_1_method_16_code
def yX4_free : MethodName := ⟨RX4, "free", "(I)I"⟩
abbrev cX4_clash : ByteArray := prog_1_method_17_code
def yX4_clash : MethodName := ⟨RX4, "clash", "(I)I"⟩
abbrev cX4_pour : ByteArray := prog_1_method_18_code
def yX4_pour : MethodName := ⟨RX4, "pour", "(I)I"⟩
abbrev cX4_strain : ByteArray := prog_1_method_19_code
def yX4_strain : MethodName := ⟨RX4, "strain", "(IIII)I"⟩
abbrev cX4_strike : ByteArray := prog_1_method_20_code
def yX4_strike : MethodName := ⟨RX4, "strike", "(III)I"⟩
abbrev cX4_place : ByteArray := prog_1_method_21_code
def yX4_place : MethodName := ⟨RX4, "place", "(II)I"⟩
abbrev cX4_sides : ByteArray := prog_1_method_22_code
def yX4_sides : MethodName := ⟨RX4, "sides", "(II)I"⟩
abbrev cX4_read : ByteArray := prog_1_method_23_code
def yX4_read : MethodName := ⟨RX4, "read", "(II)I"⟩
abbrev cX4_forget : ByteArray := prog_1_method_24_code
def yX4_forget : MethodName := ⟨RX4, "forget", "()I"⟩
abbrev cX4_take : ByteArray := prog_1_method_25_code
def yX4_take : MethodName := ⟨RX4, "take", "(I)I"⟩
abbrev cX4_fits : ByteArray := prog_1_method_26_code
def yX4_fits : MethodName := ⟨RX4, "fits", "(I)I"⟩
abbrev cX4_sinks : ByteArray := prog_1_method_27_code
def yX4_sinks : MethodName := ⟨RX4, "sinks", "(IIII)J"⟩
abbrev cX4_mornings : ByteArray := prog_1_method_28_code
def yX4_mornings : MethodName := ⟨RX4, "mornings", "(III)I"⟩
abbrev cX4_sheet : ByteArray := prog_1_method_29_code
def yX4_sheet : MethodName := ⟨RX4, "sheet", "(III)I"⟩
abbrev cX4_lose : ByteArray := prog_1_method_30_code
def yX4_lose : MethodName := ⟨RX4, "lose", "(I)I"⟩
abbrev cX4_lay : ByteArray := prog_1_method_31_code
def yX4_lay : MethodName := ⟨RX4, "lay", "(IIII)I"⟩
abbrev cX4_get : ByteArray := prog_1_method_32_code
def yX4_get : MethodName := ⟨RX4, "get", "(III)I"⟩
abbrev cX4_copy : ByteArray := prog_1_method_33_code
def yX4_copy : MethodName := ⟨RX4, "copy", "(IIIII)I"⟩
abbrev cX4_write : ByteArray := prog_1_method_34_code
def yX4_write : MethodName := ⟨RX4, "write", "(I)I"⟩
abbrev cX4_count : ByteArray := prog_1_method_35_code
def yX4_count : MethodName := ⟨RX4, "count", "(I)I"⟩
abbrev cX4_digest : ByteArray := prog_1_method_36_code
def yX4_digest : MethodName := ⟨RX4, "digest", "()J"⟩
abbrev cX4_digestOfTexts : ByteArray := prog_1_method_37_code
def yX4_digestOfTexts : MethodName := ⟨RX4, "digestOfTexts", "(J)J"⟩
abbrev cX4_digestOfTurns : ByteArray := prog_1_method_38_code
def yX4_digestOfTurns : MethodName := ⟨RX4, "digestOfTurns", "(JI)J"⟩
abbrev cX4_digestOfLaw : ByteArray := prog_1_method_39_code
def yX4_digestOfLaw : MethodName := ⟨RX4, "digestOfLaw", "(JI)J"⟩
abbrev cX4_below : ByteArray := prog_1_method_40_code
def yX4_below : MethodName := ⟨RX4, "below", "(II)Z"⟩
abbrev cX4_areLaws : ByteArray := prog_1_method_41_code
def yX4_areLaws : MethodName := ⟨RX4, "areLaws", "(I)Z"⟩
abbrev cX4_howManyOrBits : ByteArray := prog_1_method_42_code
def yX4_howManyOrBits : MethodName := ⟨RX4, "howManyOrBits", "(II)I"⟩
abbrev cX4_textOf : ByteArray := prog_1_method_43_code
def yX4_textOf : MethodName := ⟨RX4, "textOf", "(I)LTeaLaws$Text;"⟩
abbrev cX4_turnsOn : ByteArray := prog_1_method_44_code
def yX4_turnsOn : MethodName := ⟨RX4, "turnsOn", "(I)I"⟩
abbrev cX4_brokenDeeds : ByteArray := prog_1_method_45_code
def yX4_brokenDeeds : MethodName := ⟨RX4, "brokenDeeds", "(LTeaLaws$Cup;)I"⟩
abbrev cX4_earliestDeed : ByteArray := prog_1_method_46_code
def yX4_earliestDeed : MethodName := ⟨RX4, "earliestDeed", "(I)I"⟩
abbrev cX4_wouldFit : ByteArray := prog_1_method_47_code
def yX4_wouldFit : MethodName := ⟨RX4, "wouldFit", "(LTeaLaws$Cup;II)Z"⟩
abbrev cX4_rulesWithPlus : ByteArray := prog_1_method_48_code
def yX4_rulesWithPlus : MethodName := ⟨RX4, "rulesWithPlus", "()I"⟩
abbrev cX4_find : ByteArray := prog_1_method_49_code
def yX4_find : MethodName := ⟨RX4, "find", "(I)I"⟩
abbrev cX4_itemFinding : ByteArray := prog_1_method_50_code
def yX4_itemFinding : MethodName := ⟨RX4, "itemFinding", "(LTeaLaws$Sheet;II)I"⟩
def RX5 : String := "TeaLawsModel"
def TX5 : u_T := fun k => match k with
  | 0 => ("TeaLawsModel", "forms", "[I", true)
  | 1 => ("TeaLawsModel", "sizes", "[I", true)
  | 2 => ("TeaLawsModel", "items", "[I", true)
  | 3 => ("TeaLawsModel", "moved", "[I", true)
  | 4 => ("TeaLawsModel", "latest", "I", false)
  | 5 => ("TeaLawsModel", "bytes", "[I", true)
  | 6 => ("TeaLawsModel", "typed", "[I", true)
  | 7 => ("TeaLawsModel", "at", "I", false)
  | 8 => ("TeaLawsModel", "leaves", "I", false)
  | 9 => ("TeaLawsModel", "leaf", "[I", true)
  | 10 => ("TeaLawsModel", "rules", "I", false)
  | 11 => ("TeaLawsModel", "rule", "[I", true)
  | 12 => ("TeaLawsModel", "cracks", "I", false)
  | 13 => ("TeaLawsModel", "crack", "[I", true)
  | 14 => ("TeaLawsModel", "deeds", "I", false)
  | 15 => ("TeaLawsModel", "deed", "[I", true)
  | 16 => ("TeaLawsModel", "settings", "[I", true)
  | 17 => ("TeaLawsModel", "column", "[I", true)
  | 18 => ("TeaLawsModel", "line", "[I", true)
  | 19 => ("TeaLawsModel", "with", "[I", true)
  | 20 => ("TeaLawsModel", "seen", "I", false)
  | 21 => ("TeaLawsModel", "sound", "I", false)
  | 22 => ("TeaLawsModel", "struck", "I", false)
  | 23 => ("TeaLawsModel", "flipped", "I", false)
  | 24 => ("TeaLawsModel", "sights", "I", false)
  | _ => ("TeaLawsModel", "sight", "[I", true)
def tyX5 : Nat → FieldType := fun k => match k with
  | 0 => .array .int
  | 1 => .array .int
  | 2 => .array .int
  | 3 => .array .int
  | 4 => .int
  | 5 => .array .int
  | 6 => .array .int
  | 7 => .int
  | 8 => .int
  | 9 => .array .int
  | 10 => .int
  | 11 => .array .int
  | 12 => .int
  | 13 => .array .int
  | 14 => .int
  | 15 => .array .int
  | 16 => .array .int
  | 17 => .array .int
  | 18 => .array .int
  | 19 => .array .int
  | 20 => .int
  | 21 => .int
  | 22 => .int
  | 23 => .int
  | 24 => .int
  | _ => .array .int
theorem nmX5 : ∀ a, a < 26 → ∀ b, b < 26 → a ≠ b → (TX5 a).2.1 ≠ (TX5 b).2.1 := by decide +kernel
theorem tyX5_ok : ∀ k, k < 26 → parseFieldDescriptor (TX5 k).2.2.1 = some (tyX5 k) := by decide +kernel
abbrev cX5_init : ByteArray := prog_7_method_1_code
def yX5_init : MethodName := ⟨RX5, "<init>", "()V"⟩
abbrev cX5_in : ByteArray := prog_7_method_3_code
def yX5_in : MethodName := ⟨RX5, "in", "(JJJ)Z"⟩
abbrev cX5_no : ByteArray := prog_7_method_4_code
def yX5_no : MethodName := ⟨RX5, "no", "(I)J"⟩
abbrev cX5_isTwo : ByteArray := prog_7_method_5_code
def yX5_isTwo : MethodName := ⟨RX5, "isTwo", "(I)Z"⟩
abbrev cX5_isIn : ByteArray := prog_7_method_6_code
def yX5_isIn : MethodName := ⟨RX5, "isIn", "(II)Z"⟩
abbrev cX5_ones : ByteArray := prog_7_method_7_code
def yX5_ones : MethodName := ⟨RX5, "ones", "(I)I"⟩
abbrev cX5_amount : ByteArray := prog_7_method_8_code
def yX5_amount : MethodName := ⟨RX5, "amount", "(I)I"⟩
abbrev cX5_part : ByteArray := prog_7_method_9_code
def yX5_part : MethodName := ⟨RX5, "part", "(JJI)J"⟩
abbrev cX5_finds : ByteArray := prog_7_method_10_code
def yX5_finds : MethodName := ⟨RX5, "finds", "(I)I"⟩
abbrev cX5_isSheet : ByteArray := prog_7_method_11_code
def yX5_isSheet : MethodName := ⟨RX5, "isSheet", "(I)Z"⟩
abbrev cX5_sheet : ByteArray := prog_7_method_12_code
def yX5_sheet : MethodName := ⟨RX5, "sheet", "(III)I"⟩
abbrev cX5_lose : ByteArray := prog_7_method_13_code
def yX5_lose : MethodName := ⟨RX5, "lose", "(I)I"⟩
abbrev cX5_lacks : ByteArray := prog_7_method_14_code
def yX5_lacks : MethodName := ⟨RX5, "lacks", "(III)I"⟩
abbrev cX5_cut : ByteArray := prog_7_method_15_code
def yX5_cut : MethodName := ⟨RX5, "cut", "(II)I"⟩
abbrev cX5_lay : ByteArray := prog_7_method_16_code
def yX5_lay : MethodName := ⟨RX5, "lay", "(IIII)I"⟩
abbrev cX5_get : ByteArray := prog_7_method_17_code
def yX5_get : MethodName := ⟨RX5, "get", "(III)I"⟩
abbrev cX5_copy : ByteArray := prog_7_method_18_code
def yX5_copy : MethodName := ⟨RX5, "copy", "(IIIII)I"⟩
abbrev cX5_type : ByteArray := prog_7_method_19_code
def yX5_type : MethodName := ⟨RX5, "type", "(II)I"⟩
abbrev cX5_wipe : ByteArray := prog_7_method_20_code
def yX5_wipe : MethodName := ⟨RX5, "wipe", "(I)I"⟩
abbrev cX5_undo : ByteArray := prog_7_method_21_code
def yX5_undo : MethodName := ⟨RX5, "undo", "(I)I"⟩
abbrev cX5_shapeOf : ByteArray := prog_7_method_22_code
def yX5_shapeOf : MethodName := ⟨RX5, "shapeOf", "(I)I"⟩
abbrev cX5_lieOf : ByteArray := prog_7_method_23_code
def yX5_lieOf : MethodName := ⟨RX5, "lieOf", "(I)I"⟩
abbrev cX5_within : ByteArray := prog_7_method_24_code
def yX5_within : MethodName := ⟨RX5, "within", "(III)I"⟩
abbrev cX5_tellsOf : ByteArray := prog_7_method_25_code
def yX5_tellsOf : MethodName := ⟨RX5, "tellsOf", "(III)I"⟩
abbrev cX5_readsThing : ByteArray := prog_7_method_26_code
def yX5_readsThing : MethodName := ⟨RX5, "readsThing", "(I)Z"⟩
abbrev cX5_empty : ByteArray := prog_7_method_27_code
def yX5_empty : MethodName := ⟨RX5, "empty", "(I)V"⟩
abbrev cX5_readsText : ByteArray := prog_7_method_28_code
def yX5_readsText : MethodName := ⟨RX5, "readsText", "(I)I"⟩
abbrev cX5_reads : ByteArray := prog_7_method_29_code
def yX5_reads : MethodName := ⟨RX5, "reads", "()V"⟩
abbrev cX5_fault : ByteArray := prog_7_method_30_code
def yX5_fault : MethodName := ⟨RX5, "fault", "(I)I"⟩
abbrev cX5_isLeaf : ByteArray := prog_7_method_31_code
def yX5_isLeaf : MethodName := ⟨RX5, "isLeaf", "(I)Z"⟩
abbrev cX5_isLaw : ByteArray := prog_7_method_32_code
def yX5_isLaw : MethodName := ⟨RX5, "isLaw", "(I)Z"⟩
abbrev cX5_areLaws : ByteArray := prog_7_method_33_code
def yX5_areLaws : MethodName := ⟨RX5, "areLaws", "(I)Z"⟩
abbrev cX5_areTurns : ByteArray := prog_7_method_34_code
def yX5_areTurns : MethodName := ⟨RX5, "areTurns", "(I)Z"⟩
abbrev cX5_isDay : ByteArray := prog_7_method_35_code
def yX5_isDay : MethodName := ⟨RX5, "isDay", "(I)Z"⟩
abbrev cX5_leaf : ByteArray := prog_7_method_36_code
def yX5_leaf : MethodName := ⟨RX5, "leaf", "(II)I"⟩
abbrev cX5_rule : ByteArray := prog_7_method_37_code
def yX5_rule : MethodName := ⟨RX5, "rule", "(II)I"⟩
abbrev cX5_crack : ByteArray := prog_7_method_38_code
def yX5_crack : MethodName := ⟨RX5, "crack", "(II)I"⟩
abbrev cX5_deed : ByteArray := prog_7_method_39_code
def yX5_deed : MethodName := ⟨RX5, "deed", "(II)I"⟩
abbrev cX5_back : ByteArray := prog_7_method_40_code
def yX5_back : MethodName := ⟨RX5, "back", "(I)I"⟩
abbrev cX5_set : ByteArray := prog_7_method_41_code
def yX5_set : MethodName := ⟨RX5, "set", "(II)I"⟩
abbrev cX5_turnsOne : ByteArray := prog_7_method_42_code
def yX5_turnsOne : MethodName := ⟨RX5, "turnsOne", "(II)V"⟩
abbrev cX5_isCracked : ByteArray := prog_7_method_43_code
def yX5_isCracked : MethodName := ⟨RX5, "isCracked", "(II)Z"⟩
abbrev cX5_lieSo : ByteArray := prog_7_method_44_code
def yX5_lieSo : MethodName := ⟨RX5, "lieSo", "(III)Z"⟩
abbrev cX5_pairs : ByteArray := prog_7_method_45_code
def yX5_pairs : MethodName := ⟨RX5, "pairs", "(I)V"⟩
abbrev cX5_laysOut : ByteArray := prog_7_method_46_code
def yX5_laysOut : MethodName := ⟨RX5, "laysOut", "()V"⟩
abbrev cX5_turnsCup : ByteArray := prog_7_method_47_code
def yX5_turnsCup : MethodName := ⟨RX5, "turnsCup", "(I)V"⟩
abbrev cX5_applies : ByteArray := prog_7_method_48_code
def yX5_applies : MethodName := ⟨RX5, "applies", "(II)Z"⟩
abbrev cX5_readBy : ByteArray := prog_7_method_49_code
def yX5_readBy : MethodName := ⟨RX5, "readBy", "(I)I"⟩
abbrev cX5_readNow : ByteArray := prog_7_method_50_code
def yX5_readNow : MethodName := ⟨RX5, "readNow", "(I)I"⟩
abbrev cX5_lies : ByteArray := prog_7_method_51_code
def yX5_lies : MethodName := ⟨RX5, "lies", "(III)I"⟩
abbrev cX5_appliesNow : ByteArray := prog_7_method_52_code
def yX5_appliesNow : MethodName := ⟨RX5, "appliesNow", "()I"⟩
abbrev cX5_readingOf : ByteArray := prog_7_method_53_code
def yX5_readingOf : MethodName := ⟨RX5, "readingOf", "(II)I"⟩
abbrev cX5_reading : ByteArray := prog_7_method_54_code
def yX5_reading : MethodName := ⟨RX5, "reading", "(II)I"⟩
abbrev cX5_dayOf : ByteArray := prog_7_method_55_code
def yX5_dayOf : MethodName := ⟨RX5, "dayOf", "(I)I"⟩
abbrev cX5_day : ByteArray := prog_7_method_56_code
def yX5_day : MethodName := ⟨RX5, "day", "(I)I"⟩
abbrev cX5_brokenNow : ByteArray := prog_7_method_57_code
def yX5_brokenNow : MethodName := ⟨RX5, "brokenNow", "()I"⟩
abbrev cX5_firstBroken : ByteArray := prog_7_method_58_code
def yX5_firstBroken : MethodName := ⟨RX5, "firstBroken", "()I"⟩
abbrev cX5_broken : ByteArray := prog_7_method_59_code
def yX5_broken : MethodName := ⟨RX5, "broken", "(I)I"⟩
abbrev cX5_freeOf : ByteArray := prog_7_method_60_code
def yX5_freeOf : MethodName := ⟨RX5, "freeOf", "(I)I"⟩
abbrev cX5_free : ByteArray := prog_7_method_61_code
def yX5_free : MethodName := ⟨RX5, "free", "(I)I"⟩
abbrev cX5_clashOf : ByteArray := prog_7_method_62_code
def yX5_clashOf : MethodName := ⟨RX5, "clashOf", "(I)I"⟩
abbrev cX5_clash : ByteArray := prog_7_method_63_code
def yX5_clash : MethodName := ⟨RX5, "clash", "(I)I"⟩
abbrev cX5_pourOf : ByteArray := prog_7_method_64_code
def yX5_pourOf : MethodName := ⟨RX5, "pourOf", "(I)I"⟩
abbrev cX5_pour : ByteArray := prog_7_method_65_code
def yX5_pour : MethodName := ⟨RX5, "pour", "(I)I"⟩
abbrev cX5_tells : ByteArray := prog_7_method_66_code
def yX5_tells : MethodName := ⟨RX5, "tells", "(II)I"⟩
abbrev cX5_strainOf : ByteArray := prog_7_method_67_code
def yX5_strainOf : MethodName := ⟨RX5, "strainOf", "(III)I"⟩
abbrev cX5_strain : ByteArray := prog_7_method_68_code
def yX5_strain : MethodName := ⟨RX5, "strain", "(IIII)I"⟩
abbrev cX5_strikeOf : ByteArray := prog_7_method_69_code
def yX5_strikeOf : MethodName := ⟨RX5, "strikeOf", "(II)I"⟩
abbrev cX5_strike : ByteArray := prog_7_method_70_code
def yX5_strike : MethodName := ⟨RX5, "strike", "(III)I"⟩
abbrev cX5_isFree : ByteArray := prog_7_method_71_code
def yX5_isFree : MethodName := ⟨RX5, "isFree", "(II)Z"⟩
abbrev cX5_placeOf : ByteArray := prog_7_method_72_code
def yX5_placeOf : MethodName := ⟨RX5, "placeOf", "(II)I"⟩
abbrev cX5_place : ByteArray := prog_7_method_73_code
def yX5_place : MethodName := ⟨RX5, "place", "(II)I"⟩
abbrev cX5_sidesOf : ByteArray := prog_7_method_74_code
def yX5_sidesOf : MethodName := ⟨RX5, "sidesOf", "(II)I"⟩
abbrev cX5_sides : ByteArray := prog_7_method_75_code
def yX5_sides : MethodName := ⟨RX5, "sides", "(II)I"⟩
abbrev cX5_read : ByteArray := prog_7_method_76_code
def yX5_read : MethodName := ⟨RX5, "read", "(II)I"⟩
abbrev cX5_forget : ByteArray := prog_7_method_77_code
def yX5_forget : MethodName := ⟨RX5, "forget", "()I"⟩
abbrev cX5_take : ByteArray := prog_7_method_78_code
def yX5_take : MethodName := ⟨RX5, "take", "(I)I"⟩
abbrev cX5_isRead : ByteArray := prog_7_method_79_code
def yX5_isRead : MethodName := ⟨RX5, "isRead", "(I)Z"⟩
abbrev cX5_fitsOf : ByteArray := prog_7_method_80_code
def yX5_fitsOf : MethodName := ⟨RX5, "fitsOf", "(I)I"⟩
abbrev cX5_fits : ByteArray := prog_7_method_81_code
def yX5_fits : MethodName := ⟨RX5, "fits", "(I)I"⟩
abbrev cX5_sinksOf : ByteArray := prog_7_method_82_code
def yX5_sinksOf : MethodName := ⟨RX5, "sinksOf", "(IIII)J"⟩
abbrev cX5_sinks : ByteArray := prog_7_method_83_code
def yX5_sinks : MethodName := ⟨RX5, "sinks", "(IIII)J"⟩
abbrev cX5_morningsOf : ByteArray := prog_7_method_84_code
def yX5_morningsOf : MethodName := ⟨RX5, "morningsOf", "(III)I"⟩
abbrev cX5_mornings : ByteArray := prog_7_method_85_code
def yX5_mornings : MethodName := ⟨RX5, "mornings", "(III)I"⟩
abbrev cX5_write : ByteArray := prog_7_method_86_code
def yX5_write : MethodName := ⟨RX5, "write", "(I)I"⟩
abbrev cX5_count : ByteArray := prog_7_method_87_code
def yX5_count : MethodName := ⟨RX5, "count", "(I)I"⟩
abbrev cX5_tellsTurns : ByteArray := prog_7_method_88_code
def yX5_tellsTurns : MethodName := ⟨RX5, "tellsTurns", "(JI)J"⟩
abbrev cX5_tellsLaw : ByteArray := prog_7_method_89_code
def yX5_tellsLaw : MethodName := ⟨RX5, "tellsLaw", "(JI)J"⟩
abbrev cX5_digest : ByteArray := prog_7_method_90_code
def yX5_digest : MethodName := ⟨RX5, "digest", "()J"⟩
def RJ11 : String := "java/lang/Character"
abbrev cJ11_isValidCodePoint_9a6ad : ByteArray := prog_8_method_11_code
def yJ11_isValidCodePoint_9a6ad : MethodName := ⟨RJ11, "isValidCodePoint", "(I)Z"⟩
abbrev cJ11_highSurrogate_5068e : ByteArray := prog_8_method_28_code
def yJ11_highSurrogate_5068e : MethodName := ⟨RJ11, "highSurrogate", "(I)C"⟩
abbrev cJ11_lowSurrogate_5068e : ByteArray := prog_8_method_29_code
def yJ11_lowSurrogate_5068e : MethodName := ⟨RJ11, "lowSurrogate", "(I)C"⟩
def RJ6 : String := "java/lang/Integer"
abbrev cJ6_numberOfLeadingZeros_0f7a4 : ByteArray := prog_9_method_47_code
def yJ6_numberOfLeadingZeros_0f7a4 : MethodName := ⟨RJ6, "numberOfLeadingZeros", "(I)I"⟩
abbrev cJ6_numberOfTrailingZeros_0f7a4 : ByteArray := prog_9_method_48_code
def yJ6_numberOfTrailingZeros_0f7a4 : MethodName := ⟨RJ6, "numberOfTrailingZeros", "(I)I"⟩
abbrev cJ6_bitCount_0f7a4 : ByteArray := prog_9_method_49_code
def yJ6_bitCount_0f7a4 : MethodName := ⟨RJ6, "bitCount", "(I)I"⟩
def RJ13 : String := "java/lang/Long"
abbrev cJ13_numberOfTrailingZeros_95d88 : ByteArray := prog_10_method_49_code
def yJ13_numberOfTrailingZeros_95d88 : MethodName := ⟨RJ13, "numberOfTrailingZeros", "(J)I"⟩
def RJ9 : String := "java/lang/Math"
abbrev cJ9_abs_0f7a4 : ByteArray := prog_11_method_59_code
def yJ9_abs_0f7a4 : MethodName := ⟨RJ9, "abs", "(I)I"⟩
abbrev cJ9_max_7cf53 : ByteArray := prog_11_method_65_code
def yJ9_max_7cf53 : MethodName := ⟨RJ9, "max", "(II)I"⟩
abbrev cJ9_min_7cf53 : ByteArray := prog_11_method_69_code
def yJ9_min_7cf53 : MethodName := ⟨RJ9, "min", "(II)I"⟩
def RJ0 : String := "java/lang/String"
abbrev cJ0_length_8abf5 : ByteArray := prog_12_method_54_code
def yJ0_length_8abf5 : MethodName := ⟨RJ0, "length", "()I"⟩
abbrev cJ0_indexOf_0f7a4 : ByteArray := prog_12_method_79_code
def yJ0_indexOf_0f7a4 : MethodName := ⟨RJ0, "indexOf", "(I)I"⟩
abbrev cJ0_indexOf_7cf53 : ByteArray := prog_12_method_80_code
def yJ0_indexOf_7cf53 : MethodName := ⟨RJ0, "indexOf", "(II)I"⟩
abbrev cJ0_coder_7d493 : ByteArray := prog_12_method_152_code
def yJ0_coder_7d493 : MethodName := ⟨RJ0, "coder", "()B"⟩
abbrev cJ0_isLatin1_aae02 : ByteArray := prog_12_method_154_code
def yJ0_isLatin1_aae02 : MethodName := ⟨RJ0, "isLatin1", "()Z"⟩
abbrev cJ0_checkBoundsBeginEnd_23922 : ByteArray := prog_12_method_158_code
def yJ0_checkBoundsBeginEnd_23922 : MethodName := ⟨RJ0, "checkBoundsBeginEnd", "(III)V"⟩
def RJ1 : String := "java/lang/StringLatin1"
abbrev cJ1_canEncode_9a6ad : ByteArray := prog_13_method_4_code
def yJ1_canEncode_9a6ad : MethodName := ⟨RJ1, "canEncode", "(I)Z"⟩
abbrev cJ1_indexOf_4cfef : ByteArray := prog_13_method_22_code
def yJ1_indexOf_4cfef : MethodName := ⟨RJ1, "indexOf", "([BIII)I"⟩
abbrev cJ1_indexOfChar_4cfef : ByteArray := prog_13_method_23_code
def yJ1_indexOfChar_4cfef : MethodName := ⟨RJ1, "indexOfChar", "([BIII)I"⟩
def RJ2 : String := "java/lang/StringUTF16"
abbrev cJ2_getChar_3b067 : ByteArray := prog_14_method_5_code
def yJ2_getChar_3b067 : MethodName := ⟨RJ2, "getChar", "([BI)C"⟩
abbrev cJ2_length_9d52b : ByteArray := prog_14_method_6_code
def yJ2_length_9d52b : MethodName := ⟨RJ2, "length", "([B)I"⟩
abbrev cJ2_indexOf_4cfef : ByteArray := prog_14_method_40_code
def yJ2_indexOf_4cfef : MethodName := ⟨RJ2, "indexOf", "([BIII)I"⟩
abbrev cJ2_indexOfChar_4cfef : ByteArray := prog_14_method_47_code
def yJ2_indexOfChar_4cfef : MethodName := ⟨RJ2, "indexOfChar", "([BIII)I"⟩
abbrev cJ2_indexOfCharUnsafe_4cfef : ByteArray := prog_14_method_48_code
def yJ2_indexOfCharUnsafe_4cfef : MethodName := ⟨RJ2, "indexOfCharUnsafe", "([BIII)I"⟩
abbrev cJ2_indexOfSupplementary_4cfef : ByteArray := prog_14_method_49_code
def yJ2_indexOfSupplementary_4cfef : MethodName := ⟨RJ2, "indexOfSupplementary", "([BIII)I"⟩
abbrev cJ2_checkBoundsBeginEnd_d044e : ByteArray := prog_14_method_93_code
def yJ2_checkBoundsBeginEnd_d044e : MethodName := ⟨RJ2, "checkBoundsBeginEnd", "(II[B)V"⟩
def RJ10 : String := "java/lang/System"
def RJ3 : String := "jdk/internal/util/Preconditions"
abbrev cJ3_checkFromToIndex_8c36e : ByteArray := prog_16_method_12_code
def yJ3_checkFromToIndex_8c36e : MethodName := ⟨RJ3, "checkFromToIndex", "(IIILjava/util/function/BiFunction;)I"⟩
def RL : String := "TeaLawsLaw"
abbrev cL_law : ByteArray := code
def yL_law : MethodName := ⟨RL, "law", "([I)Z"⟩
abbrev vwCl : List vw_C := [(RX0, TX0, 15), (RX1, TX1, 3), (RX2, TX2, 3), (RX3, TX3, 7), (RX4, TX4, 10), (RX5, TX5, 26)]
end
section
theorem dX0_init_0 : decode cX0_init 0 = .ok (.aload_n 0, 1) := by decide +kernel
theorem dX0_init_1 : decode cX0_init 1 = .ok (.invokespecial 3, 3) := by decide +kernel
theorem dX0_init_4 : decode cX0_init 4 = .ok (.aload_n 0, 1) := by decide +kernel
theorem dX0_init_5 : decode cX0_init 5 = .ok (.iconst 4, 1) := by decide +kernel
theorem dX0_init_6 : decode cX0_init 6 = .ok (.bipush 12, 2) := by decide +kernel
theorem dX0_init_8 : decode cX0_init 8 = .ok (.multianewarray 9 2, 4) := by decide +kernel
theorem dX0_init_12 : decode cX0_init 12 = .ok (.putfield 11, 3) := by decide +kernel
theorem dX0_init_15 : decode cX0_init 15 = .ok (.aload_n 0, 1) := by decide +kernel
theorem dX0_init_16 : decode cX0_init 16 = .ok (.iconst 4, 1) := by decide +kernel
theorem dX0_init_17 : decode cX0_init 17 = .ok (.bipush 12, 2) := by decide +kernel
theorem dX0_init_19 : decode cX0_init 19 = .ok (.multianewarray 9 2, 4) := by decide +kernel
theorem dX0_init_23 : decode cX0_init 23 = .ok (.putfield 16, 3) := by decide +kernel
theorem dX0_init_26 : decode cX0_init 26 = .ok (.aload_n 0, 1) := by decide +kernel
theorem dX0_init_27 : decode cX0_init 27 = .ok (.iconst 4, 1) := by decide +kernel
theorem dX0_init_28 : decode cX0_init 28 = .ok (.newarray .int, 2) := by decide +kernel
theorem dX0_init_30 : decode cX0_init 30 = .ok (.putfield 19, 3) := by decide +kernel
theorem dX0_init_33 : decode cX0_init 33 = .ok (.aload_n 0, 1) := by decide +kernel
theorem dX0_init_34 : decode cX0_init 34 = .ok (.iconst 4, 1) := by decide +kernel
theorem dX0_init_35 : decode cX0_init 35 = .ok (.newarray .int, 2) := by decide +kernel
theorem dX0_init_37 : decode cX0_init 37 = .ok (.putfield 23, 3) := by decide +kernel
theorem dX0_init_40 : decode cX0_init 40 = .ok (.aload_n 0, 1) := by decide +kernel
theorem dX0_init_41 : decode cX0_init 41 = .ok (.iconst 4, 1) := by decide +kernel
theorem dX0_init_42 : decode cX0_init 42 = .ok (.newarray .int, 2) := by decide +kernel
theorem dX0_init_44 : decode cX0_init 44 = .ok (.putfield 26, 3) := by decide +kernel
theorem dX0_init_47 : decode cX0_init 47 = .ok (.aload_n 0, 1) := by decide +kernel
theorem dX0_init_48 : decode cX0_init 48 = .ok (.iconst 4, 1) := by decide +kernel
theorem dX0_init_49 : decode cX0_init 49 = .ok (.sipush 144, 3) := by decide +kernel
theorem dX0_init_52 : decode cX0_init 52 = .ok (.multianewarray 9 2, 4) := by decide +kernel
theorem dX0_init_56 : decode cX0_init 56 = .ok (.putfield 29, 3) := by decide +kernel
theorem dX0_init_59 : decode cX0_init 59 = .ok (.aload_n 0, 1) := by decide +kernel
theorem dX0_init_60 : decode cX0_init 60 = .ok (.iconst 4, 1) := by decide +kernel
theorem dX0_init_61 : decode cX0_init 61 = .ok (.bipush 9, 2) := by decide +kernel
theorem dX0_init_63 : decode cX0_init 63 = .ok (.multianewarray 9 2, 4) := by decide +kernel
theorem dX0_init_67 : decode cX0_init 67 = .ok (.putfield 32, 3) := by decide +kernel
theorem dX0_init_70 : decode cX0_init 70 = .ok (.aload_n 0, 1) := by decide +kernel
theorem dX0_init_71 : decode cX0_init 71 = .ok (.sipush 1024, 3) := by decide +kernel
theorem dX0_init_74 : decode cX0_init 74 = .ok (.newarray .int, 2) := by decide +kernel
theorem dX0_init_76 : decode cX0_init 76 = .ok (.putfield 35, 3) := by decide +kernel
theorem dX0_init_79 : decode cX0_init 79 = .ok (.aload_n 0, 1) := by decide +kernel
theorem dX0_init_80 : decode cX0_init 80 = .ok (.sipush 4096, 3) := by decide +kernel
theorem dX0_init_83 : decode cX0_init 83 = .ok (.newarray .int, 2) := by decide +kernel
theorem dX0_init_85 : decode cX0_init 85 = .ok (.putfield 38, 3) := by decide +kernel
theorem dX0_init_88 : decode cX0_init 88 = .ok (.aload_n 0, 1) := by decide +kernel
theorem dX0_init_89 : decode cX0_init 89 = .ok (.iconst (-1), 1) := by decide +kernel
theorem dX0_init_90 : decode cX0_init 90 = .ok (.putfield 41, 3) := by decide +kernel
theorem dX0_init_93 : decode cX0_init 93 = .ok (.aload_n 0, 1) := by decide +kernel
theorem dX0_init_94 : decode cX0_init 94 = .ok (.bipush 13, 2) := by decide +kernel
theorem dX0_init_96 : decode cX0_init 96 = .ok (.newarray .int, 2) := by decide +kernel
theorem dX0_init_98 : decode cX0_init 98 = .ok (.putfield 45, 3) := by decide +kernel
theorem dX0_init_101 : decode cX0_init 101 = .ok (.aload_n 0, 1) := by decide +kernel
theorem dX0_init_102 : decode cX0_init 102 = .ok (.iconst 1, 1) := by decide +kernel
theorem dX0_init_103 : decode cX0_init 103 = .ok (.putfield 48, 3) := by decide +kernel
theorem dX0_init_106 : decode cX0_init 106 = .ok (.aload_n 0, 1) := by decide +kernel
theorem dX0_init_107 : decode cX0_init 107 = .ok (.aload_n 1, 1) := by decide +kernel
theorem dX0_init_108 : decode cX0_init 108 = .ok (.putfield 52, 3) := by decide +kernel
theorem dX0_init_111 : decode cX0_init 111 = .ok (.aload_n 0, 1) := by decide +kernel
theorem dX0_init_112 : decode cX0_init 112 = .ok (.aload_n 2, 1) := by decide +kernel
theorem dX0_init_113 : decode cX0_init 113 = .ok (.putfield 56, 3) := by decide +kernel
theorem dX0_init_116 : decode cX0_init 116 = .ok (.aload_n 0, 1) := by decide +kernel
theorem dX0_init_117 : decode cX0_init 117 = .ok (.aload_n 3, 1) := by decide +kernel
theorem dX0_init_118 : decode cX0_init 118 = .ok (.putfield 59, 3) := by decide +kernel
theorem dX0_init_121 : decode cX0_init 121 = .ok (.return_, 1) := by decide +kernel
theorem dX0_settled_0 : decode cX0_settled 0 = .ok (.aload_n 0, 1) := by decide +kernel
theorem dX0_settled_1 : decode cX0_settled 1 = .ok (.getfield 48, 3) := by decide +kernel
theorem dX0_settled_4 : decode cX0_settled 4 = .ok (.ifCond .ne 5, 3) := by decide +kernel
theorem dX0_settled_7 : decode cX0_settled 7 = .ok (.aload_n 0, 1) := by decide +kernel
theorem dX0_settled_8 : decode cX0_settled 8 = .ok (.areturn, 1) := by decide +kernel
theorem dX0_settled_9 : decode cX0_settled 9 = .ok (.aload_n 0, 1) := by decide +kernel
theorem dX0_settled_10 : decode cX0_settled 10 = .ok (.iconst 0, 1) := by decide +kernel
theorem dX0_settled_11 : decode cX0_settled 11 = .ok (.putfield 48, 3) := by decide +kernel
theorem dX0_settled_14 : decode cX0_settled 14 = .ok (.aload_n 0, 1) := by decide +kernel
theorem dX0_settled_15 : decode cX0_settled 15 = .ok (.iconst (-1), 1) := by decide +kernel
theorem dX0_settled_16 : decode cX0_settled 16 = .ok (.putfield 41, 3) := by decide +kernel
theorem dX0_settled_19 : decode cX0_settled 19 = .ok (.aload_n 0, 1) := by decide +kernel
theorem dX0_settled_20 : decode cX0_settled 20 = .ok (.invokevirtual 63, 3) := by decide +kernel
theorem dX0_settled_23 : decode cX0_settled 23 = .ok (.aload_n 0, 1) := by decide +kernel
theorem dX0_settled_24 : decode cX0_settled 24 = .ok (.invokevirtual 66, 3) := by decide +kernel
theorem dX0_settled_27 : decode cX0_settled 27 = .ok (.iconst 0, 1) := by decide +kernel
theorem dX0_settled_28 : decode cX0_settled 28 = .ok (.istore_n 1, 1) := by decide +kernel
theorem dX0_settled_29 : decode cX0_settled 29 = .ok (.iload_n 1, 1) := by decide +kernel
theorem dX0_settled_30 : decode cX0_settled 30 = .ok (.iconst 4, 1) := by decide +kernel
theorem dX0_settled_31 : decode cX0_settled 31 = .ok (.if_icmp .ge 36, 3) := by decide +kernel
theorem dX0_settled_34 : decode cX0_settled 34 = .ok (.aload_n 0, 1) := by decide +kernel
theorem dX0_settled_35 : decode cX0_settled 35 = .ok (.iload_n 1, 1) := by decide +kernel
theorem dX0_settled_36 : decode cX0_settled 36 = .ok (.invokevirtual 69, 3) := by decide +kernel
theorem dX0_settled_39 : decode cX0_settled 39 = .ok (.aload_n 0, 1) := by decide +kernel
theorem dX0_settled_40 : decode cX0_settled 40 = .ok (.iload_n 1, 1) := by decide +kernel
theorem dX0_settled_41 : decode cX0_settled 41 = .ok (.invokevirtual 73, 3) := by decide +kernel
theorem dX0_settled_44 : decode cX0_settled 44 = .ok (.aload_n 0, 1) := by decide +kernel
theorem dX0_settled_45 : decode cX0_settled 45 = .ok (.getfield 26, 3) := by decide +kernel
theorem dX0_settled_48 : decode cX0_settled 48 = .ok (.iload_n 1, 1) := by decide +kernel
theorem dX0_settled_49 : decode cX0_settled 49 = .ok (.aload_n 0, 1) := by decide +kernel
theorem dX0_settled_50 : decode cX0_settled 50 = .ok (.getfield 35, 3) := by decide +kernel
theorem dX0_settled_53 : decode cX0_settled 53 = .ok (.aload_n 0, 1) := by decide +kernel
theorem dX0_settled_54 : decode cX0_settled 54 = .ok (.getfield 23, 3) := by decide +kernel
theorem dX0_settled_57 : decode cX0_settled 57 = .ok (.iload_n 1, 1) := by decide +kernel
theorem dX0_settled_58 : decode cX0_settled 58 = .ok (.iaload, 1) := by decide +kernel
theorem dX0_settled_59 : decode cX0_settled 59 = .ok (.iaload, 1) := by decide +kernel
theorem dX0_settled_60 : decode cX0_settled 60 = .ok (.iastore, 1) := by decide +kernel
theorem dX0_settled_61 : decode cX0_settled 61 = .ok (.iinc 1 1, 3) := by decide +kernel
theorem dX0_settled_64 : decode cX0_settled 64 = .ok (.goto (-35), 3) := by decide +kernel
theorem dX0_settled_67 : decode cX0_settled 67 = .ok (.aload_n 0, 1) := by decide +kernel
theorem dX0_settled_68 : decode cX0_settled 68 = .ok (.areturn, 1) := by decide +kernel
theorem dX0_sortRules_0 : decode cX0_sortRules 0 = .ok (.iconst 0, 1) := by decide +kernel
theorem dX0_sortRules_1 : decode cX0_sortRules 1 = .ok (.istore_n 1, 1) := by decide +kernel
theorem dX0_sortRules_2 : decode cX0_sortRules 2 = .ok (.iload_n 1, 1) := by decide +kernel
theorem dX0_sortRules_3 : decode cX0_sortRules 3 = .ok (.iconst 4, 1) := by decide +kernel
theorem dX0_sortRules_4 : decode cX0_sortRules 4 = .ok (.if_icmp .ge 32, 3) := by decide +kernel
theorem dX0_sortRules_7 : decode cX0_sortRules 7 = .ok (.iconst 0, 1) := by decide +kernel
theorem dX0_sortRules_8 : decode cX0_sortRules 8 = .ok (.istore_n 2, 1) := by decide +kernel
theorem dX0_sortRules_9 : decode cX0_sortRules 9 = .ok (.iload_n 2, 1) := by decide +kernel
theorem dX0_sortRules_10 : decode cX0_sortRules 10 = .ok (.bipush 9, 2) := by decide +kernel
theorem dX0_sortRules_12 : decode cX0_sortRules 12 = .ok (.if_icmp .ge 18, 3) := by decide +kernel
theorem dX0_sortRules_15 : decode cX0_sortRules 15 = .ok (.aload_n 0, 1) := by decide +kernel
theorem dX0_sortRules_16 : decode cX0_sortRules 16 = .ok (.getfield 32, 3) := by decide +kernel
theorem dX0_sortRules_19 : decode cX0_sortRules 19 = .ok (.iload_n 1, 1) := by decide +kernel
theorem dX0_sortRules_20 : decode cX0_sortRules 20 = .ok (.aaload, 1) := by decide +kernel
theorem dX0_sortRules_21 : decode cX0_sortRules 21 = .ok (.iload_n 2, 1) := by decide +kernel
theorem dX0_sortRules_22 : decode cX0_sortRules 22 = .ok (.iconst 0, 1) := by decide +kernel
theorem dX0_sortRules_23 : decode cX0_sortRules 23 = .ok (.iastore, 1) := by decide +kernel
theorem dX0_sortRules_24 : decode cX0_sortRules 24 = .ok (.iinc 2 1, 3) := by decide +kernel
theorem dX0_sortRules_27 : decode cX0_sortRules 27 = .ok (.goto (-18), 3) := by decide +kernel
theorem dX0_sortRules_30 : decode cX0_sortRules 30 = .ok (.iinc 1 1, 3) := by decide +kernel
theorem dX0_sortRules_33 : decode cX0_sortRules 33 = .ok (.goto (-31), 3) := by decide +kernel
theorem dX0_sortRules_36 : decode cX0_sortRules 36 = .ok (.iconst 0, 1) := by decide +kernel
theorem dX0_sortRules_37 : decode cX0_sortRules 37 = .ok (.istore_n 1, 1) := by decide +kernel
theorem dX0_sortRules_38 : decode cX0_sortRules 38 = .ok (.iload_n 1, 1) := by decide +kernel
theorem dX0_sortRules_39 : decode cX0_sortRules 39 = .ok (.aload_n 0, 1) := by decide +kernel
theorem dX0_sortRules_40 : decode cX0_sortRules 40 = .ok (.getfield 56, 3) := by decide +kernel
theorem dX0_sortRules_43 : decode cX0_sortRules 43 = .ok (.getfield 76, 3) := by decide +kernel
theorem dX0_sortRules_46 : decode cX0_sortRules 46 = .ok (.if_icmp .ge 53, 3) := by decide +kernel
theorem dX0_sortRules_49 : decode cX0_sortRules 49 = .ok (.iconst 3, 1) := by decide +kernel
theorem dX0_sortRules_50 : decode cX0_sortRules 50 = .ok (.aload_n 0, 1) := by decide +kernel
theorem dX0_sortRules_51 : decode cX0_sortRules 51 = .ok (.getfield 56, 3) := by decide +kernel
theorem dX0_sortRules_54 : decode cX0_sortRules 54 = .ok (.iload_n 1, 1) := by decide +kernel
theorem dX0_sortRules_55 : decode cX0_sortRules 55 = .ok (.iconst 0, 1) := by decide +kernel
theorem dX0_sortRules_56 : decode cX0_sortRules 56 = .ok (.invokevirtual 81, 3) := by decide +kernel
theorem dX0_sortRules_59 : decode cX0_sortRules 59 = .ok (.imul, 1) := by decide +kernel
theorem dX0_sortRules_60 : decode cX0_sortRules 60 = .ok (.aload_n 0, 1) := by decide +kernel
theorem dX0_sortRules_61 : decode cX0_sortRules 61 = .ok (.getfield 56, 3) := by decide +kernel
theorem dX0_sortRules_64 : decode cX0_sortRules 64 = .ok (.iload_n 1, 1) := by decide +kernel
theorem dX0_sortRules_65 : decode cX0_sortRules 65 = .ok (.iconst 2, 1) := by decide +kernel
theorem dX0_sortRules_66 : decode cX0_sortRules 66 = .ok (.invokevirtual 81, 3) := by decide +kernel
theorem dX0_sortRules_69 : decode cX0_sortRules 69 = .ok (.iadd, 1) := by decide +kernel
theorem dX0_sortRules_70 : decode cX0_sortRules 70 = .ok (.istore_n 2, 1) := by decide +kernel
theorem dX0_sortRules_71 : decode cX0_sortRules 71 = .ok (.aload_n 0, 1) := by decide +kernel
theorem dX0_sortRules_72 : decode cX0_sortRules 72 = .ok (.getfield 32, 3) := by decide +kernel
theorem dX0_sortRules_75 : decode cX0_sortRules 75 = .ok (.aload_n 0, 1) := by decide +kernel
theorem dX0_sortRules_76 : decode cX0_sortRules 76 = .ok (.getfield 56, 3) := by decide +kernel
theorem dX0_sortRules_79 : decode cX0_sortRules 79 = .ok (.iload_n 1, 1) := by decide +kernel
theorem dX0_sortRules_80 : decode cX0_sortRules 80 = .ok (.iconst 1, 1) := by decide +kernel
theorem dX0_sortRules_81 : decode cX0_sortRules 81 = .ok (.invokevirtual 81, 3) := by decide +kernel
theorem dX0_sortRules_84 : decode cX0_sortRules 84 = .ok (.aaload, 1) := by decide +kernel
theorem dX0_sortRules_85 : decode cX0_sortRules 85 = .ok (.iload_n 2, 1) := by decide +kernel
theorem dX0_sortRules_86 : decode cX0_sortRules 86 = .ok (.dup2, 1) := by decide +kernel
theorem dX0_sortRules_87 : decode cX0_sortRules 87 = .ok (.iaload, 1) := by decide +kernel
theorem dX0_sortRules_88 : decode cX0_sortRules 88 = .ok (.iconst 1, 1) := by decide +kernel
theorem dX0_sortRules_89 : decode cX0_sortRules 89 = .ok (.iload_n 1, 1) := by decide +kernel
theorem dX0_sortRules_90 : decode cX0_sortRules 90 = .ok (.ishl, 1) := by decide +kernel
theorem dX0_sortRules_91 : decode cX0_sortRules 91 = .ok (.ior, 1) := by decide +kernel
theorem dX0_sortRules_92 : decode cX0_sortRules 92 = .ok (.iastore, 1) := by decide +kernel
theorem dX0_sortRules_93 : decode cX0_sortRules 93 = .ok (.iinc 1 1, 3) := by decide +kernel
theorem dX0_sortRules_96 : decode cX0_sortRules 96 = .ok (.goto (-58), 3) := by decide +kernel
theorem dX0_sortRules_99 : decode cX0_sortRules 99 = .ok (.return_, 1) := by decide +kernel
theorem dX0_readRules_0 : decode cX0_readRules 0 = .ok (.aload_n 0, 1) := by decide +kernel
theorem dX0_readRules_1 : decode cX0_readRules 1 = .ok (.getfield 35, 3) := by decide +kernel
theorem dX0_readRules_4 : decode cX0_readRules 4 = .ok (.iconst 0, 1) := by decide +kernel
theorem dX0_readRules_5 : decode cX0_readRules 5 = .ok (.iconst 0, 1) := by decide +kernel
theorem dX0_readRules_6 : decode cX0_readRules 6 = .ok (.iastore, 1) := by decide +kernel
theorem dX0_readRules_7 : decode cX0_readRules 7 = .ok (.iconst 0, 1) := by decide +kernel
theorem dX0_readRules_8 : decode cX0_readRules 8 = .ok (.istore_n 1, 1) := by decide +kernel
theorem dX0_readRules_9 : decode cX0_readRules 9 = .ok (.iload_n 1, 1) := by decide +kernel
theorem dX0_readRules_10 : decode cX0_readRules 10 = .ok (.aload_n 0, 1) := by decide +kernel
theorem dX0_readRules_11 : decode cX0_readRules 11 = .ok (.getfield 56, 3) := by decide +kernel
theorem dX0_readRules_14 : decode cX0_readRules 14 = .ok (.getfield 76, 3) := by decide +kernel
theorem dX0_readRules_17 : decode cX0_readRules 17 = .ok (.if_icmp .ge 96, 3) := by decide +kernel
theorem dX0_readRules_20 : decode cX0_readRules 20 = .ok (.iconst 1, 1) := by decide +kernel
theorem dX0_readRules_21 : decode cX0_readRules 21 = .ok (.iload_n 1, 1) := by decide +kernel
theorem dX0_readRules_22 : decode cX0_readRules 22 = .ok (.ishl, 1) := by decide +kernel
theorem dX0_readRules_23 : decode cX0_readRules 23 = .ok (.istore_n 2, 1) := by decide +kernel
theorem dX0_readRules_24 : decode cX0_readRules 24 = .ok (.iconst 1, 1) := by decide +kernel
theorem dX0_readRules_25 : decode cX0_readRules 25 = .ok (.aload_n 0, 1) := by decide +kernel
theorem dX0_readRules_26 : decode cX0_readRules 26 = .ok (.getfield 56, 3) := by decide +kernel
theorem dX0_readRules_29 : decode cX0_readRules 29 = .ok (.iload_n 1, 1) := by decide +kernel
theorem dX0_readRules_30 : decode cX0_readRules 30 = .ok (.iconst 4, 1) := by decide +kernel
theorem dX0_readRules_31 : decode cX0_readRules 31 = .ok (.invokevirtual 81, 3) := by decide +kernel
theorem dX0_readRules_34 : decode cX0_readRules 34 = .ok (.ishl, 1) := by decide +kernel
theorem dX0_readRules_35 : decode cX0_readRules 35 = .ok (.istore_n 3, 1) := by decide +kernel
theorem dX0_readRules_36 : decode cX0_readRules 36 = .ok (.aload_n 0, 1) := by decide +kernel
theorem dX0_readRules_37 : decode cX0_readRules 37 = .ok (.getfield 56, 3) := by decide +kernel
theorem dX0_readRules_40 : decode cX0_readRules 40 = .ok (.iload_n 1, 1) := by decide +kernel
theorem dX0_readRules_41 : decode cX0_readRules 41 = .ok (.iconst 3, 1) := by decide +kernel
theorem dX0_readRules_42 : decode cX0_readRules 42 = .ok (.invokevirtual 81, 3) := by decide +kernel
theorem dX0_readRules_45 : decode cX0_readRules 45 = .ok (.iconst 1, 1) := by decide +kernel
theorem dX0_readRules_46 : decode cX0_readRules 46 = .ok (.if_icmp .ne 7, 3) := by decide +kernel
theorem dX0_readRules_49 : decode cX0_readRules 49 = .ok (.iconst 1, 1) := by decide +kernel
theorem dX0_readRules_50 : decode cX0_readRules 50 = .ok (.goto 4, 3) := by decide +kernel
theorem dX0_readRules_53 : decode cX0_readRules 53 = .ok (.iconst 0, 1) := by decide +kernel
theorem dX0_readRules_54 : decode cX0_readRules 54 = .ok (.istore 4, 2) := by decide +kernel
theorem dX0_readRules_56 : decode cX0_readRules 56 = .ok (.iconst 0, 1) := by decide +kernel
theorem dX0_readRules_57 : decode cX0_readRules 57 = .ok (.istore 5, 2) := by decide +kernel
theorem dX0_readRules_59 : decode cX0_readRules 59 = .ok (.iload 5, 2) := by decide +kernel
theorem dX0_readRules_61 : decode cX0_readRules 61 = .ok (.iload_n 2, 1) := by decide +kernel
theorem dX0_readRules_62 : decode cX0_readRules 62 = .ok (.if_icmp .ge 45, 3) := by decide +kernel
theorem dX0_readRules_65 : decode cX0_readRules 65 = .ok (.aload_n 0, 1) := by decide +kernel
theorem dX0_readRules_66 : decode cX0_readRules 66 = .ok (.getfield 35, 3) := by decide +kernel
theorem dX0_readRules_69 : decode cX0_readRules 69 = .ok (.iload 5, 2) := by decide +kernel
theorem dX0_readRules_71 : decode cX0_readRules 71 = .ok (.iaload, 1) := by decide +kernel
theorem dX0_readRules_72 : decode cX0_readRules 72 = .ok (.istore 6, 2) := by decide +kernel
theorem dX0_readRules_74 : decode cX0_readRules 74 = .ok (.aload_n 0, 1) := by decide +kernel
theorem dX0_readRules_75 : decode cX0_readRules 75 = .ok (.getfield 35, 3) := by decide +kernel
theorem dX0_readRules_78 : decode cX0_readRules 78 = .ok (.iload_n 2, 1) := by decide +kernel
theorem dX0_readRules_79 : decode cX0_readRules 79 = .ok (.iload 5, 2) := by decide +kernel
theorem dX0_readRules_81 : decode cX0_readRules 81 = .ok (.ior, 1) := by decide +kernel
theorem dX0_readRules_82 : decode cX0_readRules 82 = .ok (.iload 4, 2) := by decide +kernel
theorem dX0_readRules_84 : decode cX0_readRules 84 = .ok (.ifCond .eq 10, 3) := by decide +kernel
theorem dX0_readRules_87 : decode cX0_readRules 87 = .ok (.iload 6, 2) := by decide +kernel
theorem dX0_readRules_89 : decode cX0_readRules 89 = .ok (.iload_n 3, 1) := by decide +kernel
theorem dX0_readRules_90 : decode cX0_readRules 90 = .ok (.ior, 1) := by decide +kernel
theorem dX0_readRules_91 : decode cX0_readRules 91 = .ok (.goto 9, 3) := by decide +kernel
theorem dX0_readRules_94 : decode cX0_readRules 94 = .ok (.iload 6, 2) := by decide +kernel
theorem dX0_readRules_96 : decode cX0_readRules 96 = .ok (.iload_n 3, 1) := by decide +kernel
theorem dX0_readRules_97 : decode cX0_readRules 97 = .ok (.iconst (-1), 1) := by decide +kernel
theorem dX0_readRules_98 : decode cX0_readRules 98 = .ok (.ixor, 1) := by decide +kernel
theorem dX0_readRules_99 : decode cX0_readRules 99 = .ok (.iand, 1) := by decide +kernel
theorem dX0_readRules_100 : decode cX0_readRules 100 = .ok (.iastore, 1) := by decide +kernel
theorem dX0_readRules_101 : decode cX0_readRules 101 = .ok (.iinc 5 1, 3) := by decide +kernel
theorem dX0_readRules_104 : decode cX0_readRules 104 = .ok (.goto (-45), 3) := by decide +kernel
theorem dX0_readRules_107 : decode cX0_readRules 107 = .ok (.iinc 1 1, 3) := by decide +kernel
theorem dX0_readRules_110 : decode cX0_readRules 110 = .ok (.goto (-101), 3) := by decide +kernel
theorem dX0_readRules_113 : decode cX0_readRules 113 = .ok (.return_, 1) := by decide +kernel
theorem dX0_layLeaves_0 : decode cX0_layLeaves 0 = .ok (.aload_n 0, 1) := by decide +kernel
theorem dX0_layLeaves_1 : decode cX0_layLeaves 1 = .ok (.getfield 19, 3) := by decide +kernel
theorem dX0_layLeaves_4 : decode cX0_layLeaves 4 = .ok (.iload_n 1, 1) := by decide +kernel
theorem dX0_layLeaves_5 : decode cX0_layLeaves 5 = .ok (.iconst 0, 1) := by decide +kernel
theorem dX0_layLeaves_6 : decode cX0_layLeaves 6 = .ok (.iastore, 1) := by decide +kernel
theorem dX0_layLeaves_7 : decode cX0_layLeaves 7 = .ok (.iconst 0, 1) := by decide +kernel
theorem dX0_layLeaves_8 : decode cX0_layLeaves 8 = .ok (.istore_n 2, 1) := by decide +kernel
theorem dX0_layLeaves_9 : decode cX0_layLeaves 9 = .ok (.iload_n 2, 1) := by decide +kernel
theorem dX0_layLeaves_10 : decode cX0_layLeaves 10 = .ok (.aload_n 0, 1) := by decide +kernel
theorem dX0_layLeaves_11 : decode cX0_layLeaves 11 = .ok (.getfield 52, 3) := by decide +kernel
theorem dX0_layLeaves_14 : decode cX0_layLeaves 14 = .ok (.getfield 76, 3) := by decide +kernel
theorem dX0_layLeaves_17 : decode cX0_layLeaves 17 = .ok (.if_icmp .ge 98, 3) := by decide +kernel
theorem dX0_layLeaves_20 : decode cX0_layLeaves 20 = .ok (.aload_n 0, 1) := by decide +kernel
theorem dX0_layLeaves_21 : decode cX0_layLeaves 21 = .ok (.getfield 52, 3) := by decide +kernel
theorem dX0_layLeaves_24 : decode cX0_layLeaves 24 = .ok (.iload_n 2, 1) := by decide +kernel
theorem dX0_layLeaves_25 : decode cX0_layLeaves 25 = .ok (.iconst 0, 1) := by decide +kernel
theorem dX0_layLeaves_26 : decode cX0_layLeaves 26 = .ok (.invokevirtual 81, 3) := by decide +kernel
theorem dX0_layLeaves_29 : decode cX0_layLeaves 29 = .ok (.istore_n 3, 1) := by decide +kernel
theorem dX0_layLeaves_30 : decode cX0_layLeaves 30 = .ok (.aload_n 0, 1) := by decide +kernel
theorem dX0_layLeaves_31 : decode cX0_layLeaves 31 = .ok (.getfield 52, 3) := by decide +kernel
theorem dX0_layLeaves_34 : decode cX0_layLeaves 34 = .ok (.iload_n 2, 1) := by decide +kernel
theorem dX0_layLeaves_35 : decode cX0_layLeaves 35 = .ok (.iconst 1, 1) := by decide +kernel
theorem dX0_layLeaves_36 : decode cX0_layLeaves 36 = .ok (.invokevirtual 81, 3) := by decide +kernel
theorem dX0_layLeaves_39 : decode cX0_layLeaves 39 = .ok (.istore 4, 2) := by decide +kernel
theorem dX0_layLeaves_41 : decode cX0_layLeaves 41 = .ok (.iconst 0, 1) := by decide +kernel
theorem dX0_layLeaves_42 : decode cX0_layLeaves 42 = .ok (.istore 5, 2) := by decide +kernel
theorem dX0_layLeaves_44 : decode cX0_layLeaves 44 = .ok (.iload 5, 2) := by decide +kernel
theorem dX0_layLeaves_46 : decode cX0_layLeaves 46 = .ok (.iload_n 1, 1) := by decide +kernel
theorem dX0_layLeaves_47 : decode cX0_layLeaves 47 = .ok (.if_icmp .ge 21, 3) := by decide +kernel
theorem dX0_layLeaves_50 : decode cX0_layLeaves 50 = .ok (.iload_n 3, 1) := by decide +kernel
theorem dX0_layLeaves_51 : decode cX0_layLeaves 51 = .ok (.istore 6, 2) := by decide +kernel
theorem dX0_layLeaves_53 : decode cX0_layLeaves 53 = .ok (.iconst 5, 1) := by decide +kernel
theorem dX0_layLeaves_54 : decode cX0_layLeaves 54 = .ok (.iload 4, 2) := by decide +kernel
theorem dX0_layLeaves_56 : decode cX0_layLeaves 56 = .ok (.isub, 1) := by decide +kernel
theorem dX0_layLeaves_57 : decode cX0_layLeaves 57 = .ok (.istore_n 3, 1) := by decide +kernel
theorem dX0_layLeaves_58 : decode cX0_layLeaves 58 = .ok (.iload 6, 2) := by decide +kernel
theorem dX0_layLeaves_60 : decode cX0_layLeaves 60 = .ok (.istore 4, 2) := by decide +kernel
theorem dX0_layLeaves_62 : decode cX0_layLeaves 62 = .ok (.iinc 5 1, 3) := by decide +kernel
theorem dX0_layLeaves_65 : decode cX0_layLeaves 65 = .ok (.goto (-21), 3) := by decide +kernel
theorem dX0_layLeaves_68 : decode cX0_layLeaves 68 = .ok (.aload_n 0, 1) := by decide +kernel
theorem dX0_layLeaves_69 : decode cX0_layLeaves 69 = .ok (.getfield 11, 3) := by decide +kernel
theorem dX0_layLeaves_72 : decode cX0_layLeaves 72 = .ok (.iload_n 1, 1) := by decide +kernel
theorem dX0_layLeaves_73 : decode cX0_layLeaves 73 = .ok (.aaload, 1) := by decide +kernel
theorem dX0_layLeaves_74 : decode cX0_layLeaves 74 = .ok (.iload_n 2, 1) := by decide +kernel
theorem dX0_layLeaves_75 : decode cX0_layLeaves 75 = .ok (.iload_n 3, 1) := by decide +kernel
theorem dX0_layLeaves_76 : decode cX0_layLeaves 76 = .ok (.iastore, 1) := by decide +kernel
theorem dX0_layLeaves_77 : decode cX0_layLeaves 77 = .ok (.aload_n 0, 1) := by decide +kernel
theorem dX0_layLeaves_78 : decode cX0_layLeaves 78 = .ok (.getfield 16, 3) := by decide +kernel
theorem dX0_layLeaves_81 : decode cX0_layLeaves 81 = .ok (.iload_n 1, 1) := by decide +kernel
theorem dX0_layLeaves_82 : decode cX0_layLeaves 82 = .ok (.aaload, 1) := by decide +kernel
theorem dX0_layLeaves_83 : decode cX0_layLeaves 83 = .ok (.iload_n 2, 1) := by decide +kernel
theorem dX0_layLeaves_84 : decode cX0_layLeaves 84 = .ok (.iload 4, 2) := by decide +kernel
theorem dX0_layLeaves_86 : decode cX0_layLeaves 86 = .ok (.iastore, 1) := by decide +kernel
theorem dX0_layLeaves_87 : decode cX0_layLeaves 87 = .ok (.aload_n 0, 1) := by decide +kernel
theorem dX0_layLeaves_88 : decode cX0_layLeaves 88 = .ok (.iload_n 3, 1) := by decide +kernel
theorem dX0_layLeaves_89 : decode cX0_layLeaves 89 = .ok (.iload 4, 2) := by decide +kernel
theorem dX0_layLeaves_91 : decode cX0_layLeaves 91 = .ok (.invokevirtual 85, 3) := by decide +kernel
theorem dX0_layLeaves_94 : decode cX0_layLeaves 94 = .ok (.ifCond .ne 15, 3) := by decide +kernel
theorem dX0_layLeaves_97 : decode cX0_layLeaves 97 = .ok (.aload_n 0, 1) := by decide +kernel
theorem dX0_layLeaves_98 : decode cX0_layLeaves 98 = .ok (.getfield 19, 3) := by decide +kernel
theorem dX0_layLeaves_101 : decode cX0_layLeaves 101 = .ok (.iload_n 1, 1) := by decide +kernel
theorem dX0_layLeaves_102 : decode cX0_layLeaves 102 = .ok (.dup2, 1) := by decide +kernel
theorem dX0_layLeaves_103 : decode cX0_layLeaves 103 = .ok (.iaload, 1) := by decide +kernel
theorem dX0_layLeaves_104 : decode cX0_layLeaves 104 = .ok (.iconst 1, 1) := by decide +kernel
theorem dX0_layLeaves_105 : decode cX0_layLeaves 105 = .ok (.iload_n 2, 1) := by decide +kernel
theorem dX0_layLeaves_106 : decode cX0_layLeaves 106 = .ok (.ishl, 1) := by decide +kernel
theorem dX0_layLeaves_107 : decode cX0_layLeaves 107 = .ok (.ior, 1) := by decide +kernel
theorem dX0_layLeaves_108 : decode cX0_layLeaves 108 = .ok (.iastore, 1) := by decide +kernel
theorem dX0_layLeaves_109 : decode cX0_layLeaves 109 = .ok (.iinc 2 1, 3) := by decide +kernel
theorem dX0_layLeaves_112 : decode cX0_layLeaves 112 = .ok (.goto (-103), 3) := by decide +kernel
theorem dX0_layLeaves_115 : decode cX0_layLeaves 115 = .ok (.return_, 1) := by decide +kernel
theorem dX0_isCracked_0 : decode cX0_isCracked 0 = .ok (.iconst 0, 1) := by decide +kernel
theorem dX0_isCracked_1 : decode cX0_isCracked 1 = .ok (.istore_n 3, 1) := by decide +kernel
theorem dX0_isCracked_2 : decode cX0_isCracked 2 = .ok (.iload_n 3, 1) := by decide +kernel
theorem dX0_isCracked_3 : decode cX0_isCracked 3 = .ok (.aload_n 0, 1) := by decide +kernel
theorem dX0_isCracked_4 : decode cX0_isCracked 4 = .ok (.getfield 59, 3) := by decide +kernel
theorem dX0_isCracked_7 : decode cX0_isCracked 7 = .ok (.getfield 89, 3) := by decide +kernel
theorem dX0_isCracked_10 : decode cX0_isCracked 10 = .ok (.if_icmp .ge 37, 3) := by decide +kernel
theorem dX0_isCracked_13 : decode cX0_isCracked 13 = .ok (.aload_n 0, 1) := by decide +kernel
theorem dX0_isCracked_14 : decode cX0_isCracked 14 = .ok (.getfield 59, 3) := by decide +kernel
theorem dX0_isCracked_17 : decode cX0_isCracked 17 = .ok (.getfield 94, 3) := by decide +kernel
theorem dX0_isCracked_20 : decode cX0_isCracked 20 = .ok (.iload_n 3, 1) := by decide +kernel
theorem dX0_isCracked_21 : decode cX0_isCracked 21 = .ok (.iaload, 1) := by decide +kernel
theorem dX0_isCracked_22 : decode cX0_isCracked 22 = .ok (.iload_n 1, 1) := by decide +kernel
theorem dX0_isCracked_23 : decode cX0_isCracked 23 = .ok (.if_icmp .ne 18, 3) := by decide +kernel
theorem dX0_isCracked_26 : decode cX0_isCracked 26 = .ok (.aload_n 0, 1) := by decide +kernel
theorem dX0_isCracked_27 : decode cX0_isCracked 27 = .ok (.getfield 59, 3) := by decide +kernel
theorem dX0_isCracked_30 : decode cX0_isCracked 30 = .ok (.getfield 97, 3) := by decide +kernel
theorem dX0_isCracked_33 : decode cX0_isCracked 33 = .ok (.iload_n 3, 1) := by decide +kernel
theorem dX0_isCracked_34 : decode cX0_isCracked 34 = .ok (.iaload, 1) := by decide +kernel
theorem dX0_isCracked_35 : decode cX0_isCracked 35 = .ok (.iload_n 2, 1) := by decide +kernel
theorem dX0_isCracked_36 : decode cX0_isCracked 36 = .ok (.if_icmp .ne 5, 3) := by decide +kernel
theorem dX0_isCracked_39 : decode cX0_isCracked 39 = .ok (.iconst 1, 1) := by decide +kernel
theorem dX0_isCracked_40 : decode cX0_isCracked 40 = .ok (.ireturn, 1) := by decide +kernel
theorem dX0_isCracked_41 : decode cX0_isCracked 41 = .ok (.iinc 3 1, 3) := by decide +kernel
theorem dX0_isCracked_44 : decode cX0_isCracked 44 = .ok (.goto (-42), 3) := by decide +kernel
theorem dX0_isCracked_47 : decode cX0_isCracked 47 = .ok (.iconst 0, 1) := by decide +kernel
theorem dX0_isCracked_48 : decode cX0_isCracked 48 = .ok (.ireturn, 1) := by decide +kernel
theorem dX0_counts_0 : decode cX0_counts 0 = .ok (.aload_n 0, 1) := by decide +kernel
theorem dX0_counts_1 : decode cX0_counts 1 = .ok (.getfield 19, 3) := by decide +kernel
theorem dX0_counts_4 : decode cX0_counts 4 = .ok (.iload_n 1, 1) := by decide +kernel
theorem dX0_counts_5 : decode cX0_counts 5 = .ok (.iaload, 1) := by decide +kernel
theorem dX0_counts_6 : decode cX0_counts 6 = .ok (.iload_n 2, 1) := by decide +kernel
theorem dX0_counts_7 : decode cX0_counts 7 = .ok (.ishr, 1) := by decide +kernel
theorem dX0_counts_8 : decode cX0_counts 8 = .ok (.iconst 1, 1) := by decide +kernel
theorem dX0_counts_9 : decode cX0_counts 9 = .ok (.iand, 1) := by decide +kernel
theorem dX0_counts_10 : decode cX0_counts 10 = .ok (.iconst 1, 1) := by decide +kernel
theorem dX0_counts_11 : decode cX0_counts 11 = .ok (.if_icmp .ne 7, 3) := by decide +kernel
theorem dX0_counts_14 : decode cX0_counts 14 = .ok (.iconst 1, 1) := by decide +kernel
theorem dX0_counts_15 : decode cX0_counts 15 = .ok (.goto 4, 3) := by decide +kernel
theorem dX0_counts_18 : decode cX0_counts 18 = .ok (.iconst 0, 1) := by decide +kernel
theorem dX0_counts_19 : decode cX0_counts 19 = .ok (.ireturn, 1) := by decide +kernel
theorem dX0_pairLeaves_0 : decode cX0_pairLeaves 0 = .ok (.aload_n 0, 1) := by decide +kernel
theorem dX0_pairLeaves_1 : decode cX0_pairLeaves 1 = .ok (.getfield 23, 3) := by decide +kernel
theorem dX0_pairLeaves_4 : decode cX0_pairLeaves 4 = .ok (.iload_n 1, 1) := by decide +kernel
theorem dX0_pairLeaves_5 : decode cX0_pairLeaves 5 = .ok (.iconst 0, 1) := by decide +kernel
theorem dX0_pairLeaves_6 : decode cX0_pairLeaves 6 = .ok (.iastore, 1) := by decide +kernel
theorem dX0_pairLeaves_7 : decode cX0_pairLeaves 7 = .ok (.iconst 0, 1) := by decide +kernel
theorem dX0_pairLeaves_8 : decode cX0_pairLeaves 8 = .ok (.istore_n 2, 1) := by decide +kernel
theorem dX0_pairLeaves_9 : decode cX0_pairLeaves 9 = .ok (.iload_n 2, 1) := by decide +kernel
theorem dX0_pairLeaves_10 : decode cX0_pairLeaves 10 = .ok (.aload_n 0, 1) := by decide +kernel
theorem dX0_pairLeaves_11 : decode cX0_pairLeaves 11 = .ok (.getfield 52, 3) := by decide +kernel
theorem dX0_pairLeaves_14 : decode cX0_pairLeaves 14 = .ok (.getfield 76, 3) := by decide +kernel
theorem dX0_pairLeaves_17 : decode cX0_pairLeaves 17 = .ok (.if_icmp .ge 116, 3) := by decide +kernel
theorem dX0_pairLeaves_20 : decode cX0_pairLeaves 20 = .ok (.aload_n 0, 1) := by decide +kernel
theorem dX0_pairLeaves_21 : decode cX0_pairLeaves 21 = .ok (.getfield 52, 3) := by decide +kernel
theorem dX0_pairLeaves_24 : decode cX0_pairLeaves 24 = .ok (.iload_n 2, 1) := by decide +kernel
theorem dX0_pairLeaves_25 : decode cX0_pairLeaves 25 = .ok (.iconst 2, 1) := by decide +kernel
theorem dX0_pairLeaves_26 : decode cX0_pairLeaves 26 = .ok (.invokevirtual 81, 3) := by decide +kernel
theorem dX0_pairLeaves_29 : decode cX0_pairLeaves 29 = .ok (.istore_n 3, 1) := by decide +kernel
theorem dX0_pairLeaves_30 : decode cX0_pairLeaves 30 = .ok (.aload_n 0, 1) := by decide +kernel
theorem dX0_pairLeaves_31 : decode cX0_pairLeaves 31 = .ok (.getfield 11, 3) := by decide +kernel
theorem dX0_pairLeaves_34 : decode cX0_pairLeaves 34 = .ok (.iload_n 1, 1) := by decide +kernel
theorem dX0_pairLeaves_35 : decode cX0_pairLeaves 35 = .ok (.aaload, 1) := by decide +kernel
theorem dX0_pairLeaves_36 : decode cX0_pairLeaves 36 = .ok (.iload_n 2, 1) := by decide +kernel
theorem dX0_pairLeaves_37 : decode cX0_pairLeaves 37 = .ok (.iaload, 1) := by decide +kernel
theorem dX0_pairLeaves_38 : decode cX0_pairLeaves 38 = .ok (.istore 4, 2) := by decide +kernel
theorem dX0_pairLeaves_40 : decode cX0_pairLeaves 40 = .ok (.aload_n 0, 1) := by decide +kernel
theorem dX0_pairLeaves_41 : decode cX0_pairLeaves 41 = .ok (.getfield 16, 3) := by decide +kernel
theorem dX0_pairLeaves_44 : decode cX0_pairLeaves 44 = .ok (.iload_n 1, 1) := by decide +kernel
theorem dX0_pairLeaves_45 : decode cX0_pairLeaves 45 = .ok (.aaload, 1) := by decide +kernel
theorem dX0_pairLeaves_46 : decode cX0_pairLeaves 46 = .ok (.iload_n 2, 1) := by decide +kernel
theorem dX0_pairLeaves_47 : decode cX0_pairLeaves 47 = .ok (.iaload, 1) := by decide +kernel
theorem dX0_pairLeaves_48 : decode cX0_pairLeaves 48 = .ok (.istore 5, 2) := by decide +kernel
theorem dX0_pairLeaves_50 : decode cX0_pairLeaves 50 = .ok (.iload_n 2, 1) := by decide +kernel
theorem dX0_pairLeaves_51 : decode cX0_pairLeaves 51 = .ok (.iconst 1, 1) := by decide +kernel
theorem dX0_pairLeaves_52 : decode cX0_pairLeaves 52 = .ok (.iadd, 1) := by decide +kernel
theorem dX0_pairLeaves_53 : decode cX0_pairLeaves 53 = .ok (.istore 6, 2) := by decide +kernel
theorem dX0_pairLeaves_55 : decode cX0_pairLeaves 55 = .ok (.iload 6, 2) := by decide +kernel
theorem dX0_pairLeaves_57 : decode cX0_pairLeaves 57 = .ok (.aload_n 0, 1) := by decide +kernel
theorem dX0_pairLeaves_58 : decode cX0_pairLeaves 58 = .ok (.getfield 52, 3) := by decide +kernel
theorem dX0_pairLeaves_61 : decode cX0_pairLeaves 61 = .ok (.getfield 76, 3) := by decide +kernel
theorem dX0_pairLeaves_64 : decode cX0_pairLeaves 64 = .ok (.if_icmp .ge 63, 3) := by decide +kernel
theorem dX0_pairLeaves_67 : decode cX0_pairLeaves 67 = .ok (.aload_n 0, 1) := by decide +kernel
theorem dX0_pairLeaves_68 : decode cX0_pairLeaves 68 = .ok (.iload_n 1, 1) := by decide +kernel
theorem dX0_pairLeaves_69 : decode cX0_pairLeaves 69 = .ok (.iload_n 2, 1) := by decide +kernel
theorem dX0_pairLeaves_70 : decode cX0_pairLeaves 70 = .ok (.invokevirtual 100, 3) := by decide +kernel
theorem dX0_pairLeaves_73 : decode cX0_pairLeaves 73 = .ok (.ifCond .eq 18, 3) := by decide +kernel
theorem dX0_pairLeaves_76 : decode cX0_pairLeaves 76 = .ok (.aload_n 0, 1) := by decide +kernel
theorem dX0_pairLeaves_77 : decode cX0_pairLeaves 77 = .ok (.iload_n 1, 1) := by decide +kernel
theorem dX0_pairLeaves_78 : decode cX0_pairLeaves 78 = .ok (.iload 6, 2) := by decide +kernel
theorem dX0_pairLeaves_80 : decode cX0_pairLeaves 80 = .ok (.iload_n 3, 1) := by decide +kernel
theorem dX0_pairLeaves_81 : decode cX0_pairLeaves 81 = .ok (.iload 4, 2) := by decide +kernel
theorem dX0_pairLeaves_83 : decode cX0_pairLeaves 83 = .ok (.iload 5, 2) := by decide +kernel
theorem dX0_pairLeaves_85 : decode cX0_pairLeaves 85 = .ok (.invokevirtual 103, 3) := by decide +kernel
theorem dX0_pairLeaves_88 : decode cX0_pairLeaves 88 = .ok (.goto 4, 3) := by decide +kernel
theorem dX0_pairLeaves_91 : decode cX0_pairLeaves 91 = .ok (.iconst 0, 1) := by decide +kernel
theorem dX0_pairLeaves_92 : decode cX0_pairLeaves 92 = .ok (.istore 7, 2) := by decide +kernel
theorem dX0_pairLeaves_94 : decode cX0_pairLeaves 94 = .ok (.aload_n 0, 1) := by decide +kernel
theorem dX0_pairLeaves_95 : decode cX0_pairLeaves 95 = .ok (.getfield 29, 3) := by decide +kernel
theorem dX0_pairLeaves_98 : decode cX0_pairLeaves 98 = .ok (.iload_n 1, 1) := by decide +kernel
theorem dX0_pairLeaves_99 : decode cX0_pairLeaves 99 = .ok (.aaload, 1) := by decide +kernel
theorem dX0_pairLeaves_100 : decode cX0_pairLeaves 100 = .ok (.iload_n 2, 1) := by decide +kernel
theorem dX0_pairLeaves_101 : decode cX0_pairLeaves 101 = .ok (.bipush 12, 2) := by decide +kernel
theorem dX0_pairLeaves_103 : decode cX0_pairLeaves 103 = .ok (.imul, 1) := by decide +kernel
theorem dX0_pairLeaves_104 : decode cX0_pairLeaves 104 = .ok (.iload 6, 2) := by decide +kernel
theorem dX0_pairLeaves_106 : decode cX0_pairLeaves 106 = .ok (.iadd, 1) := by decide +kernel
theorem dX0_pairLeaves_107 : decode cX0_pairLeaves 107 = .ok (.iload 7, 2) := by decide +kernel
theorem dX0_pairLeaves_109 : decode cX0_pairLeaves 109 = .ok (.iastore, 1) := by decide +kernel
theorem dX0_pairLeaves_110 : decode cX0_pairLeaves 110 = .ok (.aload_n 0, 1) := by decide +kernel
theorem dX0_pairLeaves_111 : decode cX0_pairLeaves 111 = .ok (.getfield 23, 3) := by decide +kernel
theorem dX0_pairLeaves_114 : decode cX0_pairLeaves 114 = .ok (.iload_n 1, 1) := by decide +kernel
theorem dX0_pairLeaves_115 : decode cX0_pairLeaves 115 = .ok (.dup2, 1) := by decide +kernel
theorem dX0_pairLeaves_116 : decode cX0_pairLeaves 116 = .ok (.iaload, 1) := by decide +kernel
theorem dX0_pairLeaves_117 : decode cX0_pairLeaves 117 = .ok (.iload 7, 2) := by decide +kernel
theorem dX0_pairLeaves_119 : decode cX0_pairLeaves 119 = .ok (.ior, 1) := by decide +kernel
theorem dX0_pairLeaves_120 : decode cX0_pairLeaves 120 = .ok (.iastore, 1) := by decide +kernel
theorem dX0_pairLeaves_121 : decode cX0_pairLeaves 121 = .ok (.iinc 6 1, 3) := by decide +kernel
theorem dX0_pairLeaves_124 : decode cX0_pairLeaves 124 = .ok (.goto (-69), 3) := by decide +kernel
theorem dX0_pairLeaves_127 : decode cX0_pairLeaves 127 = .ok (.iinc 2 1, 3) := by decide +kernel
theorem dX0_pairLeaves_130 : decode cX0_pairLeaves 130 = .ok (.goto (-121), 3) := by decide +kernel
theorem dX0_pairLeaves_133 : decode cX0_pairLeaves 133 = .ok (.return_, 1) := by decide +kernel
theorem dX0_madeWith_0 : decode cX0_madeWith 0 = .ok (.aload_n 0, 1) := by decide +kernel
theorem dX0_madeWith_1 : decode cX0_madeWith 1 = .ok (.iload_n 1, 1) := by decide +kernel
theorem dX0_madeWith_2 : decode cX0_madeWith 2 = .ok (.iload_n 2, 1) := by decide +kernel
theorem dX0_madeWith_3 : decode cX0_madeWith 3 = .ok (.invokevirtual 100, 3) := by decide +kernel
theorem dX0_madeWith_6 : decode cX0_madeWith 6 = .ok (.ifCond .ne 5, 3) := by decide +kernel
theorem dX0_madeWith_9 : decode cX0_madeWith 9 = .ok (.iconst 0, 1) := by decide +kernel
theorem dX0_madeWith_10 : decode cX0_madeWith 10 = .ok (.ireturn, 1) := by decide +kernel
theorem dX0_madeWith_11 : decode cX0_madeWith 11 = .ok (.aload_n 0, 1) := by decide +kernel
theorem dX0_madeWith_12 : decode cX0_madeWith 12 = .ok (.getfield 52, 3) := by decide +kernel
theorem dX0_madeWith_15 : decode cX0_madeWith 15 = .ok (.iload_n 2, 1) := by decide +kernel
theorem dX0_madeWith_16 : decode cX0_madeWith 16 = .ok (.iconst 2, 1) := by decide +kernel
theorem dX0_madeWith_17 : decode cX0_madeWith 17 = .ok (.invokevirtual 81, 3) := by decide +kernel
theorem dX0_madeWith_20 : decode cX0_madeWith 20 = .ok (.istore 6, 2) := by decide +kernel
theorem dX0_madeWith_22 : decode cX0_madeWith 22 = .ok (.iload 4, 2) := by decide +kernel
theorem dX0_madeWith_24 : decode cX0_madeWith 24 = .ok (.aload_n 0, 1) := by decide +kernel
theorem dX0_madeWith_25 : decode cX0_madeWith 25 = .ok (.getfield 11, 3) := by decide +kernel
theorem dX0_madeWith_28 : decode cX0_madeWith 28 = .ok (.iload_n 1, 1) := by decide +kernel
theorem dX0_madeWith_29 : decode cX0_madeWith 29 = .ok (.aaload, 1) := by decide +kernel
theorem dX0_madeWith_30 : decode cX0_madeWith 30 = .ok (.iload_n 2, 1) := by decide +kernel
theorem dX0_madeWith_31 : decode cX0_madeWith 31 = .ok (.iaload, 1) := by decide +kernel
theorem dX0_madeWith_32 : decode cX0_madeWith 32 = .ok (.isub, 1) := by decide +kernel
theorem dX0_madeWith_33 : decode cX0_madeWith 33 = .ok (.invokestatic 107, 3) := by decide +kernel
theorem dX0_madeWith_36 : decode cX0_madeWith 36 = .ok (.istore 7, 2) := by decide +kernel
theorem dX0_madeWith_38 : decode cX0_madeWith 38 = .ok (.iload 5, 2) := by decide +kernel
theorem dX0_madeWith_40 : decode cX0_madeWith 40 = .ok (.aload_n 0, 1) := by decide +kernel
theorem dX0_madeWith_41 : decode cX0_madeWith 41 = .ok (.getfield 16, 3) := by decide +kernel
theorem dX0_madeWith_44 : decode cX0_madeWith 44 = .ok (.iload_n 1, 1) := by decide +kernel
theorem dX0_madeWith_45 : decode cX0_madeWith 45 = .ok (.aaload, 1) := by decide +kernel
theorem dX0_madeWith_46 : decode cX0_madeWith 46 = .ok (.iload_n 2, 1) := by decide +kernel
theorem dX0_madeWith_47 : decode cX0_madeWith 47 = .ok (.iaload, 1) := by decide +kernel
theorem dX0_madeWith_48 : decode cX0_madeWith 48 = .ok (.isub, 1) := by decide +kernel
theorem dX0_madeWith_49 : decode cX0_madeWith 49 = .ok (.istore 8, 2) := by decide +kernel
theorem dX0_madeWith_51 : decode cX0_madeWith 51 = .ok (.iload 7, 2) := by decide +kernel
theorem dX0_madeWith_53 : decode cX0_madeWith 53 = .ok (.iload 8, 2) := by decide +kernel
theorem dX0_madeWith_55 : decode cX0_madeWith 55 = .ok (.invokestatic 107, 3) := by decide +kernel
theorem dX0_madeWith_58 : decode cX0_madeWith 58 = .ok (.invokestatic 113, 3) := by decide +kernel
theorem dX0_madeWith_61 : decode cX0_madeWith 61 = .ok (.istore 9, 2) := by decide +kernel
theorem dX0_madeWith_63 : decode cX0_madeWith 63 = .ok (.aload_n 0, 1) := by decide +kernel
theorem dX0_madeWith_64 : decode cX0_madeWith 64 = .ok (.iload 6, 2) := by decide +kernel
theorem dX0_madeWith_66 : decode cX0_madeWith 66 = .ok (.iload_n 3, 1) := by decide +kernel
theorem dX0_madeWith_67 : decode cX0_madeWith 67 = .ok (.iload 9, 2) := by decide +kernel
theorem dX0_madeWith_69 : decode cX0_madeWith 69 = .ok (.iload 7, 2) := by decide +kernel
theorem dX0_madeWith_71 : decode cX0_madeWith 71 = .ok (.ifCond .ne 12, 3) := by decide +kernel
theorem dX0_madeWith_74 : decode cX0_madeWith 74 = .ok (.iload 8, 2) := by decide +kernel
theorem dX0_madeWith_76 : decode cX0_madeWith 76 = .ok (.ifCond .le 7, 3) := by decide +kernel
theorem dX0_madeWith_79 : decode cX0_madeWith 79 = .ok (.iconst 1, 1) := by decide +kernel
theorem dX0_madeWith_80 : decode cX0_madeWith 80 = .ok (.goto 4, 3) := by decide +kernel
theorem dX0_madeWith_83 : decode cX0_madeWith 83 = .ok (.iconst 0, 1) := by decide +kernel
theorem dX0_madeWith_84 : decode cX0_madeWith 84 = .ok (.invokevirtual 116, 3) := by decide +kernel
theorem dX0_madeWith_87 : decode cX0_madeWith 87 = .ok (.aload_n 0, 1) := by decide +kernel
theorem dX0_madeWith_88 : decode cX0_madeWith 88 = .ok (.iload_n 3, 1) := by decide +kernel
theorem dX0_madeWith_89 : decode cX0_madeWith 89 = .ok (.iload 6, 2) := by decide +kernel
theorem dX0_madeWith_91 : decode cX0_madeWith 91 = .ok (.iload 9, 2) := by decide +kernel
theorem dX0_madeWith_93 : decode cX0_madeWith 93 = .ok (.iload 7, 2) := by decide +kernel
theorem dX0_madeWith_95 : decode cX0_madeWith 95 = .ok (.ifCond .ne 12, 3) := by decide +kernel
theorem dX0_madeWith_98 : decode cX0_madeWith 98 = .ok (.iload 8, 2) := by decide +kernel
theorem dX0_madeWith_100 : decode cX0_madeWith 100 = .ok (.ifCond .ge 7, 3) := by decide +kernel
theorem dX0_madeWith_103 : decode cX0_madeWith 103 = .ok (.iconst 1, 1) := by decide +kernel
theorem dX0_madeWith_104 : decode cX0_madeWith 104 = .ok (.goto 4, 3) := by decide +kernel
theorem dX0_madeWith_107 : decode cX0_madeWith 107 = .ok (.iconst 0, 1) := by decide +kernel
theorem dX0_madeWith_108 : decode cX0_madeWith 108 = .ok (.invokevirtual 116, 3) := by decide +kernel
theorem dX0_madeWith_111 : decode cX0_madeWith 111 = .ok (.ior, 1) := by decide +kernel
theorem dX0_madeWith_112 : decode cX0_madeWith 112 = .ok (.ireturn, 1) := by decide +kernel
theorem dX0_madeInOrder_0 : decode cX0_madeInOrder 0 = .ok (.iconst 3, 1) := by decide +kernel
theorem dX0_madeInOrder_1 : decode cX0_madeInOrder 1 = .ok (.iload_n 1, 1) := by decide +kernel
theorem dX0_madeInOrder_2 : decode cX0_madeInOrder 2 = .ok (.imul, 1) := by decide +kernel
theorem dX0_madeInOrder_3 : decode cX0_madeInOrder 3 = .ok (.iload_n 2, 1) := by decide +kernel
theorem dX0_madeInOrder_4 : decode cX0_madeInOrder 4 = .ok (.iadd, 1) := by decide +kernel
theorem dX0_madeInOrder_5 : decode cX0_madeInOrder 5 = .ok (.istore 5, 2) := by decide +kernel
theorem dX0_madeInOrder_7 : decode cX0_madeInOrder 7 = .ok (.aload_n 0, 1) := by decide +kernel
theorem dX0_madeInOrder_8 : decode cX0_madeInOrder 8 = .ok (.getfield 32, 3) := by decide +kernel
theorem dX0_madeInOrder_11 : decode cX0_madeInOrder 11 = .ok (.iconst 3, 1) := by decide +kernel
theorem dX0_madeInOrder_12 : decode cX0_madeInOrder 12 = .ok (.aaload, 1) := by decide +kernel
theorem dX0_madeInOrder_13 : decode cX0_madeInOrder 13 = .ok (.iload 5, 2) := by decide +kernel
theorem dX0_madeInOrder_15 : decode cX0_madeInOrder 15 = .ok (.iaload, 1) := by decide +kernel
theorem dX0_madeInOrder_16 : decode cX0_madeInOrder 16 = .ok (.istore 6, 2) := by decide +kernel
theorem dX0_madeInOrder_18 : decode cX0_madeInOrder 18 = .ok (.iload_n 3, 1) := by decide +kernel
theorem dX0_madeInOrder_19 : decode cX0_madeInOrder 19 = .ok (.iconst 1, 1) := by decide +kernel
theorem dX0_madeInOrder_20 : decode cX0_madeInOrder 20 = .ok (.if_icmp .gt 17, 3) := by decide +kernel
theorem dX0_madeInOrder_23 : decode cX0_madeInOrder 23 = .ok (.iload 6, 2) := by decide +kernel
theorem dX0_madeInOrder_25 : decode cX0_madeInOrder 25 = .ok (.aload_n 0, 1) := by decide +kernel
theorem dX0_madeInOrder_26 : decode cX0_madeInOrder 26 = .ok (.getfield 32, 3) := by decide +kernel
theorem dX0_madeInOrder_29 : decode cX0_madeInOrder 29 = .ok (.iconst 0, 1) := by decide +kernel
theorem dX0_madeInOrder_30 : decode cX0_madeInOrder 30 = .ok (.aaload, 1) := by decide +kernel
theorem dX0_madeInOrder_31 : decode cX0_madeInOrder 31 = .ok (.iload 5, 2) := by decide +kernel
theorem dX0_madeInOrder_33 : decode cX0_madeInOrder 33 = .ok (.iaload, 1) := by decide +kernel
theorem dX0_madeInOrder_34 : decode cX0_madeInOrder 34 = .ok (.ior, 1) := by decide +kernel
theorem dX0_madeInOrder_35 : decode cX0_madeInOrder 35 = .ok (.istore 6, 2) := by decide +kernel
theorem dX0_madeInOrder_37 : decode cX0_madeInOrder 37 = .ok (.iload 4, 2) := by decide +kernel
theorem dX0_madeInOrder_39 : decode cX0_madeInOrder 39 = .ok (.ifCond .eq 17, 3) := by decide +kernel
theorem dX0_madeInOrder_42 : decode cX0_madeInOrder 42 = .ok (.iload 6, 2) := by decide +kernel
theorem dX0_madeInOrder_44 : decode cX0_madeInOrder 44 = .ok (.aload_n 0, 1) := by decide +kernel
theorem dX0_madeInOrder_45 : decode cX0_madeInOrder 45 = .ok (.getfield 32, 3) := by decide +kernel
theorem dX0_madeInOrder_48 : decode cX0_madeInOrder 48 = .ok (.iconst 1, 1) := by decide +kernel
theorem dX0_madeInOrder_49 : decode cX0_madeInOrder 49 = .ok (.aaload, 1) := by decide +kernel
theorem dX0_madeInOrder_50 : decode cX0_madeInOrder 50 = .ok (.iload 5, 2) := by decide +kernel
theorem dX0_madeInOrder_52 : decode cX0_madeInOrder 52 = .ok (.iaload, 1) := by decide +kernel
theorem dX0_madeInOrder_53 : decode cX0_madeInOrder 53 = .ok (.ior, 1) := by decide +kernel
theorem dX0_madeInOrder_54 : decode cX0_madeInOrder 54 = .ok (.istore 6, 2) := by decide +kernel
theorem dX0_madeInOrder_56 : decode cX0_madeInOrder 56 = .ok (.iload_n 3, 1) := by decide +kernel
theorem dX0_madeInOrder_57 : decode cX0_madeInOrder 57 = .ok (.iconst 3, 1) := by decide +kernel
theorem dX0_madeInOrder_58 : decode cX0_madeInOrder 58 = .ok (.if_icmp .lt 17, 3) := by decide +kernel
theorem dX0_madeInOrder_61 : decode cX0_madeInOrder 61 = .ok (.iload 6, 2) := by decide +kernel
theorem dX0_madeInOrder_63 : decode cX0_madeInOrder 63 = .ok (.aload_n 0, 1) := by decide +kernel
theorem dX0_madeInOrder_64 : decode cX0_madeInOrder 64 = .ok (.getfield 32, 3) := by decide +kernel
theorem dX0_madeInOrder_67 : decode cX0_madeInOrder 67 = .ok (.iconst 2, 1) := by decide +kernel
theorem dX0_madeInOrder_68 : decode cX0_madeInOrder 68 = .ok (.aaload, 1) := by decide +kernel
theorem dX0_madeInOrder_69 : decode cX0_madeInOrder 69 = .ok (.iload 5, 2) := by decide +kernel
theorem dX0_madeInOrder_71 : decode cX0_madeInOrder 71 = .ok (.iaload, 1) := by decide +kernel
theorem dX0_madeInOrder_72 : decode cX0_madeInOrder 72 = .ok (.ior, 1) := by decide +kernel
theorem dX0_madeInOrder_73 : decode cX0_madeInOrder 73 = .ok (.istore 6, 2) := by decide +kernel
theorem dX0_madeInOrder_75 : decode cX0_madeInOrder 75 = .ok (.iload 6, 2) := by decide +kernel
theorem dX0_madeInOrder_77 : decode cX0_madeInOrder 77 = .ok (.ireturn, 1) := by decide +kernel
theorem dX0_isInForce_0 : decode cX0_isInForce 0 = .ok (.aload_n 0, 1) := by decide +kernel
theorem dX0_isInForce_1 : decode cX0_isInForce 1 = .ok (.getfield 26, 3) := by decide +kernel
theorem dX0_isInForce_4 : decode cX0_isInForce 4 = .ok (.iload_n 1, 1) := by decide +kernel
theorem dX0_isInForce_5 : decode cX0_isInForce 5 = .ok (.iaload, 1) := by decide +kernel
theorem dX0_isInForce_6 : decode cX0_isInForce 6 = .ok (.iload_n 2, 1) := by decide +kernel
theorem dX0_isInForce_7 : decode cX0_isInForce 7 = .ok (.ishr, 1) := by decide +kernel
theorem dX0_isInForce_8 : decode cX0_isInForce 8 = .ok (.iconst 1, 1) := by decide +kernel
theorem dX0_isInForce_9 : decode cX0_isInForce 9 = .ok (.iand, 1) := by decide +kernel
theorem dX0_isInForce_10 : decode cX0_isInForce 10 = .ok (.iconst 1, 1) := by decide +kernel
theorem dX0_isInForce_11 : decode cX0_isInForce 11 = .ok (.if_icmp .ne 7, 3) := by decide +kernel
theorem dX0_isInForce_14 : decode cX0_isInForce 14 = .ok (.iconst 1, 1) := by decide +kernel
theorem dX0_isInForce_15 : decode cX0_isInForce 15 = .ok (.goto 4, 3) := by decide +kernel
theorem dX0_isInForce_18 : decode cX0_isInForce 18 = .ok (.iconst 0, 1) := by decide +kernel
theorem dX0_isInForce_19 : decode cX0_isInForce 19 = .ok (.ireturn, 1) := by decide +kernel
theorem dX0_firstClash_0 : decode cX0_firstClash 0 = .ok (.iconst 0, 1) := by decide +kernel
theorem dX0_firstClash_1 : decode cX0_firstClash 1 = .ok (.istore_n 2, 1) := by decide +kernel
theorem dX0_firstClash_2 : decode cX0_firstClash 2 = .ok (.iload_n 2, 1) := by decide +kernel
theorem dX0_firstClash_3 : decode cX0_firstClash 3 = .ok (.aload_n 0, 1) := by decide +kernel
theorem dX0_firstClash_4 : decode cX0_firstClash 4 = .ok (.getfield 56, 3) := by decide +kernel
theorem dX0_firstClash_7 : decode cX0_firstClash 7 = .ok (.getfield 76, 3) := by decide +kernel
theorem dX0_firstClash_10 : decode cX0_firstClash 10 = .ok (.if_icmp .ge 29, 3) := by decide +kernel
theorem dX0_firstClash_13 : decode cX0_firstClash 13 = .ok (.aload_n 0, 1) := by decide +kernel
theorem dX0_firstClash_14 : decode cX0_firstClash 14 = .ok (.iload_n 1, 1) := by decide +kernel
theorem dX0_firstClash_15 : decode cX0_firstClash 15 = .ok (.iload_n 2, 1) := by decide +kernel
theorem dX0_firstClash_16 : decode cX0_firstClash 16 = .ok (.invokevirtual 120, 3) := by decide +kernel
theorem dX0_firstClash_19 : decode cX0_firstClash 19 = .ok (.ifCond .eq 14, 3) := by decide +kernel
theorem dX0_firstClash_22 : decode cX0_firstClash 22 = .ok (.aload_n 0, 1) := by decide +kernel
theorem dX0_firstClash_23 : decode cX0_firstClash 23 = .ok (.iload_n 1, 1) := by decide +kernel
theorem dX0_firstClash_24 : decode cX0_firstClash 24 = .ok (.iload_n 2, 1) := by decide +kernel
theorem dX0_firstClash_25 : decode cX0_firstClash 25 = .ok (.invokevirtual 123, 3) := by decide +kernel
theorem dX0_firstClash_28 : decode cX0_firstClash 28 = .ok (.ifCond .eq 5, 3) := by decide +kernel
theorem dX0_firstClash_31 : decode cX0_firstClash 31 = .ok (.iload_n 2, 1) := by decide +kernel
theorem dX0_firstClash_32 : decode cX0_firstClash 32 = .ok (.ireturn, 1) := by decide +kernel
theorem dX0_firstClash_33 : decode cX0_firstClash 33 = .ok (.iinc 2 1, 3) := by decide +kernel
theorem dX0_firstClash_36 : decode cX0_firstClash 36 = .ok (.goto (-34), 3) := by decide +kernel
theorem dX0_firstClash_39 : decode cX0_firstClash 39 = .ok (.iconst (-1), 1) := by decide +kernel
theorem dX0_firstClash_40 : decode cX0_firstClash 40 = .ok (.ireturn, 1) := by decide +kernel
theorem dX0_applies_0 : decode cX0_applies 0 = .ok (.aload_n 0, 1) := by decide +kernel
theorem dX0_applies_1 : decode cX0_applies 1 = .ok (.getfield 23, 3) := by decide +kernel
theorem dX0_applies_4 : decode cX0_applies 4 = .ok (.iload_n 1, 1) := by decide +kernel
theorem dX0_applies_5 : decode cX0_applies 5 = .ok (.iaload, 1) := by decide +kernel
theorem dX0_applies_6 : decode cX0_applies 6 = .ok (.iload_n 2, 1) := by decide +kernel
theorem dX0_applies_7 : decode cX0_applies 7 = .ok (.ishr, 1) := by decide +kernel
theorem dX0_applies_8 : decode cX0_applies 8 = .ok (.iconst 1, 1) := by decide +kernel
theorem dX0_applies_9 : decode cX0_applies 9 = .ok (.iand, 1) := by decide +kernel
theorem dX0_applies_10 : decode cX0_applies 10 = .ok (.iconst 1, 1) := by decide +kernel
theorem dX0_applies_11 : decode cX0_applies 11 = .ok (.if_icmp .ne 7, 3) := by decide +kernel
theorem dX0_applies_14 : decode cX0_applies 14 = .ok (.iconst 1, 1) := by decide +kernel
theorem dX0_applies_15 : decode cX0_applies 15 = .ok (.goto 4, 3) := by decide +kernel
theorem dX0_applies_18 : decode cX0_applies 18 = .ok (.iconst 0, 1) := by decide +kernel
theorem dX0_applies_19 : decode cX0_applies 19 = .ok (.ireturn, 1) := by decide +kernel
theorem dX0_alike_0 : decode cX0_alike 0 = .ok (.aload_n 0, 1) := by decide +kernel
theorem dX0_alike_1 : decode cX0_alike 1 = .ok (.getfield 56, 3) := by decide +kernel
theorem dX0_alike_4 : decode cX0_alike 4 = .ok (.iload_n 1, 1) := by decide +kernel
theorem dX0_alike_5 : decode cX0_alike 5 = .ok (.iload_n 3, 1) := by decide +kernel
theorem dX0_alike_6 : decode cX0_alike 6 = .ok (.invokevirtual 81, 3) := by decide +kernel
theorem dX0_alike_9 : decode cX0_alike 9 = .ok (.aload_n 0, 1) := by decide +kernel
theorem dX0_alike_10 : decode cX0_alike 10 = .ok (.getfield 56, 3) := by decide +kernel
theorem dX0_alike_13 : decode cX0_alike 13 = .ok (.iload_n 2, 1) := by decide +kernel
theorem dX0_alike_14 : decode cX0_alike 14 = .ok (.iload_n 3, 1) := by decide +kernel
theorem dX0_alike_15 : decode cX0_alike 15 = .ok (.invokevirtual 81, 3) := by decide +kernel
theorem dX0_alike_18 : decode cX0_alike 18 = .ok (.if_icmp .ne 7, 3) := by decide +kernel
theorem dX0_alike_21 : decode cX0_alike 21 = .ok (.iconst 1, 1) := by decide +kernel
theorem dX0_alike_22 : decode cX0_alike 22 = .ok (.goto 4, 3) := by decide +kernel
theorem dX0_alike_25 : decode cX0_alike 25 = .ok (.iconst 0, 1) := by decide +kernel
theorem dX0_alike_26 : decode cX0_alike 26 = .ok (.ireturn, 1) := by decide +kernel
theorem dX0_contradictsEarlier_0 : decode cX0_contradictsEarlier 0 = .ok (.iconst 0, 1) := by decide +kernel
theorem dX0_contradictsEarlier_1 : decode cX0_contradictsEarlier 1 = .ok (.istore_n 3, 1) := by decide +kernel
theorem dX0_contradictsEarlier_2 : decode cX0_contradictsEarlier 2 = .ok (.iload_n 3, 1) := by decide +kernel
theorem dX0_contradictsEarlier_3 : decode cX0_contradictsEarlier 3 = .ok (.iload_n 2, 1) := by decide +kernel
theorem dX0_contradictsEarlier_4 : decode cX0_contradictsEarlier 4 = .ok (.if_icmp .ge 40, 3) := by decide +kernel
theorem dX0_contradictsEarlier_7 : decode cX0_contradictsEarlier 7 = .ok (.aload_n 0, 1) := by decide +kernel
theorem dX0_contradictsEarlier_8 : decode cX0_contradictsEarlier 8 = .ok (.iload_n 1, 1) := by decide +kernel
theorem dX0_contradictsEarlier_9 : decode cX0_contradictsEarlier 9 = .ok (.iload_n 3, 1) := by decide +kernel
theorem dX0_contradictsEarlier_10 : decode cX0_contradictsEarlier 10 = .ok (.invokevirtual 120, 3) := by decide +kernel
theorem dX0_contradictsEarlier_13 : decode cX0_contradictsEarlier 13 = .ok (.ifCond .eq 25, 3) := by decide +kernel
theorem dX0_contradictsEarlier_16 : decode cX0_contradictsEarlier 16 = .ok (.aload_n 0, 1) := by decide +kernel
theorem dX0_contradictsEarlier_17 : decode cX0_contradictsEarlier 17 = .ok (.iload_n 3, 1) := by decide +kernel
theorem dX0_contradictsEarlier_18 : decode cX0_contradictsEarlier 18 = .ok (.iload_n 2, 1) := by decide +kernel
theorem dX0_contradictsEarlier_19 : decode cX0_contradictsEarlier 19 = .ok (.iconst 4, 1) := by decide +kernel
theorem dX0_contradictsEarlier_20 : decode cX0_contradictsEarlier 20 = .ok (.invokevirtual 126, 3) := by decide +kernel
theorem dX0_contradictsEarlier_23 : decode cX0_contradictsEarlier 23 = .ok (.ifCond .eq 15, 3) := by decide +kernel
theorem dX0_contradictsEarlier_26 : decode cX0_contradictsEarlier 26 = .ok (.aload_n 0, 1) := by decide +kernel
theorem dX0_contradictsEarlier_27 : decode cX0_contradictsEarlier 27 = .ok (.iload_n 3, 1) := by decide +kernel
theorem dX0_contradictsEarlier_28 : decode cX0_contradictsEarlier 28 = .ok (.iload_n 2, 1) := by decide +kernel
theorem dX0_contradictsEarlier_29 : decode cX0_contradictsEarlier 29 = .ok (.iconst 3, 1) := by decide +kernel
theorem dX0_contradictsEarlier_30 : decode cX0_contradictsEarlier 30 = .ok (.invokevirtual 126, 3) := by decide +kernel
theorem dX0_contradictsEarlier_33 : decode cX0_contradictsEarlier 33 = .ok (.ifCond .ne 5, 3) := by decide +kernel
theorem dX0_contradictsEarlier_36 : decode cX0_contradictsEarlier 36 = .ok (.iconst 1, 1) := by decide +kernel
theorem dX0_contradictsEarlier_37 : decode cX0_contradictsEarlier 37 = .ok (.ireturn, 1) := by decide +kernel
theorem dX0_contradictsEarlier_38 : decode cX0_contradictsEarlier 38 = .ok (.iinc 3 1, 3) := by decide +kernel
theorem dX0_contradictsEarlier_41 : decode cX0_contradictsEarlier 41 = .ok (.goto (-39), 3) := by decide +kernel
theorem dX0_contradictsEarlier_44 : decode cX0_contradictsEarlier 44 = .ok (.iconst 0, 1) := by decide +kernel
theorem dX0_contradictsEarlier_45 : decode cX0_contradictsEarlier 45 = .ok (.ireturn, 1) := by decide +kernel
theorem dX0_fillRulesByLeaves_0 : decode cX0_fillRulesByLeaves 0 = .ok (.aload_n 0, 1) := by decide +kernel
theorem dX0_fillRulesByLeaves_1 : decode cX0_fillRulesByLeaves 1 = .ok (.getfield 41, 3) := by decide +kernel
theorem dX0_fillRulesByLeaves_4 : decode cX0_fillRulesByLeaves 4 = .ok (.iload_n 1, 1) := by decide +kernel
theorem dX0_fillRulesByLeaves_5 : decode cX0_fillRulesByLeaves 5 = .ok (.if_icmp .ne 4, 3) := by decide +kernel
theorem dX0_fillRulesByLeaves_8 : decode cX0_fillRulesByLeaves 8 = .ok (.return_, 1) := by decide +kernel
theorem dX0_fillRulesByLeaves_9 : decode cX0_fillRulesByLeaves 9 = .ok (.aload_n 0, 1) := by decide +kernel
theorem dX0_fillRulesByLeaves_10 : decode cX0_fillRulesByLeaves 10 = .ok (.iload_n 1, 1) := by decide +kernel
theorem dX0_fillRulesByLeaves_11 : decode cX0_fillRulesByLeaves 11 = .ok (.putfield 41, 3) := by decide +kernel
theorem dX0_fillRulesByLeaves_14 : decode cX0_fillRulesByLeaves 14 = .ok (.aload_n 0, 1) := by decide +kernel
theorem dX0_fillRulesByLeaves_15 : decode cX0_fillRulesByLeaves 15 = .ok (.getfield 38, 3) := by decide +kernel
theorem dX0_fillRulesByLeaves_18 : decode cX0_fillRulesByLeaves 18 = .ok (.iconst 0, 1) := by decide +kernel
theorem dX0_fillRulesByLeaves_19 : decode cX0_fillRulesByLeaves 19 = .ok (.iconst 0, 1) := by decide +kernel
theorem dX0_fillRulesByLeaves_20 : decode cX0_fillRulesByLeaves 20 = .ok (.iastore, 1) := by decide +kernel
theorem dX0_fillRulesByLeaves_21 : decode cX0_fillRulesByLeaves 21 = .ok (.iconst 1, 1) := by decide +kernel
theorem dX0_fillRulesByLeaves_22 : decode cX0_fillRulesByLeaves 22 = .ok (.aload_n 0, 1) := by decide +kernel
theorem dX0_fillRulesByLeaves_23 : decode cX0_fillRulesByLeaves 23 = .ok (.getfield 52, 3) := by decide +kernel
theorem dX0_fillRulesByLeaves_26 : decode cX0_fillRulesByLeaves 26 = .ok (.getfield 76, 3) := by decide +kernel
theorem dX0_fillRulesByLeaves_29 : decode cX0_fillRulesByLeaves 29 = .ok (.ishl, 1) := by decide +kernel
theorem dX0_fillRulesByLeaves_30 : decode cX0_fillRulesByLeaves 30 = .ok (.istore_n 2, 1) := by decide +kernel
theorem dX0_fillRulesByLeaves_31 : decode cX0_fillRulesByLeaves 31 = .ok (.iconst 1, 1) := by decide +kernel
theorem dX0_fillRulesByLeaves_32 : decode cX0_fillRulesByLeaves 32 = .ok (.istore_n 3, 1) := by decide +kernel
theorem dX0_fillRulesByLeaves_33 : decode cX0_fillRulesByLeaves 33 = .ok (.iload_n 3, 1) := by decide +kernel
theorem dX0_fillRulesByLeaves_34 : decode cX0_fillRulesByLeaves 34 = .ok (.iload_n 2, 1) := by decide +kernel
theorem dX0_fillRulesByLeaves_35 : decode cX0_fillRulesByLeaves 35 = .ok (.if_icmp .ge 84, 3) := by decide +kernel
theorem dX0_fillRulesByLeaves_38 : decode cX0_fillRulesByLeaves 38 = .ok (.iload_n 3, 1) := by decide +kernel
theorem dX0_fillRulesByLeaves_39 : decode cX0_fillRulesByLeaves 39 = .ok (.invokestatic 130, 3) := by decide +kernel
theorem dX0_fillRulesByLeaves_42 : decode cX0_fillRulesByLeaves 42 = .ok (.istore 4, 2) := by decide +kernel
theorem dX0_fillRulesByLeaves_44 : decode cX0_fillRulesByLeaves 44 = .ok (.bipush 31, 2) := by decide +kernel
theorem dX0_fillRulesByLeaves_46 : decode cX0_fillRulesByLeaves 46 = .ok (.iload_n 3, 1) := by decide +kernel
theorem dX0_fillRulesByLeaves_47 : decode cX0_fillRulesByLeaves 47 = .ok (.invokestatic 135, 3) := by decide +kernel
theorem dX0_fillRulesByLeaves_50 : decode cX0_fillRulesByLeaves 50 = .ok (.isub, 1) := by decide +kernel
theorem dX0_fillRulesByLeaves_51 : decode cX0_fillRulesByLeaves 51 = .ok (.istore 5, 2) := by decide +kernel
theorem dX0_fillRulesByLeaves_53 : decode cX0_fillRulesByLeaves 53 = .ok (.aload_n 0, 1) := by decide +kernel
theorem dX0_fillRulesByLeaves_54 : decode cX0_fillRulesByLeaves 54 = .ok (.getfield 38, 3) := by decide +kernel
theorem dX0_fillRulesByLeaves_57 : decode cX0_fillRulesByLeaves 57 = .ok (.iload_n 3, 1) := by decide +kernel
theorem dX0_fillRulesByLeaves_58 : decode cX0_fillRulesByLeaves 58 = .ok (.iload 4, 2) := by decide +kernel
theorem dX0_fillRulesByLeaves_60 : decode cX0_fillRulesByLeaves 60 = .ok (.iload 5, 2) := by decide +kernel
theorem dX0_fillRulesByLeaves_62 : decode cX0_fillRulesByLeaves 62 = .ok (.if_icmp .ne 7, 3) := by decide +kernel
theorem dX0_fillRulesByLeaves_65 : decode cX0_fillRulesByLeaves 65 = .ok (.iconst 0, 1) := by decide +kernel
theorem dX0_fillRulesByLeaves_66 : decode cX0_fillRulesByLeaves 66 = .ok (.goto 46, 3) := by decide +kernel
theorem dX0_fillRulesByLeaves_69 : decode cX0_fillRulesByLeaves 69 = .ok (.aload_n 0, 1) := by decide +kernel
theorem dX0_fillRulesByLeaves_70 : decode cX0_fillRulesByLeaves 70 = .ok (.getfield 38, 3) := by decide +kernel
theorem dX0_fillRulesByLeaves_73 : decode cX0_fillRulesByLeaves 73 = .ok (.iload_n 3, 1) := by decide +kernel
theorem dX0_fillRulesByLeaves_74 : decode cX0_fillRulesByLeaves 74 = .ok (.iconst 1, 1) := by decide +kernel
theorem dX0_fillRulesByLeaves_75 : decode cX0_fillRulesByLeaves 75 = .ok (.iload 4, 2) := by decide +kernel
theorem dX0_fillRulesByLeaves_77 : decode cX0_fillRulesByLeaves 77 = .ok (.ishl, 1) := by decide +kernel
theorem dX0_fillRulesByLeaves_78 : decode cX0_fillRulesByLeaves 78 = .ok (.iconst (-1), 1) := by decide +kernel
theorem dX0_fillRulesByLeaves_79 : decode cX0_fillRulesByLeaves 79 = .ok (.ixor, 1) := by decide +kernel
theorem dX0_fillRulesByLeaves_80 : decode cX0_fillRulesByLeaves 80 = .ok (.iand, 1) := by decide +kernel
theorem dX0_fillRulesByLeaves_81 : decode cX0_fillRulesByLeaves 81 = .ok (.iaload, 1) := by decide +kernel
theorem dX0_fillRulesByLeaves_82 : decode cX0_fillRulesByLeaves 82 = .ok (.aload_n 0, 1) := by decide +kernel
theorem dX0_fillRulesByLeaves_83 : decode cX0_fillRulesByLeaves 83 = .ok (.getfield 38, 3) := by decide +kernel
theorem dX0_fillRulesByLeaves_86 : decode cX0_fillRulesByLeaves 86 = .ok (.iload_n 3, 1) := by decide +kernel
theorem dX0_fillRulesByLeaves_87 : decode cX0_fillRulesByLeaves 87 = .ok (.iconst 1, 1) := by decide +kernel
theorem dX0_fillRulesByLeaves_88 : decode cX0_fillRulesByLeaves 88 = .ok (.iload 5, 2) := by decide +kernel
theorem dX0_fillRulesByLeaves_90 : decode cX0_fillRulesByLeaves 90 = .ok (.ishl, 1) := by decide +kernel
theorem dX0_fillRulesByLeaves_91 : decode cX0_fillRulesByLeaves 91 = .ok (.iconst (-1), 1) := by decide +kernel
theorem dX0_fillRulesByLeaves_92 : decode cX0_fillRulesByLeaves 92 = .ok (.ixor, 1) := by decide +kernel
theorem dX0_fillRulesByLeaves_93 : decode cX0_fillRulesByLeaves 93 = .ok (.iand, 1) := by decide +kernel
theorem dX0_fillRulesByLeaves_94 : decode cX0_fillRulesByLeaves 94 = .ok (.iaload, 1) := by decide +kernel
theorem dX0_fillRulesByLeaves_95 : decode cX0_fillRulesByLeaves 95 = .ok (.ior, 1) := by decide +kernel
theorem dX0_fillRulesByLeaves_96 : decode cX0_fillRulesByLeaves 96 = .ok (.aload_n 0, 1) := by decide +kernel
theorem dX0_fillRulesByLeaves_97 : decode cX0_fillRulesByLeaves 97 = .ok (.getfield 29, 3) := by decide +kernel
theorem dX0_fillRulesByLeaves_100 : decode cX0_fillRulesByLeaves 100 = .ok (.iload_n 1, 1) := by decide +kernel
theorem dX0_fillRulesByLeaves_101 : decode cX0_fillRulesByLeaves 101 = .ok (.aaload, 1) := by decide +kernel
theorem dX0_fillRulesByLeaves_102 : decode cX0_fillRulesByLeaves 102 = .ok (.iload 4, 2) := by decide +kernel
theorem dX0_fillRulesByLeaves_104 : decode cX0_fillRulesByLeaves 104 = .ok (.bipush 12, 2) := by decide +kernel
theorem dX0_fillRulesByLeaves_106 : decode cX0_fillRulesByLeaves 106 = .ok (.imul, 1) := by decide +kernel
theorem dX0_fillRulesByLeaves_107 : decode cX0_fillRulesByLeaves 107 = .ok (.iload 5, 2) := by decide +kernel
theorem dX0_fillRulesByLeaves_109 : decode cX0_fillRulesByLeaves 109 = .ok (.iadd, 1) := by decide +kernel
theorem dX0_fillRulesByLeaves_110 : decode cX0_fillRulesByLeaves 110 = .ok (.iaload, 1) := by decide +kernel
theorem dX0_fillRulesByLeaves_111 : decode cX0_fillRulesByLeaves 111 = .ok (.ior, 1) := by decide +kernel
theorem dX0_fillRulesByLeaves_112 : decode cX0_fillRulesByLeaves 112 = .ok (.iastore, 1) := by decide +kernel
theorem dX0_fillRulesByLeaves_113 : decode cX0_fillRulesByLeaves 113 = .ok (.iinc 3 1, 3) := by decide +kernel
theorem dX0_fillRulesByLeaves_116 : decode cX0_fillRulesByLeaves 116 = .ok (.goto (-83), 3) := by decide +kernel
theorem dX0_fillRulesByLeaves_119 : decode cX0_fillRulesByLeaves 119 = .ok (.return_, 1) := by decide +kernel
theorem dX0_fewestLeavesOut_0 : decode cX0_fewestLeavesOut 0 = .ok (.aload_n 0, 1) := by decide +kernel
theorem dX0_fewestLeavesOut_1 : decode cX0_fewestLeavesOut 1 = .ok (.iload_n 1, 1) := by decide +kernel
theorem dX0_fewestLeavesOut_2 : decode cX0_fewestLeavesOut 2 = .ok (.invokevirtual 138, 3) := by decide +kernel
theorem dX0_fewestLeavesOut_5 : decode cX0_fewestLeavesOut 5 = .ok (.iconst 1, 1) := by decide +kernel
theorem dX0_fewestLeavesOut_6 : decode cX0_fewestLeavesOut 6 = .ok (.aload_n 0, 1) := by decide +kernel
theorem dX0_fewestLeavesOut_7 : decode cX0_fewestLeavesOut 7 = .ok (.getfield 52, 3) := by decide +kernel
theorem dX0_fewestLeavesOut_10 : decode cX0_fewestLeavesOut 10 = .ok (.getfield 76, 3) := by decide +kernel
theorem dX0_fewestLeavesOut_13 : decode cX0_fewestLeavesOut 13 = .ok (.ishl, 1) := by decide +kernel
theorem dX0_fewestLeavesOut_14 : decode cX0_fewestLeavesOut 14 = .ok (.iconst 1, 1) := by decide +kernel
theorem dX0_fewestLeavesOut_15 : decode cX0_fewestLeavesOut 15 = .ok (.isub, 1) := by decide +kernel
theorem dX0_fewestLeavesOut_16 : decode cX0_fewestLeavesOut 16 = .ok (.istore 4, 2) := by decide +kernel
theorem dX0_fewestLeavesOut_18 : decode cX0_fewestLeavesOut 18 = .ok (.iconst (-1), 1) := by decide +kernel
theorem dX0_fewestLeavesOut_19 : decode cX0_fewestLeavesOut 19 = .ok (.istore 5, 2) := by decide +kernel
theorem dX0_fewestLeavesOut_21 : decode cX0_fewestLeavesOut 21 = .ok (.bipush 13, 2) := by decide +kernel
theorem dX0_fewestLeavesOut_23 : decode cX0_fewestLeavesOut 23 = .ok (.istore 6, 2) := by decide +kernel
theorem dX0_fewestLeavesOut_25 : decode cX0_fewestLeavesOut 25 = .ok (.iconst 0, 1) := by decide +kernel
theorem dX0_fewestLeavesOut_26 : decode cX0_fewestLeavesOut 26 = .ok (.istore 7, 2) := by decide +kernel
theorem dX0_fewestLeavesOut_28 : decode cX0_fewestLeavesOut 28 = .ok (.iload 7, 2) := by decide +kernel
theorem dX0_fewestLeavesOut_30 : decode cX0_fewestLeavesOut 30 = .ok (.iload 4, 2) := by decide +kernel
theorem dX0_fewestLeavesOut_32 : decode cX0_fewestLeavesOut 32 = .ok (.if_icmp .gt 56, 3) := by decide +kernel
theorem dX0_fewestLeavesOut_35 : decode cX0_fewestLeavesOut 35 = .ok (.iload 7, 2) := by decide +kernel
theorem dX0_fewestLeavesOut_37 : decode cX0_fewestLeavesOut 37 = .ok (.invokestatic 141, 3) := by decide +kernel
theorem dX0_fewestLeavesOut_40 : decode cX0_fewestLeavesOut 40 = .ok (.istore 8, 2) := by decide +kernel
theorem dX0_fewestLeavesOut_42 : decode cX0_fewestLeavesOut 42 = .ok (.iload 8, 2) := by decide +kernel
theorem dX0_fewestLeavesOut_44 : decode cX0_fewestLeavesOut 44 = .ok (.iload 6, 2) := by decide +kernel
theorem dX0_fewestLeavesOut_46 : decode cX0_fewestLeavesOut 46 = .ok (.if_icmp .ge 36, 3) := by decide +kernel
theorem dX0_fewestLeavesOut_49 : decode cX0_fewestLeavesOut 49 = .ok (.aload_n 0, 1) := by decide +kernel
theorem dX0_fewestLeavesOut_50 : decode cX0_fewestLeavesOut 50 = .ok (.getfield 35, 3) := by decide +kernel
theorem dX0_fewestLeavesOut_53 : decode cX0_fewestLeavesOut 53 = .ok (.aload_n 0, 1) := by decide +kernel
theorem dX0_fewestLeavesOut_54 : decode cX0_fewestLeavesOut 54 = .ok (.getfield 38, 3) := by decide +kernel
theorem dX0_fewestLeavesOut_57 : decode cX0_fewestLeavesOut 57 = .ok (.iload 4, 2) := by decide +kernel
theorem dX0_fewestLeavesOut_59 : decode cX0_fewestLeavesOut 59 = .ok (.iload 7, 2) := by decide +kernel
theorem dX0_fewestLeavesOut_61 : decode cX0_fewestLeavesOut 61 = .ok (.iconst (-1), 1) := by decide +kernel
theorem dX0_fewestLeavesOut_62 : decode cX0_fewestLeavesOut 62 = .ok (.ixor, 1) := by decide +kernel
theorem dX0_fewestLeavesOut_63 : decode cX0_fewestLeavesOut 63 = .ok (.iand, 1) := by decide +kernel
theorem dX0_fewestLeavesOut_64 : decode cX0_fewestLeavesOut 64 = .ok (.iaload, 1) := by decide +kernel
theorem dX0_fewestLeavesOut_65 : decode cX0_fewestLeavesOut 65 = .ok (.iaload, 1) := by decide +kernel
theorem dX0_fewestLeavesOut_66 : decode cX0_fewestLeavesOut 66 = .ok (.iload_n 2, 1) := by decide +kernel
theorem dX0_fewestLeavesOut_67 : decode cX0_fewestLeavesOut 67 = .ok (.iload_n 3, 1) := by decide +kernel
theorem dX0_fewestLeavesOut_68 : decode cX0_fewestLeavesOut 68 = .ok (.ior, 1) := by decide +kernel
theorem dX0_fewestLeavesOut_69 : decode cX0_fewestLeavesOut 69 = .ok (.iand, 1) := by decide +kernel
theorem dX0_fewestLeavesOut_70 : decode cX0_fewestLeavesOut 70 = .ok (.iload_n 2, 1) := by decide +kernel
theorem dX0_fewestLeavesOut_71 : decode cX0_fewestLeavesOut 71 = .ok (.if_icmp .ne 11, 3) := by decide +kernel
theorem dX0_fewestLeavesOut_74 : decode cX0_fewestLeavesOut 74 = .ok (.iload 7, 2) := by decide +kernel
theorem dX0_fewestLeavesOut_76 : decode cX0_fewestLeavesOut 76 = .ok (.istore 5, 2) := by decide +kernel
theorem dX0_fewestLeavesOut_78 : decode cX0_fewestLeavesOut 78 = .ok (.iload 8, 2) := by decide +kernel
theorem dX0_fewestLeavesOut_80 : decode cX0_fewestLeavesOut 80 = .ok (.istore 6, 2) := by decide +kernel
theorem dX0_fewestLeavesOut_82 : decode cX0_fewestLeavesOut 82 = .ok (.iinc 7 1, 3) := by decide +kernel
theorem dX0_fewestLeavesOut_85 : decode cX0_fewestLeavesOut 85 = .ok (.goto (-57), 3) := by decide +kernel
theorem dX0_fewestLeavesOut_88 : decode cX0_fewestLeavesOut 88 = .ok (.iload 5, 2) := by decide +kernel
theorem dX0_fewestLeavesOut_90 : decode cX0_fewestLeavesOut 90 = .ok (.ireturn, 1) := by decide +kernel
theorem dX0_fewestRulesStruck_0 : decode cX0_fewestRulesStruck 0 = .ok (.iconst 1, 1) := by decide +kernel
theorem dX0_fewestRulesStruck_1 : decode cX0_fewestRulesStruck 1 = .ok (.aload_n 0, 1) := by decide +kernel
theorem dX0_fewestRulesStruck_2 : decode cX0_fewestRulesStruck 2 = .ok (.getfield 56, 3) := by decide +kernel
theorem dX0_fewestRulesStruck_5 : decode cX0_fewestRulesStruck 5 = .ok (.getfield 76, 3) := by decide +kernel
theorem dX0_fewestRulesStruck_8 : decode cX0_fewestRulesStruck 8 = .ok (.ishl, 1) := by decide +kernel
theorem dX0_fewestRulesStruck_9 : decode cX0_fewestRulesStruck 9 = .ok (.istore_n 3, 1) := by decide +kernel
theorem dX0_fewestRulesStruck_10 : decode cX0_fewestRulesStruck 10 = .ok (.iconst (-1), 1) := by decide +kernel
theorem dX0_fewestRulesStruck_11 : decode cX0_fewestRulesStruck 11 = .ok (.istore 4, 2) := by decide +kernel
theorem dX0_fewestRulesStruck_13 : decode cX0_fewestRulesStruck 13 = .ok (.bipush 11, 2) := by decide +kernel
theorem dX0_fewestRulesStruck_15 : decode cX0_fewestRulesStruck 15 = .ok (.istore 5, 2) := by decide +kernel
theorem dX0_fewestRulesStruck_17 : decode cX0_fewestRulesStruck 17 = .ok (.iconst 0, 1) := by decide +kernel
theorem dX0_fewestRulesStruck_18 : decode cX0_fewestRulesStruck 18 = .ok (.istore 6, 2) := by decide +kernel
theorem dX0_fewestRulesStruck_20 : decode cX0_fewestRulesStruck 20 = .ok (.iload 6, 2) := by decide +kernel
theorem dX0_fewestRulesStruck_22 : decode cX0_fewestRulesStruck 22 = .ok (.iload_n 3, 1) := by decide +kernel
theorem dX0_fewestRulesStruck_23 : decode cX0_fewestRulesStruck 23 = .ok (.if_icmp .ge 51, 3) := by decide +kernel
theorem dX0_fewestRulesStruck_26 : decode cX0_fewestRulesStruck 26 = .ok (.iload 6, 2) := by decide +kernel
theorem dX0_fewestRulesStruck_28 : decode cX0_fewestRulesStruck 28 = .ok (.invokestatic 141, 3) := by decide +kernel
theorem dX0_fewestRulesStruck_31 : decode cX0_fewestRulesStruck 31 = .ok (.istore 7, 2) := by decide +kernel
theorem dX0_fewestRulesStruck_33 : decode cX0_fewestRulesStruck 33 = .ok (.iload 7, 2) := by decide +kernel
theorem dX0_fewestRulesStruck_35 : decode cX0_fewestRulesStruck 35 = .ok (.iload 5, 2) := by decide +kernel
theorem dX0_fewestRulesStruck_37 : decode cX0_fewestRulesStruck 37 = .ok (.if_icmp .ge 31, 3) := by decide +kernel
theorem dX0_fewestRulesStruck_40 : decode cX0_fewestRulesStruck 40 = .ok (.aload_n 0, 1) := by decide +kernel
theorem dX0_fewestRulesStruck_41 : decode cX0_fewestRulesStruck 41 = .ok (.getfield 35, 3) := by decide +kernel
theorem dX0_fewestRulesStruck_44 : decode cX0_fewestRulesStruck 44 = .ok (.aload_n 0, 1) := by decide +kernel
theorem dX0_fewestRulesStruck_45 : decode cX0_fewestRulesStruck 45 = .ok (.getfield 23, 3) := by decide +kernel
theorem dX0_fewestRulesStruck_48 : decode cX0_fewestRulesStruck 48 = .ok (.iload_n 1, 1) := by decide +kernel
theorem dX0_fewestRulesStruck_49 : decode cX0_fewestRulesStruck 49 = .ok (.iaload, 1) := by decide +kernel
theorem dX0_fewestRulesStruck_50 : decode cX0_fewestRulesStruck 50 = .ok (.iload 6, 2) := by decide +kernel
theorem dX0_fewestRulesStruck_52 : decode cX0_fewestRulesStruck 52 = .ok (.iconst (-1), 1) := by decide +kernel
theorem dX0_fewestRulesStruck_53 : decode cX0_fewestRulesStruck 53 = .ok (.ixor, 1) := by decide +kernel
theorem dX0_fewestRulesStruck_54 : decode cX0_fewestRulesStruck 54 = .ok (.iand, 1) := by decide +kernel
theorem dX0_fewestRulesStruck_55 : decode cX0_fewestRulesStruck 55 = .ok (.iaload, 1) := by decide +kernel
theorem dX0_fewestRulesStruck_56 : decode cX0_fewestRulesStruck 56 = .ok (.iload_n 2, 1) := by decide +kernel
theorem dX0_fewestRulesStruck_57 : decode cX0_fewestRulesStruck 57 = .ok (.if_icmp .ne 11, 3) := by decide +kernel
theorem dX0_fewestRulesStruck_60 : decode cX0_fewestRulesStruck 60 = .ok (.iload 6, 2) := by decide +kernel
theorem dX0_fewestRulesStruck_62 : decode cX0_fewestRulesStruck 62 = .ok (.istore 4, 2) := by decide +kernel
theorem dX0_fewestRulesStruck_64 : decode cX0_fewestRulesStruck 64 = .ok (.iload 7, 2) := by decide +kernel
theorem dX0_fewestRulesStruck_66 : decode cX0_fewestRulesStruck 66 = .ok (.istore 5, 2) := by decide +kernel
theorem dX0_fewestRulesStruck_68 : decode cX0_fewestRulesStruck 68 = .ok (.iinc 6 1, 3) := by decide +kernel
theorem dX0_fewestRulesStruck_71 : decode cX0_fewestRulesStruck 71 = .ok (.goto (-51), 3) := by decide +kernel
theorem dX0_fewestRulesStruck_74 : decode cX0_fewestRulesStruck 74 = .ok (.iload 4, 2) := by decide +kernel
theorem dX0_fewestRulesStruck_76 : decode cX0_fewestRulesStruck 76 = .ok (.ireturn, 1) := by decide +kernel
theorem dX0_leastLeafThatChanges_0 : decode cX0_leastLeafThatChanges 0 = .ok (.iconst 0, 1) := by decide +kernel
theorem dX0_leastLeafThatChanges_1 : decode cX0_leastLeafThatChanges 1 = .ok (.istore_n 3, 1) := by decide +kernel
theorem dX0_leastLeafThatChanges_2 : decode cX0_leastLeafThatChanges 2 = .ok (.iload_n 3, 1) := by decide +kernel
theorem dX0_leastLeafThatChanges_3 : decode cX0_leastLeafThatChanges 3 = .ok (.iconst 3, 1) := by decide +kernel
theorem dX0_leastLeafThatChanges_4 : decode cX0_leastLeafThatChanges 4 = .ok (.if_icmp .ge 69, 3) := by decide +kernel
theorem dX0_leastLeafThatChanges_7 : decode cX0_leastLeafThatChanges 7 = .ok (.iconst 0, 1) := by decide +kernel
theorem dX0_leastLeafThatChanges_8 : decode cX0_leastLeafThatChanges 8 = .ok (.istore 4, 2) := by decide +kernel
theorem dX0_leastLeafThatChanges_10 : decode cX0_leastLeafThatChanges 10 = .ok (.iload 4, 2) := by decide +kernel
theorem dX0_leastLeafThatChanges_12 : decode cX0_leastLeafThatChanges 12 = .ok (.bipush 6, 2) := by decide +kernel
theorem dX0_leastLeafThatChanges_14 : decode cX0_leastLeafThatChanges 14 = .ok (.if_icmp .ge 53, 3) := by decide +kernel
theorem dX0_leastLeafThatChanges_17 : decode cX0_leastLeafThatChanges 17 = .ok (.iconst 0, 1) := by decide +kernel
theorem dX0_leastLeafThatChanges_18 : decode cX0_leastLeafThatChanges 18 = .ok (.istore 5, 2) := by decide +kernel
theorem dX0_leastLeafThatChanges_20 : decode cX0_leastLeafThatChanges 20 = .ok (.iload 5, 2) := by decide +kernel
theorem dX0_leastLeafThatChanges_22 : decode cX0_leastLeafThatChanges 22 = .ok (.bipush 6, 2) := by decide +kernel
theorem dX0_leastLeafThatChanges_24 : decode cX0_leastLeafThatChanges 24 = .ok (.if_icmp .ge 37, 3) := by decide +kernel
theorem dX0_leastLeafThatChanges_27 : decode cX0_leastLeafThatChanges 27 = .ok (.aload_n 0, 1) := by decide +kernel
theorem dX0_leastLeafThatChanges_28 : decode cX0_leastLeafThatChanges 28 = .ok (.iload_n 1, 1) := by decide +kernel
theorem dX0_leastLeafThatChanges_29 : decode cX0_leastLeafThatChanges 29 = .ok (.iload_n 2, 1) := by decide +kernel
theorem dX0_leastLeafThatChanges_30 : decode cX0_leastLeafThatChanges 30 = .ok (.iload_n 3, 1) := by decide +kernel
theorem dX0_leastLeafThatChanges_31 : decode cX0_leastLeafThatChanges 31 = .ok (.iload 5, 2) := by decide +kernel
theorem dX0_leastLeafThatChanges_33 : decode cX0_leastLeafThatChanges 33 = .ok (.iload 4, 2) := by decide +kernel
theorem dX0_leastLeafThatChanges_35 : decode cX0_leastLeafThatChanges 35 = .ok (.invokevirtual 144, 3) := by decide +kernel
theorem dX0_leastLeafThatChanges_38 : decode cX0_leastLeafThatChanges 38 = .ok (.ifCond .eq 17, 3) := by decide +kernel
theorem dX0_leastLeafThatChanges_41 : decode cX0_leastLeafThatChanges 41 = .ok (.bipush 36, 2) := by decide +kernel
theorem dX0_leastLeafThatChanges_43 : decode cX0_leastLeafThatChanges 43 = .ok (.iload_n 3, 1) := by decide +kernel
theorem dX0_leastLeafThatChanges_44 : decode cX0_leastLeafThatChanges 44 = .ok (.imul, 1) := by decide +kernel
theorem dX0_leastLeafThatChanges_45 : decode cX0_leastLeafThatChanges 45 = .ok (.bipush 6, 2) := by decide +kernel
theorem dX0_leastLeafThatChanges_47 : decode cX0_leastLeafThatChanges 47 = .ok (.iload 4, 2) := by decide +kernel
theorem dX0_leastLeafThatChanges_49 : decode cX0_leastLeafThatChanges 49 = .ok (.imul, 1) := by decide +kernel
theorem dX0_leastLeafThatChanges_50 : decode cX0_leastLeafThatChanges 50 = .ok (.iadd, 1) := by decide +kernel
theorem dX0_leastLeafThatChanges_51 : decode cX0_leastLeafThatChanges 51 = .ok (.iload 5, 2) := by decide +kernel
theorem dX0_leastLeafThatChanges_53 : decode cX0_leastLeafThatChanges 53 = .ok (.iadd, 1) := by decide +kernel
theorem dX0_leastLeafThatChanges_54 : decode cX0_leastLeafThatChanges 54 = .ok (.ireturn, 1) := by decide +kernel
theorem dX0_leastLeafThatChanges_55 : decode cX0_leastLeafThatChanges 55 = .ok (.iinc 5 1, 3) := by decide +kernel
theorem dX0_leastLeafThatChanges_58 : decode cX0_leastLeafThatChanges 58 = .ok (.goto (-38), 3) := by decide +kernel
theorem dX0_leastLeafThatChanges_61 : decode cX0_leastLeafThatChanges 61 = .ok (.iinc 4 1, 3) := by decide +kernel
theorem dX0_leastLeafThatChanges_64 : decode cX0_leastLeafThatChanges 64 = .ok (.goto (-54), 3) := by decide +kernel
theorem dX0_leastLeafThatChanges_67 : decode cX0_leastLeafThatChanges 67 = .ok (.iinc 3 1, 3) := by decide +kernel
theorem dX0_leastLeafThatChanges_70 : decode cX0_leastLeafThatChanges 70 = .ok (.goto (-68), 3) := by decide +kernel
theorem dX0_leastLeafThatChanges_73 : decode cX0_leastLeafThatChanges 73 = .ok (.iconst (-1), 1) := by decide +kernel
theorem dX0_leastLeafThatChanges_74 : decode cX0_leastLeafThatChanges 74 = .ok (.ireturn, 1) := by decide +kernel
theorem dX0_changes_0 : decode cX0_changes 0 = .ok (.aload_n 0, 1) := by decide +kernel
theorem dX0_changes_1 : decode cX0_changes 1 = .ok (.iload 4, 2) := by decide +kernel
theorem dX0_changes_3 : decode cX0_changes 3 = .ok (.iload 5, 2) := by decide +kernel
theorem dX0_changes_5 : decode cX0_changes 5 = .ok (.invokevirtual 85, 3) := by decide +kernel
theorem dX0_changes_8 : decode cX0_changes 8 = .ok (.ifCond .eq 5, 3) := by decide +kernel
theorem dX0_changes_11 : decode cX0_changes 11 = .ok (.iconst 0, 1) := by decide +kernel
theorem dX0_changes_12 : decode cX0_changes 12 = .ok (.ireturn, 1) := by decide +kernel
theorem dX0_changes_13 : decode cX0_changes 13 = .ok (.aload_n 0, 1) := by decide +kernel
theorem dX0_changes_14 : decode cX0_changes 14 = .ok (.getfield 23, 3) := by decide +kernel
theorem dX0_changes_17 : decode cX0_changes 17 = .ok (.iload_n 1, 1) := by decide +kernel
theorem dX0_changes_18 : decode cX0_changes 18 = .ok (.iaload, 1) := by decide +kernel
theorem dX0_changes_19 : decode cX0_changes 19 = .ok (.istore 6, 2) := by decide +kernel
theorem dX0_changes_21 : decode cX0_changes 21 = .ok (.iconst 0, 1) := by decide +kernel
theorem dX0_changes_22 : decode cX0_changes 22 = .ok (.istore 7, 2) := by decide +kernel
theorem dX0_changes_24 : decode cX0_changes 24 = .ok (.iload 7, 2) := by decide +kernel
theorem dX0_changes_26 : decode cX0_changes 26 = .ok (.aload_n 0, 1) := by decide +kernel
theorem dX0_changes_27 : decode cX0_changes 27 = .ok (.getfield 52, 3) := by decide +kernel
theorem dX0_changes_30 : decode cX0_changes 30 = .ok (.getfield 76, 3) := by decide +kernel
theorem dX0_changes_33 : decode cX0_changes 33 = .ok (.if_icmp .ge 56, 3) := by decide +kernel
theorem dX0_changes_36 : decode cX0_changes 36 = .ok (.aload_n 0, 1) := by decide +kernel
theorem dX0_changes_37 : decode cX0_changes 37 = .ok (.getfield 11, 3) := by decide +kernel
theorem dX0_changes_40 : decode cX0_changes 40 = .ok (.iload_n 1, 1) := by decide +kernel
theorem dX0_changes_41 : decode cX0_changes 41 = .ok (.aaload, 1) := by decide +kernel
theorem dX0_changes_42 : decode cX0_changes 42 = .ok (.iload 7, 2) := by decide +kernel
theorem dX0_changes_44 : decode cX0_changes 44 = .ok (.iaload, 1) := by decide +kernel
theorem dX0_changes_45 : decode cX0_changes 45 = .ok (.iload 4, 2) := by decide +kernel
theorem dX0_changes_47 : decode cX0_changes 47 = .ok (.if_icmp .ne 19, 3) := by decide +kernel
theorem dX0_changes_50 : decode cX0_changes 50 = .ok (.aload_n 0, 1) := by decide +kernel
theorem dX0_changes_51 : decode cX0_changes 51 = .ok (.getfield 16, 3) := by decide +kernel
theorem dX0_changes_54 : decode cX0_changes 54 = .ok (.iload_n 1, 1) := by decide +kernel
theorem dX0_changes_55 : decode cX0_changes 55 = .ok (.aaload, 1) := by decide +kernel
theorem dX0_changes_56 : decode cX0_changes 56 = .ok (.iload 7, 2) := by decide +kernel
theorem dX0_changes_58 : decode cX0_changes 58 = .ok (.iaload, 1) := by decide +kernel
theorem dX0_changes_59 : decode cX0_changes 59 = .ok (.iload 5, 2) := by decide +kernel
theorem dX0_changes_61 : decode cX0_changes 61 = .ok (.if_icmp .ne 5, 3) := by decide +kernel
theorem dX0_changes_64 : decode cX0_changes 64 = .ok (.iconst 0, 1) := by decide +kernel
theorem dX0_changes_65 : decode cX0_changes 65 = .ok (.ireturn, 1) := by decide +kernel
theorem dX0_changes_66 : decode cX0_changes 66 = .ok (.iload 6, 2) := by decide +kernel
theorem dX0_changes_68 : decode cX0_changes 68 = .ok (.aload_n 0, 1) := by decide +kernel
theorem dX0_changes_69 : decode cX0_changes 69 = .ok (.iload_n 1, 1) := by decide +kernel
theorem dX0_changes_70 : decode cX0_changes 70 = .ok (.iload 7, 2) := by decide +kernel
theorem dX0_changes_72 : decode cX0_changes 72 = .ok (.iload_n 3, 1) := by decide +kernel
theorem dX0_changes_73 : decode cX0_changes 73 = .ok (.iload 4, 2) := by decide +kernel
theorem dX0_changes_75 : decode cX0_changes 75 = .ok (.iload 5, 2) := by decide +kernel
theorem dX0_changes_77 : decode cX0_changes 77 = .ok (.invokevirtual 103, 3) := by decide +kernel
theorem dX0_changes_80 : decode cX0_changes 80 = .ok (.ior, 1) := by decide +kernel
theorem dX0_changes_81 : decode cX0_changes 81 = .ok (.istore 6, 2) := by decide +kernel
theorem dX0_changes_83 : decode cX0_changes 83 = .ok (.iinc 7 1, 3) := by decide +kernel
theorem dX0_changes_86 : decode cX0_changes 86 = .ok (.goto (-62), 3) := by decide +kernel
theorem dX0_changes_89 : decode cX0_changes 89 = .ok (.aload_n 0, 1) := by decide +kernel
theorem dX0_changes_90 : decode cX0_changes 90 = .ok (.getfield 35, 3) := by decide +kernel
theorem dX0_changes_93 : decode cX0_changes 93 = .ok (.iload 6, 2) := by decide +kernel
theorem dX0_changes_95 : decode cX0_changes 95 = .ok (.iaload, 1) := by decide +kernel
theorem dX0_changes_96 : decode cX0_changes 96 = .ok (.aload_n 0, 1) := by decide +kernel
theorem dX0_changes_97 : decode cX0_changes 97 = .ok (.getfield 26, 3) := by decide +kernel
theorem dX0_changes_100 : decode cX0_changes 100 = .ok (.iload_n 1, 1) := by decide +kernel
theorem dX0_changes_101 : decode cX0_changes 101 = .ok (.iaload, 1) := by decide +kernel
theorem dX0_changes_102 : decode cX0_changes 102 = .ok (.ixor, 1) := by decide +kernel
theorem dX0_changes_103 : decode cX0_changes 103 = .ok (.iload_n 2, 1) := by decide +kernel
theorem dX0_changes_104 : decode cX0_changes 104 = .ok (.ishr, 1) := by decide +kernel
theorem dX0_changes_105 : decode cX0_changes 105 = .ok (.iconst 1, 1) := by decide +kernel
theorem dX0_changes_106 : decode cX0_changes 106 = .ok (.iand, 1) := by decide +kernel
theorem dX0_changes_107 : decode cX0_changes 107 = .ok (.iconst 1, 1) := by decide +kernel
theorem dX0_changes_108 : decode cX0_changes 108 = .ok (.if_icmp .ne 7, 3) := by decide +kernel
theorem dX0_changes_111 : decode cX0_changes 111 = .ok (.iconst 1, 1) := by decide +kernel
theorem dX0_changes_112 : decode cX0_changes 112 = .ok (.goto 4, 3) := by decide +kernel
theorem dX0_changes_115 : decode cX0_changes 115 = .ok (.iconst 0, 1) := by decide +kernel
theorem dX0_changes_116 : decode cX0_changes 116 = .ok (.ireturn, 1) := by decide +kernel
theorem dX0_turnsThatHold_0 : decode cX0_turnsThatHold 0 = .ok (.iconst 0, 1) := by decide +kernel
theorem dX0_turnsThatHold_1 : decode cX0_turnsThatHold 1 = .ok (.istore_n 2, 1) := by decide +kernel
theorem dX0_turnsThatHold_2 : decode cX0_turnsThatHold 2 = .ok (.iload_n 2, 1) := by decide +kernel
theorem dX0_turnsThatHold_3 : decode cX0_turnsThatHold 3 = .ok (.iconst 4, 1) := by decide +kernel
theorem dX0_turnsThatHold_4 : decode cX0_turnsThatHold 4 = .ok (.if_icmp .ge 33, 3) := by decide +kernel
theorem dX0_turnsThatHold_7 : decode cX0_turnsThatHold 7 = .ok (.aload_n 0, 1) := by decide +kernel
theorem dX0_turnsThatHold_8 : decode cX0_turnsThatHold 8 = .ok (.iload_n 2, 1) := by decide +kernel
theorem dX0_turnsThatHold_9 : decode cX0_turnsThatHold 9 = .ok (.iload_n 1, 1) := by decide +kernel
theorem dX0_turnsThatHold_10 : decode cX0_turnsThatHold 10 = .ok (.invokevirtual 148, 3) := by decide +kernel
theorem dX0_turnsThatHold_13 : decode cX0_turnsThatHold 13 = .ok (.ifCond .eq 18, 3) := by decide +kernel
theorem dX0_turnsThatHold_16 : decode cX0_turnsThatHold 16 = .ok (.aload_n 0, 1) := by decide +kernel
theorem dX0_turnsThatHold_17 : decode cX0_turnsThatHold 17 = .ok (.iload_n 2, 1) := by decide +kernel
theorem dX0_turnsThatHold_18 : decode cX0_turnsThatHold 18 = .ok (.iconst 1, 1) := by decide +kernel
theorem dX0_turnsThatHold_19 : decode cX0_turnsThatHold 19 = .ok (.iadd, 1) := by decide +kernel
theorem dX0_turnsThatHold_20 : decode cX0_turnsThatHold 20 = .ok (.iconst 4, 1) := by decide +kernel
theorem dX0_turnsThatHold_21 : decode cX0_turnsThatHold 21 = .ok (.irem, 1) := by decide +kernel
theorem dX0_turnsThatHold_22 : decode cX0_turnsThatHold 22 = .ok (.iload_n 1, 1) := by decide +kernel
theorem dX0_turnsThatHold_23 : decode cX0_turnsThatHold 23 = .ok (.invokevirtual 148, 3) := by decide +kernel
theorem dX0_turnsThatHold_26 : decode cX0_turnsThatHold 26 = .ok (.ifCond .eq 5, 3) := by decide +kernel
theorem dX0_turnsThatHold_29 : decode cX0_turnsThatHold 29 = .ok (.iload_n 2, 1) := by decide +kernel
theorem dX0_turnsThatHold_30 : decode cX0_turnsThatHold 30 = .ok (.ireturn, 1) := by decide +kernel
theorem dX0_turnsThatHold_31 : decode cX0_turnsThatHold 31 = .ok (.iinc 2 1, 3) := by decide +kernel
theorem dX0_turnsThatHold_34 : decode cX0_turnsThatHold 34 = .ok (.goto (-32), 3) := by decide +kernel
theorem dX0_turnsThatHold_37 : decode cX0_turnsThatHold 37 = .ok (.iconst (-1), 1) := by decide +kernel
theorem dX0_turnsThatHold_38 : decode cX0_turnsThatHold 38 = .ok (.ireturn, 1) := by decide +kernel
theorem dX0_inForceHad_0 : decode cX0_inForceHad 0 = .ok (.iload_n 1, 1) := by decide +kernel
theorem dX0_inForceHad_1 : decode cX0_inForceHad 1 = .ok (.lookupswitch 52 #[(0, 27), (1, 45)], 27) := by decide +kernel
theorem dX0_inForceHad_28 : decode cX0_inForceHad 28 = .ok (.aload_n 0, 1) := by decide +kernel
theorem dX0_inForceHad_29 : decode cX0_inForceHad 29 = .ok (.getfield 35, 3) := by decide +kernel
theorem dX0_inForceHad_32 : decode cX0_inForceHad 32 = .ok (.aload_n 0, 1) := by decide +kernel
theorem dX0_inForceHad_33 : decode cX0_inForceHad 33 = .ok (.getfield 23, 3) := by decide +kernel
theorem dX0_inForceHad_36 : decode cX0_inForceHad 36 = .ok (.iload_n 3, 1) := by decide +kernel
theorem dX0_inForceHad_37 : decode cX0_inForceHad 37 = .ok (.iaload, 1) := by decide +kernel
theorem dX0_inForceHad_38 : decode cX0_inForceHad 38 = .ok (.iconst 1, 1) := by decide +kernel
theorem dX0_inForceHad_39 : decode cX0_inForceHad 39 = .ok (.iload_n 2, 1) := by decide +kernel
theorem dX0_inForceHad_40 : decode cX0_inForceHad 40 = .ok (.ishl, 1) := by decide +kernel
theorem dX0_inForceHad_41 : decode cX0_inForceHad 41 = .ok (.iconst (-1), 1) := by decide +kernel
theorem dX0_inForceHad_42 : decode cX0_inForceHad 42 = .ok (.ixor, 1) := by decide +kernel
theorem dX0_inForceHad_43 : decode cX0_inForceHad 43 = .ok (.iand, 1) := by decide +kernel
theorem dX0_inForceHad_44 : decode cX0_inForceHad 44 = .ok (.iaload, 1) := by decide +kernel
theorem dX0_inForceHad_45 : decode cX0_inForceHad 45 = .ok (.ireturn, 1) := by decide +kernel
theorem dX0_inForceHad_46 : decode cX0_inForceHad 46 = .ok (.aload_n 0, 1) := by decide +kernel
theorem dX0_inForceHad_47 : decode cX0_inForceHad 47 = .ok (.iload_n 3, 1) := by decide +kernel
theorem dX0_inForceHad_48 : decode cX0_inForceHad 48 = .ok (.iload_n 2, 1) := by decide +kernel
theorem dX0_inForceHad_49 : decode cX0_inForceHad 49 = .ok (.invokevirtual 151, 3) := by decide +kernel
theorem dX0_inForceHad_52 : decode cX0_inForceHad 52 = .ok (.ireturn, 1) := by decide +kernel
theorem dX0_inForceHad_53 : decode cX0_inForceHad 53 = .ok (.aload_n 0, 1) := by decide +kernel
theorem dX0_inForceHad_54 : decode cX0_inForceHad 54 = .ok (.iload_n 3, 1) := by decide +kernel
theorem dX0_inForceHad_55 : decode cX0_inForceHad 55 = .ok (.iload_n 2, 1) := by decide +kernel
theorem dX0_inForceHad_56 : decode cX0_inForceHad 56 = .ok (.invokevirtual 154, 3) := by decide +kernel
theorem dX0_inForceHad_59 : decode cX0_inForceHad 59 = .ok (.ireturn, 1) := by decide +kernel
theorem dX0_inForceWithoutLeaf_0 : decode cX0_inForceWithoutLeaf 0 = .ok (.iconst 0, 1) := by decide +kernel
theorem dX0_inForceWithoutLeaf_1 : decode cX0_inForceWithoutLeaf 1 = .ok (.istore_n 3, 1) := by decide +kernel
theorem dX0_inForceWithoutLeaf_2 : decode cX0_inForceWithoutLeaf 2 = .ok (.iconst 0, 1) := by decide +kernel
theorem dX0_inForceWithoutLeaf_3 : decode cX0_inForceWithoutLeaf 3 = .ok (.istore 4, 2) := by decide +kernel
theorem dX0_inForceWithoutLeaf_5 : decode cX0_inForceWithoutLeaf 5 = .ok (.iload 4, 2) := by decide +kernel
theorem dX0_inForceWithoutLeaf_7 : decode cX0_inForceWithoutLeaf 7 = .ok (.aload_n 0, 1) := by decide +kernel
theorem dX0_inForceWithoutLeaf_8 : decode cX0_inForceWithoutLeaf 8 = .ok (.getfield 52, 3) := by decide +kernel
theorem dX0_inForceWithoutLeaf_11 : decode cX0_inForceWithoutLeaf 11 = .ok (.getfield 76, 3) := by decide +kernel
theorem dX0_inForceWithoutLeaf_14 : decode cX0_inForceWithoutLeaf 14 = .ok (.if_icmp .ge 63, 3) := by decide +kernel
theorem dX0_inForceWithoutLeaf_17 : decode cX0_inForceWithoutLeaf 17 = .ok (.iload 4, 2) := by decide +kernel
theorem dX0_inForceWithoutLeaf_19 : decode cX0_inForceWithoutLeaf 19 = .ok (.iconst 1, 1) := by decide +kernel
theorem dX0_inForceWithoutLeaf_20 : decode cX0_inForceWithoutLeaf 20 = .ok (.iadd, 1) := by decide +kernel
theorem dX0_inForceWithoutLeaf_21 : decode cX0_inForceWithoutLeaf 21 = .ok (.istore 5, 2) := by decide +kernel
theorem dX0_inForceWithoutLeaf_23 : decode cX0_inForceWithoutLeaf 23 = .ok (.iload 5, 2) := by decide +kernel
theorem dX0_inForceWithoutLeaf_25 : decode cX0_inForceWithoutLeaf 25 = .ok (.aload_n 0, 1) := by decide +kernel
theorem dX0_inForceWithoutLeaf_26 : decode cX0_inForceWithoutLeaf 26 = .ok (.getfield 52, 3) := by decide +kernel
theorem dX0_inForceWithoutLeaf_29 : decode cX0_inForceWithoutLeaf 29 = .ok (.getfield 76, 3) := by decide +kernel
theorem dX0_inForceWithoutLeaf_32 : decode cX0_inForceWithoutLeaf 32 = .ok (.if_icmp .ge 39, 3) := by decide +kernel
theorem dX0_inForceWithoutLeaf_35 : decode cX0_inForceWithoutLeaf 35 = .ok (.iload 4, 2) := by decide +kernel
theorem dX0_inForceWithoutLeaf_37 : decode cX0_inForceWithoutLeaf 37 = .ok (.iload_n 2, 1) := by decide +kernel
theorem dX0_inForceWithoutLeaf_38 : decode cX0_inForceWithoutLeaf 38 = .ok (.if_icmp .eq 27, 3) := by decide +kernel
theorem dX0_inForceWithoutLeaf_41 : decode cX0_inForceWithoutLeaf 41 = .ok (.iload 5, 2) := by decide +kernel
theorem dX0_inForceWithoutLeaf_43 : decode cX0_inForceWithoutLeaf 43 = .ok (.iload_n 2, 1) := by decide +kernel
theorem dX0_inForceWithoutLeaf_44 : decode cX0_inForceWithoutLeaf 44 = .ok (.if_icmp .eq 21, 3) := by decide +kernel
theorem dX0_inForceWithoutLeaf_47 : decode cX0_inForceWithoutLeaf 47 = .ok (.iload_n 3, 1) := by decide +kernel
theorem dX0_inForceWithoutLeaf_48 : decode cX0_inForceWithoutLeaf 48 = .ok (.aload_n 0, 1) := by decide +kernel
theorem dX0_inForceWithoutLeaf_49 : decode cX0_inForceWithoutLeaf 49 = .ok (.getfield 29, 3) := by decide +kernel
theorem dX0_inForceWithoutLeaf_52 : decode cX0_inForceWithoutLeaf 52 = .ok (.iload_n 1, 1) := by decide +kernel
theorem dX0_inForceWithoutLeaf_53 : decode cX0_inForceWithoutLeaf 53 = .ok (.aaload, 1) := by decide +kernel
theorem dX0_inForceWithoutLeaf_54 : decode cX0_inForceWithoutLeaf 54 = .ok (.iload 4, 2) := by decide +kernel
theorem dX0_inForceWithoutLeaf_56 : decode cX0_inForceWithoutLeaf 56 = .ok (.bipush 12, 2) := by decide +kernel
theorem dX0_inForceWithoutLeaf_58 : decode cX0_inForceWithoutLeaf 58 = .ok (.imul, 1) := by decide +kernel
theorem dX0_inForceWithoutLeaf_59 : decode cX0_inForceWithoutLeaf 59 = .ok (.iload 5, 2) := by decide +kernel
theorem dX0_inForceWithoutLeaf_61 : decode cX0_inForceWithoutLeaf 61 = .ok (.iadd, 1) := by decide +kernel
theorem dX0_inForceWithoutLeaf_62 : decode cX0_inForceWithoutLeaf 62 = .ok (.iaload, 1) := by decide +kernel
theorem dX0_inForceWithoutLeaf_63 : decode cX0_inForceWithoutLeaf 63 = .ok (.ior, 1) := by decide +kernel
theorem dX0_inForceWithoutLeaf_64 : decode cX0_inForceWithoutLeaf 64 = .ok (.istore_n 3, 1) := by decide +kernel
theorem dX0_inForceWithoutLeaf_65 : decode cX0_inForceWithoutLeaf 65 = .ok (.iinc 5 1, 3) := by decide +kernel
theorem dX0_inForceWithoutLeaf_68 : decode cX0_inForceWithoutLeaf 68 = .ok (.goto (-45), 3) := by decide +kernel
theorem dX0_inForceWithoutLeaf_71 : decode cX0_inForceWithoutLeaf 71 = .ok (.iinc 4 1, 3) := by decide +kernel
theorem dX0_inForceWithoutLeaf_74 : decode cX0_inForceWithoutLeaf 74 = .ok (.goto (-69), 3) := by decide +kernel
theorem dX0_inForceWithoutLeaf_77 : decode cX0_inForceWithoutLeaf 77 = .ok (.aload_n 0, 1) := by decide +kernel
theorem dX0_inForceWithoutLeaf_78 : decode cX0_inForceWithoutLeaf 78 = .ok (.getfield 35, 3) := by decide +kernel
theorem dX0_inForceWithoutLeaf_81 : decode cX0_inForceWithoutLeaf 81 = .ok (.iload_n 3, 1) := by decide +kernel
theorem dX0_inForceWithoutLeaf_82 : decode cX0_inForceWithoutLeaf 82 = .ok (.iaload, 1) := by decide +kernel
theorem dX0_inForceWithoutLeaf_83 : decode cX0_inForceWithoutLeaf 83 = .ok (.ireturn, 1) := by decide +kernel
theorem dX0_inForceWithTurnedRule_0 : decode cX0_inForceWithTurnedRule 0 = .ok (.aload_n 0, 1) := by decide +kernel
theorem dX0_inForceWithTurnedRule_1 : decode cX0_inForceWithTurnedRule 1 = .ok (.iload_n 1, 1) := by decide +kernel
theorem dX0_inForceWithTurnedRule_2 : decode cX0_inForceWithTurnedRule 2 = .ok (.iload_n 2, 1) := by decide +kernel
theorem dX0_inForceWithTurnedRule_3 : decode cX0_inForceWithTurnedRule 3 = .ok (.invokevirtual 120, 3) := by decide +kernel
theorem dX0_inForceWithTurnedRule_6 : decode cX0_inForceWithTurnedRule 6 = .ok (.ifCond .ne 10, 3) := by decide +kernel
theorem dX0_inForceWithTurnedRule_9 : decode cX0_inForceWithTurnedRule 9 = .ok (.aload_n 0, 1) := by decide +kernel
theorem dX0_inForceWithTurnedRule_10 : decode cX0_inForceWithTurnedRule 10 = .ok (.getfield 26, 3) := by decide +kernel
theorem dX0_inForceWithTurnedRule_13 : decode cX0_inForceWithTurnedRule 13 = .ok (.iload_n 1, 1) := by decide +kernel
theorem dX0_inForceWithTurnedRule_14 : decode cX0_inForceWithTurnedRule 14 = .ok (.iaload, 1) := by decide +kernel
theorem dX0_inForceWithTurnedRule_15 : decode cX0_inForceWithTurnedRule 15 = .ok (.ireturn, 1) := by decide +kernel
theorem dX0_inForceWithTurnedRule_16 : decode cX0_inForceWithTurnedRule 16 = .ok (.iload_n 2, 1) := by decide +kernel
theorem dX0_inForceWithTurnedRule_17 : decode cX0_inForceWithTurnedRule 17 = .ok (.iconst 1, 1) := by decide +kernel
theorem dX0_inForceWithTurnedRule_18 : decode cX0_inForceWithTurnedRule 18 = .ok (.iadd, 1) := by decide +kernel
theorem dX0_inForceWithTurnedRule_19 : decode cX0_inForceWithTurnedRule 19 = .ok (.istore_n 3, 1) := by decide +kernel
theorem dX0_inForceWithTurnedRule_20 : decode cX0_inForceWithTurnedRule 20 = .ok (.iload_n 3, 1) := by decide +kernel
theorem dX0_inForceWithTurnedRule_21 : decode cX0_inForceWithTurnedRule 21 = .ok (.aload_n 0, 1) := by decide +kernel
theorem dX0_inForceWithTurnedRule_22 : decode cX0_inForceWithTurnedRule 22 = .ok (.getfield 56, 3) := by decide +kernel
theorem dX0_inForceWithTurnedRule_25 : decode cX0_inForceWithTurnedRule 25 = .ok (.getfield 76, 3) := by decide +kernel
theorem dX0_inForceWithTurnedRule_28 : decode cX0_inForceWithTurnedRule 28 = .ok (.if_icmp .ge 35, 3) := by decide +kernel
theorem dX0_inForceWithTurnedRule_31 : decode cX0_inForceWithTurnedRule 31 = .ok (.aload_n 0, 1) := by decide +kernel
theorem dX0_inForceWithTurnedRule_32 : decode cX0_inForceWithTurnedRule 32 = .ok (.iload_n 1, 1) := by decide +kernel
theorem dX0_inForceWithTurnedRule_33 : decode cX0_inForceWithTurnedRule 33 = .ok (.iload_n 3, 1) := by decide +kernel
theorem dX0_inForceWithTurnedRule_34 : decode cX0_inForceWithTurnedRule 34 = .ok (.invokevirtual 120, 3) := by decide +kernel
theorem dX0_inForceWithTurnedRule_37 : decode cX0_inForceWithTurnedRule 37 = .ok (.ifCond .eq 20, 3) := by decide +kernel
theorem dX0_inForceWithTurnedRule_40 : decode cX0_inForceWithTurnedRule 40 = .ok (.aload_n 0, 1) := by decide +kernel
theorem dX0_inForceWithTurnedRule_41 : decode cX0_inForceWithTurnedRule 41 = .ok (.iload_n 2, 1) := by decide +kernel
theorem dX0_inForceWithTurnedRule_42 : decode cX0_inForceWithTurnedRule 42 = .ok (.iload_n 3, 1) := by decide +kernel
theorem dX0_inForceWithTurnedRule_43 : decode cX0_inForceWithTurnedRule 43 = .ok (.iconst 4, 1) := by decide +kernel
theorem dX0_inForceWithTurnedRule_44 : decode cX0_inForceWithTurnedRule 44 = .ok (.invokevirtual 126, 3) := by decide +kernel
theorem dX0_inForceWithTurnedRule_47 : decode cX0_inForceWithTurnedRule 47 = .ok (.ifCond .eq 10, 3) := by decide +kernel
theorem dX0_inForceWithTurnedRule_50 : decode cX0_inForceWithTurnedRule 50 = .ok (.aload_n 0, 1) := by decide +kernel
theorem dX0_inForceWithTurnedRule_51 : decode cX0_inForceWithTurnedRule 51 = .ok (.getfield 26, 3) := by decide +kernel
theorem dX0_inForceWithTurnedRule_54 : decode cX0_inForceWithTurnedRule 54 = .ok (.iload_n 1, 1) := by decide +kernel
theorem dX0_inForceWithTurnedRule_55 : decode cX0_inForceWithTurnedRule 55 = .ok (.iaload, 1) := by decide +kernel
theorem dX0_inForceWithTurnedRule_56 : decode cX0_inForceWithTurnedRule 56 = .ok (.ireturn, 1) := by decide +kernel
theorem dX0_inForceWithTurnedRule_57 : decode cX0_inForceWithTurnedRule 57 = .ok (.iinc 3 1, 3) := by decide +kernel
theorem dX0_inForceWithTurnedRule_60 : decode cX0_inForceWithTurnedRule 60 = .ok (.goto (-40), 3) := by decide +kernel
theorem dX0_inForceWithTurnedRule_63 : decode cX0_inForceWithTurnedRule 63 = .ok (.aload_n 0, 1) := by decide +kernel
theorem dX0_inForceWithTurnedRule_64 : decode cX0_inForceWithTurnedRule 64 = .ok (.getfield 26, 3) := by decide +kernel
theorem dX0_inForceWithTurnedRule_67 : decode cX0_inForceWithTurnedRule 67 = .ok (.iload_n 1, 1) := by decide +kernel
theorem dX0_inForceWithTurnedRule_68 : decode cX0_inForceWithTurnedRule 68 = .ok (.iaload, 1) := by decide +kernel
theorem dX0_inForceWithTurnedRule_69 : decode cX0_inForceWithTurnedRule 69 = .ok (.iconst 1, 1) := by decide +kernel
theorem dX0_inForceWithTurnedRule_70 : decode cX0_inForceWithTurnedRule 70 = .ok (.aload_n 0, 1) := by decide +kernel
theorem dX0_inForceWithTurnedRule_71 : decode cX0_inForceWithTurnedRule 71 = .ok (.getfield 56, 3) := by decide +kernel
theorem dX0_inForceWithTurnedRule_74 : decode cX0_inForceWithTurnedRule 74 = .ok (.iload_n 2, 1) := by decide +kernel
theorem dX0_inForceWithTurnedRule_75 : decode cX0_inForceWithTurnedRule 75 = .ok (.iconst 4, 1) := by decide +kernel
theorem dX0_inForceWithTurnedRule_76 : decode cX0_inForceWithTurnedRule 76 = .ok (.invokevirtual 81, 3) := by decide +kernel
theorem dX0_inForceWithTurnedRule_79 : decode cX0_inForceWithTurnedRule 79 = .ok (.ishl, 1) := by decide +kernel
theorem dX0_inForceWithTurnedRule_80 : decode cX0_inForceWithTurnedRule 80 = .ok (.ixor, 1) := by decide +kernel
theorem dX0_inForceWithTurnedRule_81 : decode cX0_inForceWithTurnedRule 81 = .ok (.ireturn, 1) := by decide +kernel
theorem dX0_chanceAbove_0 : decode cX0_chanceAbove 0 = .ok (.aload_n 0, 1) := by decide +kernel
theorem dX0_chanceAbove_1 : decode cX0_chanceAbove 1 = .ok (.iload_n 2, 1) := by decide +kernel
theorem dX0_chanceAbove_2 : decode cX0_chanceAbove 2 = .ok (.iload_n 3, 1) := by decide +kernel
theorem dX0_chanceAbove_3 : decode cX0_chanceAbove 3 = .ok (.invokevirtual 157, 3) := by decide +kernel
theorem dX0_chanceAbove_6 : decode cX0_chanceAbove 6 = .ok (.lconst 0, 1) := by decide +kernel
theorem dX0_chanceAbove_7 : decode cX0_chanceAbove 7 = .ok (.lstore 4, 2) := by decide +kernel
theorem dX0_chanceAbove_9 : decode cX0_chanceAbove 9 = .ok (.iconst 0, 1) := by decide +kernel
theorem dX0_chanceAbove_10 : decode cX0_chanceAbove 10 = .ok (.istore 6, 2) := by decide +kernel
theorem dX0_chanceAbove_12 : decode cX0_chanceAbove 12 = .ok (.iload 6, 2) := by decide +kernel
theorem dX0_chanceAbove_14 : decode cX0_chanceAbove 14 = .ok (.aload_n 0, 1) := by decide +kernel
theorem dX0_chanceAbove_15 : decode cX0_chanceAbove 15 = .ok (.getfield 52, 3) := by decide +kernel
theorem dX0_chanceAbove_18 : decode cX0_chanceAbove 18 = .ok (.getfield 76, 3) := by decide +kernel
theorem dX0_chanceAbove_21 : decode cX0_chanceAbove 21 = .ok (.if_icmp .gt 49, 3) := by decide +kernel
theorem dX0_chanceAbove_24 : decode cX0_chanceAbove 24 = .ok (.lload 4, 2) := by decide +kernel
theorem dX0_chanceAbove_26 : decode cX0_chanceAbove 26 = .ok (.aload_n 0, 1) := by decide +kernel
theorem dX0_chanceAbove_27 : decode cX0_chanceAbove 27 = .ok (.getfield 45, 3) := by decide +kernel
theorem dX0_chanceAbove_30 : decode cX0_chanceAbove 30 = .ok (.iload 6, 2) := by decide +kernel
theorem dX0_chanceAbove_32 : decode cX0_chanceAbove 32 = .ok (.iaload, 1) := by decide +kernel
theorem dX0_chanceAbove_33 : decode cX0_chanceAbove 33 = .ok (.i2l, 1) := by decide +kernel
theorem dX0_chanceAbove_34 : decode cX0_chanceAbove 34 = .ok (.bipush 16, 2) := by decide +kernel
theorem dX0_chanceAbove_36 : decode cX0_chanceAbove 36 = .ok (.iload_n 1, 1) := by decide +kernel
theorem dX0_chanceAbove_37 : decode cX0_chanceAbove 37 = .ok (.isub, 1) := by decide +kernel
theorem dX0_chanceAbove_38 : decode cX0_chanceAbove 38 = .ok (.i2l, 1) := by decide +kernel
theorem dX0_chanceAbove_39 : decode cX0_chanceAbove 39 = .ok (.iload 6, 2) := by decide +kernel
theorem dX0_chanceAbove_41 : decode cX0_chanceAbove 41 = .ok (.invokestatic 161, 3) := by decide +kernel
theorem dX0_chanceAbove_44 : decode cX0_chanceAbove 44 = .ok (.lmul, 1) := by decide +kernel
theorem dX0_chanceAbove_45 : decode cX0_chanceAbove 45 = .ok (.iload_n 1, 1) := by decide +kernel
theorem dX0_chanceAbove_46 : decode cX0_chanceAbove 46 = .ok (.i2l, 1) := by decide +kernel
theorem dX0_chanceAbove_47 : decode cX0_chanceAbove 47 = .ok (.aload_n 0, 1) := by decide +kernel
theorem dX0_chanceAbove_48 : decode cX0_chanceAbove 48 = .ok (.getfield 52, 3) := by decide +kernel
theorem dX0_chanceAbove_51 : decode cX0_chanceAbove 51 = .ok (.getfield 76, 3) := by decide +kernel
theorem dX0_chanceAbove_54 : decode cX0_chanceAbove 54 = .ok (.iload 6, 2) := by decide +kernel
theorem dX0_chanceAbove_56 : decode cX0_chanceAbove 56 = .ok (.isub, 1) := by decide +kernel
theorem dX0_chanceAbove_57 : decode cX0_chanceAbove 57 = .ok (.invokestatic 161, 3) := by decide +kernel
theorem dX0_chanceAbove_60 : decode cX0_chanceAbove 60 = .ok (.lmul, 1) := by decide +kernel
theorem dX0_chanceAbove_61 : decode cX0_chanceAbove 61 = .ok (.ladd, 1) := by decide +kernel
theorem dX0_chanceAbove_62 : decode cX0_chanceAbove 62 = .ok (.lstore 4, 2) := by decide +kernel
theorem dX0_chanceAbove_64 : decode cX0_chanceAbove 64 = .ok (.iinc 6 1, 3) := by decide +kernel
theorem dX0_chanceAbove_67 : decode cX0_chanceAbove 67 = .ok (.goto (-55), 3) := by decide +kernel
theorem dX0_chanceAbove_70 : decode cX0_chanceAbove 70 = .ok (.lload 4, 2) := by decide +kernel
theorem dX0_chanceAbove_72 : decode cX0_chanceAbove 72 = .ok (.lreturn, 1) := by decide +kernel
theorem dX0_countChoices_0 : decode cX0_countChoices 0 = .ok (.aload_n 0, 1) := by decide +kernel
theorem dX0_countChoices_1 : decode cX0_countChoices 1 = .ok (.iload_n 1, 1) := by decide +kernel
theorem dX0_countChoices_2 : decode cX0_countChoices 2 = .ok (.invokevirtual 138, 3) := by decide +kernel
theorem dX0_countChoices_5 : decode cX0_countChoices 5 = .ok (.iconst 0, 1) := by decide +kernel
theorem dX0_countChoices_6 : decode cX0_countChoices 6 = .ok (.istore_n 3, 1) := by decide +kernel
theorem dX0_countChoices_7 : decode cX0_countChoices 7 = .ok (.iload_n 3, 1) := by decide +kernel
theorem dX0_countChoices_8 : decode cX0_countChoices 8 = .ok (.bipush 12, 2) := by decide +kernel
theorem dX0_countChoices_10 : decode cX0_countChoices 10 = .ok (.if_icmp .gt 16, 3) := by decide +kernel
theorem dX0_countChoices_13 : decode cX0_countChoices 13 = .ok (.aload_n 0, 1) := by decide +kernel
theorem dX0_countChoices_14 : decode cX0_countChoices 14 = .ok (.getfield 45, 3) := by decide +kernel
theorem dX0_countChoices_17 : decode cX0_countChoices 17 = .ok (.iload_n 3, 1) := by decide +kernel
theorem dX0_countChoices_18 : decode cX0_countChoices 18 = .ok (.iconst 0, 1) := by decide +kernel
theorem dX0_countChoices_19 : decode cX0_countChoices 19 = .ok (.iastore, 1) := by decide +kernel
theorem dX0_countChoices_20 : decode cX0_countChoices 20 = .ok (.iinc 3 1, 3) := by decide +kernel
theorem dX0_countChoices_23 : decode cX0_countChoices 23 = .ok (.goto (-16), 3) := by decide +kernel
theorem dX0_countChoices_26 : decode cX0_countChoices 26 = .ok (.iconst 1, 1) := by decide +kernel
theorem dX0_countChoices_27 : decode cX0_countChoices 27 = .ok (.aload_n 0, 1) := by decide +kernel
theorem dX0_countChoices_28 : decode cX0_countChoices 28 = .ok (.getfield 52, 3) := by decide +kernel
theorem dX0_countChoices_31 : decode cX0_countChoices 31 = .ok (.getfield 76, 3) := by decide +kernel
theorem dX0_countChoices_34 : decode cX0_countChoices 34 = .ok (.ishl, 1) := by decide +kernel
theorem dX0_countChoices_35 : decode cX0_countChoices 35 = .ok (.istore_n 3, 1) := by decide +kernel
theorem dX0_countChoices_36 : decode cX0_countChoices 36 = .ok (.iconst 0, 1) := by decide +kernel
theorem dX0_countChoices_37 : decode cX0_countChoices 37 = .ok (.istore 4, 2) := by decide +kernel
theorem dX0_countChoices_39 : decode cX0_countChoices 39 = .ok (.iload 4, 2) := by decide +kernel
theorem dX0_countChoices_41 : decode cX0_countChoices 41 = .ok (.iload_n 3, 1) := by decide +kernel
theorem dX0_countChoices_42 : decode cX0_countChoices 42 = .ok (.if_icmp .ge 38, 3) := by decide +kernel
theorem dX0_countChoices_45 : decode cX0_countChoices 45 = .ok (.aload_n 0, 1) := by decide +kernel
theorem dX0_countChoices_46 : decode cX0_countChoices 46 = .ok (.getfield 45, 3) := by decide +kernel
theorem dX0_countChoices_49 : decode cX0_countChoices 49 = .ok (.iload 4, 2) := by decide +kernel
theorem dX0_countChoices_51 : decode cX0_countChoices 51 = .ok (.invokestatic 141, 3) := by decide +kernel
theorem dX0_countChoices_54 : decode cX0_countChoices 54 = .ok (.dup2, 1) := by decide +kernel
theorem dX0_countChoices_55 : decode cX0_countChoices 55 = .ok (.iaload, 1) := by decide +kernel
theorem dX0_countChoices_56 : decode cX0_countChoices 56 = .ok (.aload_n 0, 1) := by decide +kernel
theorem dX0_countChoices_57 : decode cX0_countChoices 57 = .ok (.getfield 35, 3) := by decide +kernel
theorem dX0_countChoices_60 : decode cX0_countChoices 60 = .ok (.aload_n 0, 1) := by decide +kernel
theorem dX0_countChoices_61 : decode cX0_countChoices 61 = .ok (.getfield 38, 3) := by decide +kernel
theorem dX0_countChoices_64 : decode cX0_countChoices 64 = .ok (.iload 4, 2) := by decide +kernel
theorem dX0_countChoices_66 : decode cX0_countChoices 66 = .ok (.iaload, 1) := by decide +kernel
theorem dX0_countChoices_67 : decode cX0_countChoices 67 = .ok (.iaload, 1) := by decide +kernel
theorem dX0_countChoices_68 : decode cX0_countChoices 68 = .ok (.iload_n 2, 1) := by decide +kernel
theorem dX0_countChoices_69 : decode cX0_countChoices 69 = .ok (.ishr, 1) := by decide +kernel
theorem dX0_countChoices_70 : decode cX0_countChoices 70 = .ok (.iconst 1, 1) := by decide +kernel
theorem dX0_countChoices_71 : decode cX0_countChoices 71 = .ok (.iand, 1) := by decide +kernel
theorem dX0_countChoices_72 : decode cX0_countChoices 72 = .ok (.iadd, 1) := by decide +kernel
theorem dX0_countChoices_73 : decode cX0_countChoices 73 = .ok (.iastore, 1) := by decide +kernel
theorem dX0_countChoices_74 : decode cX0_countChoices 74 = .ok (.iinc 4 1, 3) := by decide +kernel
theorem dX0_countChoices_77 : decode cX0_countChoices 77 = .ok (.goto (-38), 3) := by decide +kernel
theorem dX0_countChoices_80 : decode cX0_countChoices 80 = .ok (.return_, 1) := by decide +kernel
theorem dX0_power_0 : decode cX0_power 0 = .ok (.lconst 1, 1) := by decide +kernel
theorem dX0_power_1 : decode cX0_power 1 = .ok (.lstore_n 3, 1) := by decide +kernel
theorem dX0_power_2 : decode cX0_power 2 = .ok (.iconst 0, 1) := by decide +kernel
theorem dX0_power_3 : decode cX0_power 3 = .ok (.istore 5, 2) := by decide +kernel
theorem dX0_power_5 : decode cX0_power 5 = .ok (.iload 5, 2) := by decide +kernel
theorem dX0_power_7 : decode cX0_power 7 = .ok (.iload_n 2, 1) := by decide +kernel
theorem dX0_power_8 : decode cX0_power 8 = .ok (.if_icmp .ge 13, 3) := by decide +kernel
theorem dX0_power_11 : decode cX0_power 11 = .ok (.lload_n 3, 1) := by decide +kernel
theorem dX0_power_12 : decode cX0_power 12 = .ok (.lload_n 0, 1) := by decide +kernel
theorem dX0_power_13 : decode cX0_power 13 = .ok (.lmul, 1) := by decide +kernel
theorem dX0_power_14 : decode cX0_power 14 = .ok (.lstore_n 3, 1) := by decide +kernel
theorem dX0_power_15 : decode cX0_power 15 = .ok (.iinc 5 1, 3) := by decide +kernel
theorem dX0_power_18 : decode cX0_power 18 = .ok (.goto (-13), 3) := by decide +kernel
theorem dX0_power_21 : decode cX0_power 21 = .ok (.lload_n 3, 1) := by decide +kernel
theorem dX0_power_22 : decode cX0_power 22 = .ok (.lreturn, 1) := by decide +kernel
theorem dX1_init_0 : decode cX1_init 0 = .ok (.aload_n 0, 1) := by decide +kernel
theorem dX1_init_1 : decode cX1_init 1 = .ok (.invokespecial 3, 3) := by decide +kernel
theorem dX1_init_4 : decode cX1_init 4 = .ok (.aload_n 0, 1) := by decide +kernel
theorem dX1_init_5 : decode cX1_init 5 = .ok (.iconst 0, 1) := by decide +kernel
theorem dX1_init_6 : decode cX1_init 6 = .ok (.putfield 9, 3) := by decide +kernel
theorem dX1_init_9 : decode cX1_init 9 = .ok (.aload_n 0, 1) := by decide +kernel
theorem dX1_init_10 : decode cX1_init 10 = .ok (.iload_n 1, 1) := by decide +kernel
theorem dX1_init_11 : decode cX1_init 11 = .ok (.newarray .int, 2) := by decide +kernel
theorem dX1_init_13 : decode cX1_init 13 = .ok (.putfield 15, 3) := by decide +kernel
theorem dX1_init_16 : decode cX1_init 16 = .ok (.aload_n 0, 1) := by decide +kernel
theorem dX1_init_17 : decode cX1_init 17 = .ok (.iload_n 1, 1) := by decide +kernel
theorem dX1_init_18 : decode cX1_init 18 = .ok (.newarray .int, 2) := by decide +kernel
theorem dX1_init_20 : decode cX1_init 20 = .ok (.putfield 19, 3) := by decide +kernel
theorem dX1_init_23 : decode cX1_init 23 = .ok (.return_, 1) := by decide +kernel
theorem dX1_append_0 : decode cX1_append 0 = .ok (.aload_n 0, 1) := by decide +kernel
theorem dX1_append_1 : decode cX1_append 1 = .ok (.getfield 9, 3) := by decide +kernel
theorem dX1_append_4 : decode cX1_append 4 = .ok (.aload_n 0, 1) := by decide +kernel
theorem dX1_append_5 : decode cX1_append 5 = .ok (.getfield 15, 3) := by decide +kernel
theorem dX1_append_8 : decode cX1_append 8 = .ok (.arraylength, 1) := by decide +kernel
theorem dX1_append_9 : decode cX1_append 9 = .ok (.if_icmp .lt 6, 3) := by decide +kernel
theorem dX1_append_12 : decode cX1_append 12 = .ok (.bipush (-4), 2) := by decide +kernel
theorem dX1_append_14 : decode cX1_append 14 = .ok (.ireturn, 1) := by decide +kernel
theorem dX1_append_15 : decode cX1_append 15 = .ok (.aload_n 0, 1) := by decide +kernel
theorem dX1_append_16 : decode cX1_append 16 = .ok (.getfield 15, 3) := by decide +kernel
theorem dX1_append_19 : decode cX1_append 19 = .ok (.aload_n 0, 1) := by decide +kernel
theorem dX1_append_20 : decode cX1_append 20 = .ok (.getfield 9, 3) := by decide +kernel
theorem dX1_append_23 : decode cX1_append 23 = .ok (.iload_n 1, 1) := by decide +kernel
theorem dX1_append_24 : decode cX1_append 24 = .ok (.iastore, 1) := by decide +kernel
theorem dX1_append_25 : decode cX1_append 25 = .ok (.aload_n 0, 1) := by decide +kernel
theorem dX1_append_26 : decode cX1_append 26 = .ok (.getfield 19, 3) := by decide +kernel
theorem dX1_append_29 : decode cX1_append 29 = .ok (.aload_n 0, 1) := by decide +kernel
theorem dX1_append_30 : decode cX1_append 30 = .ok (.getfield 9, 3) := by decide +kernel
theorem dX1_append_33 : decode cX1_append 33 = .ok (.iload_n 2, 1) := by decide +kernel
theorem dX1_append_34 : decode cX1_append 34 = .ok (.iastore, 1) := by decide +kernel
theorem dX1_append_35 : decode cX1_append 35 = .ok (.aload_n 0, 1) := by decide +kernel
theorem dX1_append_36 : decode cX1_append 36 = .ok (.dup, 1) := by decide +kernel
theorem dX1_append_37 : decode cX1_append 37 = .ok (.getfield 9, 3) := by decide +kernel
theorem dX1_append_40 : decode cX1_append 40 = .ok (.iconst 1, 1) := by decide +kernel
theorem dX1_append_41 : decode cX1_append 41 = .ok (.iadd, 1) := by decide +kernel
theorem dX1_append_42 : decode cX1_append 42 = .ok (.putfield 9, 3) := by decide +kernel
theorem dX1_append_45 : decode cX1_append 45 = .ok (.aload_n 0, 1) := by decide +kernel
theorem dX1_append_46 : decode cX1_append 46 = .ok (.getfield 9, 3) := by decide +kernel
theorem dX1_append_49 : decode cX1_append 49 = .ok (.ireturn, 1) := by decide +kernel
theorem dX1_dropLast_0 : decode cX1_dropLast 0 = .ok (.aload_n 0, 1) := by decide +kernel
theorem dX1_dropLast_1 : decode cX1_dropLast 1 = .ok (.getfield 9, 3) := by decide +kernel
theorem dX1_dropLast_4 : decode cX1_dropLast 4 = .ok (.ifCond .ne 6, 3) := by decide +kernel
theorem dX1_dropLast_7 : decode cX1_dropLast 7 = .ok (.bipush (-3), 2) := by decide +kernel
theorem dX1_dropLast_9 : decode cX1_dropLast 9 = .ok (.ireturn, 1) := by decide +kernel
theorem dX1_dropLast_10 : decode cX1_dropLast 10 = .ok (.aload_n 0, 1) := by decide +kernel
theorem dX1_dropLast_11 : decode cX1_dropLast 11 = .ok (.dup, 1) := by decide +kernel
theorem dX1_dropLast_12 : decode cX1_dropLast 12 = .ok (.getfield 9, 3) := by decide +kernel
theorem dX1_dropLast_15 : decode cX1_dropLast 15 = .ok (.iconst 1, 1) := by decide +kernel
theorem dX1_dropLast_16 : decode cX1_dropLast 16 = .ok (.isub, 1) := by decide +kernel
theorem dX1_dropLast_17 : decode cX1_dropLast 17 = .ok (.putfield 9, 3) := by decide +kernel
theorem dX1_dropLast_20 : decode cX1_dropLast 20 = .ok (.aload_n 0, 1) := by decide +kernel
theorem dX1_dropLast_21 : decode cX1_dropLast 21 = .ok (.getfield 9, 3) := by decide +kernel
theorem dX1_dropLast_24 : decode cX1_dropLast 24 = .ok (.ireturn, 1) := by decide +kernel
theorem dX1_empty_0 : decode cX1_empty 0 = .ok (.aload_n 0, 1) := by decide +kernel
theorem dX1_empty_1 : decode cX1_empty 1 = .ok (.getfield 9, 3) := by decide +kernel
theorem dX1_empty_4 : decode cX1_empty 4 = .ok (.istore_n 1, 1) := by decide +kernel
theorem dX1_empty_5 : decode cX1_empty 5 = .ok (.aload_n 0, 1) := by decide +kernel
theorem dX1_empty_6 : decode cX1_empty 6 = .ok (.iconst 0, 1) := by decide +kernel
theorem dX1_empty_7 : decode cX1_empty 7 = .ok (.putfield 9, 3) := by decide +kernel
theorem dX1_empty_10 : decode cX1_empty 10 = .ok (.iload_n 1, 1) := by decide +kernel
theorem dX1_empty_11 : decode cX1_empty 11 = .ok (.ireturn, 1) := by decide +kernel
theorem dX2_init_0 : decode cX2_init 0 = .ok (.aload_n 0, 1) := by decide +kernel
theorem dX2_init_1 : decode cX2_init 1 = .ok (.invokespecial 3, 3) := by decide +kernel
theorem dX2_init_4 : decode cX2_init 4 = .ok (.aload_n 0, 1) := by decide +kernel
theorem dX2_init_5 : decode cX2_init 5 = .ok (.bipush 60, 2) := by decide +kernel
theorem dX2_init_7 : decode cX2_init 7 = .ok (.newarray .int, 2) := by decide +kernel
theorem dX2_init_9 : decode cX2_init 9 = .ok (.putfield 9, 3) := by decide +kernel
theorem dX2_init_12 : decode cX2_init 12 = .ok (.aload_n 0, 1) := by decide +kernel
theorem dX2_init_13 : decode cX2_init 13 = .ok (.iconst (-1), 1) := by decide +kernel
theorem dX2_init_14 : decode cX2_init 14 = .ok (.putfield 15, 3) := by decide +kernel
theorem dX2_init_17 : decode cX2_init 17 = .ok (.aload_n 0, 1) := by decide +kernel
theorem dX2_init_18 : decode cX2_init 18 = .ok (.iconst 0, 1) := by decide +kernel
theorem dX2_init_19 : decode cX2_init 19 = .ok (.putfield 19, 3) := by decide +kernel
theorem dX2_init_22 : decode cX2_init 22 = .ok (.return_, 1) := by decide +kernel
theorem dX2_isLost_0 : decode cX2_isLost 0 = .ok (.aload_n 0, 1) := by decide +kernel
theorem dX2_isLost_1 : decode cX2_isLost 1 = .ok (.getfield 15, 3) := by decide +kernel
theorem dX2_isLost_4 : decode cX2_isLost 4 = .ok (.iconst (-1), 1) := by decide +kernel
theorem dX2_isLost_5 : decode cX2_isLost 5 = .ok (.if_icmp .ne 7, 3) := by decide +kernel
theorem dX2_isLost_8 : decode cX2_isLost 8 = .ok (.iconst 1, 1) := by decide +kernel
theorem dX2_isLost_9 : decode cX2_isLost 9 = .ok (.goto 4, 3) := by decide +kernel
theorem dX2_isLost_12 : decode cX2_isLost 12 = .ok (.iconst 0, 1) := by decide +kernel
theorem dX2_isLost_13 : decode cX2_isLost 13 = .ok (.ireturn, 1) := by decide +kernel
theorem dX2_begin_0 : decode cX2_begin 0 = .ok (.aload_n 0, 1) := by decide +kernel
theorem dX2_begin_1 : decode cX2_begin 1 = .ok (.iload_n 1, 1) := by decide +kernel
theorem dX2_begin_2 : decode cX2_begin 2 = .ok (.putfield 15, 3) := by decide +kernel
theorem dX2_begin_5 : decode cX2_begin 5 = .ok (.aload_n 0, 1) := by decide +kernel
theorem dX2_begin_6 : decode cX2_begin 6 = .ok (.iload_n 2, 1) := by decide +kernel
theorem dX2_begin_7 : decode cX2_begin 7 = .ok (.putfield 19, 3) := by decide +kernel
theorem dX2_begin_10 : decode cX2_begin 10 = .ok (.iconst 0, 1) := by decide +kernel
theorem dX2_begin_11 : decode cX2_begin 11 = .ok (.istore_n 3, 1) := by decide +kernel
theorem dX2_begin_12 : decode cX2_begin 12 = .ok (.iload_n 3, 1) := by decide +kernel
theorem dX2_begin_13 : decode cX2_begin 13 = .ok (.bipush 60, 2) := by decide +kernel
theorem dX2_begin_15 : decode cX2_begin 15 = .ok (.if_icmp .ge 16, 3) := by decide +kernel
theorem dX2_begin_18 : decode cX2_begin 18 = .ok (.aload_n 0, 1) := by decide +kernel
theorem dX2_begin_19 : decode cX2_begin 19 = .ok (.getfield 9, 3) := by decide +kernel
theorem dX2_begin_22 : decode cX2_begin 22 = .ok (.iload_n 3, 1) := by decide +kernel
theorem dX2_begin_23 : decode cX2_begin 23 = .ok (.iconst 0, 1) := by decide +kernel
theorem dX2_begin_24 : decode cX2_begin 24 = .ok (.iastore, 1) := by decide +kernel
theorem dX2_begin_25 : decode cX2_begin 25 = .ok (.iinc 3 1, 3) := by decide +kernel
theorem dX2_begin_28 : decode cX2_begin 28 = .ok (.goto (-16), 3) := by decide +kernel
theorem dX2_begin_31 : decode cX2_begin 31 = .ok (.return_, 1) := by decide +kernel
theorem dX2_end_0 : decode cX2_end 0 = .ok (.aload_n 0, 1) := by decide +kernel
theorem dX2_end_1 : decode cX2_end 1 = .ok (.getfield 19, 3) := by decide +kernel
theorem dX2_end_4 : decode cX2_end 4 = .ok (.istore_n 1, 1) := by decide +kernel
theorem dX2_end_5 : decode cX2_end 5 = .ok (.aload_n 0, 1) := by decide +kernel
theorem dX2_end_6 : decode cX2_end 6 = .ok (.iconst (-1), 1) := by decide +kernel
theorem dX2_end_7 : decode cX2_end 7 = .ok (.putfield 15, 3) := by decide +kernel
theorem dX2_end_10 : decode cX2_end 10 = .ok (.aload_n 0, 1) := by decide +kernel
theorem dX2_end_11 : decode cX2_end 11 = .ok (.iconst 0, 1) := by decide +kernel
theorem dX2_end_12 : decode cX2_end 12 = .ok (.putfield 19, 3) := by decide +kernel
theorem dX2_end_15 : decode cX2_end 15 = .ok (.iload_n 1, 1) := by decide +kernel
theorem dX2_end_16 : decode cX2_end 16 = .ok (.ireturn, 1) := by decide +kernel
theorem dX2_has_0 : decode cX2_has 0 = .ok (.iload_n 1, 1) := by decide +kernel
theorem dX2_has_1 : decode cX2_has 1 = .ok (.ifCond .lt 29, 3) := by decide +kernel
theorem dX2_has_4 : decode cX2_has 4 = .ok (.iload_n 2, 1) := by decide +kernel
theorem dX2_has_5 : decode cX2_has 5 = .ok (.ifCond .lt 25, 3) := by decide +kernel
theorem dX2_has_8 : decode cX2_has 8 = .ok (.iload_n 1, 1) := by decide +kernel
theorem dX2_has_9 : decode cX2_has 9 = .ok (.aload_n 0, 1) := by decide +kernel
theorem dX2_has_10 : decode cX2_has 10 = .ok (.getfield 19, 3) := by decide +kernel
theorem dX2_has_13 : decode cX2_has 13 = .ok (.if_icmp .gt 17, 3) := by decide +kernel
theorem dX2_has_16 : decode cX2_has 16 = .ok (.iload_n 2, 1) := by decide +kernel
theorem dX2_has_17 : decode cX2_has 17 = .ok (.aload_n 0, 1) := by decide +kernel
theorem dX2_has_18 : decode cX2_has 18 = .ok (.getfield 19, 3) := by decide +kernel
theorem dX2_has_21 : decode cX2_has 21 = .ok (.iload_n 1, 1) := by decide +kernel
theorem dX2_has_22 : decode cX2_has 22 = .ok (.isub, 1) := by decide +kernel
theorem dX2_has_23 : decode cX2_has 23 = .ok (.if_icmp .gt 7, 3) := by decide +kernel
theorem dX2_has_26 : decode cX2_has 26 = .ok (.iconst 1, 1) := by decide +kernel
theorem dX2_has_27 : decode cX2_has 27 = .ok (.goto 4, 3) := by decide +kernel
theorem dX2_has_30 : decode cX2_has 30 = .ok (.iconst 0, 1) := by decide +kernel
theorem dX2_has_31 : decode cX2_has 31 = .ok (.ireturn, 1) := by decide +kernel
theorem dX2_put_0 : decode cX2_put 0 = .ok (.aload_n 0, 1) := by decide +kernel
theorem dX2_put_1 : decode cX2_put 1 = .ok (.getfield 15, 3) := by decide +kernel
theorem dX2_put_4 : decode cX2_put 4 = .ok (.lookupswitch 50 #[(0, 28), (1, 39)], 28) := by decide +kernel
theorem dX2_put_32 : decode cX2_put 32 = .ok (.aload_n 0, 1) := by decide +kernel
theorem dX2_put_33 : decode cX2_put 33 = .ok (.getfield 9, 3) := by decide +kernel
theorem dX2_put_36 : decode cX2_put 36 = .ok (.iload_n 1, 1) := by decide +kernel
theorem dX2_put_37 : decode cX2_put 37 = .ok (.iload_n 2, 1) := by decide +kernel
theorem dX2_put_38 : decode cX2_put 38 = .ok (.i2b, 1) := by decide +kernel
theorem dX2_put_39 : decode cX2_put 39 = .ok (.iastore, 1) := by decide +kernel
theorem dX2_put_40 : decode cX2_put 40 = .ok (.goto 21, 3) := by decide +kernel
theorem dX2_put_43 : decode cX2_put 43 = .ok (.aload_n 0, 1) := by decide +kernel
theorem dX2_put_44 : decode cX2_put 44 = .ok (.getfield 9, 3) := by decide +kernel
theorem dX2_put_47 : decode cX2_put 47 = .ok (.iload_n 1, 1) := by decide +kernel
theorem dX2_put_48 : decode cX2_put 48 = .ok (.iload_n 2, 1) := by decide +kernel
theorem dX2_put_49 : decode cX2_put 49 = .ok (.i2s, 1) := by decide +kernel
theorem dX2_put_50 : decode cX2_put 50 = .ok (.iastore, 1) := by decide +kernel
theorem dX2_put_51 : decode cX2_put 51 = .ok (.goto 10, 3) := by decide +kernel
theorem dX2_put_54 : decode cX2_put 54 = .ok (.aload_n 0, 1) := by decide +kernel
theorem dX2_put_55 : decode cX2_put 55 = .ok (.getfield 9, 3) := by decide +kernel
theorem dX2_put_58 : decode cX2_put 58 = .ok (.iload_n 1, 1) := by decide +kernel
theorem dX2_put_59 : decode cX2_put 59 = .ok (.iload_n 2, 1) := by decide +kernel
theorem dX2_put_60 : decode cX2_put 60 = .ok (.iastore, 1) := by decide +kernel
theorem dX2_put_61 : decode cX2_put 61 = .ok (.return_, 1) := by decide +kernel
theorem dX3_init_0 : decode cX3_init 0 = .ok (.aload_n 0, 1) := by decide +kernel
theorem dX3_init_1 : decode cX3_init 1 = .ok (.invokespecial 3, 3) := by decide +kernel
theorem dX3_init_4 : decode cX3_init 4 = .ok (.aload_n 0, 1) := by decide +kernel
theorem dX3_init_5 : decode cX3_init 5 = .ok (.iconst 0, 1) := by decide +kernel
theorem dX3_init_6 : decode cX3_init 6 = .ok (.putfield 9, 3) := by decide +kernel
theorem dX3_init_9 : decode cX3_init 9 = .ok (.aload_n 0, 1) := by decide +kernel
theorem dX3_init_10 : decode cX3_init 10 = .ok (.iconst 0, 1) := by decide +kernel
theorem dX3_init_11 : decode cX3_init 11 = .ok (.putfield 15, 3) := by decide +kernel
theorem dX3_init_14 : decode cX3_init 14 = .ok (.aload_n 0, 1) := by decide +kernel
theorem dX3_init_15 : decode cX3_init 15 = .ok (.iconst (-1), 1) := by decide +kernel
theorem dX3_init_16 : decode cX3_init 16 = .ok (.putfield 18, 3) := by decide +kernel
theorem dX3_init_19 : decode cX3_init 19 = .ok (.aload_n 0, 1) := by decide +kernel
theorem dX3_init_20 : decode cX3_init 20 = .ok (.iload_n 1, 1) := by decide +kernel
theorem dX3_init_21 : decode cX3_init 21 = .ok (.putfield 21, 3) := by decide +kernel
theorem dX3_init_24 : decode cX3_init 24 = .ok (.aload_n 0, 1) := by decide +kernel
theorem dX3_init_25 : decode cX3_init 25 = .ok (.iload_n 2, 1) := by decide +kernel
theorem dX3_init_26 : decode cX3_init 26 = .ok (.putfield 25, 3) := by decide +kernel
theorem dX3_init_29 : decode cX3_init 29 = .ok (.aload_n 0, 1) := by decide +kernel
theorem dX3_init_30 : decode cX3_init 30 = .ok (.iload_n 3, 1) := by decide +kernel
theorem dX3_init_31 : decode cX3_init 31 = .ok (.iload_n 2, 1) := by decide +kernel
theorem dX3_init_32 : decode cX3_init 32 = .ok (.iconst 1, 1) := by decide +kernel
theorem dX3_init_33 : decode cX3_init 33 = .ok (.iadd, 1) := by decide +kernel
theorem dX3_init_34 : decode cX3_init 34 = .ok (.imul, 1) := by decide +kernel
theorem dX3_init_35 : decode cX3_init 35 = .ok (.iconst 1, 1) := by decide +kernel
theorem dX3_init_36 : decode cX3_init 36 = .ok (.isub, 1) := by decide +kernel
theorem dX3_init_37 : decode cX3_init 37 = .ok (.newarray .int, 2) := by decide +kernel
theorem dX3_init_39 : decode cX3_init 39 = .ok (.putfield 28, 3) := by decide +kernel
theorem dX3_init_42 : decode cX3_init 42 = .ok (.aload_n 0, 1) := by decide +kernel
theorem dX3_init_43 : decode cX3_init 43 = .ok (.iload_n 3, 1) := by decide +kernel
theorem dX3_init_44 : decode cX3_init 44 = .ok (.iload_n 2, 1) := by decide +kernel
theorem dX3_init_45 : decode cX3_init 45 = .ok (.imul, 1) := by decide +kernel
theorem dX3_init_46 : decode cX3_init 46 = .ok (.newarray .int, 2) := by decide +kernel
theorem dX3_init_48 : decode cX3_init 48 = .ok (.putfield 32, 3) := by decide +kernel
theorem dX3_init_51 : decode cX3_init 51 = .ok (.return_, 1) := by decide +kernel
theorem dX3_append_0 : decode cX3_append 0 = .ok (.aload_n 0, 1) := by decide +kernel
theorem dX3_append_1 : decode cX3_append 1 = .ok (.getfield 9, 3) := by decide +kernel
theorem dX3_append_4 : decode cX3_append 4 = .ok (.aload_n 0, 1) := by decide +kernel
theorem dX3_append_5 : decode cX3_append 5 = .ok (.getfield 28, 3) := by decide +kernel
theorem dX3_append_8 : decode cX3_append 8 = .ok (.arraylength, 1) := by decide +kernel
theorem dX3_append_9 : decode cX3_append 9 = .ok (.if_icmp .lt 6, 3) := by decide +kernel
theorem dX3_append_12 : decode cX3_append 12 = .ok (.bipush (-4), 2) := by decide +kernel
theorem dX3_append_14 : decode cX3_append 14 = .ok (.ireturn, 1) := by decide +kernel
theorem dX3_append_15 : decode cX3_append 15 = .ok (.aload_n 0, 1) := by decide +kernel
theorem dX3_append_16 : decode cX3_append 16 = .ok (.getfield 28, 3) := by decide +kernel
theorem dX3_append_19 : decode cX3_append 19 = .ok (.aload_n 0, 1) := by decide +kernel
theorem dX3_append_20 : decode cX3_append 20 = .ok (.getfield 9, 3) := by decide +kernel
theorem dX3_append_23 : decode cX3_append 23 = .ok (.iload_n 1, 1) := by decide +kernel
theorem dX3_append_24 : decode cX3_append 24 = .ok (.iastore, 1) := by decide +kernel
theorem dX3_append_25 : decode cX3_append 25 = .ok (.aload_n 0, 1) := by decide +kernel
theorem dX3_append_26 : decode cX3_append 26 = .ok (.dup, 1) := by decide +kernel
theorem dX3_append_27 : decode cX3_append 27 = .ok (.getfield 9, 3) := by decide +kernel
theorem dX3_append_30 : decode cX3_append 30 = .ok (.iconst 1, 1) := by decide +kernel
theorem dX3_append_31 : decode cX3_append 31 = .ok (.iadd, 1) := by decide +kernel
theorem dX3_append_32 : decode cX3_append 32 = .ok (.putfield 9, 3) := by decide +kernel
theorem dX3_append_35 : decode cX3_append 35 = .ok (.aload_n 0, 1) := by decide +kernel
theorem dX3_append_36 : decode cX3_append 36 = .ok (.invokevirtual 35, 3) := by decide +kernel
theorem dX3_append_39 : decode cX3_append 39 = .ok (.aload_n 0, 1) := by decide +kernel
theorem dX3_append_40 : decode cX3_append 40 = .ok (.getfield 9, 3) := by decide +kernel
theorem dX3_append_43 : decode cX3_append 43 = .ok (.ireturn, 1) := by decide +kernel
theorem dX3_empty_0 : decode cX3_empty 0 = .ok (.aload_n 0, 1) := by decide +kernel
theorem dX3_empty_1 : decode cX3_empty 1 = .ok (.getfield 9, 3) := by decide +kernel
theorem dX3_empty_4 : decode cX3_empty 4 = .ok (.istore_n 1, 1) := by decide +kernel
theorem dX3_empty_5 : decode cX3_empty 5 = .ok (.aload_n 0, 1) := by decide +kernel
theorem dX3_empty_6 : decode cX3_empty 6 = .ok (.iconst 0, 1) := by decide +kernel
theorem dX3_empty_7 : decode cX3_empty 7 = .ok (.putfield 9, 3) := by decide +kernel
theorem dX3_empty_10 : decode cX3_empty 10 = .ok (.aload_n 0, 1) := by decide +kernel
theorem dX3_empty_11 : decode cX3_empty 11 = .ok (.invokevirtual 35, 3) := by decide +kernel
theorem dX3_empty_14 : decode cX3_empty 14 = .ok (.iload_n 1, 1) := by decide +kernel
theorem dX3_empty_15 : decode cX3_empty 15 = .ok (.ireturn, 1) := by decide +kernel
theorem dX3_dropLast_0 : decode cX3_dropLast 0 = .ok (.aload_n 0, 1) := by decide +kernel
theorem dX3_dropLast_1 : decode cX3_dropLast 1 = .ok (.getfield 9, 3) := by decide +kernel
theorem dX3_dropLast_4 : decode cX3_dropLast 4 = .ok (.ifCond .ne 6, 3) := by decide +kernel
theorem dX3_dropLast_7 : decode cX3_dropLast 7 = .ok (.bipush (-3), 2) := by decide +kernel
theorem dX3_dropLast_9 : decode cX3_dropLast 9 = .ok (.ireturn, 1) := by decide +kernel
theorem dX3_dropLast_10 : decode cX3_dropLast 10 = .ok (.aload_n 0, 1) := by decide +kernel
theorem dX3_dropLast_11 : decode cX3_dropLast 11 = .ok (.dup, 1) := by decide +kernel
theorem dX3_dropLast_12 : decode cX3_dropLast 12 = .ok (.getfield 9, 3) := by decide +kernel
theorem dX3_dropLast_15 : decode cX3_dropLast 15 = .ok (.iconst 1, 1) := by decide +kernel
theorem dX3_dropLast_16 : decode cX3_dropLast 16 = .ok (.isub, 1) := by decide +kernel
theorem dX3_dropLast_17 : decode cX3_dropLast 17 = .ok (.putfield 9, 3) := by decide +kernel
theorem dX3_dropLast_20 : decode cX3_dropLast 20 = .ok (.aload_n 0, 1) := by decide +kernel
theorem dX3_dropLast_21 : decode cX3_dropLast 21 = .ok (.invokevirtual 35, 3) := by decide +kernel
theorem dX3_dropLast_24 : decode cX3_dropLast 24 = .ok (.aload_n 0, 1) := by decide +kernel
theorem dX3_dropLast_25 : decode cX3_dropLast 25 = .ok (.getfield 9, 3) := by decide +kernel
theorem dX3_dropLast_28 : decode cX3_dropLast 28 = .ok (.ireturn, 1) := by decide +kernel
theorem dX3_part_0 : decode cX3_part 0 = .ok (.aload_n 0, 1) := by decide +kernel
theorem dX3_part_1 : decode cX3_part 1 = .ok (.getfield 32, 3) := by decide +kernel
theorem dX3_part_4 : decode cX3_part 4 = .ok (.iload_n 1, 1) := by decide +kernel
theorem dX3_part_5 : decode cX3_part 5 = .ok (.aload_n 0, 1) := by decide +kernel
theorem dX3_part_6 : decode cX3_part 6 = .ok (.getfield 25, 3) := by decide +kernel
theorem dX3_part_9 : decode cX3_part 9 = .ok (.imul, 1) := by decide +kernel
theorem dX3_part_10 : decode cX3_part 10 = .ok (.iload_n 2, 1) := by decide +kernel
theorem dX3_part_11 : decode cX3_part 11 = .ok (.iadd, 1) := by decide +kernel
theorem dX3_part_12 : decode cX3_part 12 = .ok (.iaload, 1) := by decide +kernel
theorem dX3_part_13 : decode cX3_part 13 = .ok (.ireturn, 1) := by decide +kernel
theorem dX3_parse_0 : decode cX3_parse 0 = .ok (.aload_n 0, 1) := by decide +kernel
theorem dX3_parse_1 : decode cX3_parse 1 = .ok (.iconst 0, 1) := by decide +kernel
theorem dX3_parse_2 : decode cX3_parse 2 = .ok (.putfield 15, 3) := by decide +kernel
theorem dX3_parse_5 : decode cX3_parse 5 = .ok (.aload_n 0, 1) := by decide +kernel
theorem dX3_parse_6 : decode cX3_parse 6 = .ok (.iconst (-1), 1) := by decide +kernel
theorem dX3_parse_7 : decode cX3_parse 7 = .ok (.putfield 18, 3) := by decide +kernel
theorem dX3_parse_10 : decode cX3_parse 10 = .ok (.iconst 0, 1) := by decide +kernel
theorem dX3_parse_11 : decode cX3_parse 11 = .ok (.istore_n 1, 1) := by decide +kernel
theorem dX3_parse_12 : decode cX3_parse 12 = .ok (.iconst 0, 1) := by decide +kernel
theorem dX3_parse_13 : decode cX3_parse 13 = .ok (.istore_n 2, 1) := by decide +kernel
theorem dX3_parse_14 : decode cX3_parse 14 = .ok (.iconst 0, 1) := by decide +kernel
theorem dX3_parse_15 : decode cX3_parse 15 = .ok (.istore_n 3, 1) := by decide +kernel
theorem dX3_parse_16 : decode cX3_parse 16 = .ok (.iload_n 3, 1) := by decide +kernel
theorem dX3_parse_17 : decode cX3_parse 17 = .ok (.aload_n 0, 1) := by decide +kernel
theorem dX3_parse_18 : decode cX3_parse 18 = .ok (.getfield 9, 3) := by decide +kernel
theorem dX3_parse_21 : decode cX3_parse 21 = .ok (.if_icmp .ge 91, 3) := by decide +kernel
theorem dX3_parse_24 : decode cX3_parse 24 = .ok (.iload_n 2, 1) := by decide +kernel
theorem dX3_parse_25 : decode cX3_parse 25 = .ok (.aload_n 0, 1) := by decide +kernel
theorem dX3_parse_26 : decode cX3_parse 26 = .ok (.getfield 25, 3) := by decide +kernel
theorem dX3_parse_29 : decode cX3_parse 29 = .ok (.if_icmp .ne 15, 3) := by decide +kernel
theorem dX3_parse_32 : decode cX3_parse 32 = .ok (.aload_n 0, 1) := by decide +kernel
theorem dX3_parse_33 : decode cX3_parse 33 = .ok (.getfield 28, 3) := by decide +kernel
theorem dX3_parse_36 : decode cX3_parse 36 = .ok (.iload_n 3, 1) := by decide +kernel
theorem dX3_parse_37 : decode cX3_parse 37 = .ok (.iaload, 1) := by decide +kernel
theorem dX3_parse_38 : decode cX3_parse 38 = .ok (.invokestatic 38, 3) := by decide +kernel
theorem dX3_parse_41 : decode cX3_parse 41 = .ok (.goto 18, 3) := by decide +kernel
theorem dX3_parse_44 : decode cX3_parse 44 = .ok (.aload_n 0, 1) := by decide +kernel
theorem dX3_parse_45 : decode cX3_parse 45 = .ok (.iload_n 2, 1) := by decide +kernel
theorem dX3_parse_46 : decode cX3_parse 46 = .ok (.invokevirtual 42, 3) := by decide +kernel
theorem dX3_parse_49 : decode cX3_parse 49 = .ok (.aload_n 0, 1) := by decide +kernel
theorem dX3_parse_50 : decode cX3_parse 50 = .ok (.getfield 28, 3) := by decide +kernel
theorem dX3_parse_53 : decode cX3_parse 53 = .ok (.iload_n 3, 1) := by decide +kernel
theorem dX3_parse_54 : decode cX3_parse 54 = .ok (.iaload, 1) := by decide +kernel
theorem dX3_parse_55 : decode cX3_parse 55 = .ok (.i2c, 1) := by decide +kernel
theorem dX3_parse_56 : decode cX3_parse 56 = .ok (.invokevirtual 46, 3) := by decide +kernel
theorem dX3_parse_59 : decode cX3_parse 59 = .ok (.istore 4, 2) := by decide +kernel
theorem dX3_parse_61 : decode cX3_parse 61 = .ok (.iload 4, 2) := by decide +kernel
theorem dX3_parse_63 : decode cX3_parse 63 = .ok (.ifCond .ge 9, 3) := by decide +kernel
theorem dX3_parse_66 : decode cX3_parse 66 = .ok (.aload_n 0, 1) := by decide +kernel
theorem dX3_parse_67 : decode cX3_parse 67 = .ok (.iload_n 3, 1) := by decide +kernel
theorem dX3_parse_68 : decode cX3_parse 68 = .ok (.putfield 18, 3) := by decide +kernel
theorem dX3_parse_71 : decode cX3_parse 71 = .ok (.return_, 1) := by decide +kernel
theorem dX3_parse_72 : decode cX3_parse 72 = .ok (.iload_n 2, 1) := by decide +kernel
theorem dX3_parse_73 : decode cX3_parse 73 = .ok (.aload_n 0, 1) := by decide +kernel
theorem dX3_parse_74 : decode cX3_parse 74 = .ok (.getfield 25, 3) := by decide +kernel
theorem dX3_parse_77 : decode cX3_parse 77 = .ok (.if_icmp .ne 11, 3) := by decide +kernel
theorem dX3_parse_80 : decode cX3_parse 80 = .ok (.iinc 1 1, 3) := by decide +kernel
theorem dX3_parse_83 : decode cX3_parse 83 = .ok (.iconst 0, 1) := by decide +kernel
theorem dX3_parse_84 : decode cX3_parse 84 = .ok (.istore_n 2, 1) := by decide +kernel
theorem dX3_parse_85 : decode cX3_parse 85 = .ok (.goto 21, 3) := by decide +kernel
theorem dX3_parse_88 : decode cX3_parse 88 = .ok (.aload_n 0, 1) := by decide +kernel
theorem dX3_parse_89 : decode cX3_parse 89 = .ok (.getfield 32, 3) := by decide +kernel
theorem dX3_parse_92 : decode cX3_parse 92 = .ok (.iload_n 1, 1) := by decide +kernel
theorem dX3_parse_93 : decode cX3_parse 93 = .ok (.aload_n 0, 1) := by decide +kernel
theorem dX3_parse_94 : decode cX3_parse 94 = .ok (.getfield 25, 3) := by decide +kernel
theorem dX3_parse_97 : decode cX3_parse 97 = .ok (.imul, 1) := by decide +kernel
theorem dX3_parse_98 : decode cX3_parse 98 = .ok (.iload_n 2, 1) := by decide +kernel
theorem dX3_parse_99 : decode cX3_parse 99 = .ok (.iadd, 1) := by decide +kernel
theorem dX3_parse_100 : decode cX3_parse 100 = .ok (.iload 4, 2) := by decide +kernel
theorem dX3_parse_102 : decode cX3_parse 102 = .ok (.iastore, 1) := by decide +kernel
theorem dX3_parse_103 : decode cX3_parse 103 = .ok (.iinc 2 1, 3) := by decide +kernel
theorem dX3_parse_106 : decode cX3_parse 106 = .ok (.iinc 3 1, 3) := by decide +kernel
theorem dX3_parse_109 : decode cX3_parse 109 = .ok (.goto (-93), 3) := by decide +kernel
theorem dX3_parse_112 : decode cX3_parse 112 = .ok (.iload_n 2, 1) := by decide +kernel
theorem dX3_parse_113 : decode cX3_parse 113 = .ok (.aload_n 0, 1) := by decide +kernel
theorem dX3_parse_114 : decode cX3_parse 114 = .ok (.getfield 25, 3) := by decide +kernel
theorem dX3_parse_117 : decode cX3_parse 117 = .ok (.if_icmp .ne 13, 3) := by decide +kernel
theorem dX3_parse_120 : decode cX3_parse 120 = .ok (.aload_n 0, 1) := by decide +kernel
theorem dX3_parse_121 : decode cX3_parse 121 = .ok (.iload_n 1, 1) := by decide +kernel
theorem dX3_parse_122 : decode cX3_parse 122 = .ok (.iconst 1, 1) := by decide +kernel
theorem dX3_parse_123 : decode cX3_parse 123 = .ok (.iadd, 1) := by decide +kernel
theorem dX3_parse_124 : decode cX3_parse 124 = .ok (.putfield 15, 3) := by decide +kernel
theorem dX3_parse_127 : decode cX3_parse 127 = .ok (.goto 18, 3) := by decide +kernel
theorem dX3_parse_130 : decode cX3_parse 130 = .ok (.aload_n 0, 1) := by decide +kernel
theorem dX3_parse_131 : decode cX3_parse 131 = .ok (.getfield 9, 3) := by decide +kernel
theorem dX3_parse_134 : decode cX3_parse 134 = .ok (.ifCond .le 11, 3) := by decide +kernel
theorem dX3_parse_137 : decode cX3_parse 137 = .ok (.aload_n 0, 1) := by decide +kernel
theorem dX3_parse_138 : decode cX3_parse 138 = .ok (.aload_n 0, 1) := by decide +kernel
theorem dX3_parse_139 : decode cX3_parse 139 = .ok (.getfield 9, 3) := by decide +kernel
theorem dX3_parse_142 : decode cX3_parse 142 = .ok (.putfield 18, 3) := by decide +kernel
theorem dX3_parse_145 : decode cX3_parse 145 = .ok (.return_, 1) := by decide +kernel
theorem dX3_separator_0 : decode cX3_separator 0 = .ok (.iload_n 0, 1) := by decide +kernel
theorem dX3_separator_1 : decode cX3_separator 1 = .ok (.bipush 59, 2) := by decide +kernel
theorem dX3_separator_3 : decode cX3_separator 3 = .ok (.if_icmp .ne 7, 3) := by decide +kernel
theorem dX3_separator_6 : decode cX3_separator 6 = .ok (.iconst 0, 1) := by decide +kernel
theorem dX3_separator_7 : decode cX3_separator 7 = .ok (.goto 4, 3) := by decide +kernel
theorem dX3_separator_10 : decode cX3_separator 10 = .ok (.iconst (-1), 1) := by decide +kernel
theorem dX3_separator_11 : decode cX3_separator 11 = .ok (.ireturn, 1) := by decide +kernel
theorem dX3_signs_0 : decode cX3_signs 0 = .ok (.aload_n 0, 1) := by decide +kernel
theorem dX3_signs_1 : decode cX3_signs 1 = .ok (.getfield 21, 3) := by decide +kernel
theorem dX3_signs_4 : decode cX3_signs 4 = .ok (.ifCond .eq 25, 3) := by decide +kernel
theorem dX3_signs_7 : decode cX3_signs 7 = .ok (.iload_n 1, 1) := by decide +kernel
theorem dX3_signs_8 : decode cX3_signs 8 = .ok (.ifCond .ne 8, 3) := by decide +kernel
theorem dX3_signs_11 : decode cX3_signs 11 = .ok (.ldc 51, 2) := by decide +kernel
theorem dX3_signs_13 : decode cX3_signs 13 = .ok (.goto 15, 3) := by decide +kernel
theorem dX3_signs_16 : decode cX3_signs 16 = .ok (.iload_n 1, 1) := by decide +kernel
theorem dX3_signs_17 : decode cX3_signs 17 = .ok (.iconst 1, 1) := by decide +kernel
theorem dX3_signs_18 : decode cX3_signs 18 = .ok (.if_icmp .ne 8, 3) := by decide +kernel
theorem dX3_signs_21 : decode cX3_signs 21 = .ok (.ldc 53, 2) := by decide +kernel
theorem dX3_signs_23 : decode cX3_signs 23 = .ok (.goto 5, 3) := by decide +kernel
theorem dX3_signs_26 : decode cX3_signs 26 = .ok (.ldc 55, 2) := by decide +kernel
theorem dX3_signs_28 : decode cX3_signs 28 = .ok (.areturn, 1) := by decide +kernel
theorem dX3_signs_29 : decode cX3_signs 29 = .ok (.iload_n 1, 1) := by decide +kernel
theorem dX3_signs_30 : decode cX3_signs 30 = .ok (.tableswitch 39 1 4 #[30, 39, 33, 36], 30) := by decide +kernel
theorem dX3_signs_60 : decode cX3_signs 60 = .ok (.ldc 57, 2) := by decide +kernel
theorem dX3_signs_62 : decode cX3_signs 62 = .ok (.areturn, 1) := by decide +kernel
theorem dX3_signs_63 : decode cX3_signs 63 = .ok (.ldc 59, 2) := by decide +kernel
theorem dX3_signs_65 : decode cX3_signs 65 = .ok (.areturn, 1) := by decide +kernel
theorem dX3_signs_66 : decode cX3_signs 66 = .ok (.ldc 61, 2) := by decide +kernel
theorem dX3_signs_68 : decode cX3_signs 68 = .ok (.areturn, 1) := by decide +kernel
theorem dX3_signs_69 : decode cX3_signs 69 = .ok (.ldc 55, 2) := by decide +kernel
theorem dX3_signs_71 : decode cX3_signs 71 = .ok (.areturn, 1) := by decide +kernel
end
section
theorem dX4_init_0 : decode cX4_init 0 = .ok (.aload_n 0, 1) := by decide +kernel
theorem dX4_init_1 : decode cX4_init 1 = .ok (.invokespecial 1, 3) := by decide +kernel
theorem dX4_init_4 : decode cX4_init 4 = .ok (.aload_n 0, 1) := by decide +kernel
theorem dX4_init_5 : decode cX4_init 5 = .ok (.new 7, 3) := by decide +kernel
theorem dX4_init_8 : decode cX4_init 8 = .ok (.dup, 1) := by decide +kernel
theorem dX4_init_9 : decode cX4_init 9 = .ok (.iconst 1, 1) := by decide +kernel
theorem dX4_init_10 : decode cX4_init 10 = .ok (.iconst 3, 1) := by decide +kernel
theorem dX4_init_11 : decode cX4_init 11 = .ok (.bipush 12, 2) := by decide +kernel
theorem dX4_init_13 : decode cX4_init 13 = .ok (.invokespecial 11, 3) := by decide +kernel
theorem dX4_init_16 : decode cX4_init 16 = .ok (.putfield 14, 3) := by decide +kernel
theorem dX4_init_19 : decode cX4_init 19 = .ok (.aload_n 0, 1) := by decide +kernel
theorem dX4_init_20 : decode cX4_init 20 = .ok (.new 7, 3) := by decide +kernel
theorem dX4_init_23 : decode cX4_init 23 = .ok (.dup, 1) := by decide +kernel
theorem dX4_init_24 : decode cX4_init 24 = .ok (.iconst 0, 1) := by decide +kernel
theorem dX4_init_25 : decode cX4_init 25 = .ok (.iconst 5, 1) := by decide +kernel
theorem dX4_init_26 : decode cX4_init 26 = .ok (.bipush 10, 2) := by decide +kernel
theorem dX4_init_28 : decode cX4_init 28 = .ok (.invokespecial 11, 3) := by decide +kernel
theorem dX4_init_31 : decode cX4_init 31 = .ok (.putfield 18, 3) := by decide +kernel
theorem dX4_init_34 : decode cX4_init 34 = .ok (.aload_n 0, 1) := by decide +kernel
theorem dX4_init_35 : decode cX4_init 35 = .ok (.new 21, 3) := by decide +kernel
theorem dX4_init_38 : decode cX4_init 38 = .ok (.dup, 1) := by decide +kernel
theorem dX4_init_39 : decode cX4_init 39 = .ok (.bipush 8, 2) := by decide +kernel
theorem dX4_init_41 : decode cX4_init 41 = .ok (.invokespecial 23, 3) := by decide +kernel
theorem dX4_init_44 : decode cX4_init 44 = .ok (.putfield 26, 3) := by decide +kernel
theorem dX4_init_47 : decode cX4_init 47 = .ok (.aload_n 0, 1) := by decide +kernel
theorem dX4_init_48 : decode cX4_init 48 = .ok (.new 21, 3) := by decide +kernel
theorem dX4_init_51 : decode cX4_init 51 = .ok (.dup, 1) := by decide +kernel
theorem dX4_init_52 : decode cX4_init 52 = .ok (.bipush 12, 2) := by decide +kernel
theorem dX4_init_54 : decode cX4_init 54 = .ok (.invokespecial 23, 3) := by decide +kernel
theorem dX4_init_57 : decode cX4_init 57 = .ok (.putfield 30, 3) := by decide +kernel
theorem dX4_init_60 : decode cX4_init 60 = .ok (.aload_n 0, 1) := by decide +kernel
theorem dX4_init_61 : decode cX4_init 61 = .ok (.new 21, 3) := by decide +kernel
theorem dX4_init_64 : decode cX4_init 64 = .ok (.dup, 1) := by decide +kernel
theorem dX4_init_65 : decode cX4_init 65 = .ok (.bipush 8, 2) := by decide +kernel
theorem dX4_init_67 : decode cX4_init 67 = .ok (.invokespecial 23, 3) := by decide +kernel
theorem dX4_init_70 : decode cX4_init 70 = .ok (.putfield 33, 3) := by decide +kernel
theorem dX4_init_73 : decode cX4_init 73 = .ok (.aload_n 0, 1) := by decide +kernel
theorem dX4_init_74 : decode cX4_init 74 = .ok (.new 36, 3) := by decide +kernel
theorem dX4_init_77 : decode cX4_init 77 = .ok (.dup, 1) := by decide +kernel
theorem dX4_init_78 : decode cX4_init 78 = .ok (.aload_n 0, 1) := by decide +kernel
theorem dX4_init_79 : decode cX4_init 79 = .ok (.getfield 14, 3) := by decide +kernel
theorem dX4_init_82 : decode cX4_init 82 = .ok (.aload_n 0, 1) := by decide +kernel
theorem dX4_init_83 : decode cX4_init 83 = .ok (.getfield 18, 3) := by decide +kernel
theorem dX4_init_86 : decode cX4_init 86 = .ok (.aload_n 0, 1) := by decide +kernel
theorem dX4_init_87 : decode cX4_init 87 = .ok (.getfield 26, 3) := by decide +kernel
theorem dX4_init_90 : decode cX4_init 90 = .ok (.invokespecial 38, 3) := by decide +kernel
theorem dX4_init_93 : decode cX4_init 93 = .ok (.putfield 41, 3) := by decide +kernel
theorem dX4_init_96 : decode cX4_init 96 = .ok (.aload_n 0, 1) := by decide +kernel
theorem dX4_init_97 : decode cX4_init 97 = .ok (.iconst 4, 1) := by decide +kernel
theorem dX4_init_98 : decode cX4_init 98 = .ok (.anewarray 45, 3) := by decide +kernel
theorem dX4_init_101 : decode cX4_init 101 = .ok (.putfield 47, 3) := by decide +kernel
theorem dX4_init_104 : decode cX4_init 104 = .ok (.aload_n 0, 1) := by decide +kernel
theorem dX4_init_105 : decode cX4_init 105 = .ok (.iconst 0, 1) := by decide +kernel
theorem dX4_init_106 : decode cX4_init 106 = .ok (.putfield 51, 3) := by decide +kernel
theorem dX4_init_109 : decode cX4_init 109 = .ok (.aload_n 0, 1) := by decide +kernel
theorem dX4_init_110 : decode cX4_init 110 = .ok (.iconst 1, 1) := by decide +kernel
theorem dX4_init_111 : decode cX4_init 111 = .ok (.putfield 55, 3) := by decide +kernel
theorem dX4_init_114 : decode cX4_init 114 = .ok (.aload_n 0, 1) := by decide +kernel
theorem dX4_init_115 : decode cX4_init 115 = .ok (.iconst 0, 1) := by decide +kernel
theorem dX4_init_116 : decode cX4_init 116 = .ok (.putfield 58, 3) := by decide +kernel
theorem dX4_init_119 : decode cX4_init 119 = .ok (.iconst 0, 1) := by decide +kernel
theorem dX4_init_120 : decode cX4_init 120 = .ok (.istore_n 1, 1) := by decide +kernel
theorem dX4_init_121 : decode cX4_init 121 = .ok (.iload_n 1, 1) := by decide +kernel
theorem dX4_init_122 : decode cX4_init 122 = .ok (.iconst 4, 1) := by decide +kernel
theorem dX4_init_123 : decode cX4_init 123 = .ok (.if_icmp .ge 22, 3) := by decide +kernel
theorem dX4_init_126 : decode cX4_init 126 = .ok (.aload_n 0, 1) := by decide +kernel
theorem dX4_init_127 : decode cX4_init 127 = .ok (.getfield 47, 3) := by decide +kernel
theorem dX4_init_130 : decode cX4_init 130 = .ok (.iload_n 1, 1) := by decide +kernel
theorem dX4_init_131 : decode cX4_init 131 = .ok (.new 45, 3) := by decide +kernel
theorem dX4_init_134 : decode cX4_init 134 = .ok (.dup, 1) := by decide +kernel
theorem dX4_init_135 : decode cX4_init 135 = .ok (.invokespecial 61, 3) := by decide +kernel
theorem dX4_init_138 : decode cX4_init 138 = .ok (.aastore, 1) := by decide +kernel
theorem dX4_init_139 : decode cX4_init 139 = .ok (.iinc 1 1, 3) := by decide +kernel
theorem dX4_init_142 : decode cX4_init 142 = .ok (.goto (-21), 3) := by decide +kernel
theorem dX4_init_145 : decode cX4_init 145 = .ok (.return_, 1) := by decide +kernel
theorem dX4_type_0 : decode cX4_type 0 = .ok (.iload_n 1, 1) := by decide +kernel
theorem dX4_type_1 : decode cX4_type 1 = .ok (.iconst 2, 1) := by decide +kernel
theorem dX4_type_2 : decode cX4_type 2 = .ok (.invokestatic 62, 3) := by decide +kernel
theorem dX4_type_5 : decode cX4_type 5 = .ok (.ifCond .eq 13, 3) := by decide +kernel
theorem dX4_type_8 : decode cX4_type 8 = .ok (.iload_n 2, 1) := by decide +kernel
theorem dX4_type_9 : decode cX4_type 9 = .ok (.sipush 256, 3) := by decide +kernel
theorem dX4_type_12 : decode cX4_type 12 = .ok (.invokestatic 62, 3) := by decide +kernel
theorem dX4_type_15 : decode cX4_type 15 = .ok (.ifCond .ne 6, 3) := by decide +kernel
theorem dX4_type_18 : decode cX4_type 18 = .ok (.bipush (-2), 2) := by decide +kernel
theorem dX4_type_20 : decode cX4_type 20 = .ok (.ireturn, 1) := by decide +kernel
theorem dX4_type_21 : decode cX4_type 21 = .ok (.aload_n 0, 1) := by decide +kernel
theorem dX4_type_22 : decode cX4_type 22 = .ok (.getfield 41, 3) := by decide +kernel
theorem dX4_type_25 : decode cX4_type 25 = .ok (.iconst 1, 1) := by decide +kernel
theorem dX4_type_26 : decode cX4_type 26 = .ok (.putfield 66, 3) := by decide +kernel
theorem dX4_type_29 : decode cX4_type 29 = .ok (.aload_n 0, 1) := by decide +kernel
theorem dX4_type_30 : decode cX4_type 30 = .ok (.iload_n 1, 1) := by decide +kernel
theorem dX4_type_31 : decode cX4_type 31 = .ok (.invokevirtual 70, 3) := by decide +kernel
theorem dX4_type_34 : decode cX4_type 34 = .ok (.iload_n 2, 1) := by decide +kernel
theorem dX4_type_35 : decode cX4_type 35 = .ok (.invokevirtual 74, 3) := by decide +kernel
theorem dX4_type_38 : decode cX4_type 38 = .ok (.ireturn, 1) := by decide +kernel
theorem dX4_wipe_0 : decode cX4_wipe 0 = .ok (.iload_n 1, 1) := by decide +kernel
theorem dX4_wipe_1 : decode cX4_wipe 1 = .ok (.iconst 2, 1) := by decide +kernel
theorem dX4_wipe_2 : decode cX4_wipe 2 = .ok (.invokestatic 62, 3) := by decide +kernel
theorem dX4_wipe_5 : decode cX4_wipe 5 = .ok (.ifCond .ne 6, 3) := by decide +kernel
theorem dX4_wipe_8 : decode cX4_wipe 8 = .ok (.bipush (-2), 2) := by decide +kernel
theorem dX4_wipe_10 : decode cX4_wipe 10 = .ok (.ireturn, 1) := by decide +kernel
theorem dX4_wipe_11 : decode cX4_wipe 11 = .ok (.aload_n 0, 1) := by decide +kernel
theorem dX4_wipe_12 : decode cX4_wipe 12 = .ok (.getfield 41, 3) := by decide +kernel
theorem dX4_wipe_15 : decode cX4_wipe 15 = .ok (.iconst 1, 1) := by decide +kernel
theorem dX4_wipe_16 : decode cX4_wipe 16 = .ok (.putfield 66, 3) := by decide +kernel
theorem dX4_wipe_19 : decode cX4_wipe 19 = .ok (.aload_n 0, 1) := by decide +kernel
theorem dX4_wipe_20 : decode cX4_wipe 20 = .ok (.iload_n 1, 1) := by decide +kernel
theorem dX4_wipe_21 : decode cX4_wipe 21 = .ok (.invokevirtual 70, 3) := by decide +kernel
theorem dX4_wipe_24 : decode cX4_wipe 24 = .ok (.invokevirtual 78, 3) := by decide +kernel
theorem dX4_wipe_27 : decode cX4_wipe 27 = .ok (.ireturn, 1) := by decide +kernel
theorem dX4_undo_0 : decode cX4_undo 0 = .ok (.iload_n 1, 1) := by decide +kernel
theorem dX4_undo_1 : decode cX4_undo 1 = .ok (.iconst 2, 1) := by decide +kernel
theorem dX4_undo_2 : decode cX4_undo 2 = .ok (.invokestatic 62, 3) := by decide +kernel
theorem dX4_undo_5 : decode cX4_undo 5 = .ok (.ifCond .ne 6, 3) := by decide +kernel
theorem dX4_undo_8 : decode cX4_undo 8 = .ok (.bipush (-2), 2) := by decide +kernel
theorem dX4_undo_10 : decode cX4_undo 10 = .ok (.ireturn, 1) := by decide +kernel
theorem dX4_undo_11 : decode cX4_undo 11 = .ok (.aload_n 0, 1) := by decide +kernel
theorem dX4_undo_12 : decode cX4_undo 12 = .ok (.getfield 41, 3) := by decide +kernel
theorem dX4_undo_15 : decode cX4_undo 15 = .ok (.iconst 1, 1) := by decide +kernel
theorem dX4_undo_16 : decode cX4_undo 16 = .ok (.putfield 66, 3) := by decide +kernel
theorem dX4_undo_19 : decode cX4_undo 19 = .ok (.aload_n 0, 1) := by decide +kernel
theorem dX4_undo_20 : decode cX4_undo 20 = .ok (.iload_n 1, 1) := by decide +kernel
theorem dX4_undo_21 : decode cX4_undo 21 = .ok (.invokevirtual 70, 3) := by decide +kernel
theorem dX4_undo_24 : decode cX4_undo 24 = .ok (.invokevirtual 82, 3) := by decide +kernel
theorem dX4_undo_27 : decode cX4_undo 27 = .ok (.ireturn, 1) := by decide +kernel
theorem dX4_fault_0 : decode cX4_fault 0 = .ok (.iload_n 1, 1) := by decide +kernel
theorem dX4_fault_1 : decode cX4_fault 1 = .ok (.iconst 2, 1) := by decide +kernel
theorem dX4_fault_2 : decode cX4_fault 2 = .ok (.invokestatic 62, 3) := by decide +kernel
theorem dX4_fault_5 : decode cX4_fault 5 = .ok (.ifCond .eq 14, 3) := by decide +kernel
theorem dX4_fault_8 : decode cX4_fault 8 = .ok (.aload_n 0, 1) := by decide +kernel
theorem dX4_fault_9 : decode cX4_fault 9 = .ok (.iload_n 1, 1) := by decide +kernel
theorem dX4_fault_10 : decode cX4_fault 10 = .ok (.invokevirtual 70, 3) := by decide +kernel
theorem dX4_fault_13 : decode cX4_fault 13 = .ok (.getfield 85, 3) := by decide +kernel
theorem dX4_fault_16 : decode cX4_fault 16 = .ok (.goto 5, 3) := by decide +kernel
theorem dX4_fault_19 : decode cX4_fault 19 = .ok (.bipush (-2), 2) := by decide +kernel
theorem dX4_fault_21 : decode cX4_fault 21 = .ok (.ireturn, 1) := by decide +kernel
theorem dX4_leaf_0 : decode cX4_leaf 0 = .ok (.iload_n 1, 1) := by decide +kernel
theorem dX4_leaf_1 : decode cX4_leaf 1 = .ok (.aload_n 0, 1) := by decide +kernel
theorem dX4_leaf_2 : decode cX4_leaf 2 = .ok (.getfield 14, 3) := by decide +kernel
theorem dX4_leaf_5 : decode cX4_leaf 5 = .ok (.getfield 88, 3) := by decide +kernel
theorem dX4_leaf_8 : decode cX4_leaf 8 = .ok (.invokestatic 62, 3) := by decide +kernel
theorem dX4_leaf_11 : decode cX4_leaf 11 = .ok (.ifCond .eq 23, 3) := by decide +kernel
theorem dX4_leaf_14 : decode cX4_leaf 14 = .ok (.iload_n 2, 1) := by decide +kernel
theorem dX4_leaf_15 : decode cX4_leaf 15 = .ok (.iconst 3, 1) := by decide +kernel
theorem dX4_leaf_16 : decode cX4_leaf 16 = .ok (.invokestatic 62, 3) := by decide +kernel
theorem dX4_leaf_19 : decode cX4_leaf 19 = .ok (.ifCond .eq 15, 3) := by decide +kernel
theorem dX4_leaf_22 : decode cX4_leaf 22 = .ok (.aload_n 0, 1) := by decide +kernel
theorem dX4_leaf_23 : decode cX4_leaf 23 = .ok (.getfield 14, 3) := by decide +kernel
theorem dX4_leaf_26 : decode cX4_leaf 26 = .ok (.iload_n 1, 1) := by decide +kernel
theorem dX4_leaf_27 : decode cX4_leaf 27 = .ok (.iload_n 2, 1) := by decide +kernel
theorem dX4_leaf_28 : decode cX4_leaf 28 = .ok (.invokevirtual 91, 3) := by decide +kernel
theorem dX4_leaf_31 : decode cX4_leaf 31 = .ok (.goto 5, 3) := by decide +kernel
theorem dX4_leaf_34 : decode cX4_leaf 34 = .ok (.bipush (-2), 2) := by decide +kernel
theorem dX4_leaf_36 : decode cX4_leaf 36 = .ok (.ireturn, 1) := by decide +kernel
theorem dX4_rule_0 : decode cX4_rule 0 = .ok (.iload_n 1, 1) := by decide +kernel
theorem dX4_rule_1 : decode cX4_rule 1 = .ok (.aload_n 0, 1) := by decide +kernel
theorem dX4_rule_2 : decode cX4_rule 2 = .ok (.getfield 18, 3) := by decide +kernel
theorem dX4_rule_5 : decode cX4_rule 5 = .ok (.getfield 88, 3) := by decide +kernel
theorem dX4_rule_8 : decode cX4_rule 8 = .ok (.invokestatic 62, 3) := by decide +kernel
theorem dX4_rule_11 : decode cX4_rule 11 = .ok (.ifCond .eq 23, 3) := by decide +kernel
theorem dX4_rule_14 : decode cX4_rule 14 = .ok (.iload_n 2, 1) := by decide +kernel
theorem dX4_rule_15 : decode cX4_rule 15 = .ok (.iconst 5, 1) := by decide +kernel
theorem dX4_rule_16 : decode cX4_rule 16 = .ok (.invokestatic 62, 3) := by decide +kernel
theorem dX4_rule_19 : decode cX4_rule 19 = .ok (.ifCond .eq 15, 3) := by decide +kernel
theorem dX4_rule_22 : decode cX4_rule 22 = .ok (.aload_n 0, 1) := by decide +kernel
theorem dX4_rule_23 : decode cX4_rule 23 = .ok (.getfield 18, 3) := by decide +kernel
theorem dX4_rule_26 : decode cX4_rule 26 = .ok (.iload_n 1, 1) := by decide +kernel
theorem dX4_rule_27 : decode cX4_rule 27 = .ok (.iload_n 2, 1) := by decide +kernel
theorem dX4_rule_28 : decode cX4_rule 28 = .ok (.invokevirtual 91, 3) := by decide +kernel
theorem dX4_rule_31 : decode cX4_rule 31 = .ok (.goto 5, 3) := by decide +kernel
theorem dX4_rule_34 : decode cX4_rule 34 = .ok (.bipush (-2), 2) := by decide +kernel
theorem dX4_rule_36 : decode cX4_rule 36 = .ok (.ireturn, 1) := by decide +kernel
theorem dX4_crack_0 : decode cX4_crack 0 = .ok (.iload_n 1, 1) := by decide +kernel
theorem dX4_crack_1 : decode cX4_crack 1 = .ok (.bipush 6, 2) := by decide +kernel
theorem dX4_crack_3 : decode cX4_crack 3 = .ok (.invokestatic 62, 3) := by decide +kernel
theorem dX4_crack_6 : decode cX4_crack 6 = .ok (.ifCond .eq 12, 3) := by decide +kernel
theorem dX4_crack_9 : decode cX4_crack 9 = .ok (.iload_n 2, 1) := by decide +kernel
theorem dX4_crack_10 : decode cX4_crack 10 = .ok (.bipush 6, 2) := by decide +kernel
theorem dX4_crack_12 : decode cX4_crack 12 = .ok (.invokestatic 62, 3) := by decide +kernel
theorem dX4_crack_15 : decode cX4_crack 15 = .ok (.ifCond .ne 6, 3) := by decide +kernel
theorem dX4_crack_18 : decode cX4_crack 18 = .ok (.bipush (-2), 2) := by decide +kernel
theorem dX4_crack_20 : decode cX4_crack 20 = .ok (.ireturn, 1) := by decide +kernel
theorem dX4_crack_21 : decode cX4_crack 21 = .ok (.aload_n 0, 1) := by decide +kernel
theorem dX4_crack_22 : decode cX4_crack 22 = .ok (.getfield 41, 3) := by decide +kernel
theorem dX4_crack_25 : decode cX4_crack 25 = .ok (.iconst 1, 1) := by decide +kernel
theorem dX4_crack_26 : decode cX4_crack 26 = .ok (.putfield 66, 3) := by decide +kernel
theorem dX4_crack_29 : decode cX4_crack 29 = .ok (.aload_n 0, 1) := by decide +kernel
theorem dX4_crack_30 : decode cX4_crack 30 = .ok (.getfield 26, 3) := by decide +kernel
theorem dX4_crack_33 : decode cX4_crack 33 = .ok (.iload_n 1, 1) := by decide +kernel
theorem dX4_crack_34 : decode cX4_crack 34 = .ok (.iload_n 2, 1) := by decide +kernel
theorem dX4_crack_35 : decode cX4_crack 35 = .ok (.invokevirtual 95, 3) := by decide +kernel
theorem dX4_crack_38 : decode cX4_crack 38 = .ok (.ireturn, 1) := by decide +kernel
theorem dX4_deed_0 : decode cX4_deed 0 = .ok (.iload_n 1, 1) := by decide +kernel
theorem dX4_deed_1 : decode cX4_deed 1 = .ok (.bipush 28, 2) := by decide +kernel
theorem dX4_deed_3 : decode cX4_deed 3 = .ok (.invokestatic 62, 3) := by decide +kernel
theorem dX4_deed_6 : decode cX4_deed 6 = .ok (.ifCond .eq 24, 3) := by decide +kernel
theorem dX4_deed_9 : decode cX4_deed 9 = .ok (.iload_n 2, 1) := by decide +kernel
theorem dX4_deed_10 : decode cX4_deed 10 = .ok (.bipush 8, 2) := by decide +kernel
theorem dX4_deed_12 : decode cX4_deed 12 = .ok (.invokestatic 62, 3) := by decide +kernel
theorem dX4_deed_15 : decode cX4_deed 15 = .ok (.ifCond .eq 15, 3) := by decide +kernel
theorem dX4_deed_18 : decode cX4_deed 18 = .ok (.aload_n 0, 1) := by decide +kernel
theorem dX4_deed_19 : decode cX4_deed 19 = .ok (.getfield 30, 3) := by decide +kernel
theorem dX4_deed_22 : decode cX4_deed 22 = .ok (.iload_n 1, 1) := by decide +kernel
theorem dX4_deed_23 : decode cX4_deed 23 = .ok (.iload_n 2, 1) := by decide +kernel
theorem dX4_deed_24 : decode cX4_deed 24 = .ok (.invokevirtual 95, 3) := by decide +kernel
theorem dX4_deed_27 : decode cX4_deed 27 = .ok (.goto 5, 3) := by decide +kernel
theorem dX4_deed_30 : decode cX4_deed 30 = .ok (.bipush (-2), 2) := by decide +kernel
theorem dX4_deed_32 : decode cX4_deed 32 = .ok (.ireturn, 1) := by decide +kernel
theorem dX4_back_0 : decode cX4_back 0 = .ok (.iload_n 1, 1) := by decide +kernel
theorem dX4_back_1 : decode cX4_back 1 = .ok (.iconst 2, 1) := by decide +kernel
theorem dX4_back_2 : decode cX4_back 2 = .ok (.invokestatic 62, 3) := by decide +kernel
theorem dX4_back_5 : decode cX4_back 5 = .ok (.ifCond .ne 6, 3) := by decide +kernel
theorem dX4_back_8 : decode cX4_back 8 = .ok (.bipush (-2), 2) := by decide +kernel
theorem dX4_back_10 : decode cX4_back 10 = .ok (.ireturn, 1) := by decide +kernel
theorem dX4_back_11 : decode cX4_back 11 = .ok (.iload_n 1, 1) := by decide +kernel
theorem dX4_back_12 : decode cX4_back 12 = .ok (.iconst 1, 1) := by decide +kernel
theorem dX4_back_13 : decode cX4_back 13 = .ok (.if_icmp .ne 11, 3) := by decide +kernel
theorem dX4_back_16 : decode cX4_back 16 = .ok (.aload_n 0, 1) := by decide +kernel
theorem dX4_back_17 : decode cX4_back 17 = .ok (.getfield 30, 3) := by decide +kernel
theorem dX4_back_20 : decode cX4_back 20 = .ok (.invokevirtual 97, 3) := by decide +kernel
theorem dX4_back_23 : decode cX4_back 23 = .ok (.ireturn, 1) := by decide +kernel
theorem dX4_back_24 : decode cX4_back 24 = .ok (.aload_n 0, 1) := by decide +kernel
theorem dX4_back_25 : decode cX4_back 25 = .ok (.getfield 41, 3) := by decide +kernel
theorem dX4_back_28 : decode cX4_back 28 = .ok (.iconst 1, 1) := by decide +kernel
theorem dX4_back_29 : decode cX4_back 29 = .ok (.putfield 66, 3) := by decide +kernel
theorem dX4_back_32 : decode cX4_back 32 = .ok (.aload_n 0, 1) := by decide +kernel
theorem dX4_back_33 : decode cX4_back 33 = .ok (.getfield 26, 3) := by decide +kernel
theorem dX4_back_36 : decode cX4_back 36 = .ok (.invokevirtual 97, 3) := by decide +kernel
theorem dX4_back_39 : decode cX4_back 39 = .ok (.ireturn, 1) := by decide +kernel
theorem dX4_set_0 : decode cX4_set 0 = .ok (.iload_n 1, 1) := by decide +kernel
theorem dX4_set_1 : decode cX4_set 1 = .ok (.iconst 2, 1) := by decide +kernel
theorem dX4_set_2 : decode cX4_set 2 = .ok (.invokestatic 62, 3) := by decide +kernel
theorem dX4_set_5 : decode cX4_set 5 = .ok (.ifCond .eq 11, 3) := by decide +kernel
theorem dX4_set_8 : decode cX4_set 8 = .ok (.iload_n 2, 1) := by decide +kernel
theorem dX4_set_9 : decode cX4_set 9 = .ok (.iconst 4, 1) := by decide +kernel
theorem dX4_set_10 : decode cX4_set 10 = .ok (.invokestatic 62, 3) := by decide +kernel
theorem dX4_set_13 : decode cX4_set 13 = .ok (.ifCond .ne 6, 3) := by decide +kernel
theorem dX4_set_16 : decode cX4_set 16 = .ok (.bipush (-2), 2) := by decide +kernel
theorem dX4_set_18 : decode cX4_set 18 = .ok (.ireturn, 1) := by decide +kernel
theorem dX4_set_19 : decode cX4_set 19 = .ok (.iload_n 1, 1) := by decide +kernel
theorem dX4_set_20 : decode cX4_set 20 = .ok (.ifCond .ne 10, 3) := by decide +kernel
theorem dX4_set_23 : decode cX4_set 23 = .ok (.aload_n 0, 1) := by decide +kernel
theorem dX4_set_24 : decode cX4_set 24 = .ok (.getfield 51, 3) := by decide +kernel
theorem dX4_set_27 : decode cX4_set 27 = .ok (.goto 7, 3) := by decide +kernel
theorem dX4_set_30 : decode cX4_set 30 = .ok (.aload_n 0, 1) := by decide +kernel
theorem dX4_set_31 : decode cX4_set 31 = .ok (.getfield 55, 3) := by decide +kernel
theorem dX4_set_34 : decode cX4_set 34 = .ok (.istore_n 3, 1) := by decide +kernel
theorem dX4_set_35 : decode cX4_set 35 = .ok (.iload_n 1, 1) := by decide +kernel
theorem dX4_set_36 : decode cX4_set 36 = .ok (.ifCond .ne 11, 3) := by decide +kernel
theorem dX4_set_39 : decode cX4_set 39 = .ok (.aload_n 0, 1) := by decide +kernel
theorem dX4_set_40 : decode cX4_set 40 = .ok (.iload_n 2, 1) := by decide +kernel
theorem dX4_set_41 : decode cX4_set 41 = .ok (.putfield 51, 3) := by decide +kernel
theorem dX4_set_44 : decode cX4_set 44 = .ok (.goto 8, 3) := by decide +kernel
theorem dX4_set_47 : decode cX4_set 47 = .ok (.aload_n 0, 1) := by decide +kernel
theorem dX4_set_48 : decode cX4_set 48 = .ok (.iload_n 2, 1) := by decide +kernel
theorem dX4_set_49 : decode cX4_set 49 = .ok (.putfield 55, 3) := by decide +kernel
theorem dX4_set_52 : decode cX4_set 52 = .ok (.iload_n 3, 1) := by decide +kernel
theorem dX4_set_53 : decode cX4_set 53 = .ok (.ireturn, 1) := by decide +kernel
theorem dX4_lies_0 : decode cX4_lies 0 = .ok (.iload_n 1, 1) := by decide +kernel
theorem dX4_lies_1 : decode cX4_lies 1 = .ok (.iconst 4, 1) := by decide +kernel
theorem dX4_lies_2 : decode cX4_lies 2 = .ok (.invokestatic 62, 3) := by decide +kernel
theorem dX4_lies_5 : decode cX4_lies 5 = .ok (.ifCond .eq 25, 3) := by decide +kernel
theorem dX4_lies_8 : decode cX4_lies 8 = .ok (.iload_n 2, 1) := by decide +kernel
theorem dX4_lies_9 : decode cX4_lies 9 = .ok (.aload_n 0, 1) := by decide +kernel
theorem dX4_lies_10 : decode cX4_lies 10 = .ok (.getfield 14, 3) := by decide +kernel
theorem dX4_lies_13 : decode cX4_lies 13 = .ok (.getfield 88, 3) := by decide +kernel
theorem dX4_lies_16 : decode cX4_lies 16 = .ok (.invokestatic 62, 3) := by decide +kernel
theorem dX4_lies_19 : decode cX4_lies 19 = .ok (.ifCond .eq 11, 3) := by decide +kernel
theorem dX4_lies_22 : decode cX4_lies 22 = .ok (.iload_n 3, 1) := by decide +kernel
theorem dX4_lies_23 : decode cX4_lies 23 = .ok (.iconst 2, 1) := by decide +kernel
theorem dX4_lies_24 : decode cX4_lies 24 = .ok (.invokestatic 62, 3) := by decide +kernel
theorem dX4_lies_27 : decode cX4_lies 27 = .ok (.ifCond .ne 6, 3) := by decide +kernel
theorem dX4_lies_30 : decode cX4_lies 30 = .ok (.bipush (-2), 2) := by decide +kernel
theorem dX4_lies_32 : decode cX4_lies 32 = .ok (.ireturn, 1) := by decide +kernel
theorem dX4_lies_33 : decode cX4_lies 33 = .ok (.aload_n 0, 1) := by decide +kernel
theorem dX4_lies_34 : decode cX4_lies 34 = .ok (.getfield 41, 3) := by decide +kernel
theorem dX4_lies_37 : decode cX4_lies 37 = .ok (.invokevirtual 98, 3) := by decide +kernel
theorem dX4_lies_40 : decode cX4_lies 40 = .ok (.astore 4, 2) := by decide +kernel
theorem dX4_lies_42 : decode cX4_lies 42 = .ok (.iload_n 3, 1) := by decide +kernel
theorem dX4_lies_43 : decode cX4_lies 43 = .ok (.ifCond .ne 15, 3) := by decide +kernel
theorem dX4_lies_46 : decode cX4_lies 46 = .ok (.aload 4, 2) := by decide +kernel
theorem dX4_lies_48 : decode cX4_lies 48 = .ok (.getfield 102, 3) := by decide +kernel
theorem dX4_lies_51 : decode cX4_lies 51 = .ok (.iload_n 1, 1) := by decide +kernel
theorem dX4_lies_52 : decode cX4_lies 52 = .ok (.aaload, 1) := by decide +kernel
theorem dX4_lies_53 : decode cX4_lies 53 = .ok (.iload_n 2, 1) := by decide +kernel
theorem dX4_lies_54 : decode cX4_lies 54 = .ok (.iaload, 1) := by decide +kernel
theorem dX4_lies_55 : decode cX4_lies 55 = .ok (.goto 12, 3) := by decide +kernel
theorem dX4_lies_58 : decode cX4_lies 58 = .ok (.aload 4, 2) := by decide +kernel
theorem dX4_lies_60 : decode cX4_lies 60 = .ok (.getfield 106, 3) := by decide +kernel
theorem dX4_lies_63 : decode cX4_lies 63 = .ok (.iload_n 1, 1) := by decide +kernel
theorem dX4_lies_64 : decode cX4_lies 64 = .ok (.aaload, 1) := by decide +kernel
theorem dX4_lies_65 : decode cX4_lies 65 = .ok (.iload_n 2, 1) := by decide +kernel
theorem dX4_lies_66 : decode cX4_lies 66 = .ok (.iaload, 1) := by decide +kernel
theorem dX4_lies_67 : decode cX4_lies 67 = .ok (.ireturn, 1) := by decide +kernel
theorem dX4_reading_0 : decode cX4_reading 0 = .ok (.iload_n 1, 1) := by decide +kernel
theorem dX4_reading_1 : decode cX4_reading 1 = .ok (.iconst 4, 1) := by decide +kernel
theorem dX4_reading_2 : decode cX4_reading 2 = .ok (.invokestatic 62, 3) := by decide +kernel
theorem dX4_reading_5 : decode cX4_reading 5 = .ok (.ifCond .eq 11, 3) := by decide +kernel
theorem dX4_reading_8 : decode cX4_reading 8 = .ok (.iload_n 2, 1) := by decide +kernel
theorem dX4_reading_9 : decode cX4_reading 9 = .ok (.iconst 3, 1) := by decide +kernel
theorem dX4_reading_10 : decode cX4_reading 10 = .ok (.invokestatic 62, 3) := by decide +kernel
theorem dX4_reading_13 : decode cX4_reading 13 = .ok (.ifCond .ne 6, 3) := by decide +kernel
theorem dX4_reading_16 : decode cX4_reading 16 = .ok (.bipush (-2), 2) := by decide +kernel
theorem dX4_reading_18 : decode cX4_reading 18 = .ok (.ireturn, 1) := by decide +kernel
theorem dX4_reading_19 : decode cX4_reading 19 = .ok (.aload_n 0, 1) := by decide +kernel
theorem dX4_reading_20 : decode cX4_reading 20 = .ok (.getfield 41, 3) := by decide +kernel
theorem dX4_reading_23 : decode cX4_reading 23 = .ok (.invokevirtual 98, 3) := by decide +kernel
theorem dX4_reading_26 : decode cX4_reading 26 = .ok (.astore_n 3, 1) := by decide +kernel
theorem dX4_reading_27 : decode cX4_reading 27 = .ok (.iload_n 2, 1) := by decide +kernel
theorem dX4_reading_28 : decode cX4_reading 28 = .ok (.lookupswitch 42 #[(0, 28), (1, 35)], 28) := by decide +kernel
theorem dX4_reading_56 : decode cX4_reading 56 = .ok (.aload_n 3, 1) := by decide +kernel
theorem dX4_reading_57 : decode cX4_reading 57 = .ok (.getfield 109, 3) := by decide +kernel
theorem dX4_reading_60 : decode cX4_reading 60 = .ok (.iload_n 1, 1) := by decide +kernel
theorem dX4_reading_61 : decode cX4_reading 61 = .ok (.iaload, 1) := by decide +kernel
theorem dX4_reading_62 : decode cX4_reading 62 = .ok (.ireturn, 1) := by decide +kernel
theorem dX4_reading_63 : decode cX4_reading 63 = .ok (.aload_n 3, 1) := by decide +kernel
theorem dX4_reading_64 : decode cX4_reading 64 = .ok (.getfield 113, 3) := by decide +kernel
theorem dX4_reading_67 : decode cX4_reading 67 = .ok (.iload_n 1, 1) := by decide +kernel
theorem dX4_reading_68 : decode cX4_reading 68 = .ok (.iaload, 1) := by decide +kernel
theorem dX4_reading_69 : decode cX4_reading 69 = .ok (.ireturn, 1) := by decide +kernel
theorem dX4_reading_70 : decode cX4_reading 70 = .ok (.aload_n 3, 1) := by decide +kernel
theorem dX4_reading_71 : decode cX4_reading 71 = .ok (.getfield 116, 3) := by decide +kernel
theorem dX4_reading_74 : decode cX4_reading 74 = .ok (.iload_n 1, 1) := by decide +kernel
theorem dX4_reading_75 : decode cX4_reading 75 = .ok (.iaload, 1) := by decide +kernel
theorem dX4_reading_76 : decode cX4_reading 76 = .ok (.ireturn, 1) := by decide +kernel
theorem dX4_day_0 : decode cX4_day 0 = .ok (.iload_n 1, 1) := by decide +kernel
theorem dX4_day_1 : decode cX4_day 1 = .ok (.bipush 28, 2) := by decide +kernel
theorem dX4_day_3 : decode cX4_day 3 = .ok (.invokestatic 62, 3) := by decide +kernel
theorem dX4_day_6 : decode cX4_day 6 = .ok (.ifCond .eq 22, 3) := by decide +kernel
theorem dX4_day_9 : decode cX4_day 9 = .ok (.aload_n 0, 1) := by decide +kernel
theorem dX4_day_10 : decode cX4_day 10 = .ok (.getfield 41, 3) := by decide +kernel
theorem dX4_day_13 : decode cX4_day 13 = .ok (.invokevirtual 98, 3) := by decide +kernel
theorem dX4_day_16 : decode cX4_day 16 = .ok (.getfield 116, 3) := by decide +kernel
theorem dX4_day_19 : decode cX4_day 19 = .ok (.aload_n 0, 1) := by decide +kernel
theorem dX4_day_20 : decode cX4_day 20 = .ok (.iload_n 1, 1) := by decide +kernel
theorem dX4_day_21 : decode cX4_day 21 = .ok (.invokevirtual 119, 3) := by decide +kernel
theorem dX4_day_24 : decode cX4_day 24 = .ok (.iaload, 1) := by decide +kernel
theorem dX4_day_25 : decode cX4_day 25 = .ok (.goto 5, 3) := by decide +kernel
theorem dX4_day_28 : decode cX4_day 28 = .ok (.bipush (-2), 2) := by decide +kernel
theorem dX4_day_30 : decode cX4_day 30 = .ok (.ireturn, 1) := by decide +kernel
theorem dX4_broken_0 : decode cX4_broken 0 = .ok (.iload_n 1, 1) := by decide +kernel
theorem dX4_broken_1 : decode cX4_broken 1 = .ok (.iconst 2, 1) := by decide +kernel
theorem dX4_broken_2 : decode cX4_broken 2 = .ok (.invokestatic 62, 3) := by decide +kernel
theorem dX4_broken_5 : decode cX4_broken 5 = .ok (.ifCond .ne 6, 3) := by decide +kernel
theorem dX4_broken_8 : decode cX4_broken 8 = .ok (.bipush (-2), 2) := by decide +kernel
theorem dX4_broken_10 : decode cX4_broken 10 = .ok (.ireturn, 1) := by decide +kernel
theorem dX4_broken_11 : decode cX4_broken 11 = .ok (.aload_n 0, 1) := by decide +kernel
theorem dX4_broken_12 : decode cX4_broken 12 = .ok (.aload_n 0, 1) := by decide +kernel
theorem dX4_broken_13 : decode cX4_broken 13 = .ok (.getfield 41, 3) := by decide +kernel
theorem dX4_broken_16 : decode cX4_broken 16 = .ok (.invokevirtual 98, 3) := by decide +kernel
theorem dX4_broken_19 : decode cX4_broken 19 = .ok (.invokevirtual 122, 3) := by decide +kernel
theorem dX4_broken_22 : decode cX4_broken 22 = .ok (.istore_n 2, 1) := by decide +kernel
theorem dX4_broken_23 : decode cX4_broken 23 = .ok (.iload_n 1, 1) := by decide +kernel
theorem dX4_broken_24 : decode cX4_broken 24 = .ok (.ifCond .ne 7, 3) := by decide +kernel
theorem dX4_broken_27 : decode cX4_broken 27 = .ok (.iload_n 2, 1) := by decide +kernel
theorem dX4_broken_28 : decode cX4_broken 28 = .ok (.goto 8, 3) := by decide +kernel
theorem dX4_broken_31 : decode cX4_broken 31 = .ok (.aload_n 0, 1) := by decide +kernel
theorem dX4_broken_32 : decode cX4_broken 32 = .ok (.iload_n 2, 1) := by decide +kernel
theorem dX4_broken_33 : decode cX4_broken 33 = .ok (.invokevirtual 126, 3) := by decide +kernel
theorem dX4_broken_36 : decode cX4_broken 36 = .ok (.ireturn, 1) := by decide +kernel
theorem dX4_free_0 : decode cX4_free 0 = .ok (.iload_n 1, 1) := by decide +kernel
theorem dX4_free_1 : decode cX4_free 1 = .ok (.bipush 8, 2) := by decide +kernel
theorem dX4_free_3 : decode cX4_free 3 = .ok (.invokestatic 62, 3) := by decide +kernel
theorem dX4_free_6 : decode cX4_free 6 = .ok (.ifCond .ne 6, 3) := by decide +kernel
theorem dX4_free_9 : decode cX4_free 9 = .ok (.bipush (-2), 2) := by decide +kernel
theorem dX4_free_11 : decode cX4_free 11 = .ok (.ireturn, 1) := by decide +kernel
theorem dX4_free_12 : decode cX4_free 12 = .ok (.aload_n 0, 1) := by decide +kernel
theorem dX4_free_13 : decode cX4_free 13 = .ok (.getfield 41, 3) := by decide +kernel
theorem dX4_free_16 : decode cX4_free 16 = .ok (.invokevirtual 98, 3) := by decide +kernel
theorem dX4_free_19 : decode cX4_free 19 = .ok (.astore_n 2, 1) := by decide +kernel
theorem dX4_free_20 : decode cX4_free 20 = .ok (.iconst 0, 1) := by decide +kernel
theorem dX4_free_21 : decode cX4_free 21 = .ok (.istore_n 3, 1) := by decide +kernel
theorem dX4_free_22 : decode cX4_free 22 = .ok (.iconst 0, 1) := by decide +kernel
theorem dX4_free_23 : decode cX4_free 23 = .ok (.istore 4, 2) := by decide +kernel
theorem dX4_free_25 : decode cX4_free 25 = .ok (.iload 4, 2) := by decide +kernel
theorem dX4_free_27 : decode cX4_free 27 = .ok (.bipush 28, 2) := by decide +kernel
theorem dX4_free_29 : decode cX4_free 29 = .ok (.if_icmp .ge 30, 3) := by decide +kernel
theorem dX4_free_32 : decode cX4_free 32 = .ok (.aload_n 2, 1) := by decide +kernel
theorem dX4_free_33 : decode cX4_free 33 = .ok (.aload_n 0, 1) := by decide +kernel
theorem dX4_free_34 : decode cX4_free 34 = .ok (.iload 4, 2) := by decide +kernel
theorem dX4_free_36 : decode cX4_free 36 = .ok (.invokevirtual 119, 3) := by decide +kernel
theorem dX4_free_39 : decode cX4_free 39 = .ok (.iload_n 1, 1) := by decide +kernel
theorem dX4_free_40 : decode cX4_free 40 = .ok (.invokevirtual 129, 3) := by decide +kernel
theorem dX4_free_43 : decode cX4_free 43 = .ok (.ifCond .ne 10, 3) := by decide +kernel
theorem dX4_free_46 : decode cX4_free 46 = .ok (.iload_n 3, 1) := by decide +kernel
theorem dX4_free_47 : decode cX4_free 47 = .ok (.iconst 1, 1) := by decide +kernel
theorem dX4_free_48 : decode cX4_free 48 = .ok (.iload 4, 2) := by decide +kernel
theorem dX4_free_50 : decode cX4_free 50 = .ok (.ishl, 1) := by decide +kernel
theorem dX4_free_51 : decode cX4_free 51 = .ok (.ior, 1) := by decide +kernel
theorem dX4_free_52 : decode cX4_free 52 = .ok (.istore_n 3, 1) := by decide +kernel
theorem dX4_free_53 : decode cX4_free 53 = .ok (.iinc 4 1, 3) := by decide +kernel
theorem dX4_free_56 : decode cX4_free 56 = .ok (.goto (-31), 3) := by decide +kernel
theorem dX4_free_59 : decode cX4_free 59 = .ok (.iload_n 3, 1) := by decide +kernel
theorem dX4_free_60 : decode cX4_free 60 = .ok (.ireturn, 1) := by decide +kernel
theorem dX4_clash_0 : decode cX4_clash 0 = .ok (.iload_n 1, 1) := by decide +kernel
theorem dX4_clash_1 : decode cX4_clash 1 = .ok (.iconst 4, 1) := by decide +kernel
theorem dX4_clash_2 : decode cX4_clash 2 = .ok (.invokestatic 62, 3) := by decide +kernel
theorem dX4_clash_5 : decode cX4_clash 5 = .ok (.ifCond .eq 17, 3) := by decide +kernel
theorem dX4_clash_8 : decode cX4_clash 8 = .ok (.aload_n 0, 1) := by decide +kernel
theorem dX4_clash_9 : decode cX4_clash 9 = .ok (.getfield 41, 3) := by decide +kernel
theorem dX4_clash_12 : decode cX4_clash 12 = .ok (.invokevirtual 98, 3) := by decide +kernel
theorem dX4_clash_15 : decode cX4_clash 15 = .ok (.iload_n 1, 1) := by decide +kernel
theorem dX4_clash_16 : decode cX4_clash 16 = .ok (.invokevirtual 132, 3) := by decide +kernel
theorem dX4_clash_19 : decode cX4_clash 19 = .ok (.goto 5, 3) := by decide +kernel
theorem dX4_clash_22 : decode cX4_clash 22 = .ok (.bipush (-2), 2) := by decide +kernel
theorem dX4_clash_24 : decode cX4_clash 24 = .ok (.ireturn, 1) := by decide +kernel
theorem dX4_pour_0 : decode cX4_pour 0 = .ok (.iload_n 1, 1) := by decide +kernel
theorem dX4_pour_1 : decode cX4_pour 1 = .ok (.invokestatic 135, 3) := by decide +kernel
theorem dX4_pour_4 : decode cX4_pour 4 = .ok (.ifCond .ne 6, 3) := by decide +kernel
theorem dX4_pour_7 : decode cX4_pour 7 = .ok (.bipush (-2), 2) := by decide +kernel
theorem dX4_pour_9 : decode cX4_pour 9 = .ok (.ireturn, 1) := by decide +kernel
theorem dX4_pour_10 : decode cX4_pour 10 = .ok (.aload_n 0, 1) := by decide +kernel
theorem dX4_pour_11 : decode cX4_pour 11 = .ok (.getfield 41, 3) := by decide +kernel
theorem dX4_pour_14 : decode cX4_pour 14 = .ok (.invokevirtual 98, 3) := by decide +kernel
theorem dX4_pour_17 : decode cX4_pour 17 = .ok (.astore_n 2, 1) := by decide +kernel
theorem dX4_pour_18 : decode cX4_pour 18 = .ok (.iconst 0, 1) := by decide +kernel
theorem dX4_pour_19 : decode cX4_pour 19 = .ok (.istore_n 3, 1) := by decide +kernel
theorem dX4_pour_20 : decode cX4_pour 20 = .ok (.bipush (-9), 2) := by decide +kernel
theorem dX4_pour_22 : decode cX4_pour 22 = .ok (.istore 4, 2) := by decide +kernel
theorem dX4_pour_24 : decode cX4_pour 24 = .ok (.iconst 0, 1) := by decide +kernel
theorem dX4_pour_25 : decode cX4_pour 25 = .ok (.istore 5, 2) := by decide +kernel
theorem dX4_pour_27 : decode cX4_pour 27 = .ok (.iload 5, 2) := by decide +kernel
theorem dX4_pour_29 : decode cX4_pour 29 = .ok (.iconst 4, 1) := by decide +kernel
theorem dX4_pour_30 : decode cX4_pour 30 = .ok (.if_icmp .ge 51, 3) := by decide +kernel
theorem dX4_pour_33 : decode cX4_pour 33 = .ok (.aload_n 2, 1) := by decide +kernel
theorem dX4_pour_34 : decode cX4_pour 34 = .ok (.getfield 116, 3) := by decide +kernel
theorem dX4_pour_37 : decode cX4_pour 37 = .ok (.iload 5, 2) := by decide +kernel
theorem dX4_pour_39 : decode cX4_pour 39 = .ok (.iaload, 1) := by decide +kernel
theorem dX4_pour_40 : decode cX4_pour 40 = .ok (.istore 6, 2) := by decide +kernel
theorem dX4_pour_42 : decode cX4_pour 42 = .ok (.iload 6, 2) := by decide +kernel
theorem dX4_pour_44 : decode cX4_pour 44 = .ok (.iload_n 1, 1) := by decide +kernel
theorem dX4_pour_45 : decode cX4_pour 45 = .ok (.iand, 1) := by decide +kernel
theorem dX4_pour_46 : decode cX4_pour 46 = .ok (.invokestatic 139, 3) := by decide +kernel
theorem dX4_pour_49 : decode cX4_pour 49 = .ok (.iload 6, 2) := by decide +kernel
theorem dX4_pour_51 : decode cX4_pour 51 = .ok (.iload_n 1, 1) := by decide +kernel
theorem dX4_pour_52 : decode cX4_pour 52 = .ok (.iconst (-1), 1) := by decide +kernel
theorem dX4_pour_53 : decode cX4_pour 53 = .ok (.ixor, 1) := by decide +kernel
theorem dX4_pour_54 : decode cX4_pour 54 = .ok (.iand, 1) := by decide +kernel
theorem dX4_pour_55 : decode cX4_pour 55 = .ok (.invokestatic 139, 3) := by decide +kernel
theorem dX4_pour_58 : decode cX4_pour 58 = .ok (.isub, 1) := by decide +kernel
theorem dX4_pour_59 : decode cX4_pour 59 = .ok (.istore 7, 2) := by decide +kernel
theorem dX4_pour_61 : decode cX4_pour 61 = .ok (.iload 7, 2) := by decide +kernel
theorem dX4_pour_63 : decode cX4_pour 63 = .ok (.iload 4, 2) := by decide +kernel
theorem dX4_pour_65 : decode cX4_pour 65 = .ok (.if_icmp .le 10, 3) := by decide +kernel
theorem dX4_pour_68 : decode cX4_pour 68 = .ok (.iload 7, 2) := by decide +kernel
theorem dX4_pour_70 : decode cX4_pour 70 = .ok (.istore 4, 2) := by decide +kernel
theorem dX4_pour_72 : decode cX4_pour 72 = .ok (.iload 5, 2) := by decide +kernel
theorem dX4_pour_74 : decode cX4_pour 74 = .ok (.istore_n 3, 1) := by decide +kernel
theorem dX4_pour_75 : decode cX4_pour 75 = .ok (.iinc 5 1, 3) := by decide +kernel
theorem dX4_pour_78 : decode cX4_pour 78 = .ok (.goto (-51), 3) := by decide +kernel
theorem dX4_pour_81 : decode cX4_pour 81 = .ok (.iload_n 3, 1) := by decide +kernel
theorem dX4_pour_82 : decode cX4_pour 82 = .ok (.ireturn, 1) := by decide +kernel
theorem dX4_strain_0 : decode cX4_strain 0 = .ok (.iload_n 1, 1) := by decide +kernel
theorem dX4_strain_1 : decode cX4_strain 1 = .ok (.iconst 4, 1) := by decide +kernel
theorem dX4_strain_2 : decode cX4_strain 2 = .ok (.invokestatic 62, 3) := by decide +kernel
theorem dX4_strain_5 : decode cX4_strain 5 = .ok (.ifCond .eq 32, 3) := by decide +kernel
theorem dX4_strain_8 : decode cX4_strain 8 = .ok (.iload_n 2, 1) := by decide +kernel
theorem dX4_strain_9 : decode cX4_strain 9 = .ok (.invokestatic 135, 3) := by decide +kernel
theorem dX4_strain_12 : decode cX4_strain 12 = .ok (.ifCond .eq 25, 3) := by decide +kernel
theorem dX4_strain_15 : decode cX4_strain 15 = .ok (.iload_n 3, 1) := by decide +kernel
theorem dX4_strain_16 : decode cX4_strain 16 = .ok (.invokestatic 135, 3) := by decide +kernel
theorem dX4_strain_19 : decode cX4_strain 19 = .ok (.ifCond .eq 18, 3) := by decide +kernel
theorem dX4_strain_22 : decode cX4_strain 22 = .ok (.iload_n 2, 1) := by decide +kernel
theorem dX4_strain_23 : decode cX4_strain 23 = .ok (.iload_n 3, 1) := by decide +kernel
theorem dX4_strain_24 : decode cX4_strain 24 = .ok (.iand, 1) := by decide +kernel
theorem dX4_strain_25 : decode cX4_strain 25 = .ok (.ifCond .ne 12, 3) := by decide +kernel
theorem dX4_strain_28 : decode cX4_strain 28 = .ok (.iload 4, 2) := by decide +kernel
theorem dX4_strain_30 : decode cX4_strain 30 = .ok (.iconst 2, 1) := by decide +kernel
theorem dX4_strain_31 : decode cX4_strain 31 = .ok (.invokestatic 62, 3) := by decide +kernel
theorem dX4_strain_34 : decode cX4_strain 34 = .ok (.ifCond .ne 6, 3) := by decide +kernel
theorem dX4_strain_37 : decode cX4_strain 37 = .ok (.bipush (-2), 2) := by decide +kernel
theorem dX4_strain_39 : decode cX4_strain 39 = .ok (.ireturn, 1) := by decide +kernel
theorem dX4_strain_40 : decode cX4_strain 40 = .ok (.aload_n 0, 1) := by decide +kernel
theorem dX4_strain_41 : decode cX4_strain 41 = .ok (.getfield 41, 3) := by decide +kernel
theorem dX4_strain_44 : decode cX4_strain 44 = .ok (.invokevirtual 98, 3) := by decide +kernel
theorem dX4_strain_47 : decode cX4_strain 47 = .ok (.iload_n 1, 1) := by decide +kernel
theorem dX4_strain_48 : decode cX4_strain 48 = .ok (.iload_n 2, 1) := by decide +kernel
theorem dX4_strain_49 : decode cX4_strain 49 = .ok (.iload_n 3, 1) := by decide +kernel
theorem dX4_strain_50 : decode cX4_strain 50 = .ok (.invokevirtual 144, 3) := by decide +kernel
theorem dX4_strain_53 : decode cX4_strain 53 = .ok (.iload 4, 2) := by decide +kernel
theorem dX4_strain_55 : decode cX4_strain 55 = .ok (.invokestatic 148, 3) := by decide +kernel
theorem dX4_strain_58 : decode cX4_strain 58 = .ok (.ireturn, 1) := by decide +kernel
theorem dX4_strike_0 : decode cX4_strike 0 = .ok (.iload_n 1, 1) := by decide +kernel
theorem dX4_strike_1 : decode cX4_strike 1 = .ok (.iconst 4, 1) := by decide +kernel
theorem dX4_strike_2 : decode cX4_strike 2 = .ok (.invokestatic 62, 3) := by decide +kernel
theorem dX4_strike_5 : decode cX4_strike 5 = .ok (.ifCond .eq 18, 3) := by decide +kernel
theorem dX4_strike_8 : decode cX4_strike 8 = .ok (.iload_n 2, 1) := by decide +kernel
theorem dX4_strike_9 : decode cX4_strike 9 = .ok (.invokestatic 135, 3) := by decide +kernel
theorem dX4_strike_12 : decode cX4_strike 12 = .ok (.ifCond .eq 11, 3) := by decide +kernel
theorem dX4_strike_15 : decode cX4_strike 15 = .ok (.iload_n 3, 1) := by decide +kernel
theorem dX4_strike_16 : decode cX4_strike 16 = .ok (.iconst 2, 1) := by decide +kernel
theorem dX4_strike_17 : decode cX4_strike 17 = .ok (.invokestatic 62, 3) := by decide +kernel
theorem dX4_strike_20 : decode cX4_strike 20 = .ok (.ifCond .ne 6, 3) := by decide +kernel
theorem dX4_strike_23 : decode cX4_strike 23 = .ok (.bipush (-2), 2) := by decide +kernel
theorem dX4_strike_25 : decode cX4_strike 25 = .ok (.ireturn, 1) := by decide +kernel
theorem dX4_strike_26 : decode cX4_strike 26 = .ok (.aload_n 0, 1) := by decide +kernel
theorem dX4_strike_27 : decode cX4_strike 27 = .ok (.getfield 41, 3) := by decide +kernel
theorem dX4_strike_30 : decode cX4_strike 30 = .ok (.invokevirtual 98, 3) := by decide +kernel
theorem dX4_strike_33 : decode cX4_strike 33 = .ok (.iload_n 1, 1) := by decide +kernel
theorem dX4_strike_34 : decode cX4_strike 34 = .ok (.iload_n 2, 1) := by decide +kernel
theorem dX4_strike_35 : decode cX4_strike 35 = .ok (.invokevirtual 151, 3) := by decide +kernel
theorem dX4_strike_38 : decode cX4_strike 38 = .ok (.iload_n 3, 1) := by decide +kernel
theorem dX4_strike_39 : decode cX4_strike 39 = .ok (.invokestatic 148, 3) := by decide +kernel
theorem dX4_strike_42 : decode cX4_strike 42 = .ok (.ireturn, 1) := by decide +kernel
theorem dX4_place_0 : decode cX4_place 0 = .ok (.iload_n 1, 1) := by decide +kernel
theorem dX4_place_1 : decode cX4_place 1 = .ok (.iconst 4, 1) := by decide +kernel
theorem dX4_place_2 : decode cX4_place 2 = .ok (.invokestatic 62, 3) := by decide +kernel
theorem dX4_place_5 : decode cX4_place 5 = .ok (.ifCond .eq 27, 3) := by decide +kernel
theorem dX4_place_8 : decode cX4_place 8 = .ok (.iload_n 2, 1) := by decide +kernel
theorem dX4_place_9 : decode cX4_place 9 = .ok (.bipush 8, 2) := by decide +kernel
theorem dX4_place_11 : decode cX4_place 11 = .ok (.invokestatic 62, 3) := by decide +kernel
theorem dX4_place_14 : decode cX4_place 14 = .ok (.ifCond .eq 18, 3) := by decide +kernel
theorem dX4_place_17 : decode cX4_place 17 = .ok (.aload_n 0, 1) := by decide +kernel
theorem dX4_place_18 : decode cX4_place 18 = .ok (.getfield 41, 3) := by decide +kernel
theorem dX4_place_21 : decode cX4_place 21 = .ok (.invokevirtual 98, 3) := by decide +kernel
theorem dX4_place_24 : decode cX4_place 24 = .ok (.iload_n 1, 1) := by decide +kernel
theorem dX4_place_25 : decode cX4_place 25 = .ok (.iload_n 2, 1) := by decide +kernel
theorem dX4_place_26 : decode cX4_place 26 = .ok (.invokevirtual 154, 3) := by decide +kernel
theorem dX4_place_29 : decode cX4_place 29 = .ok (.goto 5, 3) := by decide +kernel
theorem dX4_place_32 : decode cX4_place 32 = .ok (.bipush (-2), 2) := by decide +kernel
theorem dX4_place_34 : decode cX4_place 34 = .ok (.ireturn, 1) := by decide +kernel
theorem dX4_sides_0 : decode cX4_sides 0 = .ok (.iload_n 1, 1) := by decide +kernel
theorem dX4_sides_1 : decode cX4_sides 1 = .ok (.bipush 8, 2) := by decide +kernel
theorem dX4_sides_3 : decode cX4_sides 3 = .ok (.invokestatic 62, 3) := by decide +kernel
theorem dX4_sides_6 : decode cX4_sides 6 = .ok (.ifCond .eq 11, 3) := by decide +kernel
theorem dX4_sides_9 : decode cX4_sides 9 = .ok (.iload_n 2, 1) := by decide +kernel
theorem dX4_sides_10 : decode cX4_sides 10 = .ok (.iconst 2, 1) := by decide +kernel
theorem dX4_sides_11 : decode cX4_sides 11 = .ok (.invokestatic 62, 3) := by decide +kernel
theorem dX4_sides_14 : decode cX4_sides 14 = .ok (.ifCond .ne 6, 3) := by decide +kernel
theorem dX4_sides_17 : decode cX4_sides 17 = .ok (.bipush (-2), 2) := by decide +kernel
theorem dX4_sides_19 : decode cX4_sides 19 = .ok (.ireturn, 1) := by decide +kernel
theorem dX4_sides_20 : decode cX4_sides 20 = .ok (.aload_n 0, 1) := by decide +kernel
theorem dX4_sides_21 : decode cX4_sides 21 = .ok (.getfield 41, 3) := by decide +kernel
theorem dX4_sides_24 : decode cX4_sides 24 = .ok (.invokevirtual 98, 3) := by decide +kernel
theorem dX4_sides_27 : decode cX4_sides 27 = .ok (.iload_n 1, 1) := by decide +kernel
theorem dX4_sides_28 : decode cX4_sides 28 = .ok (.invokevirtual 157, 3) := by decide +kernel
theorem dX4_sides_31 : decode cX4_sides 31 = .ok (.istore_n 3, 1) := by decide +kernel
theorem dX4_sides_32 : decode cX4_sides 32 = .ok (.iload_n 2, 1) := by decide +kernel
theorem dX4_sides_33 : decode cX4_sides 33 = .ok (.iconst 1, 1) := by decide +kernel
theorem dX4_sides_34 : decode cX4_sides 34 = .ok (.if_icmp .ne 5, 3) := by decide +kernel
theorem dX4_sides_37 : decode cX4_sides 37 = .ok (.iload_n 3, 1) := by decide +kernel
theorem dX4_sides_38 : decode cX4_sides 38 = .ok (.ireturn, 1) := by decide +kernel
theorem dX4_sides_39 : decode cX4_sides 39 = .ok (.iload_n 3, 1) := by decide +kernel
theorem dX4_sides_40 : decode cX4_sides 40 = .ok (.iconst (-1), 1) := by decide +kernel
theorem dX4_sides_41 : decode cX4_sides 41 = .ok (.if_icmp .ne 7, 3) := by decide +kernel
theorem dX4_sides_44 : decode cX4_sides 44 = .ok (.iconst 0, 1) := by decide +kernel
theorem dX4_sides_45 : decode cX4_sides 45 = .ok (.goto 4, 3) := by decide +kernel
theorem dX4_sides_48 : decode cX4_sides 48 = .ok (.iconst 1, 1) := by decide +kernel
theorem dX4_sides_49 : decode cX4_sides 49 = .ok (.ireturn, 1) := by decide +kernel
theorem dX4_read_0 : decode cX4_read 0 = .ok (.iload_n 1, 1) := by decide +kernel
theorem dX4_read_1 : decode cX4_read 1 = .ok (.iconst 4, 1) := by decide +kernel
theorem dX4_read_2 : decode cX4_read 2 = .ok (.invokestatic 62, 3) := by decide +kernel
theorem dX4_read_5 : decode cX4_read 5 = .ok (.ifCond .eq 22, 3) := by decide +kernel
theorem dX4_read_8 : decode cX4_read 8 = .ok (.iload_n 2, 1) := by decide +kernel
theorem dX4_read_9 : decode cX4_read 9 = .ok (.invokestatic 135, 3) := by decide +kernel
theorem dX4_read_12 : decode cX4_read 12 = .ok (.ifCond .eq 15, 3) := by decide +kernel
theorem dX4_read_15 : decode cX4_read 15 = .ok (.aload_n 0, 1) := by decide +kernel
theorem dX4_read_16 : decode cX4_read 16 = .ok (.getfield 33, 3) := by decide +kernel
theorem dX4_read_19 : decode cX4_read 19 = .ok (.iload_n 1, 1) := by decide +kernel
theorem dX4_read_20 : decode cX4_read 20 = .ok (.iload_n 2, 1) := by decide +kernel
theorem dX4_read_21 : decode cX4_read 21 = .ok (.invokevirtual 95, 3) := by decide +kernel
theorem dX4_read_24 : decode cX4_read 24 = .ok (.goto 5, 3) := by decide +kernel
theorem dX4_read_27 : decode cX4_read 27 = .ok (.bipush (-2), 2) := by decide +kernel
theorem dX4_read_29 : decode cX4_read 29 = .ok (.ireturn, 1) := by decide +kernel
theorem dX4_forget_0 : decode cX4_forget 0 = .ok (.aload_n 0, 1) := by decide +kernel
theorem dX4_forget_1 : decode cX4_forget 1 = .ok (.getfield 33, 3) := by decide +kernel
theorem dX4_forget_4 : decode cX4_forget 4 = .ok (.invokevirtual 160, 3) := by decide +kernel
theorem dX4_forget_7 : decode cX4_forget 7 = .ok (.ireturn, 1) := by decide +kernel
theorem dX4_take_0 : decode cX4_take 0 = .ok (.iload_n 1, 1) := by decide +kernel
theorem dX4_take_1 : decode cX4_take 1 = .ok (.iconst 4, 1) := by decide +kernel
theorem dX4_take_2 : decode cX4_take 2 = .ok (.invokestatic 62, 3) := by decide +kernel
theorem dX4_take_5 : decode cX4_take 5 = .ok (.ifCond .ne 6, 3) := by decide +kernel
theorem dX4_take_8 : decode cX4_take 8 = .ok (.bipush (-2), 2) := by decide +kernel
theorem dX4_take_10 : decode cX4_take 10 = .ok (.ireturn, 1) := by decide +kernel
theorem dX4_take_11 : decode cX4_take 11 = .ok (.aload_n 0, 1) := by decide +kernel
theorem dX4_take_12 : decode cX4_take 12 = .ok (.getfield 47, 3) := by decide +kernel
theorem dX4_take_15 : decode cX4_take 15 = .ok (.iload_n 1, 1) := by decide +kernel
theorem dX4_take_16 : decode cX4_take 16 = .ok (.aaload, 1) := by decide +kernel
theorem dX4_take_17 : decode cX4_take 17 = .ok (.astore_n 2, 1) := by decide +kernel
theorem dX4_take_18 : decode cX4_take 18 = .ok (.aload_n 2, 1) := by decide +kernel
theorem dX4_take_19 : decode cX4_take 19 = .ok (.invokevirtual 161, 3) := by decide +kernel
theorem dX4_take_22 : decode cX4_take 22 = .ok (.ifCond .eq 9, 3) := by decide +kernel
theorem dX4_take_25 : decode cX4_take 25 = .ok (.aload_n 0, 1) := by decide +kernel
theorem dX4_take_26 : decode cX4_take 26 = .ok (.iconst 1, 1) := by decide +kernel
theorem dX4_take_27 : decode cX4_take 27 = .ok (.invokevirtual 165, 3) := by decide +kernel
theorem dX4_take_30 : decode cX4_take 30 = .ok (.ireturn, 1) := by decide +kernel
theorem dX4_take_31 : decode cX4_take 31 = .ok (.iconst 0, 1) := by decide +kernel
theorem dX4_take_32 : decode cX4_take 32 = .ok (.istore_n 3, 1) := by decide +kernel
theorem dX4_take_33 : decode cX4_take 33 = .ok (.iconst 0, 1) := by decide +kernel
theorem dX4_take_34 : decode cX4_take 34 = .ok (.istore 4, 2) := by decide +kernel
theorem dX4_take_36 : decode cX4_take 36 = .ok (.iload 4, 2) := by decide +kernel
theorem dX4_take_38 : decode cX4_take 38 = .ok (.iconst 1, 1) := by decide +kernel
theorem dX4_take_39 : decode cX4_take 39 = .ok (.iadd, 1) := by decide +kernel
theorem dX4_take_40 : decode cX4_take 40 = .ok (.aload_n 2, 1) := by decide +kernel
theorem dX4_take_41 : decode cX4_take 41 = .ok (.getfield 168, 3) := by decide +kernel
theorem dX4_take_44 : decode cX4_take 44 = .ok (.if_icmp .ge 38, 3) := by decide +kernel
theorem dX4_take_47 : decode cX4_take 47 = .ok (.aload_n 0, 1) := by decide +kernel
theorem dX4_take_48 : decode cX4_take 48 = .ok (.aload_n 2, 1) := by decide +kernel
theorem dX4_take_49 : decode cX4_take 49 = .ok (.getfield 171, 3) := by decide +kernel
theorem dX4_take_52 : decode cX4_take 52 = .ok (.iload 4, 2) := by decide +kernel
theorem dX4_take_54 : decode cX4_take 54 = .ok (.iaload, 1) := by decide +kernel
theorem dX4_take_55 : decode cX4_take 55 = .ok (.aload_n 2, 1) := by decide +kernel
theorem dX4_take_56 : decode cX4_take 56 = .ok (.getfield 171, 3) := by decide +kernel
theorem dX4_take_59 : decode cX4_take 59 = .ok (.iload 4, 2) := by decide +kernel
theorem dX4_take_61 : decode cX4_take 61 = .ok (.iconst 1, 1) := by decide +kernel
theorem dX4_take_62 : decode cX4_take 62 = .ok (.iadd, 1) := by decide +kernel
theorem dX4_take_63 : decode cX4_take 63 = .ok (.iaload, 1) := by decide +kernel
theorem dX4_take_64 : decode cX4_take 64 = .ok (.invokevirtual 174, 3) := by decide +kernel
theorem dX4_take_67 : decode cX4_take 67 = .ok (.ifCond .ge 6, 3) := by decide +kernel
theorem dX4_take_70 : decode cX4_take 70 = .ok (.goto 12, 3) := by decide +kernel
theorem dX4_take_73 : decode cX4_take 73 = .ok (.iinc 3 1, 3) := by decide +kernel
theorem dX4_take_76 : decode cX4_take 76 = .ok (.iinc 4 2, 3) := by decide +kernel
theorem dX4_take_79 : decode cX4_take 79 = .ok (.goto (-43), 3) := by decide +kernel
theorem dX4_take_82 : decode cX4_take 82 = .ok (.iload_n 3, 1) := by decide +kernel
theorem dX4_take_83 : decode cX4_take 83 = .ok (.ireturn, 1) := by decide +kernel
theorem dX4_fits_0 : decode cX4_fits 0 = .ok (.iload_n 1, 1) := by decide +kernel
theorem dX4_fits_1 : decode cX4_fits 1 = .ok (.iconst 3, 1) := by decide +kernel
theorem dX4_fits_2 : decode cX4_fits 2 = .ok (.invokestatic 62, 3) := by decide +kernel
theorem dX4_fits_5 : decode cX4_fits 5 = .ok (.ifCond .ne 6, 3) := by decide +kernel
theorem dX4_fits_8 : decode cX4_fits 8 = .ok (.bipush (-2), 2) := by decide +kernel
theorem dX4_fits_10 : decode cX4_fits 10 = .ok (.ireturn, 1) := by decide +kernel
theorem dX4_fits_11 : decode cX4_fits 11 = .ok (.aload_n 0, 1) := by decide +kernel
theorem dX4_fits_12 : decode cX4_fits 12 = .ok (.getfield 41, 3) := by decide +kernel
theorem dX4_fits_15 : decode cX4_fits 15 = .ok (.invokevirtual 98, 3) := by decide +kernel
theorem dX4_fits_18 : decode cX4_fits 18 = .ok (.astore_n 2, 1) := by decide +kernel
theorem dX4_fits_19 : decode cX4_fits 19 = .ok (.iload_n 1, 1) := by decide +kernel
theorem dX4_fits_20 : decode cX4_fits 20 = .ok (.iconst 1, 1) := by decide +kernel
theorem dX4_fits_21 : decode cX4_fits 21 = .ok (.if_icmp .ne 13, 3) := by decide +kernel
theorem dX4_fits_24 : decode cX4_fits 24 = .ok (.aload_n 0, 1) := by decide +kernel
theorem dX4_fits_25 : decode cX4_fits 25 = .ok (.getfield 14, 3) := by decide +kernel
theorem dX4_fits_28 : decode cX4_fits 28 = .ok (.getfield 88, 3) := by decide +kernel
theorem dX4_fits_31 : decode cX4_fits 31 = .ok (.goto 10, 3) := by decide +kernel
theorem dX4_fits_34 : decode cX4_fits 34 = .ok (.aload_n 0, 1) := by decide +kernel
theorem dX4_fits_35 : decode cX4_fits 35 = .ok (.getfield 18, 3) := by decide +kernel
theorem dX4_fits_38 : decode cX4_fits 38 = .ok (.getfield 88, 3) := by decide +kernel
theorem dX4_fits_41 : decode cX4_fits 41 = .ok (.istore_n 3, 1) := by decide +kernel
theorem dX4_fits_42 : decode cX4_fits 42 = .ok (.iconst 0, 1) := by decide +kernel
theorem dX4_fits_43 : decode cX4_fits 43 = .ok (.istore 4, 2) := by decide +kernel
theorem dX4_fits_45 : decode cX4_fits 45 = .ok (.iconst 0, 1) := by decide +kernel
theorem dX4_fits_46 : decode cX4_fits 46 = .ok (.istore 5, 2) := by decide +kernel
theorem dX4_fits_48 : decode cX4_fits 48 = .ok (.iload 5, 2) := by decide +kernel
theorem dX4_fits_50 : decode cX4_fits 50 = .ok (.iload_n 3, 1) := by decide +kernel
theorem dX4_fits_51 : decode cX4_fits 51 = .ok (.if_icmp .ge 29, 3) := by decide +kernel
theorem dX4_fits_54 : decode cX4_fits 54 = .ok (.aload_n 0, 1) := by decide +kernel
theorem dX4_fits_55 : decode cX4_fits 55 = .ok (.aload_n 2, 1) := by decide +kernel
theorem dX4_fits_56 : decode cX4_fits 56 = .ok (.iload_n 1, 1) := by decide +kernel
theorem dX4_fits_57 : decode cX4_fits 57 = .ok (.iload 5, 2) := by decide +kernel
theorem dX4_fits_59 : decode cX4_fits 59 = .ok (.invokevirtual 177, 3) := by decide +kernel
theorem dX4_fits_62 : decode cX4_fits 62 = .ok (.ifCond .eq 12, 3) := by decide +kernel
theorem dX4_fits_65 : decode cX4_fits 65 = .ok (.iload 4, 2) := by decide +kernel
theorem dX4_fits_67 : decode cX4_fits 67 = .ok (.iconst 1, 1) := by decide +kernel
theorem dX4_fits_68 : decode cX4_fits 68 = .ok (.iload 5, 2) := by decide +kernel
theorem dX4_fits_70 : decode cX4_fits 70 = .ok (.ishl, 1) := by decide +kernel
theorem dX4_fits_71 : decode cX4_fits 71 = .ok (.ior, 1) := by decide +kernel
theorem dX4_fits_72 : decode cX4_fits 72 = .ok (.istore 4, 2) := by decide +kernel
theorem dX4_fits_74 : decode cX4_fits 74 = .ok (.iinc 5 1, 3) := by decide +kernel
theorem dX4_fits_77 : decode cX4_fits 77 = .ok (.goto (-29), 3) := by decide +kernel
theorem dX4_fits_80 : decode cX4_fits 80 = .ok (.iload 4, 2) := by decide +kernel
theorem dX4_fits_82 : decode cX4_fits 82 = .ok (.ireturn, 1) := by decide +kernel
theorem dX4_sinks_0 : decode cX4_sinks 0 = .ok (.iload_n 1, 1) := by decide +kernel
theorem dX4_sinks_1 : decode cX4_sinks 1 = .ok (.bipush 17, 2) := by decide +kernel
theorem dX4_sinks_3 : decode cX4_sinks 3 = .ok (.invokestatic 62, 3) := by decide +kernel
theorem dX4_sinks_6 : decode cX4_sinks 6 = .ok (.ifCond .eq 29, 3) := by decide +kernel
theorem dX4_sinks_9 : decode cX4_sinks 9 = .ok (.iload_n 2, 1) := by decide +kernel
theorem dX4_sinks_10 : decode cX4_sinks 10 = .ok (.iconst 4, 1) := by decide +kernel
theorem dX4_sinks_11 : decode cX4_sinks 11 = .ok (.invokestatic 62, 3) := by decide +kernel
theorem dX4_sinks_14 : decode cX4_sinks 14 = .ok (.ifCond .eq 21, 3) := by decide +kernel
theorem dX4_sinks_17 : decode cX4_sinks 17 = .ok (.iload_n 3, 1) := by decide +kernel
theorem dX4_sinks_18 : decode cX4_sinks 18 = .ok (.bipush 8, 2) := by decide +kernel
theorem dX4_sinks_20 : decode cX4_sinks 20 = .ok (.invokestatic 62, 3) := by decide +kernel
theorem dX4_sinks_23 : decode cX4_sinks 23 = .ok (.ifCond .eq 12, 3) := by decide +kernel
theorem dX4_sinks_26 : decode cX4_sinks 26 = .ok (.iload 4, 2) := by decide +kernel
theorem dX4_sinks_28 : decode cX4_sinks 28 = .ok (.iconst 2, 1) := by decide +kernel
theorem dX4_sinks_29 : decode cX4_sinks 29 = .ok (.invokestatic 62, 3) := by decide +kernel
theorem dX4_sinks_32 : decode cX4_sinks 32 = .ok (.ifCond .ne 7, 3) := by decide +kernel
theorem dX4_sinks_35 : decode cX4_sinks 35 = .ok (.ldc2_w 181, 3) := by decide +kernel
theorem dX4_sinks_38 : decode cX4_sinks 38 = .ok (.lreturn, 1) := by decide +kernel
theorem dX4_sinks_39 : decode cX4_sinks 39 = .ok (.aload_n 0, 1) := by decide +kernel
theorem dX4_sinks_40 : decode cX4_sinks 40 = .ok (.getfield 41, 3) := by decide +kernel
theorem dX4_sinks_43 : decode cX4_sinks 43 = .ok (.invokevirtual 98, 3) := by decide +kernel
theorem dX4_sinks_46 : decode cX4_sinks 46 = .ok (.iload_n 1, 1) := by decide +kernel
theorem dX4_sinks_47 : decode cX4_sinks 47 = .ok (.iload_n 2, 1) := by decide +kernel
theorem dX4_sinks_48 : decode cX4_sinks 48 = .ok (.iload_n 3, 1) := by decide +kernel
theorem dX4_sinks_49 : decode cX4_sinks 49 = .ok (.invokevirtual 183, 3) := by decide +kernel
theorem dX4_sinks_52 : decode cX4_sinks 52 = .ok (.lstore 5, 2) := by decide +kernel
theorem dX4_sinks_54 : decode cX4_sinks 54 = .ok (.iconst 4, 1) := by decide +kernel
theorem dX4_sinks_55 : decode cX4_sinks 55 = .ok (.aload_n 0, 1) := by decide +kernel
theorem dX4_sinks_56 : decode cX4_sinks 56 = .ok (.getfield 14, 3) := by decide +kernel
theorem dX4_sinks_59 : decode cX4_sinks 59 = .ok (.getfield 88, 3) := by decide +kernel
theorem dX4_sinks_62 : decode cX4_sinks 62 = .ok (.imul, 1) := by decide +kernel
theorem dX4_sinks_63 : decode cX4_sinks 63 = .ok (.istore 7, 2) := by decide +kernel
theorem dX4_sinks_65 : decode cX4_sinks 65 = .ok (.lload 5, 2) := by decide +kernel
theorem dX4_sinks_67 : decode cX4_sinks 67 = .ok (.invokestatic 187, 3) := by decide +kernel
theorem dX4_sinks_70 : decode cX4_sinks 70 = .ok (.iload 7, 2) := by decide +kernel
theorem dX4_sinks_72 : decode cX4_sinks 72 = .ok (.invokestatic 193, 3) := by decide +kernel
theorem dX4_sinks_75 : decode cX4_sinks 75 = .ok (.istore 8, 2) := by decide +kernel
theorem dX4_sinks_77 : decode cX4_sinks 77 = .ok (.iload 4, 2) := by decide +kernel
theorem dX4_sinks_79 : decode cX4_sinks 79 = .ok (.ifCond .ne 11, 3) := by decide +kernel
theorem dX4_sinks_82 : decode cX4_sinks 82 = .ok (.lload 5, 2) := by decide +kernel
theorem dX4_sinks_84 : decode cX4_sinks 84 = .ok (.iload 8, 2) := by decide +kernel
theorem dX4_sinks_86 : decode cX4_sinks 86 = .ok (.lshr, 1) := by decide +kernel
theorem dX4_sinks_87 : decode cX4_sinks 87 = .ok (.goto 10, 3) := by decide +kernel
theorem dX4_sinks_90 : decode cX4_sinks 90 = .ok (.lconst 1, 1) := by decide +kernel
theorem dX4_sinks_91 : decode cX4_sinks 91 = .ok (.iload 7, 2) := by decide +kernel
theorem dX4_sinks_93 : decode cX4_sinks 93 = .ok (.iload 8, 2) := by decide +kernel
theorem dX4_sinks_95 : decode cX4_sinks 95 = .ok (.isub, 1) := by decide +kernel
theorem dX4_sinks_96 : decode cX4_sinks 96 = .ok (.lshl, 1) := by decide +kernel
theorem dX4_sinks_97 : decode cX4_sinks 97 = .ok (.lreturn, 1) := by decide +kernel
theorem dX4_mornings_0 : decode cX4_mornings 0 = .ok (.iload_n 2, 1) := by decide +kernel
theorem dX4_mornings_1 : decode cX4_mornings 1 = .ok (.iconst 1, 1) := by decide +kernel
theorem dX4_mornings_2 : decode cX4_mornings 2 = .ok (.if_icmp .lt 18, 3) := by decide +kernel
theorem dX4_mornings_5 : decode cX4_mornings 5 = .ok (.iload_n 2, 1) := by decide +kernel
theorem dX4_mornings_6 : decode cX4_mornings 6 = .ok (.bipush 99, 2) := by decide +kernel
theorem dX4_mornings_8 : decode cX4_mornings 8 = .ok (.if_icmp .gt 12, 3) := by decide +kernel
theorem dX4_mornings_11 : decode cX4_mornings 11 = .ok (.iload_n 3, 1) := by decide +kernel
theorem dX4_mornings_12 : decode cX4_mornings 12 = .ok (.bipush 8, 2) := by decide +kernel
theorem dX4_mornings_14 : decode cX4_mornings 14 = .ok (.invokestatic 62, 3) := by decide +kernel
theorem dX4_mornings_17 : decode cX4_mornings 17 = .ok (.ifCond .ne 6, 3) := by decide +kernel
theorem dX4_mornings_20 : decode cX4_mornings 20 = .ok (.bipush (-2), 2) := by decide +kernel
theorem dX4_mornings_22 : decode cX4_mornings 22 = .ok (.ireturn, 1) := by decide +kernel
theorem dX4_mornings_23 : decode cX4_mornings 23 = .ok (.aload_n 0, 1) := by decide +kernel
theorem dX4_mornings_24 : decode cX4_mornings 24 = .ok (.getfield 41, 3) := by decide +kernel
theorem dX4_mornings_27 : decode cX4_mornings 27 = .ok (.invokevirtual 98, 3) := by decide +kernel
theorem dX4_mornings_30 : decode cX4_mornings 30 = .ok (.astore 4, 2) := by decide +kernel
theorem dX4_mornings_32 : decode cX4_mornings 32 = .ok (.iload_n 1, 1) := by decide +kernel
theorem dX4_mornings_33 : decode cX4_mornings 33 = .ok (.istore 5, 2) := by decide +kernel
theorem dX4_mornings_35 : decode cX4_mornings 35 = .ok (.iconst 0, 1) := by decide +kernel
theorem dX4_mornings_36 : decode cX4_mornings 36 = .ok (.istore 6, 2) := by decide +kernel
theorem dX4_mornings_38 : decode cX4_mornings 38 = .ok (.iconst 0, 1) := by decide +kernel
theorem dX4_mornings_39 : decode cX4_mornings 39 = .ok (.istore 7, 2) := by decide +kernel
theorem dX4_mornings_41 : decode cX4_mornings 41 = .ok (.iload 7, 2) := by decide +kernel
theorem dX4_mornings_43 : decode cX4_mornings 43 = .ok (.iload_n 2, 1) := by decide +kernel
theorem dX4_mornings_44 : decode cX4_mornings 44 = .ok (.if_icmp .ge 39, 3) := by decide +kernel
theorem dX4_mornings_47 : decode cX4_mornings 47 = .ok (.ldc 198, 2) := by decide +kernel
theorem dX4_mornings_49 : decode cX4_mornings 49 = .ok (.iload 5, 2) := by decide +kernel
theorem dX4_mornings_51 : decode cX4_mornings 51 = .ok (.imul, 1) := by decide +kernel
theorem dX4_mornings_52 : decode cX4_mornings 52 = .ok (.sipush 12345, 3) := by decide +kernel
theorem dX4_mornings_55 : decode cX4_mornings 55 = .ok (.iadd, 1) := by decide +kernel
theorem dX4_mornings_56 : decode cX4_mornings 56 = .ok (.istore 5, 2) := by decide +kernel
theorem dX4_mornings_58 : decode cX4_mornings 58 = .ok (.aload 4, 2) := by decide +kernel
theorem dX4_mornings_60 : decode cX4_mornings 60 = .ok (.iload 5, 2) := by decide +kernel
theorem dX4_mornings_62 : decode cX4_mornings 62 = .ok (.bipush 16, 2) := by decide +kernel
theorem dX4_mornings_64 : decode cX4_mornings 64 = .ok (.iushr, 1) := by decide +kernel
theorem dX4_mornings_65 : decode cX4_mornings 65 = .ok (.iconst 4, 1) := by decide +kernel
theorem dX4_mornings_66 : decode cX4_mornings 66 = .ok (.irem, 1) := by decide +kernel
theorem dX4_mornings_67 : decode cX4_mornings 67 = .ok (.iload_n 3, 1) := by decide +kernel
theorem dX4_mornings_68 : decode cX4_mornings 68 = .ok (.invokevirtual 129, 3) := by decide +kernel
theorem dX4_mornings_71 : decode cX4_mornings 71 = .ok (.ifCond .eq 6, 3) := by decide +kernel
theorem dX4_mornings_74 : decode cX4_mornings 74 = .ok (.iinc 6 1, 3) := by decide +kernel
theorem dX4_mornings_77 : decode cX4_mornings 77 = .ok (.iinc 7 1, 3) := by decide +kernel
theorem dX4_mornings_80 : decode cX4_mornings 80 = .ok (.goto (-39), 3) := by decide +kernel
theorem dX4_mornings_83 : decode cX4_mornings 83 = .ok (.iload 6, 2) := by decide +kernel
theorem dX4_mornings_85 : decode cX4_mornings 85 = .ok (.ireturn, 1) := by decide +kernel
theorem dX4_sheet_0 : decode cX4_sheet 0 = .ok (.iload_n 1, 1) := by decide +kernel
theorem dX4_sheet_1 : decode cX4_sheet 1 = .ok (.iconst 4, 1) := by decide +kernel
theorem dX4_sheet_2 : decode cX4_sheet 2 = .ok (.invokestatic 62, 3) := by decide +kernel
theorem dX4_sheet_5 : decode cX4_sheet 5 = .ok (.ifCond .eq 17, 3) := by decide +kernel
theorem dX4_sheet_8 : decode cX4_sheet 8 = .ok (.iload_n 2, 1) := by decide +kernel
theorem dX4_sheet_9 : decode cX4_sheet 9 = .ok (.iconst 3, 1) := by decide +kernel
theorem dX4_sheet_10 : decode cX4_sheet 10 = .ok (.invokestatic 62, 3) := by decide +kernel
theorem dX4_sheet_13 : decode cX4_sheet 13 = .ok (.ifCond .eq 9, 3) := by decide +kernel
theorem dX4_sheet_16 : decode cX4_sheet 16 = .ok (.iload_n 3, 1) := by decide +kernel
theorem dX4_sheet_17 : decode cX4_sheet 17 = .ok (.bipush 60, 2) := by decide +kernel
theorem dX4_sheet_19 : decode cX4_sheet 19 = .ok (.if_icmp .le 6, 3) := by decide +kernel
theorem dX4_sheet_22 : decode cX4_sheet 22 = .ok (.bipush (-2), 2) := by decide +kernel
theorem dX4_sheet_24 : decode cX4_sheet 24 = .ok (.ireturn, 1) := by decide +kernel
theorem dX4_sheet_25 : decode cX4_sheet 25 = .ok (.iload_n 3, 1) := by decide +kernel
theorem dX4_sheet_26 : decode cX4_sheet 26 = .ok (.ifCond .ge 9, 3) := by decide +kernel
theorem dX4_sheet_29 : decode cX4_sheet 29 = .ok (.aload_n 0, 1) := by decide +kernel
theorem dX4_sheet_30 : decode cX4_sheet 30 = .ok (.iconst 5, 1) := by decide +kernel
theorem dX4_sheet_31 : decode cX4_sheet 31 = .ok (.invokevirtual 165, 3) := by decide +kernel
theorem dX4_sheet_34 : decode cX4_sheet 34 = .ok (.ireturn, 1) := by decide +kernel
theorem dX4_sheet_35 : decode cX4_sheet 35 = .ok (.aload_n 0, 1) := by decide +kernel
theorem dX4_sheet_36 : decode cX4_sheet 36 = .ok (.getfield 47, 3) := by decide +kernel
theorem dX4_sheet_39 : decode cX4_sheet 39 = .ok (.iload_n 1, 1) := by decide +kernel
theorem dX4_sheet_40 : decode cX4_sheet 40 = .ok (.aaload, 1) := by decide +kernel
theorem dX4_sheet_41 : decode cX4_sheet 41 = .ok (.iload_n 2, 1) := by decide +kernel
theorem dX4_sheet_42 : decode cX4_sheet 42 = .ok (.iload_n 3, 1) := by decide +kernel
theorem dX4_sheet_43 : decode cX4_sheet 43 = .ok (.invokevirtual 199, 3) := by decide +kernel
theorem dX4_sheet_46 : decode cX4_sheet 46 = .ok (.iload_n 3, 1) := by decide +kernel
theorem dX4_sheet_47 : decode cX4_sheet 47 = .ok (.ireturn, 1) := by decide +kernel
theorem dX4_lose_0 : decode cX4_lose 0 = .ok (.iload_n 1, 1) := by decide +kernel
theorem dX4_lose_1 : decode cX4_lose 1 = .ok (.iconst 4, 1) := by decide +kernel
theorem dX4_lose_2 : decode cX4_lose 2 = .ok (.invokestatic 62, 3) := by decide +kernel
theorem dX4_lose_5 : decode cX4_lose 5 = .ok (.ifCond .ne 6, 3) := by decide +kernel
theorem dX4_lose_8 : decode cX4_lose 8 = .ok (.bipush (-2), 2) := by decide +kernel
theorem dX4_lose_10 : decode cX4_lose 10 = .ok (.ireturn, 1) := by decide +kernel
theorem dX4_lose_11 : decode cX4_lose 11 = .ok (.aload_n 0, 1) := by decide +kernel
theorem dX4_lose_12 : decode cX4_lose 12 = .ok (.getfield 47, 3) := by decide +kernel
theorem dX4_lose_15 : decode cX4_lose 15 = .ok (.iload_n 1, 1) := by decide +kernel
theorem dX4_lose_16 : decode cX4_lose 16 = .ok (.aaload, 1) := by decide +kernel
theorem dX4_lose_17 : decode cX4_lose 17 = .ok (.invokevirtual 161, 3) := by decide +kernel
theorem dX4_lose_20 : decode cX4_lose 20 = .ok (.ifCond .eq 11, 3) := by decide +kernel
theorem dX4_lose_23 : decode cX4_lose 23 = .ok (.aload_n 0, 1) := by decide +kernel
theorem dX4_lose_24 : decode cX4_lose 24 = .ok (.iconst 1, 1) := by decide +kernel
theorem dX4_lose_25 : decode cX4_lose 25 = .ok (.invokevirtual 165, 3) := by decide +kernel
theorem dX4_lose_28 : decode cX4_lose 28 = .ok (.goto 12, 3) := by decide +kernel
theorem dX4_lose_31 : decode cX4_lose 31 = .ok (.aload_n 0, 1) := by decide +kernel
theorem dX4_lose_32 : decode cX4_lose 32 = .ok (.getfield 47, 3) := by decide +kernel
theorem dX4_lose_35 : decode cX4_lose 35 = .ok (.iload_n 1, 1) := by decide +kernel
theorem dX4_lose_36 : decode cX4_lose 36 = .ok (.aaload, 1) := by decide +kernel
theorem dX4_lose_37 : decode cX4_lose 37 = .ok (.invokevirtual 203, 3) := by decide +kernel
theorem dX4_lose_40 : decode cX4_lose 40 = .ok (.ireturn, 1) := by decide +kernel
theorem dX4_lay_0 : decode cX4_lay 0 = .ok (.iload_n 1, 1) := by decide +kernel
theorem dX4_lay_1 : decode cX4_lay 1 = .ok (.iconst 4, 1) := by decide +kernel
theorem dX4_lay_2 : decode cX4_lay 2 = .ok (.invokestatic 62, 3) := by decide +kernel
theorem dX4_lay_5 : decode cX4_lay 5 = .ok (.ifCond .eq 11, 3) := by decide +kernel
theorem dX4_lay_8 : decode cX4_lay 8 = .ok (.iload_n 2, 1) := by decide +kernel
theorem dX4_lay_9 : decode cX4_lay 9 = .ok (.iconst 3, 1) := by decide +kernel
theorem dX4_lay_10 : decode cX4_lay 10 = .ok (.invokestatic 62, 3) := by decide +kernel
theorem dX4_lay_13 : decode cX4_lay 13 = .ok (.ifCond .ne 6, 3) := by decide +kernel
theorem dX4_lay_16 : decode cX4_lay 16 = .ok (.bipush (-2), 2) := by decide +kernel
theorem dX4_lay_18 : decode cX4_lay 18 = .ok (.ireturn, 1) := by decide +kernel
theorem dX4_lay_19 : decode cX4_lay 19 = .ok (.aload_n 0, 1) := by decide +kernel
theorem dX4_lay_20 : decode cX4_lay 20 = .ok (.getfield 47, 3) := by decide +kernel
theorem dX4_lay_23 : decode cX4_lay 23 = .ok (.iload_n 1, 1) := by decide +kernel
theorem dX4_lay_24 : decode cX4_lay 24 = .ok (.aaload, 1) := by decide +kernel
theorem dX4_lay_25 : decode cX4_lay 25 = .ok (.iload_n 2, 1) := by decide +kernel
theorem dX4_lay_26 : decode cX4_lay 26 = .ok (.iload_n 3, 1) := by decide +kernel
theorem dX4_lay_27 : decode cX4_lay 27 = .ok (.invokestatic 206, 3) := by decide +kernel
theorem dX4_lay_30 : decode cX4_lay 30 = .ok (.istore 5, 2) := by decide +kernel
theorem dX4_lay_32 : decode cX4_lay 32 = .ok (.iload 5, 2) := by decide +kernel
theorem dX4_lay_34 : decode cX4_lay 34 = .ok (.ifCond .eq 10, 3) := by decide +kernel
theorem dX4_lay_37 : decode cX4_lay 37 = .ok (.aload_n 0, 1) := by decide +kernel
theorem dX4_lay_38 : decode cX4_lay 38 = .ok (.iload 5, 2) := by decide +kernel
theorem dX4_lay_40 : decode cX4_lay 40 = .ok (.invokevirtual 165, 3) := by decide +kernel
theorem dX4_lay_43 : decode cX4_lay 43 = .ok (.ireturn, 1) := by decide +kernel
theorem dX4_lay_44 : decode cX4_lay 44 = .ok (.aload_n 0, 1) := by decide +kernel
theorem dX4_lay_45 : decode cX4_lay 45 = .ok (.getfield 47, 3) := by decide +kernel
theorem dX4_lay_48 : decode cX4_lay 48 = .ok (.iload_n 1, 1) := by decide +kernel
theorem dX4_lay_49 : decode cX4_lay 49 = .ok (.aaload, 1) := by decide +kernel
theorem dX4_lay_50 : decode cX4_lay 50 = .ok (.iload_n 3, 1) := by decide +kernel
theorem dX4_lay_51 : decode cX4_lay 51 = .ok (.iload 4, 2) := by decide +kernel
theorem dX4_lay_53 : decode cX4_lay 53 = .ok (.invokevirtual 210, 3) := by decide +kernel
theorem dX4_lay_56 : decode cX4_lay 56 = .ok (.iconst 1, 1) := by decide +kernel
theorem dX4_lay_57 : decode cX4_lay 57 = .ok (.ireturn, 1) := by decide +kernel
theorem dX4_get_0 : decode cX4_get 0 = .ok (.iload_n 1, 1) := by decide +kernel
theorem dX4_get_1 : decode cX4_get 1 = .ok (.iconst 4, 1) := by decide +kernel
theorem dX4_get_2 : decode cX4_get 2 = .ok (.invokestatic 62, 3) := by decide +kernel
theorem dX4_get_5 : decode cX4_get 5 = .ok (.ifCond .eq 11, 3) := by decide +kernel
theorem dX4_get_8 : decode cX4_get 8 = .ok (.iload_n 2, 1) := by decide +kernel
theorem dX4_get_9 : decode cX4_get 9 = .ok (.iconst 3, 1) := by decide +kernel
theorem dX4_get_10 : decode cX4_get 10 = .ok (.invokestatic 62, 3) := by decide +kernel
theorem dX4_get_13 : decode cX4_get 13 = .ok (.ifCond .ne 6, 3) := by decide +kernel
theorem dX4_get_16 : decode cX4_get 16 = .ok (.ldc 213, 2) := by decide +kernel
theorem dX4_get_18 : decode cX4_get 18 = .ok (.ireturn, 1) := by decide +kernel
theorem dX4_get_19 : decode cX4_get 19 = .ok (.aload_n 0, 1) := by decide +kernel
theorem dX4_get_20 : decode cX4_get 20 = .ok (.getfield 47, 3) := by decide +kernel
theorem dX4_get_23 : decode cX4_get 23 = .ok (.iload_n 1, 1) := by decide +kernel
theorem dX4_get_24 : decode cX4_get 24 = .ok (.aaload, 1) := by decide +kernel
theorem dX4_get_25 : decode cX4_get 25 = .ok (.iload_n 2, 1) := by decide +kernel
theorem dX4_get_26 : decode cX4_get 26 = .ok (.iload_n 3, 1) := by decide +kernel
theorem dX4_get_27 : decode cX4_get 27 = .ok (.invokestatic 206, 3) := by decide +kernel
theorem dX4_get_30 : decode cX4_get 30 = .ok (.istore 4, 2) := by decide +kernel
theorem dX4_get_32 : decode cX4_get 32 = .ok (.iload 4, 2) := by decide +kernel
theorem dX4_get_34 : decode cX4_get 34 = .ok (.ifCond .eq 13, 3) := by decide +kernel
theorem dX4_get_37 : decode cX4_get 37 = .ok (.aload_n 0, 1) := by decide +kernel
theorem dX4_get_38 : decode cX4_get 38 = .ok (.iload 4, 2) := by decide +kernel
theorem dX4_get_40 : decode cX4_get 40 = .ok (.invokevirtual 165, 3) := by decide +kernel
theorem dX4_get_43 : decode cX4_get 43 = .ok (.pop, 1) := by decide +kernel
theorem dX4_get_44 : decode cX4_get 44 = .ok (.ldc 213, 2) := by decide +kernel
theorem dX4_get_46 : decode cX4_get 46 = .ok (.ireturn, 1) := by decide +kernel
theorem dX4_get_47 : decode cX4_get 47 = .ok (.aload_n 0, 1) := by decide +kernel
theorem dX4_get_48 : decode cX4_get 48 = .ok (.getfield 47, 3) := by decide +kernel
theorem dX4_get_51 : decode cX4_get 51 = .ok (.iload_n 1, 1) := by decide +kernel
theorem dX4_get_52 : decode cX4_get 52 = .ok (.aaload, 1) := by decide +kernel
theorem dX4_get_53 : decode cX4_get 53 = .ok (.getfield 171, 3) := by decide +kernel
theorem dX4_get_56 : decode cX4_get 56 = .ok (.iload_n 3, 1) := by decide +kernel
theorem dX4_get_57 : decode cX4_get 57 = .ok (.iaload, 1) := by decide +kernel
theorem dX4_get_58 : decode cX4_get 58 = .ok (.ireturn, 1) := by decide +kernel
theorem dX4_copy_0 : decode cX4_copy 0 = .ok (.iload_n 1, 1) := by decide +kernel
theorem dX4_copy_1 : decode cX4_copy 1 = .ok (.iconst 4, 1) := by decide +kernel
theorem dX4_copy_2 : decode cX4_copy 2 = .ok (.invokestatic 62, 3) := by decide +kernel
theorem dX4_copy_5 : decode cX4_copy 5 = .ok (.ifCond .eq 11, 3) := by decide +kernel
theorem dX4_copy_8 : decode cX4_copy 8 = .ok (.iload_n 3, 1) := by decide +kernel
theorem dX4_copy_9 : decode cX4_copy 9 = .ok (.iconst 4, 1) := by decide +kernel
theorem dX4_copy_10 : decode cX4_copy 10 = .ok (.invokestatic 62, 3) := by decide +kernel
theorem dX4_copy_13 : decode cX4_copy 13 = .ok (.ifCond .ne 6, 3) := by decide +kernel
theorem dX4_copy_16 : decode cX4_copy 16 = .ok (.bipush (-2), 2) := by decide +kernel
theorem dX4_copy_18 : decode cX4_copy 18 = .ok (.ireturn, 1) := by decide +kernel
theorem dX4_copy_19 : decode cX4_copy 19 = .ok (.aload_n 0, 1) := by decide +kernel
theorem dX4_copy_20 : decode cX4_copy 20 = .ok (.getfield 47, 3) := by decide +kernel
theorem dX4_copy_23 : decode cX4_copy 23 = .ok (.iload_n 1, 1) := by decide +kernel
theorem dX4_copy_24 : decode cX4_copy 24 = .ok (.aaload, 1) := by decide +kernel
theorem dX4_copy_25 : decode cX4_copy 25 = .ok (.astore 6, 2) := by decide +kernel
theorem dX4_copy_27 : decode cX4_copy 27 = .ok (.aload_n 0, 1) := by decide +kernel
theorem dX4_copy_28 : decode cX4_copy 28 = .ok (.getfield 47, 3) := by decide +kernel
theorem dX4_copy_31 : decode cX4_copy 31 = .ok (.iload_n 3, 1) := by decide +kernel
theorem dX4_copy_32 : decode cX4_copy 32 = .ok (.aaload, 1) := by decide +kernel
theorem dX4_copy_33 : decode cX4_copy 33 = .ok (.astore 7, 2) := by decide +kernel
theorem dX4_copy_35 : decode cX4_copy 35 = .ok (.aload 6, 2) := by decide +kernel
theorem dX4_copy_37 : decode cX4_copy 37 = .ok (.invokevirtual 161, 3) := by decide +kernel
theorem dX4_copy_40 : decode cX4_copy 40 = .ok (.ifCond .ne 11, 3) := by decide +kernel
theorem dX4_copy_43 : decode cX4_copy 43 = .ok (.aload 7, 2) := by decide +kernel
theorem dX4_copy_45 : decode cX4_copy 45 = .ok (.invokevirtual 161, 3) := by decide +kernel
theorem dX4_copy_48 : decode cX4_copy 48 = .ok (.ifCond .eq 9, 3) := by decide +kernel
theorem dX4_copy_51 : decode cX4_copy 51 = .ok (.aload_n 0, 1) := by decide +kernel
theorem dX4_copy_52 : decode cX4_copy 52 = .ok (.iconst 1, 1) := by decide +kernel
theorem dX4_copy_53 : decode cX4_copy 53 = .ok (.invokevirtual 165, 3) := by decide +kernel
theorem dX4_copy_56 : decode cX4_copy 56 = .ok (.ireturn, 1) := by decide +kernel
theorem dX4_copy_57 : decode cX4_copy 57 = .ok (.aload 6, 2) := by decide +kernel
theorem dX4_copy_59 : decode cX4_copy 59 = .ok (.getfield 214, 3) := by decide +kernel
theorem dX4_copy_62 : decode cX4_copy 62 = .ok (.aload 7, 2) := by decide +kernel
theorem dX4_copy_64 : decode cX4_copy 64 = .ok (.getfield 214, 3) := by decide +kernel
theorem dX4_copy_67 : decode cX4_copy 67 = .ok (.if_icmp .eq 9, 3) := by decide +kernel
theorem dX4_copy_70 : decode cX4_copy 70 = .ok (.aload_n 0, 1) := by decide +kernel
theorem dX4_copy_71 : decode cX4_copy 71 = .ok (.iconst 4, 1) := by decide +kernel
theorem dX4_copy_72 : decode cX4_copy 72 = .ok (.invokevirtual 165, 3) := by decide +kernel
theorem dX4_copy_75 : decode cX4_copy 75 = .ok (.ireturn, 1) := by decide +kernel
theorem dX4_copy_76 : decode cX4_copy 76 = .ok (.aload 6, 2) := by decide +kernel
theorem dX4_copy_78 : decode cX4_copy 78 = .ok (.iload_n 2, 1) := by decide +kernel
theorem dX4_copy_79 : decode cX4_copy 79 = .ok (.iload 5, 2) := by decide +kernel
theorem dX4_copy_81 : decode cX4_copy 81 = .ok (.invokevirtual 217, 3) := by decide +kernel
theorem dX4_copy_84 : decode cX4_copy 84 = .ok (.ifCond .eq 15, 3) := by decide +kernel
theorem dX4_copy_87 : decode cX4_copy 87 = .ok (.aload 7, 2) := by decide +kernel
theorem dX4_copy_89 : decode cX4_copy 89 = .ok (.iload 4, 2) := by decide +kernel
theorem dX4_copy_91 : decode cX4_copy 91 = .ok (.iload 5, 2) := by decide +kernel
theorem dX4_copy_93 : decode cX4_copy 93 = .ok (.invokevirtual 217, 3) := by decide +kernel
theorem dX4_copy_96 : decode cX4_copy 96 = .ok (.ifCond .ne 9, 3) := by decide +kernel
theorem dX4_copy_99 : decode cX4_copy 99 = .ok (.aload_n 0, 1) := by decide +kernel
theorem dX4_copy_100 : decode cX4_copy 100 = .ok (.iconst 2, 1) := by decide +kernel
theorem dX4_copy_101 : decode cX4_copy 101 = .ok (.invokevirtual 165, 3) := by decide +kernel
theorem dX4_copy_104 : decode cX4_copy 104 = .ok (.ireturn, 1) := by decide +kernel
theorem dX4_copy_105 : decode cX4_copy 105 = .ok (.aload 6, 2) := by decide +kernel
theorem dX4_copy_107 : decode cX4_copy 107 = .ok (.getfield 171, 3) := by decide +kernel
theorem dX4_copy_110 : decode cX4_copy 110 = .ok (.iload_n 2, 1) := by decide +kernel
theorem dX4_copy_111 : decode cX4_copy 111 = .ok (.aload 7, 2) := by decide +kernel
theorem dX4_copy_113 : decode cX4_copy 113 = .ok (.getfield 171, 3) := by decide +kernel
theorem dX4_copy_116 : decode cX4_copy 116 = .ok (.iload 4, 2) := by decide +kernel
theorem dX4_copy_118 : decode cX4_copy 118 = .ok (.iload 5, 2) := by decide +kernel
theorem dX4_copy_120 : decode cX4_copy 120 = .ok (.invokestatic 220, 3) := by decide +kernel
theorem dX4_copy_123 : decode cX4_copy 123 = .ok (.iconst 1, 1) := by decide +kernel
theorem dX4_copy_124 : decode cX4_copy 124 = .ok (.ireturn, 1) := by decide +kernel
theorem dX4_write_0 : decode cX4_write 0 = .ok (.iload_n 1, 1) := by decide +kernel
theorem dX4_write_1 : decode cX4_write 1 = .ok (.iconst 4, 1) := by decide +kernel
theorem dX4_write_2 : decode cX4_write 2 = .ok (.invokestatic 62, 3) := by decide +kernel
theorem dX4_write_5 : decode cX4_write 5 = .ok (.ifCond .ne 6, 3) := by decide +kernel
theorem dX4_write_8 : decode cX4_write 8 = .ok (.bipush (-2), 2) := by decide +kernel
theorem dX4_write_10 : decode cX4_write 10 = .ok (.ireturn, 1) := by decide +kernel
theorem dX4_write_11 : decode cX4_write 11 = .ok (.aload_n 0, 1) := by decide +kernel
theorem dX4_write_12 : decode cX4_write 12 = .ok (.getfield 47, 3) := by decide +kernel
theorem dX4_write_15 : decode cX4_write 15 = .ok (.iload_n 1, 1) := by decide +kernel
theorem dX4_write_16 : decode cX4_write 16 = .ok (.aaload, 1) := by decide +kernel
theorem dX4_write_17 : decode cX4_write 17 = .ok (.astore_n 2, 1) := by decide +kernel
theorem dX4_write_18 : decode cX4_write 18 = .ok (.aload_n 2, 1) := by decide +kernel
theorem dX4_write_19 : decode cX4_write 19 = .ok (.invokevirtual 161, 3) := by decide +kernel
theorem dX4_write_22 : decode cX4_write 22 = .ok (.ifCond .eq 9, 3) := by decide +kernel
theorem dX4_write_25 : decode cX4_write 25 = .ok (.aload_n 0, 1) := by decide +kernel
theorem dX4_write_26 : decode cX4_write 26 = .ok (.iconst 1, 1) := by decide +kernel
theorem dX4_write_27 : decode cX4_write 27 = .ok (.invokevirtual 165, 3) := by decide +kernel
theorem dX4_write_30 : decode cX4_write 30 = .ok (.ireturn, 1) := by decide +kernel
theorem dX4_write_31 : decode cX4_write 31 = .ok (.aload_n 0, 1) := by decide +kernel
theorem dX4_write_32 : decode cX4_write 32 = .ok (.getfield 41, 3) := by decide +kernel
theorem dX4_write_35 : decode cX4_write 35 = .ok (.invokevirtual 98, 3) := by decide +kernel
theorem dX4_write_38 : decode cX4_write 38 = .ok (.astore_n 3, 1) := by decide +kernel
theorem dX4_write_39 : decode cX4_write 39 = .ok (.aload_n 2, 1) := by decide +kernel
theorem dX4_write_40 : decode cX4_write 40 = .ok (.getfield 168, 3) := by decide +kernel
theorem dX4_write_43 : decode cX4_write 43 = .ok (.bipush 28, 2) := by decide +kernel
theorem dX4_write_45 : decode cX4_write 45 = .ok (.invokestatic 193, 3) := by decide +kernel
theorem dX4_write_48 : decode cX4_write 48 = .ok (.istore 4, 2) := by decide +kernel
theorem dX4_write_50 : decode cX4_write 50 = .ok (.iconst 0, 1) := by decide +kernel
theorem dX4_write_51 : decode cX4_write 51 = .ok (.istore 5, 2) := by decide +kernel
theorem dX4_write_53 : decode cX4_write 53 = .ok (.iload 5, 2) := by decide +kernel
theorem dX4_write_55 : decode cX4_write 55 = .ok (.iload 4, 2) := by decide +kernel
theorem dX4_write_57 : decode cX4_write 57 = .ok (.if_icmp .ge 26, 3) := by decide +kernel
theorem dX4_write_60 : decode cX4_write 60 = .ok (.aload_n 2, 1) := by decide +kernel
theorem dX4_write_61 : decode cX4_write 61 = .ok (.iload 5, 2) := by decide +kernel
theorem dX4_write_63 : decode cX4_write 63 = .ok (.aload_n 3, 1) := by decide +kernel
theorem dX4_write_64 : decode cX4_write 64 = .ok (.getfield 116, 3) := by decide +kernel
theorem dX4_write_67 : decode cX4_write 67 = .ok (.aload_n 0, 1) := by decide +kernel
theorem dX4_write_68 : decode cX4_write 68 = .ok (.iload 5, 2) := by decide +kernel
theorem dX4_write_70 : decode cX4_write 70 = .ok (.invokevirtual 119, 3) := by decide +kernel
theorem dX4_write_73 : decode cX4_write 73 = .ok (.iaload, 1) := by decide +kernel
theorem dX4_write_74 : decode cX4_write 74 = .ok (.invokevirtual 210, 3) := by decide +kernel
theorem dX4_write_77 : decode cX4_write 77 = .ok (.iinc 5 1, 3) := by decide +kernel
theorem dX4_write_80 : decode cX4_write 80 = .ok (.goto (-27), 3) := by decide +kernel
theorem dX4_write_83 : decode cX4_write 83 = .ok (.iload 4, 2) := by decide +kernel
theorem dX4_write_85 : decode cX4_write 85 = .ok (.ireturn, 1) := by decide +kernel
theorem dX4_count_0 : decode cX4_count 0 = .ok (.iload_n 1, 1) := by decide +kernel
theorem dX4_count_1 : decode cX4_count 1 = .ok (.tableswitch 117 0 8 #[51, 59, 67, 75, 83, 91, 99, 107, 112], 51) := by decide +kernel
theorem dX4_count_52 : decode cX4_count 52 = .ok (.aload_n 0, 1) := by decide +kernel
theorem dX4_count_53 : decode cX4_count 53 = .ok (.getfield 14, 3) := by decide +kernel
theorem dX4_count_56 : decode cX4_count 56 = .ok (.getfield 88, 3) := by decide +kernel
theorem dX4_count_59 : decode cX4_count 59 = .ok (.ireturn, 1) := by decide +kernel
theorem dX4_count_60 : decode cX4_count 60 = .ok (.aload_n 0, 1) := by decide +kernel
theorem dX4_count_61 : decode cX4_count 61 = .ok (.getfield 18, 3) := by decide +kernel
theorem dX4_count_64 : decode cX4_count 64 = .ok (.getfield 88, 3) := by decide +kernel
theorem dX4_count_67 : decode cX4_count 67 = .ok (.ireturn, 1) := by decide +kernel
theorem dX4_count_68 : decode cX4_count 68 = .ok (.aload_n 0, 1) := by decide +kernel
theorem dX4_count_69 : decode cX4_count 69 = .ok (.getfield 14, 3) := by decide +kernel
theorem dX4_count_72 : decode cX4_count 72 = .ok (.getfield 226, 3) := by decide +kernel
theorem dX4_count_75 : decode cX4_count 75 = .ok (.ireturn, 1) := by decide +kernel
theorem dX4_count_76 : decode cX4_count 76 = .ok (.aload_n 0, 1) := by decide +kernel
theorem dX4_count_77 : decode cX4_count 77 = .ok (.getfield 18, 3) := by decide +kernel
theorem dX4_count_80 : decode cX4_count 80 = .ok (.getfield 226, 3) := by decide +kernel
theorem dX4_count_83 : decode cX4_count 83 = .ok (.ireturn, 1) := by decide +kernel
theorem dX4_count_84 : decode cX4_count 84 = .ok (.aload_n 0, 1) := by decide +kernel
theorem dX4_count_85 : decode cX4_count 85 = .ok (.getfield 26, 3) := by decide +kernel
theorem dX4_count_88 : decode cX4_count 88 = .ok (.getfield 229, 3) := by decide +kernel
theorem dX4_count_91 : decode cX4_count 91 = .ok (.ireturn, 1) := by decide +kernel
theorem dX4_count_92 : decode cX4_count 92 = .ok (.aload_n 0, 1) := by decide +kernel
theorem dX4_count_93 : decode cX4_count 93 = .ok (.getfield 30, 3) := by decide +kernel
theorem dX4_count_96 : decode cX4_count 96 = .ok (.getfield 229, 3) := by decide +kernel
theorem dX4_count_99 : decode cX4_count 99 = .ok (.ireturn, 1) := by decide +kernel
theorem dX4_count_100 : decode cX4_count 100 = .ok (.aload_n 0, 1) := by decide +kernel
theorem dX4_count_101 : decode cX4_count 101 = .ok (.getfield 33, 3) := by decide +kernel
theorem dX4_count_104 : decode cX4_count 104 = .ok (.getfield 229, 3) := by decide +kernel
theorem dX4_count_107 : decode cX4_count 107 = .ok (.ireturn, 1) := by decide +kernel
theorem dX4_count_108 : decode cX4_count 108 = .ok (.aload_n 0, 1) := by decide +kernel
theorem dX4_count_109 : decode cX4_count 109 = .ok (.invokevirtual 230, 3) := by decide +kernel
theorem dX4_count_112 : decode cX4_count 112 = .ok (.ireturn, 1) := by decide +kernel
theorem dX4_count_113 : decode cX4_count 113 = .ok (.aload_n 0, 1) := by decide +kernel
theorem dX4_count_114 : decode cX4_count 114 = .ok (.getfield 58, 3) := by decide +kernel
theorem dX4_count_117 : decode cX4_count 117 = .ok (.ireturn, 1) := by decide +kernel
theorem dX4_count_118 : decode cX4_count 118 = .ok (.bipush (-2), 2) := by decide +kernel
theorem dX4_count_120 : decode cX4_count 120 = .ok (.ireturn, 1) := by decide +kernel
theorem dX4_digest_0 : decode cX4_digest 0 = .ok (.ldc2_w 233, 3) := by decide +kernel
theorem dX4_digest_3 : decode cX4_digest 3 = .ok (.lstore_n 1, 1) := by decide +kernel
theorem dX4_digest_4 : decode cX4_digest 4 = .ok (.iconst 0, 1) := by decide +kernel
theorem dX4_digest_5 : decode cX4_digest 5 = .ok (.istore_n 3, 1) := by decide +kernel
theorem dX4_digest_6 : decode cX4_digest 6 = .ok (.iload_n 3, 1) := by decide +kernel
theorem dX4_digest_7 : decode cX4_digest 7 = .ok (.bipush 7, 2) := by decide +kernel
theorem dX4_digest_9 : decode cX4_digest 9 = .ok (.if_icmp .gt 22, 3) := by decide +kernel
theorem dX4_digest_12 : decode cX4_digest 12 = .ok (.ldc2_w 235, 3) := by decide +kernel
theorem dX4_digest_15 : decode cX4_digest 15 = .ok (.lload_n 1, 1) := by decide +kernel
theorem dX4_digest_16 : decode cX4_digest 16 = .ok (.lmul, 1) := by decide +kernel
theorem dX4_digest_17 : decode cX4_digest 17 = .ok (.aload_n 0, 1) := by decide +kernel
theorem dX4_digest_18 : decode cX4_digest 18 = .ok (.iload_n 3, 1) := by decide +kernel
theorem dX4_digest_19 : decode cX4_digest 19 = .ok (.invokevirtual 237, 3) := by decide +kernel
theorem dX4_digest_22 : decode cX4_digest 22 = .ok (.i2l, 1) := by decide +kernel
theorem dX4_digest_23 : decode cX4_digest 23 = .ok (.ladd, 1) := by decide +kernel
theorem dX4_digest_24 : decode cX4_digest 24 = .ok (.lstore_n 1, 1) := by decide +kernel
theorem dX4_digest_25 : decode cX4_digest 25 = .ok (.iinc 3 1, 3) := by decide +kernel
theorem dX4_digest_28 : decode cX4_digest 28 = .ok (.goto (-22), 3) := by decide +kernel
theorem dX4_digest_31 : decode cX4_digest 31 = .ok (.aload_n 0, 1) := by decide +kernel
theorem dX4_digest_32 : decode cX4_digest 32 = .ok (.lload_n 1, 1) := by decide +kernel
theorem dX4_digest_33 : decode cX4_digest 33 = .ok (.invokevirtual 240, 3) := by decide +kernel
theorem dX4_digest_36 : decode cX4_digest 36 = .ok (.lstore_n 1, 1) := by decide +kernel
theorem dX4_digest_37 : decode cX4_digest 37 = .ok (.iconst 0, 1) := by decide +kernel
theorem dX4_digest_38 : decode cX4_digest 38 = .ok (.istore_n 3, 1) := by decide +kernel
theorem dX4_digest_39 : decode cX4_digest 39 = .ok (.iload_n 3, 1) := by decide +kernel
theorem dX4_digest_40 : decode cX4_digest 40 = .ok (.iconst 4, 1) := by decide +kernel
theorem dX4_digest_41 : decode cX4_digest 41 = .ok (.if_icmp .ge 16, 3) := by decide +kernel
theorem dX4_digest_44 : decode cX4_digest 44 = .ok (.aload_n 0, 1) := by decide +kernel
theorem dX4_digest_45 : decode cX4_digest 45 = .ok (.lload_n 1, 1) := by decide +kernel
theorem dX4_digest_46 : decode cX4_digest 46 = .ok (.iload_n 3, 1) := by decide +kernel
theorem dX4_digest_47 : decode cX4_digest 47 = .ok (.invokevirtual 244, 3) := by decide +kernel
theorem dX4_digest_50 : decode cX4_digest 50 = .ok (.lstore_n 1, 1) := by decide +kernel
theorem dX4_digest_51 : decode cX4_digest 51 = .ok (.iinc 3 1, 3) := by decide +kernel
theorem dX4_digest_54 : decode cX4_digest 54 = .ok (.goto (-15), 3) := by decide +kernel
theorem dX4_digest_57 : decode cX4_digest 57 = .ok (.iconst 0, 1) := by decide +kernel
theorem dX4_digest_58 : decode cX4_digest 58 = .ok (.istore_n 3, 1) := by decide +kernel
theorem dX4_digest_59 : decode cX4_digest 59 = .ok (.iload_n 3, 1) := by decide +kernel
theorem dX4_digest_60 : decode cX4_digest 60 = .ok (.bipush 8, 2) := by decide +kernel
theorem dX4_digest_62 : decode cX4_digest 62 = .ok (.if_icmp .ge 16, 3) := by decide +kernel
theorem dX4_digest_65 : decode cX4_digest 65 = .ok (.aload_n 0, 1) := by decide +kernel
theorem dX4_digest_66 : decode cX4_digest 66 = .ok (.lload_n 1, 1) := by decide +kernel
theorem dX4_digest_67 : decode cX4_digest 67 = .ok (.iload_n 3, 1) := by decide +kernel
theorem dX4_digest_68 : decode cX4_digest 68 = .ok (.invokevirtual 248, 3) := by decide +kernel
theorem dX4_digest_71 : decode cX4_digest 71 = .ok (.lstore_n 1, 1) := by decide +kernel
theorem dX4_digest_72 : decode cX4_digest 72 = .ok (.iinc 3 1, 3) := by decide +kernel
theorem dX4_digest_75 : decode cX4_digest 75 = .ok (.goto (-16), 3) := by decide +kernel
theorem dX4_digest_78 : decode cX4_digest 78 = .ok (.ldc2_w 235, 3) := by decide +kernel
theorem dX4_digest_81 : decode cX4_digest 81 = .ok (.lload_n 1, 1) := by decide +kernel
theorem dX4_digest_82 : decode cX4_digest 82 = .ok (.lmul, 1) := by decide +kernel
theorem dX4_digest_83 : decode cX4_digest 83 = .ok (.aload_n 0, 1) := by decide +kernel
theorem dX4_digest_84 : decode cX4_digest 84 = .ok (.iconst 0, 1) := by decide +kernel
theorem dX4_digest_85 : decode cX4_digest 85 = .ok (.invokevirtual 251, 3) := by decide +kernel
theorem dX4_digest_88 : decode cX4_digest 88 = .ok (.i2l, 1) := by decide +kernel
theorem dX4_digest_89 : decode cX4_digest 89 = .ok (.ladd, 1) := by decide +kernel
theorem dX4_digest_90 : decode cX4_digest 90 = .ok (.lstore_n 1, 1) := by decide +kernel
theorem dX4_digest_91 : decode cX4_digest 91 = .ok (.ldc2_w 235, 3) := by decide +kernel
theorem dX4_digest_94 : decode cX4_digest 94 = .ok (.lload_n 1, 1) := by decide +kernel
theorem dX4_digest_95 : decode cX4_digest 95 = .ok (.lmul, 1) := by decide +kernel
theorem dX4_digest_96 : decode cX4_digest 96 = .ok (.aload_n 0, 1) := by decide +kernel
theorem dX4_digest_97 : decode cX4_digest 97 = .ok (.iconst 1, 1) := by decide +kernel
theorem dX4_digest_98 : decode cX4_digest 98 = .ok (.invokevirtual 251, 3) := by decide +kernel
theorem dX4_digest_101 : decode cX4_digest 101 = .ok (.i2l, 1) := by decide +kernel
theorem dX4_digest_102 : decode cX4_digest 102 = .ok (.ladd, 1) := by decide +kernel
theorem dX4_digest_103 : decode cX4_digest 103 = .ok (.lstore_n 1, 1) := by decide +kernel
theorem dX4_digest_104 : decode cX4_digest 104 = .ok (.ldc2_w 235, 3) := by decide +kernel
theorem dX4_digest_107 : decode cX4_digest 107 = .ok (.lload_n 1, 1) := by decide +kernel
theorem dX4_digest_108 : decode cX4_digest 108 = .ok (.lmul, 1) := by decide +kernel
theorem dX4_digest_109 : decode cX4_digest 109 = .ok (.aload_n 0, 1) := by decide +kernel
theorem dX4_digest_110 : decode cX4_digest 110 = .ok (.iconst 5, 1) := by decide +kernel
theorem dX4_digest_111 : decode cX4_digest 111 = .ok (.invokevirtual 254, 3) := by decide +kernel
theorem dX4_digest_114 : decode cX4_digest 114 = .ok (.i2l, 1) := by decide +kernel
theorem dX4_digest_115 : decode cX4_digest 115 = .ok (.ladd, 1) := by decide +kernel
theorem dX4_digest_116 : decode cX4_digest 116 = .ok (.lstore_n 1, 1) := by decide +kernel
theorem dX4_digest_117 : decode cX4_digest 117 = .ok (.iconst 0, 1) := by decide +kernel
theorem dX4_digest_118 : decode cX4_digest 118 = .ok (.istore_n 3, 1) := by decide +kernel
theorem dX4_digest_119 : decode cX4_digest 119 = .ok (.iload_n 3, 1) := by decide +kernel
theorem dX4_digest_120 : decode cX4_digest 120 = .ok (.iconst 3, 1) := by decide +kernel
theorem dX4_digest_121 : decode cX4_digest 121 = .ok (.if_icmp .ge 22, 3) := by decide +kernel
theorem dX4_digest_124 : decode cX4_digest 124 = .ok (.ldc2_w 235, 3) := by decide +kernel
theorem dX4_digest_127 : decode cX4_digest 127 = .ok (.lload_n 1, 1) := by decide +kernel
theorem dX4_digest_128 : decode cX4_digest 128 = .ok (.lmul, 1) := by decide +kernel
theorem dX4_digest_129 : decode cX4_digest 129 = .ok (.aload_n 0, 1) := by decide +kernel
theorem dX4_digest_130 : decode cX4_digest 130 = .ok (.iload_n 3, 1) := by decide +kernel
theorem dX4_digest_131 : decode cX4_digest 131 = .ok (.invokevirtual 257, 3) := by decide +kernel
theorem dX4_digest_134 : decode cX4_digest 134 = .ok (.i2l, 1) := by decide +kernel
theorem dX4_digest_135 : decode cX4_digest 135 = .ok (.ladd, 1) := by decide +kernel
theorem dX4_digest_136 : decode cX4_digest 136 = .ok (.lstore_n 1, 1) := by decide +kernel
theorem dX4_digest_137 : decode cX4_digest 137 = .ok (.iinc 3 1, 3) := by decide +kernel
theorem dX4_digest_140 : decode cX4_digest 140 = .ok (.goto (-21), 3) := by decide +kernel
theorem dX4_digest_143 : decode cX4_digest 143 = .ok (.lload_n 1, 1) := by decide +kernel
theorem dX4_digest_144 : decode cX4_digest 144 = .ok (.lreturn, 1) := by decide +kernel
theorem dX4_digestOfTexts_0 : decode cX4_digestOfTexts 0 = .ok (.ldc2_w 235, 3) := by decide +kernel
theorem dX4_digestOfTexts_3 : decode cX4_digestOfTexts 3 = .ok (.lload_n 1, 1) := by decide +kernel
theorem dX4_digestOfTexts_4 : decode cX4_digestOfTexts 4 = .ok (.lmul, 1) := by decide +kernel
theorem dX4_digestOfTexts_5 : decode cX4_digestOfTexts 5 = .ok (.aload_n 0, 1) := by decide +kernel
theorem dX4_digestOfTexts_6 : decode cX4_digestOfTexts 6 = .ok (.iconst 0, 1) := by decide +kernel
theorem dX4_digestOfTexts_7 : decode cX4_digestOfTexts 7 = .ok (.invokevirtual 260, 3) := by decide +kernel
theorem dX4_digestOfTexts_10 : decode cX4_digestOfTexts 10 = .ok (.i2l, 1) := by decide +kernel
theorem dX4_digestOfTexts_11 : decode cX4_digestOfTexts 11 = .ok (.ladd, 1) := by decide +kernel
theorem dX4_digestOfTexts_12 : decode cX4_digestOfTexts 12 = .ok (.lstore_n 3, 1) := by decide +kernel
theorem dX4_digestOfTexts_13 : decode cX4_digestOfTexts 13 = .ok (.ldc2_w 235, 3) := by decide +kernel
theorem dX4_digestOfTexts_16 : decode cX4_digestOfTexts 16 = .ok (.lload_n 3, 1) := by decide +kernel
theorem dX4_digestOfTexts_17 : decode cX4_digestOfTexts 17 = .ok (.lmul, 1) := by decide +kernel
theorem dX4_digestOfTexts_18 : decode cX4_digestOfTexts 18 = .ok (.aload_n 0, 1) := by decide +kernel
theorem dX4_digestOfTexts_19 : decode cX4_digestOfTexts 19 = .ok (.iconst 1, 1) := by decide +kernel
theorem dX4_digestOfTexts_20 : decode cX4_digestOfTexts 20 = .ok (.invokevirtual 260, 3) := by decide +kernel
theorem dX4_digestOfTexts_23 : decode cX4_digestOfTexts 23 = .ok (.i2l, 1) := by decide +kernel
theorem dX4_digestOfTexts_24 : decode cX4_digestOfTexts 24 = .ok (.ladd, 1) := by decide +kernel
theorem dX4_digestOfTexts_25 : decode cX4_digestOfTexts 25 = .ok (.lstore_n 3, 1) := by decide +kernel
theorem dX4_digestOfTexts_26 : decode cX4_digestOfTexts 26 = .ok (.iconst 0, 1) := by decide +kernel
theorem dX4_digestOfTexts_27 : decode cX4_digestOfTexts 27 = .ok (.istore 5, 2) := by decide +kernel
theorem dX4_digestOfTexts_29 : decode cX4_digestOfTexts 29 = .ok (.iload 5, 2) := by decide +kernel
theorem dX4_digestOfTexts_31 : decode cX4_digestOfTexts 31 = .ok (.aload_n 0, 1) := by decide +kernel
theorem dX4_digestOfTexts_32 : decode cX4_digestOfTexts 32 = .ok (.getfield 14, 3) := by decide +kernel
theorem dX4_digestOfTexts_35 : decode cX4_digestOfTexts 35 = .ok (.getfield 88, 3) := by decide +kernel
theorem dX4_digestOfTexts_38 : decode cX4_digestOfTexts 38 = .ok (.if_icmp .ge 40, 3) := by decide +kernel
theorem dX4_digestOfTexts_41 : decode cX4_digestOfTexts 41 = .ok (.iconst 0, 1) := by decide +kernel
theorem dX4_digestOfTexts_42 : decode cX4_digestOfTexts 42 = .ok (.istore 6, 2) := by decide +kernel
theorem dX4_digestOfTexts_44 : decode cX4_digestOfTexts 44 = .ok (.iload 6, 2) := by decide +kernel
theorem dX4_digestOfTexts_46 : decode cX4_digestOfTexts 46 = .ok (.iconst 3, 1) := by decide +kernel
theorem dX4_digestOfTexts_47 : decode cX4_digestOfTexts 47 = .ok (.if_icmp .ge 25, 3) := by decide +kernel
theorem dX4_digestOfTexts_50 : decode cX4_digestOfTexts 50 = .ok (.ldc2_w 235, 3) := by decide +kernel
theorem dX4_digestOfTexts_53 : decode cX4_digestOfTexts 53 = .ok (.lload_n 3, 1) := by decide +kernel
theorem dX4_digestOfTexts_54 : decode cX4_digestOfTexts 54 = .ok (.lmul, 1) := by decide +kernel
theorem dX4_digestOfTexts_55 : decode cX4_digestOfTexts 55 = .ok (.aload_n 0, 1) := by decide +kernel
theorem dX4_digestOfTexts_56 : decode cX4_digestOfTexts 56 = .ok (.iload 5, 2) := by decide +kernel
theorem dX4_digestOfTexts_58 : decode cX4_digestOfTexts 58 = .ok (.iload 6, 2) := by decide +kernel
theorem dX4_digestOfTexts_60 : decode cX4_digestOfTexts 60 = .ok (.invokevirtual 263, 3) := by decide +kernel
theorem dX4_digestOfTexts_63 : decode cX4_digestOfTexts 63 = .ok (.i2l, 1) := by decide +kernel
theorem dX4_digestOfTexts_64 : decode cX4_digestOfTexts 64 = .ok (.ladd, 1) := by decide +kernel
theorem dX4_digestOfTexts_65 : decode cX4_digestOfTexts 65 = .ok (.lstore_n 3, 1) := by decide +kernel
theorem dX4_digestOfTexts_66 : decode cX4_digestOfTexts 66 = .ok (.iinc 6 1, 3) := by decide +kernel
theorem dX4_digestOfTexts_69 : decode cX4_digestOfTexts 69 = .ok (.goto (-25), 3) := by decide +kernel
theorem dX4_digestOfTexts_72 : decode cX4_digestOfTexts 72 = .ok (.iinc 5 1, 3) := by decide +kernel
theorem dX4_digestOfTexts_75 : decode cX4_digestOfTexts 75 = .ok (.goto (-46), 3) := by decide +kernel
theorem dX4_digestOfTexts_78 : decode cX4_digestOfTexts 78 = .ok (.iconst 0, 1) := by decide +kernel
theorem dX4_digestOfTexts_79 : decode cX4_digestOfTexts 79 = .ok (.istore 5, 2) := by decide +kernel
theorem dX4_digestOfTexts_81 : decode cX4_digestOfTexts 81 = .ok (.iload 5, 2) := by decide +kernel
theorem dX4_digestOfTexts_83 : decode cX4_digestOfTexts 83 = .ok (.aload_n 0, 1) := by decide +kernel
theorem dX4_digestOfTexts_84 : decode cX4_digestOfTexts 84 = .ok (.getfield 18, 3) := by decide +kernel
theorem dX4_digestOfTexts_87 : decode cX4_digestOfTexts 87 = .ok (.getfield 88, 3) := by decide +kernel
theorem dX4_digestOfTexts_90 : decode cX4_digestOfTexts 90 = .ok (.if_icmp .ge 40, 3) := by decide +kernel
theorem dX4_digestOfTexts_93 : decode cX4_digestOfTexts 93 = .ok (.iconst 0, 1) := by decide +kernel
theorem dX4_digestOfTexts_94 : decode cX4_digestOfTexts 94 = .ok (.istore 6, 2) := by decide +kernel
theorem dX4_digestOfTexts_96 : decode cX4_digestOfTexts 96 = .ok (.iload 6, 2) := by decide +kernel
theorem dX4_digestOfTexts_98 : decode cX4_digestOfTexts 98 = .ok (.iconst 5, 1) := by decide +kernel
theorem dX4_digestOfTexts_99 : decode cX4_digestOfTexts 99 = .ok (.if_icmp .ge 25, 3) := by decide +kernel
theorem dX4_digestOfTexts_102 : decode cX4_digestOfTexts 102 = .ok (.ldc2_w 235, 3) := by decide +kernel
theorem dX4_digestOfTexts_105 : decode cX4_digestOfTexts 105 = .ok (.lload_n 3, 1) := by decide +kernel
theorem dX4_digestOfTexts_106 : decode cX4_digestOfTexts 106 = .ok (.lmul, 1) := by decide +kernel
theorem dX4_digestOfTexts_107 : decode cX4_digestOfTexts 107 = .ok (.aload_n 0, 1) := by decide +kernel
theorem dX4_digestOfTexts_108 : decode cX4_digestOfTexts 108 = .ok (.iload 5, 2) := by decide +kernel
theorem dX4_digestOfTexts_110 : decode cX4_digestOfTexts 110 = .ok (.iload 6, 2) := by decide +kernel
theorem dX4_digestOfTexts_112 : decode cX4_digestOfTexts 112 = .ok (.invokevirtual 266, 3) := by decide +kernel
theorem dX4_digestOfTexts_115 : decode cX4_digestOfTexts 115 = .ok (.i2l, 1) := by decide +kernel
theorem dX4_digestOfTexts_116 : decode cX4_digestOfTexts 116 = .ok (.ladd, 1) := by decide +kernel
theorem dX4_digestOfTexts_117 : decode cX4_digestOfTexts 117 = .ok (.lstore_n 3, 1) := by decide +kernel
theorem dX4_digestOfTexts_118 : decode cX4_digestOfTexts 118 = .ok (.iinc 6 1, 3) := by decide +kernel
theorem dX4_digestOfTexts_121 : decode cX4_digestOfTexts 121 = .ok (.goto (-25), 3) := by decide +kernel
theorem dX4_digestOfTexts_124 : decode cX4_digestOfTexts 124 = .ok (.iinc 5 1, 3) := by decide +kernel
theorem dX4_digestOfTexts_127 : decode cX4_digestOfTexts 127 = .ok (.goto (-46), 3) := by decide +kernel
theorem dX4_digestOfTexts_130 : decode cX4_digestOfTexts 130 = .ok (.lload_n 3, 1) := by decide +kernel
theorem dX4_digestOfTexts_131 : decode cX4_digestOfTexts 131 = .ok (.lreturn, 1) := by decide +kernel
theorem dX4_digestOfTurns_0 : decode cX4_digestOfTurns 0 = .ok (.lload_n 1, 1) := by decide +kernel
theorem dX4_digestOfTurns_1 : decode cX4_digestOfTurns 1 = .ok (.lstore 4, 2) := by decide +kernel
theorem dX4_digestOfTurns_3 : decode cX4_digestOfTurns 3 = .ok (.iconst 0, 1) := by decide +kernel
theorem dX4_digestOfTurns_4 : decode cX4_digestOfTurns 4 = .ok (.istore 6, 2) := by decide +kernel
theorem dX4_digestOfTurns_6 : decode cX4_digestOfTurns 6 = .ok (.iload 6, 2) := by decide +kernel
theorem dX4_digestOfTurns_8 : decode cX4_digestOfTurns 8 = .ok (.iconst 3, 1) := by decide +kernel
theorem dX4_digestOfTurns_9 : decode cX4_digestOfTurns 9 = .ok (.if_icmp .ge 26, 3) := by decide +kernel
theorem dX4_digestOfTurns_12 : decode cX4_digestOfTurns 12 = .ok (.ldc2_w 235, 3) := by decide +kernel
theorem dX4_digestOfTurns_15 : decode cX4_digestOfTurns 15 = .ok (.lload 4, 2) := by decide +kernel
theorem dX4_digestOfTurns_17 : decode cX4_digestOfTurns 17 = .ok (.lmul, 1) := by decide +kernel
theorem dX4_digestOfTurns_18 : decode cX4_digestOfTurns 18 = .ok (.aload_n 0, 1) := by decide +kernel
theorem dX4_digestOfTurns_19 : decode cX4_digestOfTurns 19 = .ok (.iload_n 3, 1) := by decide +kernel
theorem dX4_digestOfTurns_20 : decode cX4_digestOfTurns 20 = .ok (.iload 6, 2) := by decide +kernel
theorem dX4_digestOfTurns_22 : decode cX4_digestOfTurns 22 = .ok (.invokevirtual 269, 3) := by decide +kernel
theorem dX4_digestOfTurns_25 : decode cX4_digestOfTurns 25 = .ok (.i2l, 1) := by decide +kernel
theorem dX4_digestOfTurns_26 : decode cX4_digestOfTurns 26 = .ok (.ladd, 1) := by decide +kernel
theorem dX4_digestOfTurns_27 : decode cX4_digestOfTurns 27 = .ok (.lstore 4, 2) := by decide +kernel
theorem dX4_digestOfTurns_29 : decode cX4_digestOfTurns 29 = .ok (.iinc 6 1, 3) := by decide +kernel
theorem dX4_digestOfTurns_32 : decode cX4_digestOfTurns 32 = .ok (.goto (-26), 3) := by decide +kernel
theorem dX4_digestOfTurns_35 : decode cX4_digestOfTurns 35 = .ok (.ldc2_w 235, 3) := by decide +kernel
theorem dX4_digestOfTurns_38 : decode cX4_digestOfTurns 38 = .ok (.lload 4, 2) := by decide +kernel
theorem dX4_digestOfTurns_40 : decode cX4_digestOfTurns 40 = .ok (.lmul, 1) := by decide +kernel
theorem dX4_digestOfTurns_41 : decode cX4_digestOfTurns 41 = .ok (.aload_n 0, 1) := by decide +kernel
theorem dX4_digestOfTurns_42 : decode cX4_digestOfTurns 42 = .ok (.iload_n 3, 1) := by decide +kernel
theorem dX4_digestOfTurns_43 : decode cX4_digestOfTurns 43 = .ok (.invokevirtual 272, 3) := by decide +kernel
theorem dX4_digestOfTurns_46 : decode cX4_digestOfTurns 46 = .ok (.i2l, 1) := by decide +kernel
theorem dX4_digestOfTurns_47 : decode cX4_digestOfTurns 47 = .ok (.ladd, 1) := by decide +kernel
theorem dX4_digestOfTurns_48 : decode cX4_digestOfTurns 48 = .ok (.lstore 4, 2) := by decide +kernel
theorem dX4_digestOfTurns_50 : decode cX4_digestOfTurns 50 = .ok (.ldc2_w 235, 3) := by decide +kernel
theorem dX4_digestOfTurns_53 : decode cX4_digestOfTurns 53 = .ok (.lload 4, 2) := by decide +kernel
theorem dX4_digestOfTurns_55 : decode cX4_digestOfTurns 55 = .ok (.lmul, 1) := by decide +kernel
theorem dX4_digestOfTurns_56 : decode cX4_digestOfTurns 56 = .ok (.aload_n 0, 1) := by decide +kernel
theorem dX4_digestOfTurns_57 : decode cX4_digestOfTurns 57 = .ok (.iload_n 3, 1) := by decide +kernel
theorem dX4_digestOfTurns_58 : decode cX4_digestOfTurns 58 = .ok (.iconst 1, 1) := by decide +kernel
theorem dX4_digestOfTurns_59 : decode cX4_digestOfTurns 59 = .ok (.iconst 2, 1) := by decide +kernel
theorem dX4_digestOfTurns_60 : decode cX4_digestOfTurns 60 = .ok (.iconst 0, 1) := by decide +kernel
theorem dX4_digestOfTurns_61 : decode cX4_digestOfTurns 61 = .ok (.invokevirtual 275, 3) := by decide +kernel
theorem dX4_digestOfTurns_64 : decode cX4_digestOfTurns 64 = .ok (.i2l, 1) := by decide +kernel
theorem dX4_digestOfTurns_65 : decode cX4_digestOfTurns 65 = .ok (.ladd, 1) := by decide +kernel
theorem dX4_digestOfTurns_66 : decode cX4_digestOfTurns 66 = .ok (.lstore 4, 2) := by decide +kernel
theorem dX4_digestOfTurns_68 : decode cX4_digestOfTurns 68 = .ok (.ldc2_w 235, 3) := by decide +kernel
theorem dX4_digestOfTurns_71 : decode cX4_digestOfTurns 71 = .ok (.lload 4, 2) := by decide +kernel
theorem dX4_digestOfTurns_73 : decode cX4_digestOfTurns 73 = .ok (.lmul, 1) := by decide +kernel
theorem dX4_digestOfTurns_74 : decode cX4_digestOfTurns 74 = .ok (.aload_n 0, 1) := by decide +kernel
theorem dX4_digestOfTurns_75 : decode cX4_digestOfTurns 75 = .ok (.iload_n 3, 1) := by decide +kernel
theorem dX4_digestOfTurns_76 : decode cX4_digestOfTurns 76 = .ok (.iconst 1, 1) := by decide +kernel
theorem dX4_digestOfTurns_77 : decode cX4_digestOfTurns 77 = .ok (.iconst 2, 1) := by decide +kernel
theorem dX4_digestOfTurns_78 : decode cX4_digestOfTurns 78 = .ok (.iconst 1, 1) := by decide +kernel
theorem dX4_digestOfTurns_79 : decode cX4_digestOfTurns 79 = .ok (.invokevirtual 275, 3) := by decide +kernel
theorem dX4_digestOfTurns_82 : decode cX4_digestOfTurns 82 = .ok (.i2l, 1) := by decide +kernel
theorem dX4_digestOfTurns_83 : decode cX4_digestOfTurns 83 = .ok (.ladd, 1) := by decide +kernel
theorem dX4_digestOfTurns_84 : decode cX4_digestOfTurns 84 = .ok (.lstore 4, 2) := by decide +kernel
theorem dX4_digestOfTurns_86 : decode cX4_digestOfTurns 86 = .ok (.ldc2_w 235, 3) := by decide +kernel
theorem dX4_digestOfTurns_89 : decode cX4_digestOfTurns 89 = .ok (.lload 4, 2) := by decide +kernel
theorem dX4_digestOfTurns_91 : decode cX4_digestOfTurns 91 = .ok (.lmul, 1) := by decide +kernel
theorem dX4_digestOfTurns_92 : decode cX4_digestOfTurns 92 = .ok (.aload_n 0, 1) := by decide +kernel
theorem dX4_digestOfTurns_93 : decode cX4_digestOfTurns 93 = .ok (.iload_n 3, 1) := by decide +kernel
theorem dX4_digestOfTurns_94 : decode cX4_digestOfTurns 94 = .ok (.iconst 3, 1) := by decide +kernel
theorem dX4_digestOfTurns_95 : decode cX4_digestOfTurns 95 = .ok (.iconst 0, 1) := by decide +kernel
theorem dX4_digestOfTurns_96 : decode cX4_digestOfTurns 96 = .ok (.invokevirtual 279, 3) := by decide +kernel
theorem dX4_digestOfTurns_99 : decode cX4_digestOfTurns 99 = .ok (.i2l, 1) := by decide +kernel
theorem dX4_digestOfTurns_100 : decode cX4_digestOfTurns 100 = .ok (.ladd, 1) := by decide +kernel
theorem dX4_digestOfTurns_101 : decode cX4_digestOfTurns 101 = .ok (.lstore 4, 2) := by decide +kernel
theorem dX4_digestOfTurns_103 : decode cX4_digestOfTurns 103 = .ok (.ldc2_w 235, 3) := by decide +kernel
theorem dX4_digestOfTurns_106 : decode cX4_digestOfTurns 106 = .ok (.lload 4, 2) := by decide +kernel
theorem dX4_digestOfTurns_108 : decode cX4_digestOfTurns 108 = .ok (.lmul, 1) := by decide +kernel
theorem dX4_digestOfTurns_109 : decode cX4_digestOfTurns 109 = .ok (.aload_n 0, 1) := by decide +kernel
theorem dX4_digestOfTurns_110 : decode cX4_digestOfTurns 110 = .ok (.iload_n 3, 1) := by decide +kernel
theorem dX4_digestOfTurns_111 : decode cX4_digestOfTurns 111 = .ok (.iconst 3, 1) := by decide +kernel
theorem dX4_digestOfTurns_112 : decode cX4_digestOfTurns 112 = .ok (.iconst 1, 1) := by decide +kernel
theorem dX4_digestOfTurns_113 : decode cX4_digestOfTurns 113 = .ok (.invokevirtual 279, 3) := by decide +kernel
theorem dX4_digestOfTurns_116 : decode cX4_digestOfTurns 116 = .ok (.i2l, 1) := by decide +kernel
theorem dX4_digestOfTurns_117 : decode cX4_digestOfTurns 117 = .ok (.ladd, 1) := by decide +kernel
theorem dX4_digestOfTurns_118 : decode cX4_digestOfTurns 118 = .ok (.lstore 4, 2) := by decide +kernel
theorem dX4_digestOfTurns_120 : decode cX4_digestOfTurns 120 = .ok (.ldc2_w 235, 3) := by decide +kernel
theorem dX4_digestOfTurns_123 : decode cX4_digestOfTurns 123 = .ok (.lload 4, 2) := by decide +kernel
theorem dX4_digestOfTurns_125 : decode cX4_digestOfTurns 125 = .ok (.lmul, 1) := by decide +kernel
theorem dX4_digestOfTurns_126 : decode cX4_digestOfTurns 126 = .ok (.aload_n 0, 1) := by decide +kernel
theorem dX4_digestOfTurns_127 : decode cX4_digestOfTurns 127 = .ok (.iload_n 3, 1) := by decide +kernel
theorem dX4_digestOfTurns_128 : decode cX4_digestOfTurns 128 = .ok (.iconst 0, 1) := by decide +kernel
theorem dX4_digestOfTurns_129 : decode cX4_digestOfTurns 129 = .ok (.invokevirtual 282, 3) := by decide +kernel
theorem dX4_digestOfTurns_132 : decode cX4_digestOfTurns 132 = .ok (.i2l, 1) := by decide +kernel
theorem dX4_digestOfTurns_133 : decode cX4_digestOfTurns 133 = .ok (.ladd, 1) := by decide +kernel
theorem dX4_digestOfTurns_134 : decode cX4_digestOfTurns 134 = .ok (.lreturn, 1) := by decide +kernel
theorem dX4_digestOfLaw_0 : decode cX4_digestOfLaw 0 = .ok (.ldc2_w 235, 3) := by decide +kernel
theorem dX4_digestOfLaw_3 : decode cX4_digestOfLaw 3 = .ok (.lload_n 1, 1) := by decide +kernel
theorem dX4_digestOfLaw_4 : decode cX4_digestOfLaw 4 = .ok (.lmul, 1) := by decide +kernel
theorem dX4_digestOfLaw_5 : decode cX4_digestOfLaw 5 = .ok (.aload_n 0, 1) := by decide +kernel
theorem dX4_digestOfLaw_6 : decode cX4_digestOfLaw 6 = .ok (.iload_n 3, 1) := by decide +kernel
theorem dX4_digestOfLaw_7 : decode cX4_digestOfLaw 7 = .ok (.invokevirtual 285, 3) := by decide +kernel
theorem dX4_digestOfLaw_10 : decode cX4_digestOfLaw 10 = .ok (.i2l, 1) := by decide +kernel
theorem dX4_digestOfLaw_11 : decode cX4_digestOfLaw 11 = .ok (.ladd, 1) := by decide +kernel
theorem dX4_digestOfLaw_12 : decode cX4_digestOfLaw 12 = .ok (.lstore 4, 2) := by decide +kernel
theorem dX4_digestOfLaw_14 : decode cX4_digestOfLaw 14 = .ok (.ldc2_w 235, 3) := by decide +kernel
theorem dX4_digestOfLaw_17 : decode cX4_digestOfLaw 17 = .ok (.lload 4, 2) := by decide +kernel
theorem dX4_digestOfLaw_19 : decode cX4_digestOfLaw 19 = .ok (.lmul, 1) := by decide +kernel
theorem dX4_digestOfLaw_20 : decode cX4_digestOfLaw 20 = .ok (.aload_n 0, 1) := by decide +kernel
theorem dX4_digestOfLaw_21 : decode cX4_digestOfLaw 21 = .ok (.iload_n 3, 1) := by decide +kernel
theorem dX4_digestOfLaw_22 : decode cX4_digestOfLaw 22 = .ok (.iconst 0, 1) := by decide +kernel
theorem dX4_digestOfLaw_23 : decode cX4_digestOfLaw 23 = .ok (.invokevirtual 288, 3) := by decide +kernel
theorem dX4_digestOfLaw_26 : decode cX4_digestOfLaw 26 = .ok (.i2l, 1) := by decide +kernel
theorem dX4_digestOfLaw_27 : decode cX4_digestOfLaw 27 = .ok (.ladd, 1) := by decide +kernel
theorem dX4_digestOfLaw_28 : decode cX4_digestOfLaw 28 = .ok (.lstore 4, 2) := by decide +kernel
theorem dX4_digestOfLaw_30 : decode cX4_digestOfLaw 30 = .ok (.ldc2_w 235, 3) := by decide +kernel
theorem dX4_digestOfLaw_33 : decode cX4_digestOfLaw 33 = .ok (.lload 4, 2) := by decide +kernel
theorem dX4_digestOfLaw_35 : decode cX4_digestOfLaw 35 = .ok (.lmul, 1) := by decide +kernel
theorem dX4_digestOfLaw_36 : decode cX4_digestOfLaw 36 = .ok (.aload_n 0, 1) := by decide +kernel
theorem dX4_digestOfLaw_37 : decode cX4_digestOfLaw 37 = .ok (.iload_n 3, 1) := by decide +kernel
theorem dX4_digestOfLaw_38 : decode cX4_digestOfLaw 38 = .ok (.iconst 1, 1) := by decide +kernel
theorem dX4_digestOfLaw_39 : decode cX4_digestOfLaw 39 = .ok (.invokevirtual 288, 3) := by decide +kernel
theorem dX4_digestOfLaw_42 : decode cX4_digestOfLaw 42 = .ok (.i2l, 1) := by decide +kernel
theorem dX4_digestOfLaw_43 : decode cX4_digestOfLaw 43 = .ok (.ladd, 1) := by decide +kernel
theorem dX4_digestOfLaw_44 : decode cX4_digestOfLaw 44 = .ok (.lstore 4, 2) := by decide +kernel
theorem dX4_digestOfLaw_46 : decode cX4_digestOfLaw 46 = .ok (.ldc2_w 235, 3) := by decide +kernel
theorem dX4_digestOfLaw_49 : decode cX4_digestOfLaw 49 = .ok (.lload 4, 2) := by decide +kernel
theorem dX4_digestOfLaw_51 : decode cX4_digestOfLaw 51 = .ok (.lmul, 1) := by decide +kernel
theorem dX4_digestOfLaw_52 : decode cX4_digestOfLaw 52 = .ok (.aload_n 0, 1) := by decide +kernel
theorem dX4_digestOfLaw_53 : decode cX4_digestOfLaw 53 = .ok (.iconst 5, 1) := by decide +kernel
theorem dX4_digestOfLaw_54 : decode cX4_digestOfLaw 54 = .ok (.iconst 1, 1) := by decide +kernel
theorem dX4_digestOfLaw_55 : decode cX4_digestOfLaw 55 = .ok (.iload_n 3, 1) := by decide +kernel
theorem dX4_digestOfLaw_56 : decode cX4_digestOfLaw 56 = .ok (.iconst 0, 1) := by decide +kernel
theorem dX4_digestOfLaw_57 : decode cX4_digestOfLaw 57 = .ok (.invokevirtual 291, 3) := by decide +kernel
theorem dX4_digestOfLaw_60 : decode cX4_digestOfLaw 60 = .ok (.ladd, 1) := by decide +kernel
theorem dX4_digestOfLaw_61 : decode cX4_digestOfLaw 61 = .ok (.lstore 4, 2) := by decide +kernel
theorem dX4_digestOfLaw_63 : decode cX4_digestOfLaw 63 = .ok (.ldc2_w 235, 3) := by decide +kernel
theorem dX4_digestOfLaw_66 : decode cX4_digestOfLaw 66 = .ok (.lload 4, 2) := by decide +kernel
theorem dX4_digestOfLaw_68 : decode cX4_digestOfLaw 68 = .ok (.lmul, 1) := by decide +kernel
theorem dX4_digestOfLaw_69 : decode cX4_digestOfLaw 69 = .ok (.aload_n 0, 1) := by decide +kernel
theorem dX4_digestOfLaw_70 : decode cX4_digestOfLaw 70 = .ok (.iconst 5, 1) := by decide +kernel
theorem dX4_digestOfLaw_71 : decode cX4_digestOfLaw 71 = .ok (.iconst 1, 1) := by decide +kernel
theorem dX4_digestOfLaw_72 : decode cX4_digestOfLaw 72 = .ok (.iload_n 3, 1) := by decide +kernel
theorem dX4_digestOfLaw_73 : decode cX4_digestOfLaw 73 = .ok (.iconst 1, 1) := by decide +kernel
theorem dX4_digestOfLaw_74 : decode cX4_digestOfLaw 74 = .ok (.invokevirtual 291, 3) := by decide +kernel
theorem dX4_digestOfLaw_77 : decode cX4_digestOfLaw 77 = .ok (.ladd, 1) := by decide +kernel
theorem dX4_digestOfLaw_78 : decode cX4_digestOfLaw 78 = .ok (.lstore 4, 2) := by decide +kernel
theorem dX4_digestOfLaw_80 : decode cX4_digestOfLaw 80 = .ok (.ldc2_w 235, 3) := by decide +kernel
theorem dX4_digestOfLaw_83 : decode cX4_digestOfLaw 83 = .ok (.lload 4, 2) := by decide +kernel
theorem dX4_digestOfLaw_85 : decode cX4_digestOfLaw 85 = .ok (.lmul, 1) := by decide +kernel
theorem dX4_digestOfLaw_86 : decode cX4_digestOfLaw 86 = .ok (.aload_n 0, 1) := by decide +kernel
theorem dX4_digestOfLaw_87 : decode cX4_digestOfLaw 87 = .ok (.bipush 7, 2) := by decide +kernel
theorem dX4_digestOfLaw_89 : decode cX4_digestOfLaw 89 = .ok (.bipush 20, 2) := by decide +kernel
theorem dX4_digestOfLaw_91 : decode cX4_digestOfLaw 91 = .ok (.iload_n 3, 1) := by decide +kernel
theorem dX4_digestOfLaw_92 : decode cX4_digestOfLaw 92 = .ok (.invokevirtual 295, 3) := by decide +kernel
theorem dX4_digestOfLaw_95 : decode cX4_digestOfLaw 95 = .ok (.i2l, 1) := by decide +kernel
theorem dX4_digestOfLaw_96 : decode cX4_digestOfLaw 96 = .ok (.ladd, 1) := by decide +kernel
theorem dX4_digestOfLaw_97 : decode cX4_digestOfLaw 97 = .ok (.lreturn, 1) := by decide +kernel
theorem dX4_below_0 : decode cX4_below 0 = .ok (.iload_n 0, 1) := by decide +kernel
theorem dX4_below_1 : decode cX4_below 1 = .ok (.ifCond .lt 12, 3) := by decide +kernel
theorem dX4_below_4 : decode cX4_below 4 = .ok (.iload_n 0, 1) := by decide +kernel
theorem dX4_below_5 : decode cX4_below 5 = .ok (.iload_n 1, 1) := by decide +kernel
theorem dX4_below_6 : decode cX4_below 6 = .ok (.if_icmp .ge 7, 3) := by decide +kernel
theorem dX4_below_9 : decode cX4_below 9 = .ok (.iconst 1, 1) := by decide +kernel
theorem dX4_below_10 : decode cX4_below 10 = .ok (.goto 4, 3) := by decide +kernel
theorem dX4_below_13 : decode cX4_below 13 = .ok (.iconst 0, 1) := by decide +kernel
theorem dX4_below_14 : decode cX4_below 14 = .ok (.ireturn, 1) := by decide +kernel
theorem dX4_areLaws_0 : decode cX4_areLaws 0 = .ok (.iload_n 0, 1) := by decide +kernel
theorem dX4_areLaws_1 : decode cX4_areLaws 1 = .ok (.ifCond .lt 14, 3) := by decide +kernel
theorem dX4_areLaws_4 : decode cX4_areLaws 4 = .ok (.iload_n 0, 1) := by decide +kernel
theorem dX4_areLaws_5 : decode cX4_areLaws 5 = .ok (.sipush 255, 3) := by decide +kernel
theorem dX4_areLaws_8 : decode cX4_areLaws 8 = .ok (.if_icmp .gt 7, 3) := by decide +kernel
theorem dX4_areLaws_11 : decode cX4_areLaws 11 = .ok (.iconst 1, 1) := by decide +kernel
theorem dX4_areLaws_12 : decode cX4_areLaws 12 = .ok (.goto 4, 3) := by decide +kernel
theorem dX4_areLaws_15 : decode cX4_areLaws 15 = .ok (.iconst 0, 1) := by decide +kernel
theorem dX4_areLaws_16 : decode cX4_areLaws 16 = .ok (.ireturn, 1) := by decide +kernel
theorem dX4_howManyOrBits_0 : decode cX4_howManyOrBits 0 = .ok (.iload_n 0, 1) := by decide +kernel
theorem dX4_howManyOrBits_1 : decode cX4_howManyOrBits 1 = .ok (.iconst (-1), 1) := by decide +kernel
theorem dX4_howManyOrBits_2 : decode cX4_howManyOrBits 2 = .ok (.if_icmp .eq 8, 3) := by decide +kernel
theorem dX4_howManyOrBits_5 : decode cX4_howManyOrBits 5 = .ok (.iload_n 1, 1) := by decide +kernel
theorem dX4_howManyOrBits_6 : decode cX4_howManyOrBits 6 = .ok (.iconst 1, 1) := by decide +kernel
theorem dX4_howManyOrBits_7 : decode cX4_howManyOrBits 7 = .ok (.if_icmp .ne 7, 3) := by decide +kernel
theorem dX4_howManyOrBits_10 : decode cX4_howManyOrBits 10 = .ok (.iload_n 0, 1) := by decide +kernel
theorem dX4_howManyOrBits_11 : decode cX4_howManyOrBits 11 = .ok (.goto 7, 3) := by decide +kernel
theorem dX4_howManyOrBits_14 : decode cX4_howManyOrBits 14 = .ok (.iload_n 0, 1) := by decide +kernel
theorem dX4_howManyOrBits_15 : decode cX4_howManyOrBits 15 = .ok (.invokestatic 139, 3) := by decide +kernel
theorem dX4_howManyOrBits_18 : decode cX4_howManyOrBits 18 = .ok (.ireturn, 1) := by decide +kernel
theorem dX4_textOf_0 : decode cX4_textOf 0 = .ok (.iload_n 1, 1) := by decide +kernel
theorem dX4_textOf_1 : decode cX4_textOf 1 = .ok (.ifCond .ne 10, 3) := by decide +kernel
theorem dX4_textOf_4 : decode cX4_textOf 4 = .ok (.aload_n 0, 1) := by decide +kernel
theorem dX4_textOf_5 : decode cX4_textOf 5 = .ok (.getfield 14, 3) := by decide +kernel
theorem dX4_textOf_8 : decode cX4_textOf 8 = .ok (.goto 7, 3) := by decide +kernel
theorem dX4_textOf_11 : decode cX4_textOf 11 = .ok (.aload_n 0, 1) := by decide +kernel
theorem dX4_textOf_12 : decode cX4_textOf 12 = .ok (.getfield 18, 3) := by decide +kernel
theorem dX4_textOf_15 : decode cX4_textOf 15 = .ok (.areturn, 1) := by decide +kernel
theorem dX4_turnsOn_0 : decode cX4_turnsOn 0 = .ok (.aload_n 0, 1) := by decide +kernel
theorem dX4_turnsOn_1 : decode cX4_turnsOn 1 = .ok (.getfield 51, 3) := by decide +kernel
theorem dX4_turnsOn_4 : decode cX4_turnsOn 4 = .ok (.iload_n 1, 1) := by decide +kernel
theorem dX4_turnsOn_5 : decode cX4_turnsOn 5 = .ok (.aload_n 0, 1) := by decide +kernel
theorem dX4_turnsOn_6 : decode cX4_turnsOn 6 = .ok (.getfield 55, 3) := by decide +kernel
theorem dX4_turnsOn_9 : decode cX4_turnsOn 9 = .ok (.imul, 1) := by decide +kernel
theorem dX4_turnsOn_10 : decode cX4_turnsOn 10 = .ok (.iadd, 1) := by decide +kernel
theorem dX4_turnsOn_11 : decode cX4_turnsOn 11 = .ok (.iconst 4, 1) := by decide +kernel
theorem dX4_turnsOn_12 : decode cX4_turnsOn 12 = .ok (.irem, 1) := by decide +kernel
theorem dX4_turnsOn_13 : decode cX4_turnsOn 13 = .ok (.ireturn, 1) := by decide +kernel
theorem dX4_brokenDeeds_0 : decode cX4_brokenDeeds 0 = .ok (.iconst 0, 1) := by decide +kernel
theorem dX4_brokenDeeds_1 : decode cX4_brokenDeeds 1 = .ok (.istore_n 2, 1) := by decide +kernel
theorem dX4_brokenDeeds_2 : decode cX4_brokenDeeds 2 = .ok (.iconst 0, 1) := by decide +kernel
theorem dX4_brokenDeeds_3 : decode cX4_brokenDeeds 3 = .ok (.istore_n 3, 1) := by decide +kernel
theorem dX4_brokenDeeds_4 : decode cX4_brokenDeeds 4 = .ok (.iload_n 3, 1) := by decide +kernel
theorem dX4_brokenDeeds_5 : decode cX4_brokenDeeds 5 = .ok (.aload_n 0, 1) := by decide +kernel
theorem dX4_brokenDeeds_6 : decode cX4_brokenDeeds 6 = .ok (.getfield 30, 3) := by decide +kernel
theorem dX4_brokenDeeds_9 : decode cX4_brokenDeeds 9 = .ok (.getfield 229, 3) := by decide +kernel
theorem dX4_brokenDeeds_12 : decode cX4_brokenDeeds 12 = .ok (.if_icmp .ge 44, 3) := by decide +kernel
theorem dX4_brokenDeeds_15 : decode cX4_brokenDeeds 15 = .ok (.aload_n 1, 1) := by decide +kernel
theorem dX4_brokenDeeds_16 : decode cX4_brokenDeeds 16 = .ok (.aload_n 0, 1) := by decide +kernel
theorem dX4_brokenDeeds_17 : decode cX4_brokenDeeds 17 = .ok (.aload_n 0, 1) := by decide +kernel
theorem dX4_brokenDeeds_18 : decode cX4_brokenDeeds 18 = .ok (.getfield 30, 3) := by decide +kernel
theorem dX4_brokenDeeds_21 : decode cX4_brokenDeeds 21 = .ok (.getfield 298, 3) := by decide +kernel
theorem dX4_brokenDeeds_24 : decode cX4_brokenDeeds 24 = .ok (.iload_n 3, 1) := by decide +kernel
theorem dX4_brokenDeeds_25 : decode cX4_brokenDeeds 25 = .ok (.iaload, 1) := by decide +kernel
theorem dX4_brokenDeeds_26 : decode cX4_brokenDeeds 26 = .ok (.invokevirtual 119, 3) := by decide +kernel
theorem dX4_brokenDeeds_29 : decode cX4_brokenDeeds 29 = .ok (.aload_n 0, 1) := by decide +kernel
theorem dX4_brokenDeeds_30 : decode cX4_brokenDeeds 30 = .ok (.getfield 30, 3) := by decide +kernel
theorem dX4_brokenDeeds_33 : decode cX4_brokenDeeds 33 = .ok (.getfield 301, 3) := by decide +kernel
theorem dX4_brokenDeeds_36 : decode cX4_brokenDeeds 36 = .ok (.iload_n 3, 1) := by decide +kernel
theorem dX4_brokenDeeds_37 : decode cX4_brokenDeeds 37 = .ok (.iaload, 1) := by decide +kernel
theorem dX4_brokenDeeds_38 : decode cX4_brokenDeeds 38 = .ok (.invokevirtual 129, 3) := by decide +kernel
theorem dX4_brokenDeeds_41 : decode cX4_brokenDeeds 41 = .ok (.ifCond .eq 9, 3) := by decide +kernel
theorem dX4_brokenDeeds_44 : decode cX4_brokenDeeds 44 = .ok (.iload_n 2, 1) := by decide +kernel
theorem dX4_brokenDeeds_45 : decode cX4_brokenDeeds 45 = .ok (.iconst 1, 1) := by decide +kernel
theorem dX4_brokenDeeds_46 : decode cX4_brokenDeeds 46 = .ok (.iload_n 3, 1) := by decide +kernel
theorem dX4_brokenDeeds_47 : decode cX4_brokenDeeds 47 = .ok (.ishl, 1) := by decide +kernel
theorem dX4_brokenDeeds_48 : decode cX4_brokenDeeds 48 = .ok (.ior, 1) := by decide +kernel
theorem dX4_brokenDeeds_49 : decode cX4_brokenDeeds 49 = .ok (.istore_n 2, 1) := by decide +kernel
theorem dX4_brokenDeeds_50 : decode cX4_brokenDeeds 50 = .ok (.iinc 3 1, 3) := by decide +kernel
theorem dX4_brokenDeeds_53 : decode cX4_brokenDeeds 53 = .ok (.goto (-49), 3) := by decide +kernel
theorem dX4_brokenDeeds_56 : decode cX4_brokenDeeds 56 = .ok (.iload_n 2, 1) := by decide +kernel
theorem dX4_brokenDeeds_57 : decode cX4_brokenDeeds 57 = .ok (.ireturn, 1) := by decide +kernel
theorem dX4_earliestDeed_0 : decode cX4_earliestDeed 0 = .ok (.iconst (-1), 1) := by decide +kernel
theorem dX4_earliestDeed_1 : decode cX4_earliestDeed 1 = .ok (.istore_n 2, 1) := by decide +kernel
theorem dX4_earliestDeed_2 : decode cX4_earliestDeed 2 = .ok (.bipush 28, 2) := by decide +kernel
theorem dX4_earliestDeed_4 : decode cX4_earliestDeed 4 = .ok (.istore_n 3, 1) := by decide +kernel
theorem dX4_earliestDeed_5 : decode cX4_earliestDeed 5 = .ok (.iconst 0, 1) := by decide +kernel
theorem dX4_earliestDeed_6 : decode cX4_earliestDeed 6 = .ok (.istore 4, 2) := by decide +kernel
theorem dX4_earliestDeed_8 : decode cX4_earliestDeed 8 = .ok (.iload 4, 2) := by decide +kernel
theorem dX4_earliestDeed_10 : decode cX4_earliestDeed 10 = .ok (.aload_n 0, 1) := by decide +kernel
theorem dX4_earliestDeed_11 : decode cX4_earliestDeed 11 = .ok (.getfield 30, 3) := by decide +kernel
theorem dX4_earliestDeed_14 : decode cX4_earliestDeed 14 = .ok (.getfield 229, 3) := by decide +kernel
theorem dX4_earliestDeed_17 : decode cX4_earliestDeed 17 = .ok (.if_icmp .ge 47, 3) := by decide +kernel
theorem dX4_earliestDeed_20 : decode cX4_earliestDeed 20 = .ok (.iload_n 1, 1) := by decide +kernel
theorem dX4_earliestDeed_21 : decode cX4_earliestDeed 21 = .ok (.iload 4, 2) := by decide +kernel
theorem dX4_earliestDeed_23 : decode cX4_earliestDeed 23 = .ok (.ishr, 1) := by decide +kernel
theorem dX4_earliestDeed_24 : decode cX4_earliestDeed 24 = .ok (.iconst 1, 1) := by decide +kernel
theorem dX4_earliestDeed_25 : decode cX4_earliestDeed 25 = .ok (.iand, 1) := by decide +kernel
theorem dX4_earliestDeed_26 : decode cX4_earliestDeed 26 = .ok (.iconst 1, 1) := by decide +kernel
theorem dX4_earliestDeed_27 : decode cX4_earliestDeed 27 = .ok (.if_icmp .ne 31, 3) := by decide +kernel
theorem dX4_earliestDeed_30 : decode cX4_earliestDeed 30 = .ok (.aload_n 0, 1) := by decide +kernel
theorem dX4_earliestDeed_31 : decode cX4_earliestDeed 31 = .ok (.getfield 30, 3) := by decide +kernel
theorem dX4_earliestDeed_34 : decode cX4_earliestDeed 34 = .ok (.getfield 298, 3) := by decide +kernel
theorem dX4_earliestDeed_37 : decode cX4_earliestDeed 37 = .ok (.iload 4, 2) := by decide +kernel
theorem dX4_earliestDeed_39 : decode cX4_earliestDeed 39 = .ok (.iaload, 1) := by decide +kernel
theorem dX4_earliestDeed_40 : decode cX4_earliestDeed 40 = .ok (.iload_n 3, 1) := by decide +kernel
theorem dX4_earliestDeed_41 : decode cX4_earliestDeed 41 = .ok (.if_icmp .ge 17, 3) := by decide +kernel
theorem dX4_earliestDeed_44 : decode cX4_earliestDeed 44 = .ok (.iload 4, 2) := by decide +kernel
theorem dX4_earliestDeed_46 : decode cX4_earliestDeed 46 = .ok (.istore_n 2, 1) := by decide +kernel
theorem dX4_earliestDeed_47 : decode cX4_earliestDeed 47 = .ok (.aload_n 0, 1) := by decide +kernel
theorem dX4_earliestDeed_48 : decode cX4_earliestDeed 48 = .ok (.getfield 30, 3) := by decide +kernel
theorem dX4_earliestDeed_51 : decode cX4_earliestDeed 51 = .ok (.getfield 298, 3) := by decide +kernel
theorem dX4_earliestDeed_54 : decode cX4_earliestDeed 54 = .ok (.iload 4, 2) := by decide +kernel
theorem dX4_earliestDeed_56 : decode cX4_earliestDeed 56 = .ok (.iaload, 1) := by decide +kernel
theorem dX4_earliestDeed_57 : decode cX4_earliestDeed 57 = .ok (.istore_n 3, 1) := by decide +kernel
theorem dX4_earliestDeed_58 : decode cX4_earliestDeed 58 = .ok (.iinc 4 1, 3) := by decide +kernel
theorem dX4_earliestDeed_61 : decode cX4_earliestDeed 61 = .ok (.goto (-53), 3) := by decide +kernel
theorem dX4_earliestDeed_64 : decode cX4_earliestDeed 64 = .ok (.iload_n 2, 1) := by decide +kernel
theorem dX4_earliestDeed_65 : decode cX4_earliestDeed 65 = .ok (.ireturn, 1) := by decide +kernel
theorem dX4_wouldFit_0 : decode cX4_wouldFit 0 = .ok (.iconst 0, 1) := by decide +kernel
theorem dX4_wouldFit_1 : decode cX4_wouldFit 1 = .ok (.istore 4, 2) := by decide +kernel
theorem dX4_wouldFit_3 : decode cX4_wouldFit 3 = .ok (.iload 4, 2) := by decide +kernel
theorem dX4_wouldFit_5 : decode cX4_wouldFit 5 = .ok (.aload_n 0, 1) := by decide +kernel
theorem dX4_wouldFit_6 : decode cX4_wouldFit 6 = .ok (.getfield 33, 3) := by decide +kernel
theorem dX4_wouldFit_9 : decode cX4_wouldFit 9 = .ok (.getfield 229, 3) := by decide +kernel
theorem dX4_wouldFit_12 : decode cX4_wouldFit 12 = .ok (.if_icmp .ge 40, 3) := by decide +kernel
theorem dX4_wouldFit_15 : decode cX4_wouldFit 15 = .ok (.aload_n 1, 1) := by decide +kernel
theorem dX4_wouldFit_16 : decode cX4_wouldFit 16 = .ok (.iload_n 2, 1) := by decide +kernel
theorem dX4_wouldFit_17 : decode cX4_wouldFit 17 = .ok (.iload_n 3, 1) := by decide +kernel
theorem dX4_wouldFit_18 : decode cX4_wouldFit 18 = .ok (.aload_n 0, 1) := by decide +kernel
theorem dX4_wouldFit_19 : decode cX4_wouldFit 19 = .ok (.getfield 33, 3) := by decide +kernel
theorem dX4_wouldFit_22 : decode cX4_wouldFit 22 = .ok (.getfield 298, 3) := by decide +kernel
theorem dX4_wouldFit_25 : decode cX4_wouldFit 25 = .ok (.iload 4, 2) := by decide +kernel
theorem dX4_wouldFit_27 : decode cX4_wouldFit 27 = .ok (.iaload, 1) := by decide +kernel
theorem dX4_wouldFit_28 : decode cX4_wouldFit 28 = .ok (.invokevirtual 304, 3) := by decide +kernel
theorem dX4_wouldFit_31 : decode cX4_wouldFit 31 = .ok (.aload_n 0, 1) := by decide +kernel
theorem dX4_wouldFit_32 : decode cX4_wouldFit 32 = .ok (.getfield 33, 3) := by decide +kernel
theorem dX4_wouldFit_35 : decode cX4_wouldFit 35 = .ok (.getfield 301, 3) := by decide +kernel
theorem dX4_wouldFit_38 : decode cX4_wouldFit 38 = .ok (.iload 4, 2) := by decide +kernel
theorem dX4_wouldFit_40 : decode cX4_wouldFit 40 = .ok (.iaload, 1) := by decide +kernel
theorem dX4_wouldFit_41 : decode cX4_wouldFit 41 = .ok (.if_icmp .eq 5, 3) := by decide +kernel
theorem dX4_wouldFit_44 : decode cX4_wouldFit 44 = .ok (.iconst 0, 1) := by decide +kernel
theorem dX4_wouldFit_45 : decode cX4_wouldFit 45 = .ok (.ireturn, 1) := by decide +kernel
theorem dX4_wouldFit_46 : decode cX4_wouldFit 46 = .ok (.iinc 4 1, 3) := by decide +kernel
theorem dX4_wouldFit_49 : decode cX4_wouldFit 49 = .ok (.goto (-46), 3) := by decide +kernel
theorem dX4_wouldFit_52 : decode cX4_wouldFit 52 = .ok (.iconst 1, 1) := by decide +kernel
theorem dX4_wouldFit_53 : decode cX4_wouldFit 53 = .ok (.ireturn, 1) := by decide +kernel
theorem dX4_rulesWithPlus_0 : decode cX4_rulesWithPlus 0 = .ok (.iconst 0, 1) := by decide +kernel
theorem dX4_rulesWithPlus_1 : decode cX4_rulesWithPlus 1 = .ok (.istore_n 1, 1) := by decide +kernel
theorem dX4_rulesWithPlus_2 : decode cX4_rulesWithPlus 2 = .ok (.iconst 0, 1) := by decide +kernel
theorem dX4_rulesWithPlus_3 : decode cX4_rulesWithPlus 3 = .ok (.istore_n 2, 1) := by decide +kernel
theorem dX4_rulesWithPlus_4 : decode cX4_rulesWithPlus 4 = .ok (.iload_n 2, 1) := by decide +kernel
theorem dX4_rulesWithPlus_5 : decode cX4_rulesWithPlus 5 = .ok (.aload_n 0, 1) := by decide +kernel
theorem dX4_rulesWithPlus_6 : decode cX4_rulesWithPlus 6 = .ok (.getfield 18, 3) := by decide +kernel
theorem dX4_rulesWithPlus_9 : decode cX4_rulesWithPlus 9 = .ok (.getfield 88, 3) := by decide +kernel
theorem dX4_rulesWithPlus_12 : decode cX4_rulesWithPlus 12 = .ok (.if_icmp .ge 21, 3) := by decide +kernel
theorem dX4_rulesWithPlus_15 : decode cX4_rulesWithPlus 15 = .ok (.iload_n 1, 1) := by decide +kernel
theorem dX4_rulesWithPlus_16 : decode cX4_rulesWithPlus 16 = .ok (.aload_n 0, 1) := by decide +kernel
theorem dX4_rulesWithPlus_17 : decode cX4_rulesWithPlus 17 = .ok (.getfield 18, 3) := by decide +kernel
theorem dX4_rulesWithPlus_20 : decode cX4_rulesWithPlus 20 = .ok (.iload_n 2, 1) := by decide +kernel
theorem dX4_rulesWithPlus_21 : decode cX4_rulesWithPlus 21 = .ok (.iconst 3, 1) := by decide +kernel
theorem dX4_rulesWithPlus_22 : decode cX4_rulesWithPlus 22 = .ok (.invokevirtual 91, 3) := by decide +kernel
theorem dX4_rulesWithPlus_25 : decode cX4_rulesWithPlus 25 = .ok (.iadd, 1) := by decide +kernel
theorem dX4_rulesWithPlus_26 : decode cX4_rulesWithPlus 26 = .ok (.istore_n 1, 1) := by decide +kernel
theorem dX4_rulesWithPlus_27 : decode cX4_rulesWithPlus 27 = .ok (.iinc 2 1, 3) := by decide +kernel
theorem dX4_rulesWithPlus_30 : decode cX4_rulesWithPlus 30 = .ok (.goto (-26), 3) := by decide +kernel
theorem dX4_rulesWithPlus_33 : decode cX4_rulesWithPlus 33 = .ok (.iload_n 1, 1) := by decide +kernel
theorem dX4_rulesWithPlus_34 : decode cX4_rulesWithPlus 34 = .ok (.ireturn, 1) := by decide +kernel
theorem dX4_find_0 : decode cX4_find 0 = .ok (.aload_n 0, 1) := by decide +kernel
theorem dX4_find_1 : decode cX4_find 1 = .ok (.iload_n 1, 1) := by decide +kernel
theorem dX4_find_2 : decode cX4_find 2 = .ok (.putfield 58, 3) := by decide +kernel
theorem dX4_find_5 : decode cX4_find 5 = .ok (.bipush (-10), 2) := by decide +kernel
theorem dX4_find_7 : decode cX4_find 7 = .ok (.iload_n 1, 1) := by decide +kernel
theorem dX4_find_8 : decode cX4_find 8 = .ok (.isub, 1) := by decide +kernel
theorem dX4_find_9 : decode cX4_find 9 = .ok (.ireturn, 1) := by decide +kernel
theorem dX4_itemFinding_0 : decode cX4_itemFinding 0 = .ok (.aload_n 0, 1) := by decide +kernel
theorem dX4_itemFinding_1 : decode cX4_itemFinding 1 = .ok (.invokevirtual 161, 3) := by decide +kernel
theorem dX4_itemFinding_4 : decode cX4_itemFinding 4 = .ok (.ifCond .eq 5, 3) := by decide +kernel
theorem dX4_itemFinding_7 : decode cX4_itemFinding 7 = .ok (.iconst 1, 1) := by decide +kernel
theorem dX4_itemFinding_8 : decode cX4_itemFinding 8 = .ok (.ireturn, 1) := by decide +kernel
theorem dX4_itemFinding_9 : decode cX4_itemFinding 9 = .ok (.aload_n 0, 1) := by decide +kernel
theorem dX4_itemFinding_10 : decode cX4_itemFinding 10 = .ok (.getfield 214, 3) := by decide +kernel
theorem dX4_itemFinding_13 : decode cX4_itemFinding 13 = .ok (.iload_n 1, 1) := by decide +kernel
theorem dX4_itemFinding_14 : decode cX4_itemFinding 14 = .ok (.if_icmp .eq 5, 3) := by decide +kernel
theorem dX4_itemFinding_17 : decode cX4_itemFinding 17 = .ok (.iconst 3, 1) := by decide +kernel
theorem dX4_itemFinding_18 : decode cX4_itemFinding 18 = .ok (.ireturn, 1) := by decide +kernel
theorem dX4_itemFinding_19 : decode cX4_itemFinding 19 = .ok (.iload_n 2, 1) := by decide +kernel
theorem dX4_itemFinding_20 : decode cX4_itemFinding 20 = .ok (.aload_n 0, 1) := by decide +kernel
theorem dX4_itemFinding_21 : decode cX4_itemFinding 21 = .ok (.getfield 168, 3) := by decide +kernel
theorem dX4_itemFinding_24 : decode cX4_itemFinding 24 = .ok (.invokestatic 62, 3) := by decide +kernel
theorem dX4_itemFinding_27 : decode cX4_itemFinding 27 = .ok (.ifCond .eq 7, 3) := by decide +kernel
theorem dX4_itemFinding_30 : decode cX4_itemFinding 30 = .ok (.iconst 0, 1) := by decide +kernel
theorem dX4_itemFinding_31 : decode cX4_itemFinding 31 = .ok (.goto 4, 3) := by decide +kernel
theorem dX4_itemFinding_34 : decode cX4_itemFinding 34 = .ok (.iconst 2, 1) := by decide +kernel
theorem dX4_itemFinding_35 : decode cX4_itemFinding 35 = .ok (.ireturn, 1) := by decide +kernel
end
section
theorem dX5_init_0 : decode cX5_init 0 = .ok (.aload_n 0, 1) := by decide +kernel
theorem dX5_init_1 : decode cX5_init 1 = .ok (.invokespecial 1, 3) := by decide +kernel
theorem dX5_init_4 : decode cX5_init 4 = .ok (.aload_n 0, 1) := by decide +kernel
theorem dX5_init_5 : decode cX5_init 5 = .ok (.iconst 4, 1) := by decide +kernel
theorem dX5_init_6 : decode cX5_init 6 = .ok (.newarray .int, 2) := by decide +kernel
theorem dX5_init_8 : decode cX5_init 8 = .ok (.putfield 7, 3) := by decide +kernel
theorem dX5_init_11 : decode cX5_init 11 = .ok (.aload_n 0, 1) := by decide +kernel
theorem dX5_init_12 : decode cX5_init 12 = .ok (.iconst 4, 1) := by decide +kernel
theorem dX5_init_13 : decode cX5_init 13 = .ok (.newarray .int, 2) := by decide +kernel
theorem dX5_init_15 : decode cX5_init 15 = .ok (.putfield 13, 3) := by decide +kernel
theorem dX5_init_18 : decode cX5_init 18 = .ok (.aload_n 0, 1) := by decide +kernel
theorem dX5_init_19 : decode cX5_init 19 = .ok (.sipush 240, 3) := by decide +kernel
theorem dX5_init_22 : decode cX5_init 22 = .ok (.newarray .int, 2) := by decide +kernel
theorem dX5_init_24 : decode cX5_init 24 = .ok (.putfield 16, 3) := by decide +kernel
theorem dX5_init_27 : decode cX5_init 27 = .ok (.aload_n 0, 1) := by decide +kernel
theorem dX5_init_28 : decode cX5_init 28 = .ok (.bipush 60, 2) := by decide +kernel
theorem dX5_init_30 : decode cX5_init 30 = .ok (.newarray .int, 2) := by decide +kernel
theorem dX5_init_32 : decode cX5_init 32 = .ok (.putfield 19, 3) := by decide +kernel
theorem dX5_init_35 : decode cX5_init 35 = .ok (.aload_n 0, 1) := by decide +kernel
theorem dX5_init_36 : decode cX5_init 36 = .ok (.bipush 120, 2) := by decide +kernel
theorem dX5_init_38 : decode cX5_init 38 = .ok (.newarray .int, 2) := by decide +kernel
theorem dX5_init_40 : decode cX5_init 40 = .ok (.putfield 22, 3) := by decide +kernel
theorem dX5_init_43 : decode cX5_init 43 = .ok (.aload_n 0, 1) := by decide +kernel
theorem dX5_init_44 : decode cX5_init 44 = .ok (.iconst 2, 1) := by decide +kernel
theorem dX5_init_45 : decode cX5_init 45 = .ok (.newarray .int, 2) := by decide +kernel
theorem dX5_init_47 : decode cX5_init 47 = .ok (.putfield 25, 3) := by decide +kernel
theorem dX5_init_50 : decode cX5_init 50 = .ok (.aload_n 0, 1) := by decide +kernel
theorem dX5_init_51 : decode cX5_init 51 = .ok (.bipush 39, 2) := by decide +kernel
theorem dX5_init_53 : decode cX5_init 53 = .ok (.newarray .int, 2) := by decide +kernel
theorem dX5_init_55 : decode cX5_init 55 = .ok (.putfield 28, 3) := by decide +kernel
theorem dX5_init_58 : decode cX5_init 58 = .ok (.aload_n 0, 1) := by decide +kernel
theorem dX5_init_59 : decode cX5_init 59 = .ok (.bipush 50, 2) := by decide +kernel
theorem dX5_init_61 : decode cX5_init 61 = .ok (.newarray .int, 2) := by decide +kernel
theorem dX5_init_63 : decode cX5_init 63 = .ok (.putfield 31, 3) := by decide +kernel
theorem dX5_init_66 : decode cX5_init 66 = .ok (.aload_n 0, 1) := by decide +kernel
theorem dX5_init_67 : decode cX5_init 67 = .ok (.bipush 16, 2) := by decide +kernel
theorem dX5_init_69 : decode cX5_init 69 = .ok (.newarray .int, 2) := by decide +kernel
theorem dX5_init_71 : decode cX5_init 71 = .ok (.putfield 34, 3) := by decide +kernel
theorem dX5_init_74 : decode cX5_init 74 = .ok (.aload_n 0, 1) := by decide +kernel
theorem dX5_init_75 : decode cX5_init 75 = .ok (.bipush 24, 2) := by decide +kernel
theorem dX5_init_77 : decode cX5_init 77 = .ok (.newarray .int, 2) := by decide +kernel
theorem dX5_init_79 : decode cX5_init 79 = .ok (.putfield 37, 3) := by decide +kernel
theorem dX5_init_82 : decode cX5_init 82 = .ok (.aload_n 0, 1) := by decide +kernel
theorem dX5_init_83 : decode cX5_init 83 = .ok (.iconst 2, 1) := by decide +kernel
theorem dX5_init_84 : decode cX5_init 84 = .ok (.newarray .int, 2) := by decide +kernel
theorem dX5_init_86 : decode cX5_init 86 = .ok (.putfield 40, 3) := by decide +kernel
theorem dX5_init_89 : decode cX5_init 89 = .ok (.aload_n 0, 1) := by decide +kernel
theorem dX5_init_90 : decode cX5_init 90 = .ok (.bipush 13, 2) := by decide +kernel
theorem dX5_init_92 : decode cX5_init 92 = .ok (.newarray .int, 2) := by decide +kernel
theorem dX5_init_94 : decode cX5_init 94 = .ok (.putfield 43, 3) := by decide +kernel
theorem dX5_init_97 : decode cX5_init 97 = .ok (.aload_n 0, 1) := by decide +kernel
theorem dX5_init_98 : decode cX5_init 98 = .ok (.bipush 13, 2) := by decide +kernel
theorem dX5_init_100 : decode cX5_init 100 = .ok (.newarray .int, 2) := by decide +kernel
theorem dX5_init_102 : decode cX5_init 102 = .ok (.putfield 46, 3) := by decide +kernel
theorem dX5_init_105 : decode cX5_init 105 = .ok (.aload_n 0, 1) := by decide +kernel
theorem dX5_init_106 : decode cX5_init 106 = .ok (.sipush 130, 3) := by decide +kernel
theorem dX5_init_109 : decode cX5_init 109 = .ok (.newarray .int, 2) := by decide +kernel
theorem dX5_init_111 : decode cX5_init 111 = .ok (.putfield 49, 3) := by decide +kernel
theorem dX5_init_114 : decode cX5_init 114 = .ok (.aload_n 0, 1) := by decide +kernel
theorem dX5_init_115 : decode cX5_init 115 = .ok (.bipush 16, 2) := by decide +kernel
theorem dX5_init_117 : decode cX5_init 117 = .ok (.newarray .int, 2) := by decide +kernel
theorem dX5_init_119 : decode cX5_init 119 = .ok (.putfield 52, 3) := by decide +kernel
theorem dX5_init_122 : decode cX5_init 122 = .ok (.iconst 0, 1) := by decide +kernel
theorem dX5_init_123 : decode cX5_init 123 = .ok (.istore_n 1, 1) := by decide +kernel
theorem dX5_init_124 : decode cX5_init 124 = .ok (.iload_n 1, 1) := by decide +kernel
theorem dX5_init_125 : decode cX5_init 125 = .ok (.iconst 4, 1) := by decide +kernel
theorem dX5_init_126 : decode cX5_init 126 = .ok (.if_icmp .ge 16, 3) := by decide +kernel
theorem dX5_init_129 : decode cX5_init 129 = .ok (.aload_n 0, 1) := by decide +kernel
theorem dX5_init_130 : decode cX5_init 130 = .ok (.getfield 7, 3) := by decide +kernel
theorem dX5_init_133 : decode cX5_init 133 = .ok (.iload_n 1, 1) := by decide +kernel
theorem dX5_init_134 : decode cX5_init 134 = .ok (.iconst (-1), 1) := by decide +kernel
theorem dX5_init_135 : decode cX5_init 135 = .ok (.iastore, 1) := by decide +kernel
theorem dX5_init_136 : decode cX5_init 136 = .ok (.iinc 1 1, 3) := by decide +kernel
theorem dX5_init_139 : decode cX5_init 139 = .ok (.goto (-15), 3) := by decide +kernel
theorem dX5_init_142 : decode cX5_init 142 = .ok (.aload_n 0, 1) := by decide +kernel
theorem dX5_init_143 : decode cX5_init 143 = .ok (.getfield 40, 3) := by decide +kernel
theorem dX5_init_146 : decode cX5_init 146 = .ok (.iconst 1, 1) := by decide +kernel
theorem dX5_init_147 : decode cX5_init 147 = .ok (.iconst 1, 1) := by decide +kernel
theorem dX5_init_148 : decode cX5_init 148 = .ok (.iastore, 1) := by decide +kernel
theorem dX5_init_149 : decode cX5_init 149 = .ok (.aload_n 0, 1) := by decide +kernel
theorem dX5_init_150 : decode cX5_init 150 = .ok (.iconst (-1), 1) := by decide +kernel
theorem dX5_init_151 : decode cX5_init 151 = .ok (.putfield 55, 3) := by decide +kernel
theorem dX5_init_154 : decode cX5_init 154 = .ok (.return_, 1) := by decide +kernel
theorem dX5_in_0 : decode cX5_in 0 = .ok (.lload_n 0, 1) := by decide +kernel
theorem dX5_in_1 : decode cX5_in 1 = .ok (.lload_n 2, 1) := by decide +kernel
theorem dX5_in_2 : decode cX5_in 2 = .ok (.lcmp, 1) := by decide +kernel
theorem dX5_in_3 : decode cX5_in 3 = .ok (.ifCond .lt 14, 3) := by decide +kernel
theorem dX5_in_6 : decode cX5_in 6 = .ok (.lload_n 0, 1) := by decide +kernel
theorem dX5_in_7 : decode cX5_in 7 = .ok (.lload 4, 2) := by decide +kernel
theorem dX5_in_9 : decode cX5_in 9 = .ok (.lcmp, 1) := by decide +kernel
theorem dX5_in_10 : decode cX5_in 10 = .ok (.ifCond .gt 7, 3) := by decide +kernel
theorem dX5_in_13 : decode cX5_in 13 = .ok (.iconst 1, 1) := by decide +kernel
theorem dX5_in_14 : decode cX5_in 14 = .ok (.goto 4, 3) := by decide +kernel
theorem dX5_in_17 : decode cX5_in 17 = .ok (.iconst 0, 1) := by decide +kernel
theorem dX5_in_18 : decode cX5_in 18 = .ok (.ireturn, 1) := by decide +kernel
theorem dX5_no_0 : decode cX5_no 0 = .ok (.ldc2_w 59, 3) := by decide +kernel
theorem dX5_no_3 : decode cX5_no 3 = .ok (.iload_n 0, 1) := by decide +kernel
theorem dX5_no_4 : decode cX5_no 4 = .ok (.i2l, 1) := by decide +kernel
theorem dX5_no_5 : decode cX5_no 5 = .ok (.lsub, 1) := by decide +kernel
theorem dX5_no_6 : decode cX5_no 6 = .ok (.lreturn, 1) := by decide +kernel
theorem dX5_isTwo_0 : decode cX5_isTwo 0 = .ok (.iload_n 0, 1) := by decide +kernel
theorem dX5_isTwo_1 : decode cX5_isTwo 1 = .ok (.i2l, 1) := by decide +kernel
theorem dX5_isTwo_2 : decode cX5_isTwo 2 = .ok (.lconst 0, 1) := by decide +kernel
theorem dX5_isTwo_3 : decode cX5_isTwo 3 = .ok (.lconst 1, 1) := by decide +kernel
theorem dX5_isTwo_4 : decode cX5_isTwo 4 = .ok (.invokestatic 61, 3) := by decide +kernel
theorem dX5_isTwo_7 : decode cX5_isTwo 7 = .ok (.ireturn, 1) := by decide +kernel
theorem dX5_isIn_0 : decode cX5_isIn 0 = .ok (.iload_n 0, 1) := by decide +kernel
theorem dX5_isIn_1 : decode cX5_isIn 1 = .ok (.iload_n 1, 1) := by decide +kernel
theorem dX5_isIn_2 : decode cX5_isIn 2 = .ok (.ishr, 1) := by decide +kernel
theorem dX5_isIn_3 : decode cX5_isIn 3 = .ok (.iconst 1, 1) := by decide +kernel
theorem dX5_isIn_4 : decode cX5_isIn 4 = .ok (.iand, 1) := by decide +kernel
theorem dX5_isIn_5 : decode cX5_isIn 5 = .ok (.iconst 1, 1) := by decide +kernel
theorem dX5_isIn_6 : decode cX5_isIn 6 = .ok (.if_icmp .ne 7, 3) := by decide +kernel
theorem dX5_isIn_9 : decode cX5_isIn 9 = .ok (.iconst 1, 1) := by decide +kernel
theorem dX5_isIn_10 : decode cX5_isIn 10 = .ok (.goto 4, 3) := by decide +kernel
theorem dX5_isIn_13 : decode cX5_isIn 13 = .ok (.iconst 0, 1) := by decide +kernel
theorem dX5_isIn_14 : decode cX5_isIn 14 = .ok (.ireturn, 1) := by decide +kernel
theorem dX5_ones_0 : decode cX5_ones 0 = .ok (.iconst 0, 1) := by decide +kernel
theorem dX5_ones_1 : decode cX5_ones 1 = .ok (.istore_n 1, 1) := by decide +kernel
theorem dX5_ones_2 : decode cX5_ones 2 = .ok (.iload_n 0, 1) := by decide +kernel
theorem dX5_ones_3 : decode cX5_ones 3 = .ok (.istore_n 2, 1) := by decide +kernel
theorem dX5_ones_4 : decode cX5_ones 4 = .ok (.iload_n 2, 1) := by decide +kernel
theorem dX5_ones_5 : decode cX5_ones 5 = .ok (.ifCond .eq 15, 3) := by decide +kernel
theorem dX5_ones_8 : decode cX5_ones 8 = .ok (.iinc 1 1, 3) := by decide +kernel
theorem dX5_ones_11 : decode cX5_ones 11 = .ok (.iload_n 2, 1) := by decide +kernel
theorem dX5_ones_12 : decode cX5_ones 12 = .ok (.iload_n 2, 1) := by decide +kernel
theorem dX5_ones_13 : decode cX5_ones 13 = .ok (.iconst 1, 1) := by decide +kernel
theorem dX5_ones_14 : decode cX5_ones 14 = .ok (.isub, 1) := by decide +kernel
theorem dX5_ones_15 : decode cX5_ones 15 = .ok (.iand, 1) := by decide +kernel
theorem dX5_ones_16 : decode cX5_ones 16 = .ok (.istore_n 2, 1) := by decide +kernel
theorem dX5_ones_17 : decode cX5_ones 17 = .ok (.goto (-13), 3) := by decide +kernel
theorem dX5_ones_20 : decode cX5_ones 20 = .ok (.iload_n 1, 1) := by decide +kernel
theorem dX5_ones_21 : decode cX5_ones 21 = .ok (.ireturn, 1) := by decide +kernel
theorem dX5_amount_0 : decode cX5_amount 0 = .ok (.iload_n 0, 1) := by decide +kernel
theorem dX5_amount_1 : decode cX5_amount 1 = .ok (.ifCond .ge 8, 3) := by decide +kernel
theorem dX5_amount_4 : decode cX5_amount 4 = .ok (.iload_n 0, 1) := by decide +kernel
theorem dX5_amount_5 : decode cX5_amount 5 = .ok (.ineg, 1) := by decide +kernel
theorem dX5_amount_6 : decode cX5_amount 6 = .ok (.goto 4, 3) := by decide +kernel
theorem dX5_amount_9 : decode cX5_amount 9 = .ok (.iload_n 0, 1) := by decide +kernel
theorem dX5_amount_10 : decode cX5_amount 10 = .ok (.ireturn, 1) := by decide +kernel
theorem dX5_part_0 : decode cX5_part 0 = .ok (.lload_n 0, 1) := by decide +kernel
theorem dX5_part_1 : decode cX5_part 1 = .ok (.lstore 5, 2) := by decide +kernel
theorem dX5_part_3 : decode cX5_part 3 = .ok (.lload_n 2, 1) := by decide +kernel
theorem dX5_part_4 : decode cX5_part 4 = .ok (.lstore 7, 2) := by decide +kernel
theorem dX5_part_6 : decode cX5_part 6 = .ok (.lload 7, 2) := by decide +kernel
theorem dX5_part_8 : decode cX5_part 8 = .ok (.lconst 0, 1) := by decide +kernel
theorem dX5_part_9 : decode cX5_part 9 = .ok (.lcmp, 1) := by decide +kernel
theorem dX5_part_10 : decode cX5_part 10 = .ok (.ifCond .eq 21, 3) := by decide +kernel
theorem dX5_part_13 : decode cX5_part 13 = .ok (.lload 5, 2) := by decide +kernel
theorem dX5_part_15 : decode cX5_part 15 = .ok (.lload 7, 2) := by decide +kernel
theorem dX5_part_17 : decode cX5_part 17 = .ok (.lrem, 1) := by decide +kernel
theorem dX5_part_18 : decode cX5_part 18 = .ok (.lstore 9, 2) := by decide +kernel
theorem dX5_part_20 : decode cX5_part 20 = .ok (.lload 7, 2) := by decide +kernel
theorem dX5_part_22 : decode cX5_part 22 = .ok (.lstore 5, 2) := by decide +kernel
theorem dX5_part_24 : decode cX5_part 24 = .ok (.lload 9, 2) := by decide +kernel
theorem dX5_part_26 : decode cX5_part 26 = .ok (.lstore 7, 2) := by decide +kernel
theorem dX5_part_28 : decode cX5_part 28 = .ok (.goto (-22), 3) := by decide +kernel
theorem dX5_part_31 : decode cX5_part 31 = .ok (.iload 4, 2) := by decide +kernel
theorem dX5_part_33 : decode cX5_part 33 = .ok (.ifCond .ne 7, 3) := by decide +kernel
theorem dX5_part_36 : decode cX5_part 36 = .ok (.lload_n 0, 1) := by decide +kernel
theorem dX5_part_37 : decode cX5_part 37 = .ok (.goto 4, 3) := by decide +kernel
theorem dX5_part_40 : decode cX5_part 40 = .ok (.lload_n 2, 1) := by decide +kernel
theorem dX5_part_41 : decode cX5_part 41 = .ok (.lload 5, 2) := by decide +kernel
theorem dX5_part_43 : decode cX5_part 43 = .ok (.ldiv, 1) := by decide +kernel
theorem dX5_part_44 : decode cX5_part 44 = .ok (.lreturn, 1) := by decide +kernel
theorem dX5_finds_0 : decode cX5_finds 0 = .ok (.aload_n 0, 1) := by decide +kernel
theorem dX5_finds_1 : decode cX5_finds 1 = .ok (.iload_n 1, 1) := by decide +kernel
theorem dX5_finds_2 : decode cX5_finds 2 = .ok (.putfield 65, 3) := by decide +kernel
theorem dX5_finds_5 : decode cX5_finds 5 = .ok (.bipush (-10), 2) := by decide +kernel
theorem dX5_finds_7 : decode cX5_finds 7 = .ok (.iload_n 1, 1) := by decide +kernel
theorem dX5_finds_8 : decode cX5_finds 8 = .ok (.isub, 1) := by decide +kernel
theorem dX5_finds_9 : decode cX5_finds 9 = .ok (.ireturn, 1) := by decide +kernel
theorem dX5_isSheet_0 : decode cX5_isSheet 0 = .ok (.iload_n 0, 1) := by decide +kernel
theorem dX5_isSheet_1 : decode cX5_isSheet 1 = .ok (.i2l, 1) := by decide +kernel
theorem dX5_isSheet_2 : decode cX5_isSheet 2 = .ok (.lconst 0, 1) := by decide +kernel
theorem dX5_isSheet_3 : decode cX5_isSheet 3 = .ok (.ldc2_w 68, 3) := by decide +kernel
theorem dX5_isSheet_6 : decode cX5_isSheet 6 = .ok (.invokestatic 61, 3) := by decide +kernel
theorem dX5_isSheet_9 : decode cX5_isSheet 9 = .ok (.ireturn, 1) := by decide +kernel
theorem dX5_sheet_0 : decode cX5_sheet 0 = .ok (.iload_n 1, 1) := by decide +kernel
theorem dX5_sheet_1 : decode cX5_sheet 1 = .ok (.invokestatic 70, 3) := by decide +kernel
theorem dX5_sheet_4 : decode cX5_sheet 4 = .ok (.ifCond .eq 21, 3) := by decide +kernel
theorem dX5_sheet_7 : decode cX5_sheet 7 = .ok (.iload_n 2, 1) := by decide +kernel
theorem dX5_sheet_8 : decode cX5_sheet 8 = .ok (.i2l, 1) := by decide +kernel
theorem dX5_sheet_9 : decode cX5_sheet 9 = .ok (.lconst 0, 1) := by decide +kernel
theorem dX5_sheet_10 : decode cX5_sheet 10 = .ok (.ldc2_w 74, 3) := by decide +kernel
theorem dX5_sheet_13 : decode cX5_sheet 13 = .ok (.invokestatic 61, 3) := by decide +kernel
theorem dX5_sheet_16 : decode cX5_sheet 16 = .ok (.ifCond .eq 9, 3) := by decide +kernel
theorem dX5_sheet_19 : decode cX5_sheet 19 = .ok (.iload_n 3, 1) := by decide +kernel
theorem dX5_sheet_20 : decode cX5_sheet 20 = .ok (.bipush 60, 2) := by decide +kernel
theorem dX5_sheet_22 : decode cX5_sheet 22 = .ok (.if_icmp .le 6, 3) := by decide +kernel
theorem dX5_sheet_25 : decode cX5_sheet 25 = .ok (.bipush (-2), 2) := by decide +kernel
theorem dX5_sheet_27 : decode cX5_sheet 27 = .ok (.ireturn, 1) := by decide +kernel
theorem dX5_sheet_28 : decode cX5_sheet 28 = .ok (.iload_n 3, 1) := by decide +kernel
theorem dX5_sheet_29 : decode cX5_sheet 29 = .ok (.ifCond .ge 9, 3) := by decide +kernel
theorem dX5_sheet_32 : decode cX5_sheet 32 = .ok (.aload_n 0, 1) := by decide +kernel
theorem dX5_sheet_33 : decode cX5_sheet 33 = .ok (.iconst 5, 1) := by decide +kernel
theorem dX5_sheet_34 : decode cX5_sheet 34 = .ok (.invokevirtual 76, 3) := by decide +kernel
theorem dX5_sheet_37 : decode cX5_sheet 37 = .ok (.ireturn, 1) := by decide +kernel
theorem dX5_sheet_38 : decode cX5_sheet 38 = .ok (.aload_n 0, 1) := by decide +kernel
theorem dX5_sheet_39 : decode cX5_sheet 39 = .ok (.getfield 7, 3) := by decide +kernel
theorem dX5_sheet_42 : decode cX5_sheet 42 = .ok (.iload_n 1, 1) := by decide +kernel
theorem dX5_sheet_43 : decode cX5_sheet 43 = .ok (.iload_n 2, 1) := by decide +kernel
theorem dX5_sheet_44 : decode cX5_sheet 44 = .ok (.iastore, 1) := by decide +kernel
theorem dX5_sheet_45 : decode cX5_sheet 45 = .ok (.aload_n 0, 1) := by decide +kernel
theorem dX5_sheet_46 : decode cX5_sheet 46 = .ok (.getfield 13, 3) := by decide +kernel
theorem dX5_sheet_49 : decode cX5_sheet 49 = .ok (.iload_n 1, 1) := by decide +kernel
theorem dX5_sheet_50 : decode cX5_sheet 50 = .ok (.iload_n 3, 1) := by decide +kernel
theorem dX5_sheet_51 : decode cX5_sheet 51 = .ok (.iastore, 1) := by decide +kernel
theorem dX5_sheet_52 : decode cX5_sheet 52 = .ok (.iconst 0, 1) := by decide +kernel
theorem dX5_sheet_53 : decode cX5_sheet 53 = .ok (.istore 4, 2) := by decide +kernel
theorem dX5_sheet_55 : decode cX5_sheet 55 = .ok (.iload 4, 2) := by decide +kernel
theorem dX5_sheet_57 : decode cX5_sheet 57 = .ok (.iload_n 3, 1) := by decide +kernel
theorem dX5_sheet_58 : decode cX5_sheet 58 = .ok (.if_icmp .ge 22, 3) := by decide +kernel
theorem dX5_sheet_61 : decode cX5_sheet 61 = .ok (.aload_n 0, 1) := by decide +kernel
theorem dX5_sheet_62 : decode cX5_sheet 62 = .ok (.getfield 16, 3) := by decide +kernel
theorem dX5_sheet_65 : decode cX5_sheet 65 = .ok (.bipush 60, 2) := by decide +kernel
theorem dX5_sheet_67 : decode cX5_sheet 67 = .ok (.iload_n 1, 1) := by decide +kernel
theorem dX5_sheet_68 : decode cX5_sheet 68 = .ok (.imul, 1) := by decide +kernel
theorem dX5_sheet_69 : decode cX5_sheet 69 = .ok (.iload 4, 2) := by decide +kernel
theorem dX5_sheet_71 : decode cX5_sheet 71 = .ok (.iadd, 1) := by decide +kernel
theorem dX5_sheet_72 : decode cX5_sheet 72 = .ok (.iconst 0, 1) := by decide +kernel
theorem dX5_sheet_73 : decode cX5_sheet 73 = .ok (.iastore, 1) := by decide +kernel
theorem dX5_sheet_74 : decode cX5_sheet 74 = .ok (.iinc 4 1, 3) := by decide +kernel
theorem dX5_sheet_77 : decode cX5_sheet 77 = .ok (.goto (-22), 3) := by decide +kernel
theorem dX5_sheet_80 : decode cX5_sheet 80 = .ok (.iload_n 3, 1) := by decide +kernel
theorem dX5_sheet_81 : decode cX5_sheet 81 = .ok (.ireturn, 1) := by decide +kernel
theorem dX5_lose_0 : decode cX5_lose 0 = .ok (.iload_n 1, 1) := by decide +kernel
theorem dX5_lose_1 : decode cX5_lose 1 = .ok (.invokestatic 70, 3) := by decide +kernel
theorem dX5_lose_4 : decode cX5_lose 4 = .ok (.ifCond .ne 6, 3) := by decide +kernel
theorem dX5_lose_7 : decode cX5_lose 7 = .ok (.bipush (-2), 2) := by decide +kernel
theorem dX5_lose_9 : decode cX5_lose 9 = .ok (.ireturn, 1) := by decide +kernel
theorem dX5_lose_10 : decode cX5_lose 10 = .ok (.aload_n 0, 1) := by decide +kernel
theorem dX5_lose_11 : decode cX5_lose 11 = .ok (.getfield 7, 3) := by decide +kernel
theorem dX5_lose_14 : decode cX5_lose 14 = .ok (.iload_n 1, 1) := by decide +kernel
theorem dX5_lose_15 : decode cX5_lose 15 = .ok (.iaload, 1) := by decide +kernel
theorem dX5_lose_16 : decode cX5_lose 16 = .ok (.ifCond .ge 9, 3) := by decide +kernel
theorem dX5_lose_19 : decode cX5_lose 19 = .ok (.aload_n 0, 1) := by decide +kernel
theorem dX5_lose_20 : decode cX5_lose 20 = .ok (.iconst 1, 1) := by decide +kernel
theorem dX5_lose_21 : decode cX5_lose 21 = .ok (.invokevirtual 76, 3) := by decide +kernel
theorem dX5_lose_24 : decode cX5_lose 24 = .ok (.ireturn, 1) := by decide +kernel
theorem dX5_lose_25 : decode cX5_lose 25 = .ok (.aload_n 0, 1) := by decide +kernel
theorem dX5_lose_26 : decode cX5_lose 26 = .ok (.getfield 7, 3) := by decide +kernel
theorem dX5_lose_29 : decode cX5_lose 29 = .ok (.iload_n 1, 1) := by decide +kernel
theorem dX5_lose_30 : decode cX5_lose 30 = .ok (.iconst (-1), 1) := by decide +kernel
theorem dX5_lose_31 : decode cX5_lose 31 = .ok (.iastore, 1) := by decide +kernel
theorem dX5_lose_32 : decode cX5_lose 32 = .ok (.aload_n 0, 1) := by decide +kernel
theorem dX5_lose_33 : decode cX5_lose 33 = .ok (.getfield 13, 3) := by decide +kernel
theorem dX5_lose_36 : decode cX5_lose 36 = .ok (.iload_n 1, 1) := by decide +kernel
theorem dX5_lose_37 : decode cX5_lose 37 = .ok (.iaload, 1) := by decide +kernel
theorem dX5_lose_38 : decode cX5_lose 38 = .ok (.ireturn, 1) := by decide +kernel
theorem dX5_lacks_0 : decode cX5_lacks 0 = .ok (.aload_n 0, 1) := by decide +kernel
theorem dX5_lacks_1 : decode cX5_lacks 1 = .ok (.getfield 7, 3) := by decide +kernel
theorem dX5_lacks_4 : decode cX5_lacks 4 = .ok (.iload_n 1, 1) := by decide +kernel
theorem dX5_lacks_5 : decode cX5_lacks 5 = .ok (.iaload, 1) := by decide +kernel
theorem dX5_lacks_6 : decode cX5_lacks 6 = .ok (.ifCond .ge 9, 3) := by decide +kernel
theorem dX5_lacks_9 : decode cX5_lacks 9 = .ok (.aload_n 0, 1) := by decide +kernel
theorem dX5_lacks_10 : decode cX5_lacks 10 = .ok (.iconst 1, 1) := by decide +kernel
theorem dX5_lacks_11 : decode cX5_lacks 11 = .ok (.invokevirtual 76, 3) := by decide +kernel
theorem dX5_lacks_14 : decode cX5_lacks 14 = .ok (.ireturn, 1) := by decide +kernel
theorem dX5_lacks_15 : decode cX5_lacks 15 = .ok (.aload_n 0, 1) := by decide +kernel
theorem dX5_lacks_16 : decode cX5_lacks 16 = .ok (.getfield 7, 3) := by decide +kernel
theorem dX5_lacks_19 : decode cX5_lacks 19 = .ok (.iload_n 1, 1) := by decide +kernel
theorem dX5_lacks_20 : decode cX5_lacks 20 = .ok (.iaload, 1) := by decide +kernel
theorem dX5_lacks_21 : decode cX5_lacks 21 = .ok (.iload_n 2, 1) := by decide +kernel
theorem dX5_lacks_22 : decode cX5_lacks 22 = .ok (.if_icmp .eq 9, 3) := by decide +kernel
theorem dX5_lacks_25 : decode cX5_lacks 25 = .ok (.aload_n 0, 1) := by decide +kernel
theorem dX5_lacks_26 : decode cX5_lacks 26 = .ok (.iconst 3, 1) := by decide +kernel
theorem dX5_lacks_27 : decode cX5_lacks 27 = .ok (.invokevirtual 76, 3) := by decide +kernel
theorem dX5_lacks_30 : decode cX5_lacks 30 = .ok (.ireturn, 1) := by decide +kernel
theorem dX5_lacks_31 : decode cX5_lacks 31 = .ok (.iload_n 3, 1) := by decide +kernel
theorem dX5_lacks_32 : decode cX5_lacks 32 = .ok (.i2l, 1) := by decide +kernel
theorem dX5_lacks_33 : decode cX5_lacks 33 = .ok (.lconst 0, 1) := by decide +kernel
theorem dX5_lacks_34 : decode cX5_lacks 34 = .ok (.aload_n 0, 1) := by decide +kernel
theorem dX5_lacks_35 : decode cX5_lacks 35 = .ok (.getfield 13, 3) := by decide +kernel
theorem dX5_lacks_38 : decode cX5_lacks 38 = .ok (.iload_n 1, 1) := by decide +kernel
theorem dX5_lacks_39 : decode cX5_lacks 39 = .ok (.iaload, 1) := by decide +kernel
theorem dX5_lacks_40 : decode cX5_lacks 40 = .ok (.iconst 1, 1) := by decide +kernel
theorem dX5_lacks_41 : decode cX5_lacks 41 = .ok (.isub, 1) := by decide +kernel
theorem dX5_lacks_42 : decode cX5_lacks 42 = .ok (.i2l, 1) := by decide +kernel
theorem dX5_lacks_43 : decode cX5_lacks 43 = .ok (.invokestatic 61, 3) := by decide +kernel
theorem dX5_lacks_46 : decode cX5_lacks 46 = .ok (.ifCond .eq 7, 3) := by decide +kernel
theorem dX5_lacks_49 : decode cX5_lacks 49 = .ok (.iconst 0, 1) := by decide +kernel
theorem dX5_lacks_50 : decode cX5_lacks 50 = .ok (.goto 8, 3) := by decide +kernel
theorem dX5_lacks_53 : decode cX5_lacks 53 = .ok (.aload_n 0, 1) := by decide +kernel
theorem dX5_lacks_54 : decode cX5_lacks 54 = .ok (.iconst 2, 1) := by decide +kernel
theorem dX5_lacks_55 : decode cX5_lacks 55 = .ok (.invokevirtual 76, 3) := by decide +kernel
theorem dX5_lacks_58 : decode cX5_lacks 58 = .ok (.ireturn, 1) := by decide +kernel
theorem dX5_cut_0 : decode cX5_cut 0 = .ok (.iload_n 0, 1) := by decide +kernel
theorem dX5_cut_1 : decode cX5_cut 1 = .ok (.ifCond .ne 8, 3) := by decide +kernel
theorem dX5_cut_4 : decode cX5_cut 4 = .ok (.iload_n 1, 1) := by decide +kernel
theorem dX5_cut_5 : decode cX5_cut 5 = .ok (.i2b, 1) := by decide +kernel
theorem dX5_cut_6 : decode cX5_cut 6 = .ok (.goto 14, 3) := by decide +kernel
theorem dX5_cut_9 : decode cX5_cut 9 = .ok (.iload_n 0, 1) := by decide +kernel
theorem dX5_cut_10 : decode cX5_cut 10 = .ok (.iconst 1, 1) := by decide +kernel
theorem dX5_cut_11 : decode cX5_cut 11 = .ok (.if_icmp .ne 8, 3) := by decide +kernel
theorem dX5_cut_14 : decode cX5_cut 14 = .ok (.iload_n 1, 1) := by decide +kernel
theorem dX5_cut_15 : decode cX5_cut 15 = .ok (.i2s, 1) := by decide +kernel
theorem dX5_cut_16 : decode cX5_cut 16 = .ok (.goto 4, 3) := by decide +kernel
theorem dX5_cut_19 : decode cX5_cut 19 = .ok (.iload_n 1, 1) := by decide +kernel
theorem dX5_cut_20 : decode cX5_cut 20 = .ok (.ireturn, 1) := by decide +kernel
theorem dX5_lay_0 : decode cX5_lay 0 = .ok (.iload_n 1, 1) := by decide +kernel
theorem dX5_lay_1 : decode cX5_lay 1 = .ok (.invokestatic 70, 3) := by decide +kernel
theorem dX5_lay_4 : decode cX5_lay 4 = .ok (.ifCond .eq 15, 3) := by decide +kernel
theorem dX5_lay_7 : decode cX5_lay 7 = .ok (.iload_n 2, 1) := by decide +kernel
theorem dX5_lay_8 : decode cX5_lay 8 = .ok (.i2l, 1) := by decide +kernel
theorem dX5_lay_9 : decode cX5_lay 9 = .ok (.lconst 0, 1) := by decide +kernel
theorem dX5_lay_10 : decode cX5_lay 10 = .ok (.ldc2_w 74, 3) := by decide +kernel
theorem dX5_lay_13 : decode cX5_lay 13 = .ok (.invokestatic 61, 3) := by decide +kernel
theorem dX5_lay_16 : decode cX5_lay 16 = .ok (.ifCond .ne 6, 3) := by decide +kernel
theorem dX5_lay_19 : decode cX5_lay 19 = .ok (.bipush (-2), 2) := by decide +kernel
theorem dX5_lay_21 : decode cX5_lay 21 = .ok (.ireturn, 1) := by decide +kernel
theorem dX5_lay_22 : decode cX5_lay 22 = .ok (.aload_n 0, 1) := by decide +kernel
theorem dX5_lay_23 : decode cX5_lay 23 = .ok (.iload_n 1, 1) := by decide +kernel
theorem dX5_lay_24 : decode cX5_lay 24 = .ok (.iload_n 2, 1) := by decide +kernel
theorem dX5_lay_25 : decode cX5_lay 25 = .ok (.iload_n 3, 1) := by decide +kernel
theorem dX5_lay_26 : decode cX5_lay 26 = .ok (.invokevirtual 80, 3) := by decide +kernel
theorem dX5_lay_29 : decode cX5_lay 29 = .ok (.istore 5, 2) := by decide +kernel
theorem dX5_lay_31 : decode cX5_lay 31 = .ok (.iload 5, 2) := by decide +kernel
theorem dX5_lay_33 : decode cX5_lay 33 = .ok (.ifCond .eq 6, 3) := by decide +kernel
theorem dX5_lay_36 : decode cX5_lay 36 = .ok (.iload 5, 2) := by decide +kernel
theorem dX5_lay_38 : decode cX5_lay 38 = .ok (.ireturn, 1) := by decide +kernel
theorem dX5_lay_39 : decode cX5_lay 39 = .ok (.aload_n 0, 1) := by decide +kernel
theorem dX5_lay_40 : decode cX5_lay 40 = .ok (.getfield 16, 3) := by decide +kernel
theorem dX5_lay_43 : decode cX5_lay 43 = .ok (.bipush 60, 2) := by decide +kernel
theorem dX5_lay_45 : decode cX5_lay 45 = .ok (.iload_n 1, 1) := by decide +kernel
theorem dX5_lay_46 : decode cX5_lay 46 = .ok (.imul, 1) := by decide +kernel
theorem dX5_lay_47 : decode cX5_lay 47 = .ok (.iload_n 3, 1) := by decide +kernel
theorem dX5_lay_48 : decode cX5_lay 48 = .ok (.iadd, 1) := by decide +kernel
theorem dX5_lay_49 : decode cX5_lay 49 = .ok (.iload_n 2, 1) := by decide +kernel
theorem dX5_lay_50 : decode cX5_lay 50 = .ok (.iload 4, 2) := by decide +kernel
theorem dX5_lay_52 : decode cX5_lay 52 = .ok (.invokestatic 84, 3) := by decide +kernel
theorem dX5_lay_55 : decode cX5_lay 55 = .ok (.iastore, 1) := by decide +kernel
theorem dX5_lay_56 : decode cX5_lay 56 = .ok (.iconst 1, 1) := by decide +kernel
theorem dX5_lay_57 : decode cX5_lay 57 = .ok (.ireturn, 1) := by decide +kernel
theorem dX5_get_0 : decode cX5_get 0 = .ok (.iload_n 1, 1) := by decide +kernel
theorem dX5_get_1 : decode cX5_get 1 = .ok (.invokestatic 70, 3) := by decide +kernel
theorem dX5_get_4 : decode cX5_get 4 = .ok (.ifCond .eq 25, 3) := by decide +kernel
theorem dX5_get_7 : decode cX5_get 7 = .ok (.iload_n 2, 1) := by decide +kernel
theorem dX5_get_8 : decode cX5_get 8 = .ok (.i2l, 1) := by decide +kernel
theorem dX5_get_9 : decode cX5_get 9 = .ok (.lconst 0, 1) := by decide +kernel
theorem dX5_get_10 : decode cX5_get 10 = .ok (.ldc2_w 74, 3) := by decide +kernel
theorem dX5_get_13 : decode cX5_get 13 = .ok (.invokestatic 61, 3) := by decide +kernel
theorem dX5_get_16 : decode cX5_get 16 = .ok (.ifCond .eq 13, 3) := by decide +kernel
theorem dX5_get_19 : decode cX5_get 19 = .ok (.aload_n 0, 1) := by decide +kernel
theorem dX5_get_20 : decode cX5_get 20 = .ok (.iload_n 1, 1) := by decide +kernel
theorem dX5_get_21 : decode cX5_get 21 = .ok (.iload_n 2, 1) := by decide +kernel
theorem dX5_get_22 : decode cX5_get 22 = .ok (.iload_n 3, 1) := by decide +kernel
theorem dX5_get_23 : decode cX5_get 23 = .ok (.invokevirtual 80, 3) := by decide +kernel
theorem dX5_get_26 : decode cX5_get 26 = .ok (.ifCond .eq 6, 3) := by decide +kernel
theorem dX5_get_29 : decode cX5_get 29 = .ok (.ldc 88, 2) := by decide +kernel
theorem dX5_get_31 : decode cX5_get 31 = .ok (.ireturn, 1) := by decide +kernel
theorem dX5_get_32 : decode cX5_get 32 = .ok (.aload_n 0, 1) := by decide +kernel
theorem dX5_get_33 : decode cX5_get 33 = .ok (.getfield 16, 3) := by decide +kernel
theorem dX5_get_36 : decode cX5_get 36 = .ok (.bipush 60, 2) := by decide +kernel
theorem dX5_get_38 : decode cX5_get 38 = .ok (.iload_n 1, 1) := by decide +kernel
theorem dX5_get_39 : decode cX5_get 39 = .ok (.imul, 1) := by decide +kernel
theorem dX5_get_40 : decode cX5_get 40 = .ok (.iload_n 3, 1) := by decide +kernel
theorem dX5_get_41 : decode cX5_get 41 = .ok (.iadd, 1) := by decide +kernel
theorem dX5_get_42 : decode cX5_get 42 = .ok (.iaload, 1) := by decide +kernel
theorem dX5_get_43 : decode cX5_get 43 = .ok (.ireturn, 1) := by decide +kernel
theorem dX5_copy_0 : decode cX5_copy 0 = .ok (.iload_n 1, 1) := by decide +kernel
theorem dX5_copy_1 : decode cX5_copy 1 = .ok (.invokestatic 70, 3) := by decide +kernel
theorem dX5_copy_4 : decode cX5_copy 4 = .ok (.ifCond .eq 10, 3) := by decide +kernel
theorem dX5_copy_7 : decode cX5_copy 7 = .ok (.iload_n 3, 1) := by decide +kernel
theorem dX5_copy_8 : decode cX5_copy 8 = .ok (.invokestatic 70, 3) := by decide +kernel
theorem dX5_copy_11 : decode cX5_copy 11 = .ok (.ifCond .ne 6, 3) := by decide +kernel
theorem dX5_copy_14 : decode cX5_copy 14 = .ok (.bipush (-2), 2) := by decide +kernel
theorem dX5_copy_16 : decode cX5_copy 16 = .ok (.ireturn, 1) := by decide +kernel
theorem dX5_copy_17 : decode cX5_copy 17 = .ok (.aload_n 0, 1) := by decide +kernel
theorem dX5_copy_18 : decode cX5_copy 18 = .ok (.getfield 7, 3) := by decide +kernel
theorem dX5_copy_21 : decode cX5_copy 21 = .ok (.iload_n 1, 1) := by decide +kernel
theorem dX5_copy_22 : decode cX5_copy 22 = .ok (.iaload, 1) := by decide +kernel
theorem dX5_copy_23 : decode cX5_copy 23 = .ok (.ifCond .lt 12, 3) := by decide +kernel
theorem dX5_copy_26 : decode cX5_copy 26 = .ok (.aload_n 0, 1) := by decide +kernel
theorem dX5_copy_27 : decode cX5_copy 27 = .ok (.getfield 7, 3) := by decide +kernel
theorem dX5_copy_30 : decode cX5_copy 30 = .ok (.iload_n 3, 1) := by decide +kernel
theorem dX5_copy_31 : decode cX5_copy 31 = .ok (.iaload, 1) := by decide +kernel
theorem dX5_copy_32 : decode cX5_copy 32 = .ok (.ifCond .ge 9, 3) := by decide +kernel
theorem dX5_copy_35 : decode cX5_copy 35 = .ok (.aload_n 0, 1) := by decide +kernel
theorem dX5_copy_36 : decode cX5_copy 36 = .ok (.iconst 1, 1) := by decide +kernel
theorem dX5_copy_37 : decode cX5_copy 37 = .ok (.invokevirtual 76, 3) := by decide +kernel
theorem dX5_copy_40 : decode cX5_copy 40 = .ok (.ireturn, 1) := by decide +kernel
theorem dX5_copy_41 : decode cX5_copy 41 = .ok (.aload_n 0, 1) := by decide +kernel
theorem dX5_copy_42 : decode cX5_copy 42 = .ok (.getfield 7, 3) := by decide +kernel
theorem dX5_copy_45 : decode cX5_copy 45 = .ok (.iload_n 1, 1) := by decide +kernel
theorem dX5_copy_46 : decode cX5_copy 46 = .ok (.iaload, 1) := by decide +kernel
theorem dX5_copy_47 : decode cX5_copy 47 = .ok (.aload_n 0, 1) := by decide +kernel
theorem dX5_copy_48 : decode cX5_copy 48 = .ok (.getfield 7, 3) := by decide +kernel
theorem dX5_copy_51 : decode cX5_copy 51 = .ok (.iload_n 3, 1) := by decide +kernel
theorem dX5_copy_52 : decode cX5_copy 52 = .ok (.iaload, 1) := by decide +kernel
theorem dX5_copy_53 : decode cX5_copy 53 = .ok (.if_icmp .eq 9, 3) := by decide +kernel
theorem dX5_copy_56 : decode cX5_copy 56 = .ok (.aload_n 0, 1) := by decide +kernel
theorem dX5_copy_57 : decode cX5_copy 57 = .ok (.iconst 4, 1) := by decide +kernel
theorem dX5_copy_58 : decode cX5_copy 58 = .ok (.invokevirtual 76, 3) := by decide +kernel
theorem dX5_copy_61 : decode cX5_copy 61 = .ok (.ireturn, 1) := by decide +kernel
theorem dX5_copy_62 : decode cX5_copy 62 = .ok (.iload_n 2, 1) := by decide +kernel
theorem dX5_copy_63 : decode cX5_copy 63 = .ok (.ifCond .lt 48, 3) := by decide +kernel
theorem dX5_copy_66 : decode cX5_copy 66 = .ok (.iload 4, 2) := by decide +kernel
theorem dX5_copy_68 : decode cX5_copy 68 = .ok (.ifCond .lt 43, 3) := by decide +kernel
theorem dX5_copy_71 : decode cX5_copy 71 = .ok (.iload 5, 2) := by decide +kernel
theorem dX5_copy_73 : decode cX5_copy 73 = .ok (.ifCond .lt 38, 3) := by decide +kernel
theorem dX5_copy_76 : decode cX5_copy 76 = .ok (.iload_n 2, 1) := by decide +kernel
theorem dX5_copy_77 : decode cX5_copy 77 = .ok (.i2l, 1) := by decide +kernel
theorem dX5_copy_78 : decode cX5_copy 78 = .ok (.iload 5, 2) := by decide +kernel
theorem dX5_copy_80 : decode cX5_copy 80 = .ok (.i2l, 1) := by decide +kernel
theorem dX5_copy_81 : decode cX5_copy 81 = .ok (.ladd, 1) := by decide +kernel
theorem dX5_copy_82 : decode cX5_copy 82 = .ok (.aload_n 0, 1) := by decide +kernel
theorem dX5_copy_83 : decode cX5_copy 83 = .ok (.getfield 13, 3) := by decide +kernel
theorem dX5_copy_86 : decode cX5_copy 86 = .ok (.iload_n 1, 1) := by decide +kernel
theorem dX5_copy_87 : decode cX5_copy 87 = .ok (.iaload, 1) := by decide +kernel
theorem dX5_copy_88 : decode cX5_copy 88 = .ok (.i2l, 1) := by decide +kernel
theorem dX5_copy_89 : decode cX5_copy 89 = .ok (.lcmp, 1) := by decide +kernel
theorem dX5_copy_90 : decode cX5_copy 90 = .ok (.ifCond .gt 21, 3) := by decide +kernel
theorem dX5_copy_93 : decode cX5_copy 93 = .ok (.iload 4, 2) := by decide +kernel
theorem dX5_copy_95 : decode cX5_copy 95 = .ok (.i2l, 1) := by decide +kernel
theorem dX5_copy_96 : decode cX5_copy 96 = .ok (.iload 5, 2) := by decide +kernel
theorem dX5_copy_98 : decode cX5_copy 98 = .ok (.i2l, 1) := by decide +kernel
theorem dX5_copy_99 : decode cX5_copy 99 = .ok (.ladd, 1) := by decide +kernel
theorem dX5_copy_100 : decode cX5_copy 100 = .ok (.aload_n 0, 1) := by decide +kernel
theorem dX5_copy_101 : decode cX5_copy 101 = .ok (.getfield 13, 3) := by decide +kernel
theorem dX5_copy_104 : decode cX5_copy 104 = .ok (.iload_n 3, 1) := by decide +kernel
theorem dX5_copy_105 : decode cX5_copy 105 = .ok (.iaload, 1) := by decide +kernel
theorem dX5_copy_106 : decode cX5_copy 106 = .ok (.i2l, 1) := by decide +kernel
theorem dX5_copy_107 : decode cX5_copy 107 = .ok (.lcmp, 1) := by decide +kernel
theorem dX5_copy_108 : decode cX5_copy 108 = .ok (.ifCond .le 9, 3) := by decide +kernel
theorem dX5_copy_111 : decode cX5_copy 111 = .ok (.aload_n 0, 1) := by decide +kernel
theorem dX5_copy_112 : decode cX5_copy 112 = .ok (.iconst 2, 1) := by decide +kernel
theorem dX5_copy_113 : decode cX5_copy 113 = .ok (.invokevirtual 76, 3) := by decide +kernel
theorem dX5_copy_116 : decode cX5_copy 116 = .ok (.ireturn, 1) := by decide +kernel
theorem dX5_copy_117 : decode cX5_copy 117 = .ok (.iconst 0, 1) := by decide +kernel
theorem dX5_copy_118 : decode cX5_copy 118 = .ok (.istore 6, 2) := by decide +kernel
theorem dX5_copy_120 : decode cX5_copy 120 = .ok (.iload 6, 2) := by decide +kernel
theorem dX5_copy_122 : decode cX5_copy 122 = .ok (.iload 5, 2) := by decide +kernel
theorem dX5_copy_124 : decode cX5_copy 124 = .ok (.if_icmp .ge 30, 3) := by decide +kernel
theorem dX5_copy_127 : decode cX5_copy 127 = .ok (.aload_n 0, 1) := by decide +kernel
theorem dX5_copy_128 : decode cX5_copy 128 = .ok (.getfield 19, 3) := by decide +kernel
theorem dX5_copy_131 : decode cX5_copy 131 = .ok (.iload 6, 2) := by decide +kernel
theorem dX5_copy_133 : decode cX5_copy 133 = .ok (.aload_n 0, 1) := by decide +kernel
theorem dX5_copy_134 : decode cX5_copy 134 = .ok (.getfield 16, 3) := by decide +kernel
theorem dX5_copy_137 : decode cX5_copy 137 = .ok (.bipush 60, 2) := by decide +kernel
theorem dX5_copy_139 : decode cX5_copy 139 = .ok (.iload_n 1, 1) := by decide +kernel
theorem dX5_copy_140 : decode cX5_copy 140 = .ok (.imul, 1) := by decide +kernel
theorem dX5_copy_141 : decode cX5_copy 141 = .ok (.iload_n 2, 1) := by decide +kernel
theorem dX5_copy_142 : decode cX5_copy 142 = .ok (.iadd, 1) := by decide +kernel
theorem dX5_copy_143 : decode cX5_copy 143 = .ok (.iload 6, 2) := by decide +kernel
theorem dX5_copy_145 : decode cX5_copy 145 = .ok (.iadd, 1) := by decide +kernel
theorem dX5_copy_146 : decode cX5_copy 146 = .ok (.iaload, 1) := by decide +kernel
theorem dX5_copy_147 : decode cX5_copy 147 = .ok (.iastore, 1) := by decide +kernel
theorem dX5_copy_148 : decode cX5_copy 148 = .ok (.iinc 6 1, 3) := by decide +kernel
theorem dX5_copy_151 : decode cX5_copy 151 = .ok (.goto (-31), 3) := by decide +kernel
theorem dX5_copy_154 : decode cX5_copy 154 = .ok (.iconst 0, 1) := by decide +kernel
theorem dX5_copy_155 : decode cX5_copy 155 = .ok (.istore 6, 2) := by decide +kernel
theorem dX5_copy_157 : decode cX5_copy 157 = .ok (.iload 6, 2) := by decide +kernel
theorem dX5_copy_159 : decode cX5_copy 159 = .ok (.iload 5, 2) := by decide +kernel
theorem dX5_copy_161 : decode cX5_copy 161 = .ok (.if_icmp .ge 31, 3) := by decide +kernel
theorem dX5_copy_164 : decode cX5_copy 164 = .ok (.aload_n 0, 1) := by decide +kernel
theorem dX5_copy_165 : decode cX5_copy 165 = .ok (.getfield 16, 3) := by decide +kernel
theorem dX5_copy_168 : decode cX5_copy 168 = .ok (.bipush 60, 2) := by decide +kernel
theorem dX5_copy_170 : decode cX5_copy 170 = .ok (.iload_n 3, 1) := by decide +kernel
theorem dX5_copy_171 : decode cX5_copy 171 = .ok (.imul, 1) := by decide +kernel
theorem dX5_copy_172 : decode cX5_copy 172 = .ok (.iload 4, 2) := by decide +kernel
theorem dX5_copy_174 : decode cX5_copy 174 = .ok (.iadd, 1) := by decide +kernel
theorem dX5_copy_175 : decode cX5_copy 175 = .ok (.iload 6, 2) := by decide +kernel
theorem dX5_copy_177 : decode cX5_copy 177 = .ok (.iadd, 1) := by decide +kernel
theorem dX5_copy_178 : decode cX5_copy 178 = .ok (.aload_n 0, 1) := by decide +kernel
theorem dX5_copy_179 : decode cX5_copy 179 = .ok (.getfield 19, 3) := by decide +kernel
theorem dX5_copy_182 : decode cX5_copy 182 = .ok (.iload 6, 2) := by decide +kernel
theorem dX5_copy_184 : decode cX5_copy 184 = .ok (.iaload, 1) := by decide +kernel
theorem dX5_copy_185 : decode cX5_copy 185 = .ok (.iastore, 1) := by decide +kernel
theorem dX5_copy_186 : decode cX5_copy 186 = .ok (.iinc 6 1, 3) := by decide +kernel
theorem dX5_copy_189 : decode cX5_copy 189 = .ok (.goto (-32), 3) := by decide +kernel
theorem dX5_copy_192 : decode cX5_copy 192 = .ok (.iconst 1, 1) := by decide +kernel
theorem dX5_copy_193 : decode cX5_copy 193 = .ok (.ireturn, 1) := by decide +kernel
theorem dX5_type_0 : decode cX5_type 0 = .ok (.iload_n 1, 1) := by decide +kernel
theorem dX5_type_1 : decode cX5_type 1 = .ok (.invokestatic 89, 3) := by decide +kernel
theorem dX5_type_4 : decode cX5_type 4 = .ok (.ifCond .eq 15, 3) := by decide +kernel
theorem dX5_type_7 : decode cX5_type 7 = .ok (.iload_n 2, 1) := by decide +kernel
theorem dX5_type_8 : decode cX5_type 8 = .ok (.i2l, 1) := by decide +kernel
theorem dX5_type_9 : decode cX5_type 9 = .ok (.lconst 0, 1) := by decide +kernel
theorem dX5_type_10 : decode cX5_type 10 = .ok (.ldc2_w 92, 3) := by decide +kernel
theorem dX5_type_13 : decode cX5_type 13 = .ok (.invokestatic 61, 3) := by decide +kernel
theorem dX5_type_16 : decode cX5_type 16 = .ok (.ifCond .ne 6, 3) := by decide +kernel
theorem dX5_type_19 : decode cX5_type 19 = .ok (.bipush (-2), 2) := by decide +kernel
theorem dX5_type_21 : decode cX5_type 21 = .ok (.ireturn, 1) := by decide +kernel
theorem dX5_type_22 : decode cX5_type 22 = .ok (.aload_n 0, 1) := by decide +kernel
theorem dX5_type_23 : decode cX5_type 23 = .ok (.getfield 25, 3) := by decide +kernel
theorem dX5_type_26 : decode cX5_type 26 = .ok (.iload_n 1, 1) := by decide +kernel
theorem dX5_type_27 : decode cX5_type 27 = .ok (.iaload, 1) := by decide +kernel
theorem dX5_type_28 : decode cX5_type 28 = .ok (.iload_n 1, 1) := by decide +kernel
theorem dX5_type_29 : decode cX5_type 29 = .ok (.ifCond .ne 8, 3) := by decide +kernel
theorem dX5_type_32 : decode cX5_type 32 = .ok (.bipush 47, 2) := by decide +kernel
theorem dX5_type_34 : decode cX5_type 34 = .ok (.goto 5, 3) := by decide +kernel
theorem dX5_type_37 : decode cX5_type 37 = .ok (.bipush 59, 2) := by decide +kernel
theorem dX5_type_39 : decode cX5_type 39 = .ok (.if_icmp .ne 6, 3) := by decide +kernel
theorem dX5_type_42 : decode cX5_type 42 = .ok (.bipush (-4), 2) := by decide +kernel
theorem dX5_type_44 : decode cX5_type 44 = .ok (.ireturn, 1) := by decide +kernel
theorem dX5_type_45 : decode cX5_type 45 = .ok (.aload_n 0, 1) := by decide +kernel
theorem dX5_type_46 : decode cX5_type 46 = .ok (.getfield 22, 3) := by decide +kernel
theorem dX5_type_49 : decode cX5_type 49 = .ok (.bipush 60, 2) := by decide +kernel
theorem dX5_type_51 : decode cX5_type 51 = .ok (.iload_n 1, 1) := by decide +kernel
theorem dX5_type_52 : decode cX5_type 52 = .ok (.imul, 1) := by decide +kernel
theorem dX5_type_53 : decode cX5_type 53 = .ok (.aload_n 0, 1) := by decide +kernel
theorem dX5_type_54 : decode cX5_type 54 = .ok (.getfield 25, 3) := by decide +kernel
theorem dX5_type_57 : decode cX5_type 57 = .ok (.iload_n 1, 1) := by decide +kernel
theorem dX5_type_58 : decode cX5_type 58 = .ok (.iaload, 1) := by decide +kernel
theorem dX5_type_59 : decode cX5_type 59 = .ok (.iadd, 1) := by decide +kernel
theorem dX5_type_60 : decode cX5_type 60 = .ok (.iload_n 2, 1) := by decide +kernel
theorem dX5_type_61 : decode cX5_type 61 = .ok (.iastore, 1) := by decide +kernel
theorem dX5_type_62 : decode cX5_type 62 = .ok (.aload_n 0, 1) := by decide +kernel
theorem dX5_type_63 : decode cX5_type 63 = .ok (.getfield 25, 3) := by decide +kernel
theorem dX5_type_66 : decode cX5_type 66 = .ok (.iload_n 1, 1) := by decide +kernel
theorem dX5_type_67 : decode cX5_type 67 = .ok (.dup2, 1) := by decide +kernel
theorem dX5_type_68 : decode cX5_type 68 = .ok (.iaload, 1) := by decide +kernel
theorem dX5_type_69 : decode cX5_type 69 = .ok (.iconst 1, 1) := by decide +kernel
theorem dX5_type_70 : decode cX5_type 70 = .ok (.iadd, 1) := by decide +kernel
theorem dX5_type_71 : decode cX5_type 71 = .ok (.iastore, 1) := by decide +kernel
theorem dX5_type_72 : decode cX5_type 72 = .ok (.aload_n 0, 1) := by decide +kernel
theorem dX5_type_73 : decode cX5_type 73 = .ok (.getfield 25, 3) := by decide +kernel
theorem dX5_type_76 : decode cX5_type 76 = .ok (.iload_n 1, 1) := by decide +kernel
theorem dX5_type_77 : decode cX5_type 77 = .ok (.iaload, 1) := by decide +kernel
theorem dX5_type_78 : decode cX5_type 78 = .ok (.ireturn, 1) := by decide +kernel
theorem dX5_wipe_0 : decode cX5_wipe 0 = .ok (.iload_n 1, 1) := by decide +kernel
theorem dX5_wipe_1 : decode cX5_wipe 1 = .ok (.invokestatic 89, 3) := by decide +kernel
theorem dX5_wipe_4 : decode cX5_wipe 4 = .ok (.ifCond .ne 6, 3) := by decide +kernel
theorem dX5_wipe_7 : decode cX5_wipe 7 = .ok (.bipush (-2), 2) := by decide +kernel
theorem dX5_wipe_9 : decode cX5_wipe 9 = .ok (.ireturn, 1) := by decide +kernel
theorem dX5_wipe_10 : decode cX5_wipe 10 = .ok (.aload_n 0, 1) := by decide +kernel
theorem dX5_wipe_11 : decode cX5_wipe 11 = .ok (.getfield 25, 3) := by decide +kernel
theorem dX5_wipe_14 : decode cX5_wipe 14 = .ok (.iload_n 1, 1) := by decide +kernel
theorem dX5_wipe_15 : decode cX5_wipe 15 = .ok (.iaload, 1) := by decide +kernel
theorem dX5_wipe_16 : decode cX5_wipe 16 = .ok (.istore_n 2, 1) := by decide +kernel
theorem dX5_wipe_17 : decode cX5_wipe 17 = .ok (.aload_n 0, 1) := by decide +kernel
theorem dX5_wipe_18 : decode cX5_wipe 18 = .ok (.getfield 25, 3) := by decide +kernel
theorem dX5_wipe_21 : decode cX5_wipe 21 = .ok (.iload_n 1, 1) := by decide +kernel
theorem dX5_wipe_22 : decode cX5_wipe 22 = .ok (.iconst 0, 1) := by decide +kernel
theorem dX5_wipe_23 : decode cX5_wipe 23 = .ok (.iastore, 1) := by decide +kernel
theorem dX5_wipe_24 : decode cX5_wipe 24 = .ok (.iload_n 2, 1) := by decide +kernel
theorem dX5_wipe_25 : decode cX5_wipe 25 = .ok (.ireturn, 1) := by decide +kernel
theorem dX5_undo_0 : decode cX5_undo 0 = .ok (.iload_n 1, 1) := by decide +kernel
theorem dX5_undo_1 : decode cX5_undo 1 = .ok (.invokestatic 89, 3) := by decide +kernel
theorem dX5_undo_4 : decode cX5_undo 4 = .ok (.ifCond .ne 6, 3) := by decide +kernel
theorem dX5_undo_7 : decode cX5_undo 7 = .ok (.bipush (-2), 2) := by decide +kernel
theorem dX5_undo_9 : decode cX5_undo 9 = .ok (.ireturn, 1) := by decide +kernel
theorem dX5_undo_10 : decode cX5_undo 10 = .ok (.aload_n 0, 1) := by decide +kernel
theorem dX5_undo_11 : decode cX5_undo 11 = .ok (.getfield 25, 3) := by decide +kernel
theorem dX5_undo_14 : decode cX5_undo 14 = .ok (.iload_n 1, 1) := by decide +kernel
theorem dX5_undo_15 : decode cX5_undo 15 = .ok (.iaload, 1) := by decide +kernel
theorem dX5_undo_16 : decode cX5_undo 16 = .ok (.ifCond .ne 6, 3) := by decide +kernel
theorem dX5_undo_19 : decode cX5_undo 19 = .ok (.bipush (-3), 2) := by decide +kernel
theorem dX5_undo_21 : decode cX5_undo 21 = .ok (.ireturn, 1) := by decide +kernel
theorem dX5_undo_22 : decode cX5_undo 22 = .ok (.aload_n 0, 1) := by decide +kernel
theorem dX5_undo_23 : decode cX5_undo 23 = .ok (.getfield 25, 3) := by decide +kernel
theorem dX5_undo_26 : decode cX5_undo 26 = .ok (.iload_n 1, 1) := by decide +kernel
theorem dX5_undo_27 : decode cX5_undo 27 = .ok (.dup2, 1) := by decide +kernel
theorem dX5_undo_28 : decode cX5_undo 28 = .ok (.iaload, 1) := by decide +kernel
theorem dX5_undo_29 : decode cX5_undo 29 = .ok (.iconst 1, 1) := by decide +kernel
theorem dX5_undo_30 : decode cX5_undo 30 = .ok (.isub, 1) := by decide +kernel
theorem dX5_undo_31 : decode cX5_undo 31 = .ok (.iastore, 1) := by decide +kernel
theorem dX5_undo_32 : decode cX5_undo 32 = .ok (.aload_n 0, 1) := by decide +kernel
theorem dX5_undo_33 : decode cX5_undo 33 = .ok (.getfield 25, 3) := by decide +kernel
theorem dX5_undo_36 : decode cX5_undo 36 = .ok (.iload_n 1, 1) := by decide +kernel
theorem dX5_undo_37 : decode cX5_undo 37 = .ok (.iaload, 1) := by decide +kernel
theorem dX5_undo_38 : decode cX5_undo 38 = .ok (.ireturn, 1) := by decide +kernel
theorem dX5_shapeOf_0 : decode cX5_shapeOf 0 = .ok (.iload_n 0, 1) := by decide +kernel
theorem dX5_shapeOf_1 : decode cX5_shapeOf 1 = .ok (.bipush 115, 2) := by decide +kernel
theorem dX5_shapeOf_3 : decode cX5_shapeOf 3 = .ok (.if_icmp .ne 7, 3) := by decide +kernel
theorem dX5_shapeOf_6 : decode cX5_shapeOf 6 = .ok (.iconst 0, 1) := by decide +kernel
theorem dX5_shapeOf_7 : decode cX5_shapeOf 7 = .ok (.goto 24, 3) := by decide +kernel
theorem dX5_shapeOf_10 : decode cX5_shapeOf 10 = .ok (.iload_n 0, 1) := by decide +kernel
theorem dX5_shapeOf_11 : decode cX5_shapeOf 11 = .ok (.bipush 100, 2) := by decide +kernel
theorem dX5_shapeOf_13 : decode cX5_shapeOf 13 = .ok (.if_icmp .ne 7, 3) := by decide +kernel
theorem dX5_shapeOf_16 : decode cX5_shapeOf 16 = .ok (.iconst 1, 1) := by decide +kernel
theorem dX5_shapeOf_17 : decode cX5_shapeOf 17 = .ok (.goto 14, 3) := by decide +kernel
theorem dX5_shapeOf_20 : decode cX5_shapeOf 20 = .ok (.iload_n 0, 1) := by decide +kernel
theorem dX5_shapeOf_21 : decode cX5_shapeOf 21 = .ok (.bipush 114, 2) := by decide +kernel
theorem dX5_shapeOf_23 : decode cX5_shapeOf 23 = .ok (.if_icmp .ne 7, 3) := by decide +kernel
theorem dX5_shapeOf_26 : decode cX5_shapeOf 26 = .ok (.iconst 2, 1) := by decide +kernel
theorem dX5_shapeOf_27 : decode cX5_shapeOf 27 = .ok (.goto 4, 3) := by decide +kernel
theorem dX5_shapeOf_30 : decode cX5_shapeOf 30 = .ok (.iconst (-1), 1) := by decide +kernel
theorem dX5_shapeOf_31 : decode cX5_shapeOf 31 = .ok (.ireturn, 1) := by decide +kernel
theorem dX5_lieOf_0 : decode cX5_lieOf 0 = .ok (.iload_n 0, 1) := by decide +kernel
theorem dX5_lieOf_1 : decode cX5_lieOf 1 = .ok (.bipush 110, 2) := by decide +kernel
theorem dX5_lieOf_3 : decode cX5_lieOf 3 = .ok (.if_icmp .ne 7, 3) := by decide +kernel
theorem dX5_lieOf_6 : decode cX5_lieOf 6 = .ok (.iconst 0, 1) := by decide +kernel
theorem dX5_lieOf_7 : decode cX5_lieOf 7 = .ok (.goto 34, 3) := by decide +kernel
theorem dX5_lieOf_10 : decode cX5_lieOf 10 = .ok (.iload_n 0, 1) := by decide +kernel
theorem dX5_lieOf_11 : decode cX5_lieOf 11 = .ok (.bipush 111, 2) := by decide +kernel
theorem dX5_lieOf_13 : decode cX5_lieOf 13 = .ok (.if_icmp .ne 7, 3) := by decide +kernel
theorem dX5_lieOf_16 : decode cX5_lieOf 16 = .ok (.iconst 1, 1) := by decide +kernel
theorem dX5_lieOf_17 : decode cX5_lieOf 17 = .ok (.goto 24, 3) := by decide +kernel
theorem dX5_lieOf_20 : decode cX5_lieOf 20 = .ok (.iload_n 0, 1) := by decide +kernel
theorem dX5_lieOf_21 : decode cX5_lieOf 21 = .ok (.bipush 102, 2) := by decide +kernel
theorem dX5_lieOf_23 : decode cX5_lieOf 23 = .ok (.if_icmp .ne 7, 3) := by decide +kernel
theorem dX5_lieOf_26 : decode cX5_lieOf 26 = .ok (.iconst 2, 1) := by decide +kernel
theorem dX5_lieOf_27 : decode cX5_lieOf 27 = .ok (.goto 14, 3) := by decide +kernel
theorem dX5_lieOf_30 : decode cX5_lieOf 30 = .ok (.iload_n 0, 1) := by decide +kernel
theorem dX5_lieOf_31 : decode cX5_lieOf 31 = .ok (.bipush 98, 2) := by decide +kernel
theorem dX5_lieOf_33 : decode cX5_lieOf 33 = .ok (.if_icmp .ne 7, 3) := by decide +kernel
theorem dX5_lieOf_36 : decode cX5_lieOf 36 = .ok (.iconst 3, 1) := by decide +kernel
theorem dX5_lieOf_37 : decode cX5_lieOf 37 = .ok (.goto 4, 3) := by decide +kernel
theorem dX5_lieOf_40 : decode cX5_lieOf 40 = .ok (.iconst (-1), 1) := by decide +kernel
theorem dX5_lieOf_41 : decode cX5_lieOf 41 = .ok (.ireturn, 1) := by decide +kernel
theorem dX5_within_0 : decode cX5_within 0 = .ok (.iload_n 0, 1) := by decide +kernel
theorem dX5_within_1 : decode cX5_within 1 = .ok (.i2l, 1) := by decide +kernel
theorem dX5_within_2 : decode cX5_within 2 = .ok (.iload_n 1, 1) := by decide +kernel
theorem dX5_within_3 : decode cX5_within 3 = .ok (.i2l, 1) := by decide +kernel
theorem dX5_within_4 : decode cX5_within 4 = .ok (.iload_n 2, 1) := by decide +kernel
theorem dX5_within_5 : decode cX5_within 5 = .ok (.i2l, 1) := by decide +kernel
theorem dX5_within_6 : decode cX5_within 6 = .ok (.invokestatic 61, 3) := by decide +kernel
theorem dX5_within_9 : decode cX5_within 9 = .ok (.ifCond .eq 9, 3) := by decide +kernel
theorem dX5_within_12 : decode cX5_within 12 = .ok (.iload_n 0, 1) := by decide +kernel
theorem dX5_within_13 : decode cX5_within 13 = .ok (.iload_n 1, 1) := by decide +kernel
theorem dX5_within_14 : decode cX5_within 14 = .ok (.isub, 1) := by decide +kernel
theorem dX5_within_15 : decode cX5_within 15 = .ok (.goto 4, 3) := by decide +kernel
theorem dX5_within_18 : decode cX5_within 18 = .ok (.iconst (-1), 1) := by decide +kernel
theorem dX5_within_19 : decode cX5_within 19 = .ok (.ireturn, 1) := by decide +kernel
theorem dX5_tellsOf_0 : decode cX5_tellsOf 0 = .ok (.iload_n 0, 1) := by decide +kernel
theorem dX5_tellsOf_1 : decode cX5_tellsOf 1 = .ok (.ifCond .ne 39, 3) := by decide +kernel
theorem dX5_tellsOf_4 : decode cX5_tellsOf 4 = .ok (.iload_n 1, 1) := by decide +kernel
theorem dX5_tellsOf_5 : decode cX5_tellsOf 5 = .ok (.ifCond .ne 14, 3) := by decide +kernel
theorem dX5_tellsOf_8 : decode cX5_tellsOf 8 = .ok (.iload_n 2, 1) := by decide +kernel
theorem dX5_tellsOf_9 : decode cX5_tellsOf 9 = .ok (.bipush 97, 2) := by decide +kernel
theorem dX5_tellsOf_11 : decode cX5_tellsOf 11 = .ok (.bipush 102, 2) := by decide +kernel
theorem dX5_tellsOf_13 : decode cX5_tellsOf 13 = .ok (.invokestatic 94, 3) := by decide +kernel
theorem dX5_tellsOf_16 : decode cX5_tellsOf 16 = .ok (.goto 23, 3) := by decide +kernel
theorem dX5_tellsOf_19 : decode cX5_tellsOf 19 = .ok (.iload_n 1, 1) := by decide +kernel
theorem dX5_tellsOf_20 : decode cX5_tellsOf 20 = .ok (.iconst 1, 1) := by decide +kernel
theorem dX5_tellsOf_21 : decode cX5_tellsOf 21 = .ok (.if_icmp .ne 14, 3) := by decide +kernel
theorem dX5_tellsOf_24 : decode cX5_tellsOf 24 = .ok (.iload_n 2, 1) := by decide +kernel
theorem dX5_tellsOf_25 : decode cX5_tellsOf 25 = .ok (.bipush 49, 2) := by decide +kernel
theorem dX5_tellsOf_27 : decode cX5_tellsOf 27 = .ok (.bipush 54, 2) := by decide +kernel
theorem dX5_tellsOf_29 : decode cX5_tellsOf 29 = .ok (.invokestatic 94, 3) := by decide +kernel
theorem dX5_tellsOf_32 : decode cX5_tellsOf 32 = .ok (.goto 7, 3) := by decide +kernel
theorem dX5_tellsOf_35 : decode cX5_tellsOf 35 = .ok (.iload_n 2, 1) := by decide +kernel
theorem dX5_tellsOf_36 : decode cX5_tellsOf 36 = .ok (.invokestatic 97, 3) := by decide +kernel
theorem dX5_tellsOf_39 : decode cX5_tellsOf 39 = .ok (.ireturn, 1) := by decide +kernel
theorem dX5_tellsOf_40 : decode cX5_tellsOf 40 = .ok (.iload_n 1, 1) := by decide +kernel
theorem dX5_tellsOf_41 : decode cX5_tellsOf 41 = .ok (.tableswitch 63 0 3 #[31, 36, 31, 41], 31) := by decide +kernel
theorem dX5_tellsOf_72 : decode cX5_tellsOf 72 = .ok (.iload_n 2, 1) := by decide +kernel
theorem dX5_tellsOf_73 : decode cX5_tellsOf 73 = .ok (.invokestatic 97, 3) := by decide +kernel
theorem dX5_tellsOf_76 : decode cX5_tellsOf 76 = .ok (.ireturn, 1) := by decide +kernel
theorem dX5_tellsOf_77 : decode cX5_tellsOf 77 = .ok (.iload_n 2, 1) := by decide +kernel
theorem dX5_tellsOf_78 : decode cX5_tellsOf 78 = .ok (.invokestatic 100, 3) := by decide +kernel
theorem dX5_tellsOf_81 : decode cX5_tellsOf 81 = .ok (.ireturn, 1) := by decide +kernel
theorem dX5_tellsOf_82 : decode cX5_tellsOf 82 = .ok (.iload_n 2, 1) := by decide +kernel
theorem dX5_tellsOf_83 : decode cX5_tellsOf 83 = .ok (.bipush 43, 2) := by decide +kernel
theorem dX5_tellsOf_85 : decode cX5_tellsOf 85 = .ok (.if_icmp .ne 7, 3) := by decide +kernel
theorem dX5_tellsOf_88 : decode cX5_tellsOf 88 = .ok (.iconst 1, 1) := by decide +kernel
theorem dX5_tellsOf_89 : decode cX5_tellsOf 89 = .ok (.goto 14, 3) := by decide +kernel
theorem dX5_tellsOf_92 : decode cX5_tellsOf 92 = .ok (.iload_n 2, 1) := by decide +kernel
theorem dX5_tellsOf_93 : decode cX5_tellsOf 93 = .ok (.bipush 45, 2) := by decide +kernel
theorem dX5_tellsOf_95 : decode cX5_tellsOf 95 = .ok (.if_icmp .ne 7, 3) := by decide +kernel
theorem dX5_tellsOf_98 : decode cX5_tellsOf 98 = .ok (.iconst 0, 1) := by decide +kernel
theorem dX5_tellsOf_99 : decode cX5_tellsOf 99 = .ok (.goto 4, 3) := by decide +kernel
theorem dX5_tellsOf_102 : decode cX5_tellsOf 102 = .ok (.iconst (-1), 1) := by decide +kernel
theorem dX5_tellsOf_103 : decode cX5_tellsOf 103 = .ok (.ireturn, 1) := by decide +kernel
theorem dX5_tellsOf_104 : decode cX5_tellsOf 104 = .ok (.iload_n 2, 1) := by decide +kernel
theorem dX5_tellsOf_105 : decode cX5_tellsOf 105 = .ok (.bipush 65, 2) := by decide +kernel
theorem dX5_tellsOf_107 : decode cX5_tellsOf 107 = .ok (.bipush 72, 2) := by decide +kernel
theorem dX5_tellsOf_109 : decode cX5_tellsOf 109 = .ok (.invokestatic 94, 3) := by decide +kernel
theorem dX5_tellsOf_112 : decode cX5_tellsOf 112 = .ok (.ireturn, 1) := by decide +kernel
theorem dX5_readsThing_0 : decode cX5_readsThing 0 = .ok (.iload_n 1, 1) := by decide +kernel
theorem dX5_readsThing_1 : decode cX5_readsThing 1 = .ok (.ifCond .ne 7, 3) := by decide +kernel
theorem dX5_readsThing_4 : decode cX5_readsThing 4 = .ok (.iconst 3, 1) := by decide +kernel
theorem dX5_readsThing_5 : decode cX5_readsThing 5 = .ok (.goto 4, 3) := by decide +kernel
theorem dX5_readsThing_8 : decode cX5_readsThing 8 = .ok (.iconst 5, 1) := by decide +kernel
theorem dX5_readsThing_9 : decode cX5_readsThing 9 = .ok (.istore_n 2, 1) := by decide +kernel
theorem dX5_readsThing_10 : decode cX5_readsThing 10 = .ok (.iload_n 1, 1) := by decide +kernel
theorem dX5_readsThing_11 : decode cX5_readsThing 11 = .ok (.ifCond .ne 15, 3) := by decide +kernel
theorem dX5_readsThing_14 : decode cX5_readsThing 14 = .ok (.aload_n 0, 1) := by decide +kernel
theorem dX5_readsThing_15 : decode cX5_readsThing 15 = .ok (.getfield 103, 3) := by decide +kernel
theorem dX5_readsThing_18 : decode cX5_readsThing 18 = .ok (.bipush 12, 2) := by decide +kernel
theorem dX5_readsThing_20 : decode cX5_readsThing 20 = .ok (.if_icmp .ne 17, 3) := by decide +kernel
theorem dX5_readsThing_23 : decode cX5_readsThing 23 = .ok (.goto 12, 3) := by decide +kernel
theorem dX5_readsThing_26 : decode cX5_readsThing 26 = .ok (.aload_n 0, 1) := by decide +kernel
theorem dX5_readsThing_27 : decode cX5_readsThing 27 = .ok (.getfield 106, 3) := by decide +kernel
theorem dX5_readsThing_30 : decode cX5_readsThing 30 = .ok (.bipush 10, 2) := by decide +kernel
theorem dX5_readsThing_32 : decode cX5_readsThing 32 = .ok (.if_icmp .ne 5, 3) := by decide +kernel
theorem dX5_readsThing_35 : decode cX5_readsThing 35 = .ok (.iconst 0, 1) := by decide +kernel
theorem dX5_readsThing_36 : decode cX5_readsThing 36 = .ok (.ireturn, 1) := by decide +kernel
theorem dX5_readsThing_37 : decode cX5_readsThing 37 = .ok (.iconst 0, 1) := by decide +kernel
theorem dX5_readsThing_38 : decode cX5_readsThing 38 = .ok (.istore_n 3, 1) := by decide +kernel
theorem dX5_readsThing_39 : decode cX5_readsThing 39 = .ok (.iload_n 3, 1) := by decide +kernel
theorem dX5_readsThing_40 : decode cX5_readsThing 40 = .ok (.iload_n 2, 1) := by decide +kernel
theorem dX5_readsThing_41 : decode cX5_readsThing 41 = .ok (.if_icmp .ge 102, 3) := by decide +kernel
theorem dX5_readsThing_44 : decode cX5_readsThing 44 = .ok (.aload_n 0, 1) := by decide +kernel
theorem dX5_readsThing_45 : decode cX5_readsThing 45 = .ok (.getfield 109, 3) := by decide +kernel
theorem dX5_readsThing_48 : decode cX5_readsThing 48 = .ok (.aload_n 0, 1) := by decide +kernel
theorem dX5_readsThing_49 : decode cX5_readsThing 49 = .ok (.getfield 25, 3) := by decide +kernel
theorem dX5_readsThing_52 : decode cX5_readsThing 52 = .ok (.iload_n 1, 1) := by decide +kernel
theorem dX5_readsThing_53 : decode cX5_readsThing 53 = .ok (.iaload, 1) := by decide +kernel
theorem dX5_readsThing_54 : decode cX5_readsThing 54 = .ok (.if_icmp .ge 25, 3) := by decide +kernel
theorem dX5_readsThing_57 : decode cX5_readsThing 57 = .ok (.iload_n 1, 1) := by decide +kernel
theorem dX5_readsThing_58 : decode cX5_readsThing 58 = .ok (.iload_n 3, 1) := by decide +kernel
theorem dX5_readsThing_59 : decode cX5_readsThing 59 = .ok (.aload_n 0, 1) := by decide +kernel
theorem dX5_readsThing_60 : decode cX5_readsThing 60 = .ok (.getfield 22, 3) := by decide +kernel
theorem dX5_readsThing_63 : decode cX5_readsThing 63 = .ok (.bipush 60, 2) := by decide +kernel
theorem dX5_readsThing_65 : decode cX5_readsThing 65 = .ok (.iload_n 1, 1) := by decide +kernel
theorem dX5_readsThing_66 : decode cX5_readsThing 66 = .ok (.imul, 1) := by decide +kernel
theorem dX5_readsThing_67 : decode cX5_readsThing 67 = .ok (.aload_n 0, 1) := by decide +kernel
theorem dX5_readsThing_68 : decode cX5_readsThing 68 = .ok (.getfield 109, 3) := by decide +kernel
theorem dX5_readsThing_71 : decode cX5_readsThing 71 = .ok (.iadd, 1) := by decide +kernel
theorem dX5_readsThing_72 : decode cX5_readsThing 72 = .ok (.iaload, 1) := by decide +kernel
theorem dX5_readsThing_73 : decode cX5_readsThing 73 = .ok (.invokestatic 112, 3) := by decide +kernel
theorem dX5_readsThing_76 : decode cX5_readsThing 76 = .ok (.goto 4, 3) := by decide +kernel
theorem dX5_readsThing_79 : decode cX5_readsThing 79 = .ok (.iconst (-1), 1) := by decide +kernel
theorem dX5_readsThing_80 : decode cX5_readsThing 80 = .ok (.istore 4, 2) := by decide +kernel
theorem dX5_readsThing_82 : decode cX5_readsThing 82 = .ok (.iload 4, 2) := by decide +kernel
theorem dX5_readsThing_84 : decode cX5_readsThing 84 = .ok (.iconst (-1), 1) := by decide +kernel
theorem dX5_readsThing_85 : decode cX5_readsThing 85 = .ok (.if_icmp .ne 5, 3) := by decide +kernel
theorem dX5_readsThing_88 : decode cX5_readsThing 88 = .ok (.iconst 0, 1) := by decide +kernel
theorem dX5_readsThing_89 : decode cX5_readsThing 89 = .ok (.ireturn, 1) := by decide +kernel
theorem dX5_readsThing_90 : decode cX5_readsThing 90 = .ok (.iload_n 1, 1) := by decide +kernel
theorem dX5_readsThing_91 : decode cX5_readsThing 91 = .ok (.ifCond .ne 21, 3) := by decide +kernel
theorem dX5_readsThing_94 : decode cX5_readsThing 94 = .ok (.aload_n 0, 1) := by decide +kernel
theorem dX5_readsThing_95 : decode cX5_readsThing 95 = .ok (.getfield 28, 3) := by decide +kernel
theorem dX5_readsThing_98 : decode cX5_readsThing 98 = .ok (.iconst 3, 1) := by decide +kernel
theorem dX5_readsThing_99 : decode cX5_readsThing 99 = .ok (.aload_n 0, 1) := by decide +kernel
theorem dX5_readsThing_100 : decode cX5_readsThing 100 = .ok (.getfield 103, 3) := by decide +kernel
theorem dX5_readsThing_103 : decode cX5_readsThing 103 = .ok (.imul, 1) := by decide +kernel
theorem dX5_readsThing_104 : decode cX5_readsThing 104 = .ok (.iload_n 3, 1) := by decide +kernel
theorem dX5_readsThing_105 : decode cX5_readsThing 105 = .ok (.iadd, 1) := by decide +kernel
theorem dX5_readsThing_106 : decode cX5_readsThing 106 = .ok (.iload 4, 2) := by decide +kernel
theorem dX5_readsThing_108 : decode cX5_readsThing 108 = .ok (.iastore, 1) := by decide +kernel
theorem dX5_readsThing_109 : decode cX5_readsThing 109 = .ok (.goto 18, 3) := by decide +kernel
theorem dX5_readsThing_112 : decode cX5_readsThing 112 = .ok (.aload_n 0, 1) := by decide +kernel
theorem dX5_readsThing_113 : decode cX5_readsThing 113 = .ok (.getfield 31, 3) := by decide +kernel
theorem dX5_readsThing_116 : decode cX5_readsThing 116 = .ok (.iconst 5, 1) := by decide +kernel
theorem dX5_readsThing_117 : decode cX5_readsThing 117 = .ok (.aload_n 0, 1) := by decide +kernel
theorem dX5_readsThing_118 : decode cX5_readsThing 118 = .ok (.getfield 106, 3) := by decide +kernel
theorem dX5_readsThing_121 : decode cX5_readsThing 121 = .ok (.imul, 1) := by decide +kernel
theorem dX5_readsThing_122 : decode cX5_readsThing 122 = .ok (.iload_n 3, 1) := by decide +kernel
theorem dX5_readsThing_123 : decode cX5_readsThing 123 = .ok (.iadd, 1) := by decide +kernel
theorem dX5_readsThing_124 : decode cX5_readsThing 124 = .ok (.iload 4, 2) := by decide +kernel
theorem dX5_readsThing_126 : decode cX5_readsThing 126 = .ok (.iastore, 1) := by decide +kernel
theorem dX5_readsThing_127 : decode cX5_readsThing 127 = .ok (.aload_n 0, 1) := by decide +kernel
theorem dX5_readsThing_128 : decode cX5_readsThing 128 = .ok (.dup, 1) := by decide +kernel
theorem dX5_readsThing_129 : decode cX5_readsThing 129 = .ok (.getfield 109, 3) := by decide +kernel
theorem dX5_readsThing_132 : decode cX5_readsThing 132 = .ok (.iconst 1, 1) := by decide +kernel
theorem dX5_readsThing_133 : decode cX5_readsThing 133 = .ok (.iadd, 1) := by decide +kernel
theorem dX5_readsThing_134 : decode cX5_readsThing 134 = .ok (.putfield 109, 3) := by decide +kernel
theorem dX5_readsThing_137 : decode cX5_readsThing 137 = .ok (.iinc 3 1, 3) := by decide +kernel
theorem dX5_readsThing_140 : decode cX5_readsThing 140 = .ok (.goto (-101), 3) := by decide +kernel
theorem dX5_readsThing_143 : decode cX5_readsThing 143 = .ok (.aload_n 0, 1) := by decide +kernel
theorem dX5_readsThing_144 : decode cX5_readsThing 144 = .ok (.dup, 1) := by decide +kernel
theorem dX5_readsThing_145 : decode cX5_readsThing 145 = .ok (.getfield 103, 3) := by decide +kernel
theorem dX5_readsThing_148 : decode cX5_readsThing 148 = .ok (.iload_n 1, 1) := by decide +kernel
theorem dX5_readsThing_149 : decode cX5_readsThing 149 = .ok (.ifCond .ne 7, 3) := by decide +kernel
theorem dX5_readsThing_152 : decode cX5_readsThing 152 = .ok (.iconst 1, 1) := by decide +kernel
theorem dX5_readsThing_153 : decode cX5_readsThing 153 = .ok (.goto 4, 3) := by decide +kernel
theorem dX5_readsThing_156 : decode cX5_readsThing 156 = .ok (.iconst 0, 1) := by decide +kernel
theorem dX5_readsThing_157 : decode cX5_readsThing 157 = .ok (.iadd, 1) := by decide +kernel
theorem dX5_readsThing_158 : decode cX5_readsThing 158 = .ok (.putfield 103, 3) := by decide +kernel
theorem dX5_readsThing_161 : decode cX5_readsThing 161 = .ok (.aload_n 0, 1) := by decide +kernel
theorem dX5_readsThing_162 : decode cX5_readsThing 162 = .ok (.dup, 1) := by decide +kernel
theorem dX5_readsThing_163 : decode cX5_readsThing 163 = .ok (.getfield 106, 3) := by decide +kernel
theorem dX5_readsThing_166 : decode cX5_readsThing 166 = .ok (.iload_n 1, 1) := by decide +kernel
theorem dX5_readsThing_167 : decode cX5_readsThing 167 = .ok (.iadd, 1) := by decide +kernel
theorem dX5_readsThing_168 : decode cX5_readsThing 168 = .ok (.putfield 106, 3) := by decide +kernel
theorem dX5_readsThing_171 : decode cX5_readsThing 171 = .ok (.iconst 1, 1) := by decide +kernel
theorem dX5_readsThing_172 : decode cX5_readsThing 172 = .ok (.ireturn, 1) := by decide +kernel
theorem dX5_empty_0 : decode cX5_empty 0 = .ok (.aload_n 0, 1) := by decide +kernel
theorem dX5_empty_1 : decode cX5_empty 1 = .ok (.iload_n 1, 1) := by decide +kernel
theorem dX5_empty_2 : decode cX5_empty 2 = .ok (.ifCond .ne 7, 3) := by decide +kernel
theorem dX5_empty_5 : decode cX5_empty 5 = .ok (.iconst 0, 1) := by decide +kernel
theorem dX5_empty_6 : decode cX5_empty 6 = .ok (.goto 7, 3) := by decide +kernel
theorem dX5_empty_9 : decode cX5_empty 9 = .ok (.aload_n 0, 1) := by decide +kernel
theorem dX5_empty_10 : decode cX5_empty 10 = .ok (.getfield 103, 3) := by decide +kernel
theorem dX5_empty_13 : decode cX5_empty 13 = .ok (.putfield 103, 3) := by decide +kernel
theorem dX5_empty_16 : decode cX5_empty 16 = .ok (.aload_n 0, 1) := by decide +kernel
theorem dX5_empty_17 : decode cX5_empty 17 = .ok (.iload_n 1, 1) := by decide +kernel
theorem dX5_empty_18 : decode cX5_empty 18 = .ok (.iconst 1, 1) := by decide +kernel
theorem dX5_empty_19 : decode cX5_empty 19 = .ok (.if_icmp .ne 7, 3) := by decide +kernel
theorem dX5_empty_22 : decode cX5_empty 22 = .ok (.iconst 0, 1) := by decide +kernel
theorem dX5_empty_23 : decode cX5_empty 23 = .ok (.goto 7, 3) := by decide +kernel
theorem dX5_empty_26 : decode cX5_empty 26 = .ok (.aload_n 0, 1) := by decide +kernel
theorem dX5_empty_27 : decode cX5_empty 27 = .ok (.getfield 106, 3) := by decide +kernel
theorem dX5_empty_30 : decode cX5_empty 30 = .ok (.putfield 106, 3) := by decide +kernel
theorem dX5_empty_33 : decode cX5_empty 33 = .ok (.return_, 1) := by decide +kernel
theorem dX5_readsText_0 : decode cX5_readsText 0 = .ok (.aload_n 0, 1) := by decide +kernel
theorem dX5_readsText_1 : decode cX5_readsText 1 = .ok (.iconst 0, 1) := by decide +kernel
theorem dX5_readsText_2 : decode cX5_readsText 2 = .ok (.putfield 109, 3) := by decide +kernel
theorem dX5_readsText_5 : decode cX5_readsText 5 = .ok (.aload_n 0, 1) := by decide +kernel
theorem dX5_readsText_6 : decode cX5_readsText 6 = .ok (.iload_n 1, 1) := by decide +kernel
theorem dX5_readsText_7 : decode cX5_readsText 7 = .ok (.invokevirtual 115, 3) := by decide +kernel
theorem dX5_readsText_10 : decode cX5_readsText 10 = .ok (.aload_n 0, 1) := by decide +kernel
theorem dX5_readsText_11 : decode cX5_readsText 11 = .ok (.getfield 25, 3) := by decide +kernel
theorem dX5_readsText_14 : decode cX5_readsText 14 = .ok (.iload_n 1, 1) := by decide +kernel
theorem dX5_readsText_15 : decode cX5_readsText 15 = .ok (.iaload, 1) := by decide +kernel
theorem dX5_readsText_16 : decode cX5_readsText 16 = .ok (.ifCond .le 7, 3) := by decide +kernel
theorem dX5_readsText_19 : decode cX5_readsText 19 = .ok (.iconst 1, 1) := by decide +kernel
theorem dX5_readsText_20 : decode cX5_readsText 20 = .ok (.goto 4, 3) := by decide +kernel
theorem dX5_readsText_23 : decode cX5_readsText 23 = .ok (.iconst 0, 1) := by decide +kernel
theorem dX5_readsText_24 : decode cX5_readsText 24 = .ok (.istore_n 2, 1) := by decide +kernel
theorem dX5_readsText_25 : decode cX5_readsText 25 = .ok (.iload_n 2, 1) := by decide +kernel
theorem dX5_readsText_26 : decode cX5_readsText 26 = .ok (.ifCond .eq 90, 3) := by decide +kernel
theorem dX5_readsText_29 : decode cX5_readsText 29 = .ok (.aload_n 0, 1) := by decide +kernel
theorem dX5_readsText_30 : decode cX5_readsText 30 = .ok (.iload_n 1, 1) := by decide +kernel
theorem dX5_readsText_31 : decode cX5_readsText 31 = .ok (.invokevirtual 119, 3) := by decide +kernel
theorem dX5_readsText_34 : decode cX5_readsText 34 = .ok (.istore_n 3, 1) := by decide +kernel
theorem dX5_readsText_35 : decode cX5_readsText 35 = .ok (.iload_n 3, 1) := by decide +kernel
theorem dX5_readsText_36 : decode cX5_readsText 36 = .ok (.ifCond .eq 20, 3) := by decide +kernel
theorem dX5_readsText_39 : decode cX5_readsText 39 = .ok (.aload_n 0, 1) := by decide +kernel
theorem dX5_readsText_40 : decode cX5_readsText 40 = .ok (.getfield 109, 3) := by decide +kernel
theorem dX5_readsText_43 : decode cX5_readsText 43 = .ok (.aload_n 0, 1) := by decide +kernel
theorem dX5_readsText_44 : decode cX5_readsText 44 = .ok (.getfield 25, 3) := by decide +kernel
theorem dX5_readsText_47 : decode cX5_readsText 47 = .ok (.iload_n 1, 1) := by decide +kernel
theorem dX5_readsText_48 : decode cX5_readsText 48 = .ok (.iaload, 1) := by decide +kernel
theorem dX5_readsText_49 : decode cX5_readsText 49 = .ok (.if_icmp .ge 7, 3) := by decide +kernel
theorem dX5_readsText_52 : decode cX5_readsText 52 = .ok (.iconst 1, 1) := by decide +kernel
theorem dX5_readsText_53 : decode cX5_readsText 53 = .ok (.goto 4, 3) := by decide +kernel
theorem dX5_readsText_56 : decode cX5_readsText 56 = .ok (.iconst 0, 1) := by decide +kernel
theorem dX5_readsText_57 : decode cX5_readsText 57 = .ok (.istore_n 2, 1) := by decide +kernel
theorem dX5_readsText_58 : decode cX5_readsText 58 = .ok (.iload_n 3, 1) := by decide +kernel
theorem dX5_readsText_59 : decode cX5_readsText 59 = .ok (.ifCond .eq 26, 3) := by decide +kernel
theorem dX5_readsText_62 : decode cX5_readsText 62 = .ok (.iload_n 2, 1) := by decide +kernel
theorem dX5_readsText_63 : decode cX5_readsText 63 = .ok (.ifCond .eq 32, 3) := by decide +kernel
theorem dX5_readsText_66 : decode cX5_readsText 66 = .ok (.aload_n 0, 1) := by decide +kernel
theorem dX5_readsText_67 : decode cX5_readsText 67 = .ok (.getfield 22, 3) := by decide +kernel
theorem dX5_readsText_70 : decode cX5_readsText 70 = .ok (.bipush 60, 2) := by decide +kernel
theorem dX5_readsText_72 : decode cX5_readsText 72 = .ok (.iload_n 1, 1) := by decide +kernel
theorem dX5_readsText_73 : decode cX5_readsText 73 = .ok (.imul, 1) := by decide +kernel
theorem dX5_readsText_74 : decode cX5_readsText 74 = .ok (.aload_n 0, 1) := by decide +kernel
theorem dX5_readsText_75 : decode cX5_readsText 75 = .ok (.getfield 109, 3) := by decide +kernel
theorem dX5_readsText_78 : decode cX5_readsText 78 = .ok (.iadd, 1) := by decide +kernel
theorem dX5_readsText_79 : decode cX5_readsText 79 = .ok (.iaload, 1) := by decide +kernel
theorem dX5_readsText_80 : decode cX5_readsText 80 = .ok (.bipush 59, 2) := by decide +kernel
theorem dX5_readsText_82 : decode cX5_readsText 82 = .ok (.if_icmp .eq 13, 3) := by decide +kernel
theorem dX5_readsText_85 : decode cX5_readsText 85 = .ok (.aload_n 0, 1) := by decide +kernel
theorem dX5_readsText_86 : decode cX5_readsText 86 = .ok (.iload_n 1, 1) := by decide +kernel
theorem dX5_readsText_87 : decode cX5_readsText 87 = .ok (.invokevirtual 115, 3) := by decide +kernel
theorem dX5_readsText_90 : decode cX5_readsText 90 = .ok (.aload_n 0, 1) := by decide +kernel
theorem dX5_readsText_91 : decode cX5_readsText 91 = .ok (.getfield 109, 3) := by decide +kernel
theorem dX5_readsText_94 : decode cX5_readsText 94 = .ok (.ireturn, 1) := by decide +kernel
theorem dX5_readsText_95 : decode cX5_readsText 95 = .ok (.aload_n 0, 1) := by decide +kernel
theorem dX5_readsText_96 : decode cX5_readsText 96 = .ok (.dup, 1) := by decide +kernel
theorem dX5_readsText_97 : decode cX5_readsText 97 = .ok (.getfield 109, 3) := by decide +kernel
theorem dX5_readsText_100 : decode cX5_readsText 100 = .ok (.iload_n 2, 1) := by decide +kernel
theorem dX5_readsText_101 : decode cX5_readsText 101 = .ok (.ifCond .eq 7, 3) := by decide +kernel
theorem dX5_readsText_104 : decode cX5_readsText 104 = .ok (.iconst 1, 1) := by decide +kernel
theorem dX5_readsText_105 : decode cX5_readsText 105 = .ok (.goto 4, 3) := by decide +kernel
theorem dX5_readsText_108 : decode cX5_readsText 108 = .ok (.iconst 0, 1) := by decide +kernel
theorem dX5_readsText_109 : decode cX5_readsText 109 = .ok (.iadd, 1) := by decide +kernel
theorem dX5_readsText_110 : decode cX5_readsText 110 = .ok (.putfield 109, 3) := by decide +kernel
theorem dX5_readsText_113 : decode cX5_readsText 113 = .ok (.goto (-88), 3) := by decide +kernel
theorem dX5_readsText_116 : decode cX5_readsText 116 = .ok (.iconst (-1), 1) := by decide +kernel
theorem dX5_readsText_117 : decode cX5_readsText 117 = .ok (.ireturn, 1) := by decide +kernel
theorem dX5_reads_0 : decode cX5_reads 0 = .ok (.aload_n 0, 1) := by decide +kernel
theorem dX5_reads_1 : decode cX5_reads 1 = .ok (.iconst 0, 1) := by decide +kernel
theorem dX5_reads_2 : decode cX5_reads 2 = .ok (.invokevirtual 122, 3) := by decide +kernel
theorem dX5_reads_5 : decode cX5_reads 5 = .ok (.pop, 1) := by decide +kernel
theorem dX5_reads_6 : decode cX5_reads 6 = .ok (.aload_n 0, 1) := by decide +kernel
theorem dX5_reads_7 : decode cX5_reads 7 = .ok (.iconst 1, 1) := by decide +kernel
theorem dX5_reads_8 : decode cX5_reads 8 = .ok (.invokevirtual 122, 3) := by decide +kernel
theorem dX5_reads_11 : decode cX5_reads 11 = .ok (.pop, 1) := by decide +kernel
theorem dX5_reads_12 : decode cX5_reads 12 = .ok (.return_, 1) := by decide +kernel
theorem dX5_fault_0 : decode cX5_fault 0 = .ok (.iload_n 1, 1) := by decide +kernel
theorem dX5_fault_1 : decode cX5_fault 1 = .ok (.invokestatic 89, 3) := by decide +kernel
theorem dX5_fault_4 : decode cX5_fault 4 = .ok (.ifCond .eq 11, 3) := by decide +kernel
theorem dX5_fault_7 : decode cX5_fault 7 = .ok (.aload_n 0, 1) := by decide +kernel
theorem dX5_fault_8 : decode cX5_fault 8 = .ok (.iload_n 1, 1) := by decide +kernel
theorem dX5_fault_9 : decode cX5_fault 9 = .ok (.invokevirtual 122, 3) := by decide +kernel
theorem dX5_fault_12 : decode cX5_fault 12 = .ok (.goto 5, 3) := by decide +kernel
theorem dX5_fault_15 : decode cX5_fault 15 = .ok (.bipush (-2), 2) := by decide +kernel
theorem dX5_fault_17 : decode cX5_fault 17 = .ok (.ireturn, 1) := by decide +kernel
theorem dX5_isLeaf_0 : decode cX5_isLeaf 0 = .ok (.iload_n 1, 1) := by decide +kernel
theorem dX5_isLeaf_1 : decode cX5_isLeaf 1 = .ok (.i2l, 1) := by decide +kernel
theorem dX5_isLeaf_2 : decode cX5_isLeaf 2 = .ok (.lconst 0, 1) := by decide +kernel
theorem dX5_isLeaf_3 : decode cX5_isLeaf 3 = .ok (.aload_n 0, 1) := by decide +kernel
theorem dX5_isLeaf_4 : decode cX5_isLeaf 4 = .ok (.getfield 103, 3) := by decide +kernel
theorem dX5_isLeaf_7 : decode cX5_isLeaf 7 = .ok (.iconst 1, 1) := by decide +kernel
theorem dX5_isLeaf_8 : decode cX5_isLeaf 8 = .ok (.isub, 1) := by decide +kernel
theorem dX5_isLeaf_9 : decode cX5_isLeaf 9 = .ok (.i2l, 1) := by decide +kernel
theorem dX5_isLeaf_10 : decode cX5_isLeaf 10 = .ok (.invokestatic 61, 3) := by decide +kernel
theorem dX5_isLeaf_13 : decode cX5_isLeaf 13 = .ok (.ireturn, 1) := by decide +kernel
theorem dX5_isLaw_0 : decode cX5_isLaw 0 = .ok (.iload_n 0, 1) := by decide +kernel
theorem dX5_isLaw_1 : decode cX5_isLaw 1 = .ok (.i2l, 1) := by decide +kernel
theorem dX5_isLaw_2 : decode cX5_isLaw 2 = .ok (.lconst 0, 1) := by decide +kernel
theorem dX5_isLaw_3 : decode cX5_isLaw 3 = .ok (.ldc2_w 125, 3) := by decide +kernel
theorem dX5_isLaw_6 : decode cX5_isLaw 6 = .ok (.invokestatic 61, 3) := by decide +kernel
theorem dX5_isLaw_9 : decode cX5_isLaw 9 = .ok (.ireturn, 1) := by decide +kernel
theorem dX5_areLaws_0 : decode cX5_areLaws 0 = .ok (.iload_n 0, 1) := by decide +kernel
theorem dX5_areLaws_1 : decode cX5_areLaws 1 = .ok (.i2l, 1) := by decide +kernel
theorem dX5_areLaws_2 : decode cX5_areLaws 2 = .ok (.lconst 0, 1) := by decide +kernel
theorem dX5_areLaws_3 : decode cX5_areLaws 3 = .ok (.ldc2_w 92, 3) := by decide +kernel
theorem dX5_areLaws_6 : decode cX5_areLaws 6 = .ok (.invokestatic 61, 3) := by decide +kernel
theorem dX5_areLaws_9 : decode cX5_areLaws 9 = .ok (.ireturn, 1) := by decide +kernel
theorem dX5_areTurns_0 : decode cX5_areTurns 0 = .ok (.iload_n 0, 1) := by decide +kernel
theorem dX5_areTurns_1 : decode cX5_areTurns 1 = .ok (.i2l, 1) := by decide +kernel
theorem dX5_areTurns_2 : decode cX5_areTurns 2 = .ok (.lconst 0, 1) := by decide +kernel
theorem dX5_areTurns_3 : decode cX5_areTurns 3 = .ok (.ldc2_w 68, 3) := by decide +kernel
theorem dX5_areTurns_6 : decode cX5_areTurns 6 = .ok (.invokestatic 61, 3) := by decide +kernel
theorem dX5_areTurns_9 : decode cX5_areTurns 9 = .ok (.ireturn, 1) := by decide +kernel
theorem dX5_isDay_0 : decode cX5_isDay 0 = .ok (.iload_n 0, 1) := by decide +kernel
theorem dX5_isDay_1 : decode cX5_isDay 1 = .ok (.i2l, 1) := by decide +kernel
theorem dX5_isDay_2 : decode cX5_isDay 2 = .ok (.lconst 0, 1) := by decide +kernel
theorem dX5_isDay_3 : decode cX5_isDay 3 = .ok (.ldc2_w 127, 3) := by decide +kernel
theorem dX5_isDay_6 : decode cX5_isDay 6 = .ok (.invokestatic 61, 3) := by decide +kernel
theorem dX5_isDay_9 : decode cX5_isDay 9 = .ok (.ireturn, 1) := by decide +kernel
theorem dX5_leaf_0 : decode cX5_leaf 0 = .ok (.aload_n 0, 1) := by decide +kernel
theorem dX5_leaf_1 : decode cX5_leaf 1 = .ok (.invokevirtual 129, 3) := by decide +kernel
theorem dX5_leaf_4 : decode cX5_leaf 4 = .ok (.aload_n 0, 1) := by decide +kernel
theorem dX5_leaf_5 : decode cX5_leaf 5 = .ok (.iload_n 1, 1) := by decide +kernel
theorem dX5_leaf_6 : decode cX5_leaf 6 = .ok (.invokevirtual 132, 3) := by decide +kernel
theorem dX5_leaf_9 : decode cX5_leaf 9 = .ok (.ifCond .eq 28, 3) := by decide +kernel
theorem dX5_leaf_12 : decode cX5_leaf 12 = .ok (.iload_n 2, 1) := by decide +kernel
theorem dX5_leaf_13 : decode cX5_leaf 13 = .ok (.i2l, 1) := by decide +kernel
theorem dX5_leaf_14 : decode cX5_leaf 14 = .ok (.lconst 0, 1) := by decide +kernel
theorem dX5_leaf_15 : decode cX5_leaf 15 = .ok (.ldc2_w 74, 3) := by decide +kernel
theorem dX5_leaf_18 : decode cX5_leaf 18 = .ok (.invokestatic 61, 3) := by decide +kernel
theorem dX5_leaf_21 : decode cX5_leaf 21 = .ok (.ifCond .eq 16, 3) := by decide +kernel
theorem dX5_leaf_24 : decode cX5_leaf 24 = .ok (.aload_n 0, 1) := by decide +kernel
theorem dX5_leaf_25 : decode cX5_leaf 25 = .ok (.getfield 28, 3) := by decide +kernel
theorem dX5_leaf_28 : decode cX5_leaf 28 = .ok (.iconst 3, 1) := by decide +kernel
theorem dX5_leaf_29 : decode cX5_leaf 29 = .ok (.iload_n 1, 1) := by decide +kernel
theorem dX5_leaf_30 : decode cX5_leaf 30 = .ok (.imul, 1) := by decide +kernel
theorem dX5_leaf_31 : decode cX5_leaf 31 = .ok (.iload_n 2, 1) := by decide +kernel
theorem dX5_leaf_32 : decode cX5_leaf 32 = .ok (.iadd, 1) := by decide +kernel
theorem dX5_leaf_33 : decode cX5_leaf 33 = .ok (.iaload, 1) := by decide +kernel
theorem dX5_leaf_34 : decode cX5_leaf 34 = .ok (.goto 5, 3) := by decide +kernel
theorem dX5_leaf_37 : decode cX5_leaf 37 = .ok (.bipush (-2), 2) := by decide +kernel
theorem dX5_leaf_39 : decode cX5_leaf 39 = .ok (.ireturn, 1) := by decide +kernel
theorem dX5_rule_0 : decode cX5_rule 0 = .ok (.aload_n 0, 1) := by decide +kernel
theorem dX5_rule_1 : decode cX5_rule 1 = .ok (.invokevirtual 129, 3) := by decide +kernel
theorem dX5_rule_4 : decode cX5_rule 4 = .ok (.iload_n 1, 1) := by decide +kernel
theorem dX5_rule_5 : decode cX5_rule 5 = .ok (.i2l, 1) := by decide +kernel
theorem dX5_rule_6 : decode cX5_rule 6 = .ok (.lconst 0, 1) := by decide +kernel
theorem dX5_rule_7 : decode cX5_rule 7 = .ok (.aload_n 0, 1) := by decide +kernel
theorem dX5_rule_8 : decode cX5_rule 8 = .ok (.getfield 106, 3) := by decide +kernel
theorem dX5_rule_11 : decode cX5_rule 11 = .ok (.iconst 1, 1) := by decide +kernel
theorem dX5_rule_12 : decode cX5_rule 12 = .ok (.isub, 1) := by decide +kernel
theorem dX5_rule_13 : decode cX5_rule 13 = .ok (.i2l, 1) := by decide +kernel
theorem dX5_rule_14 : decode cX5_rule 14 = .ok (.invokestatic 61, 3) := by decide +kernel
theorem dX5_rule_17 : decode cX5_rule 17 = .ok (.ifCond .eq 28, 3) := by decide +kernel
theorem dX5_rule_20 : decode cX5_rule 20 = .ok (.iload_n 2, 1) := by decide +kernel
theorem dX5_rule_21 : decode cX5_rule 21 = .ok (.i2l, 1) := by decide +kernel
theorem dX5_rule_22 : decode cX5_rule 22 = .ok (.lconst 0, 1) := by decide +kernel
theorem dX5_rule_23 : decode cX5_rule 23 = .ok (.ldc2_w 135, 3) := by decide +kernel
theorem dX5_rule_26 : decode cX5_rule 26 = .ok (.invokestatic 61, 3) := by decide +kernel
theorem dX5_rule_29 : decode cX5_rule 29 = .ok (.ifCond .eq 16, 3) := by decide +kernel
theorem dX5_rule_32 : decode cX5_rule 32 = .ok (.aload_n 0, 1) := by decide +kernel
theorem dX5_rule_33 : decode cX5_rule 33 = .ok (.getfield 31, 3) := by decide +kernel
theorem dX5_rule_36 : decode cX5_rule 36 = .ok (.iconst 5, 1) := by decide +kernel
theorem dX5_rule_37 : decode cX5_rule 37 = .ok (.iload_n 1, 1) := by decide +kernel
theorem dX5_rule_38 : decode cX5_rule 38 = .ok (.imul, 1) := by decide +kernel
theorem dX5_rule_39 : decode cX5_rule 39 = .ok (.iload_n 2, 1) := by decide +kernel
theorem dX5_rule_40 : decode cX5_rule 40 = .ok (.iadd, 1) := by decide +kernel
theorem dX5_rule_41 : decode cX5_rule 41 = .ok (.iaload, 1) := by decide +kernel
theorem dX5_rule_42 : decode cX5_rule 42 = .ok (.goto 5, 3) := by decide +kernel
theorem dX5_rule_45 : decode cX5_rule 45 = .ok (.bipush (-2), 2) := by decide +kernel
theorem dX5_rule_47 : decode cX5_rule 47 = .ok (.ireturn, 1) := by decide +kernel
theorem dX5_crack_0 : decode cX5_crack 0 = .ok (.iload_n 1, 1) := by decide +kernel
theorem dX5_crack_1 : decode cX5_crack 1 = .ok (.i2l, 1) := by decide +kernel
theorem dX5_crack_2 : decode cX5_crack 2 = .ok (.lconst 0, 1) := by decide +kernel
theorem dX5_crack_3 : decode cX5_crack 3 = .ok (.ldc2_w 137, 3) := by decide +kernel
theorem dX5_crack_6 : decode cX5_crack 6 = .ok (.invokestatic 61, 3) := by decide +kernel
theorem dX5_crack_9 : decode cX5_crack 9 = .ok (.ifCond .eq 15, 3) := by decide +kernel
theorem dX5_crack_12 : decode cX5_crack 12 = .ok (.iload_n 2, 1) := by decide +kernel
theorem dX5_crack_13 : decode cX5_crack 13 = .ok (.i2l, 1) := by decide +kernel
theorem dX5_crack_14 : decode cX5_crack 14 = .ok (.lconst 0, 1) := by decide +kernel
theorem dX5_crack_15 : decode cX5_crack 15 = .ok (.ldc2_w 137, 3) := by decide +kernel
theorem dX5_crack_18 : decode cX5_crack 18 = .ok (.invokestatic 61, 3) := by decide +kernel
theorem dX5_crack_21 : decode cX5_crack 21 = .ok (.ifCond .ne 6, 3) := by decide +kernel
theorem dX5_crack_24 : decode cX5_crack 24 = .ok (.bipush (-2), 2) := by decide +kernel
theorem dX5_crack_26 : decode cX5_crack 26 = .ok (.ireturn, 1) := by decide +kernel
theorem dX5_crack_27 : decode cX5_crack 27 = .ok (.aload_n 0, 1) := by decide +kernel
theorem dX5_crack_28 : decode cX5_crack 28 = .ok (.getfield 139, 3) := by decide +kernel
theorem dX5_crack_31 : decode cX5_crack 31 = .ok (.bipush 8, 2) := by decide +kernel
theorem dX5_crack_33 : decode cX5_crack 33 = .ok (.if_icmp .ne 6, 3) := by decide +kernel
theorem dX5_crack_36 : decode cX5_crack 36 = .ok (.bipush (-4), 2) := by decide +kernel
theorem dX5_crack_38 : decode cX5_crack 38 = .ok (.ireturn, 1) := by decide +kernel
theorem dX5_crack_39 : decode cX5_crack 39 = .ok (.aload_n 0, 1) := by decide +kernel
theorem dX5_crack_40 : decode cX5_crack 40 = .ok (.getfield 34, 3) := by decide +kernel
theorem dX5_crack_43 : decode cX5_crack 43 = .ok (.iconst 2, 1) := by decide +kernel
theorem dX5_crack_44 : decode cX5_crack 44 = .ok (.aload_n 0, 1) := by decide +kernel
theorem dX5_crack_45 : decode cX5_crack 45 = .ok (.getfield 139, 3) := by decide +kernel
theorem dX5_crack_48 : decode cX5_crack 48 = .ok (.imul, 1) := by decide +kernel
theorem dX5_crack_49 : decode cX5_crack 49 = .ok (.iload_n 1, 1) := by decide +kernel
theorem dX5_crack_50 : decode cX5_crack 50 = .ok (.iastore, 1) := by decide +kernel
theorem dX5_crack_51 : decode cX5_crack 51 = .ok (.aload_n 0, 1) := by decide +kernel
theorem dX5_crack_52 : decode cX5_crack 52 = .ok (.getfield 34, 3) := by decide +kernel
theorem dX5_crack_55 : decode cX5_crack 55 = .ok (.iconst 2, 1) := by decide +kernel
theorem dX5_crack_56 : decode cX5_crack 56 = .ok (.aload_n 0, 1) := by decide +kernel
theorem dX5_crack_57 : decode cX5_crack 57 = .ok (.getfield 139, 3) := by decide +kernel
theorem dX5_crack_60 : decode cX5_crack 60 = .ok (.imul, 1) := by decide +kernel
theorem dX5_crack_61 : decode cX5_crack 61 = .ok (.iconst 1, 1) := by decide +kernel
theorem dX5_crack_62 : decode cX5_crack 62 = .ok (.iadd, 1) := by decide +kernel
theorem dX5_crack_63 : decode cX5_crack 63 = .ok (.iload_n 2, 1) := by decide +kernel
theorem dX5_crack_64 : decode cX5_crack 64 = .ok (.iastore, 1) := by decide +kernel
theorem dX5_crack_65 : decode cX5_crack 65 = .ok (.aload_n 0, 1) := by decide +kernel
theorem dX5_crack_66 : decode cX5_crack 66 = .ok (.dup, 1) := by decide +kernel
theorem dX5_crack_67 : decode cX5_crack 67 = .ok (.getfield 139, 3) := by decide +kernel
theorem dX5_crack_70 : decode cX5_crack 70 = .ok (.iconst 1, 1) := by decide +kernel
theorem dX5_crack_71 : decode cX5_crack 71 = .ok (.iadd, 1) := by decide +kernel
theorem dX5_crack_72 : decode cX5_crack 72 = .ok (.putfield 139, 3) := by decide +kernel
theorem dX5_crack_75 : decode cX5_crack 75 = .ok (.aload_n 0, 1) := by decide +kernel
theorem dX5_crack_76 : decode cX5_crack 76 = .ok (.getfield 139, 3) := by decide +kernel
theorem dX5_crack_79 : decode cX5_crack 79 = .ok (.ireturn, 1) := by decide +kernel
theorem dX5_deed_0 : decode cX5_deed 0 = .ok (.iload_n 1, 1) := by decide +kernel
theorem dX5_deed_1 : decode cX5_deed 1 = .ok (.invokestatic 142, 3) := by decide +kernel
theorem dX5_deed_4 : decode cX5_deed 4 = .ok (.ifCond .eq 10, 3) := by decide +kernel
theorem dX5_deed_7 : decode cX5_deed 7 = .ok (.iload_n 2, 1) := by decide +kernel
theorem dX5_deed_8 : decode cX5_deed 8 = .ok (.invokestatic 145, 3) := by decide +kernel
theorem dX5_deed_11 : decode cX5_deed 11 = .ok (.ifCond .ne 6, 3) := by decide +kernel
theorem dX5_deed_14 : decode cX5_deed 14 = .ok (.bipush (-2), 2) := by decide +kernel
theorem dX5_deed_16 : decode cX5_deed 16 = .ok (.ireturn, 1) := by decide +kernel
theorem dX5_deed_17 : decode cX5_deed 17 = .ok (.aload_n 0, 1) := by decide +kernel
theorem dX5_deed_18 : decode cX5_deed 18 = .ok (.getfield 148, 3) := by decide +kernel
theorem dX5_deed_21 : decode cX5_deed 21 = .ok (.bipush 12, 2) := by decide +kernel
theorem dX5_deed_23 : decode cX5_deed 23 = .ok (.if_icmp .ne 6, 3) := by decide +kernel
theorem dX5_deed_26 : decode cX5_deed 26 = .ok (.bipush (-4), 2) := by decide +kernel
theorem dX5_deed_28 : decode cX5_deed 28 = .ok (.ireturn, 1) := by decide +kernel
theorem dX5_deed_29 : decode cX5_deed 29 = .ok (.aload_n 0, 1) := by decide +kernel
theorem dX5_deed_30 : decode cX5_deed 30 = .ok (.getfield 37, 3) := by decide +kernel
theorem dX5_deed_33 : decode cX5_deed 33 = .ok (.iconst 2, 1) := by decide +kernel
theorem dX5_deed_34 : decode cX5_deed 34 = .ok (.aload_n 0, 1) := by decide +kernel
theorem dX5_deed_35 : decode cX5_deed 35 = .ok (.getfield 148, 3) := by decide +kernel
theorem dX5_deed_38 : decode cX5_deed 38 = .ok (.imul, 1) := by decide +kernel
theorem dX5_deed_39 : decode cX5_deed 39 = .ok (.iload_n 1, 1) := by decide +kernel
theorem dX5_deed_40 : decode cX5_deed 40 = .ok (.iastore, 1) := by decide +kernel
theorem dX5_deed_41 : decode cX5_deed 41 = .ok (.aload_n 0, 1) := by decide +kernel
theorem dX5_deed_42 : decode cX5_deed 42 = .ok (.getfield 37, 3) := by decide +kernel
theorem dX5_deed_45 : decode cX5_deed 45 = .ok (.iconst 2, 1) := by decide +kernel
theorem dX5_deed_46 : decode cX5_deed 46 = .ok (.aload_n 0, 1) := by decide +kernel
theorem dX5_deed_47 : decode cX5_deed 47 = .ok (.getfield 148, 3) := by decide +kernel
theorem dX5_deed_50 : decode cX5_deed 50 = .ok (.imul, 1) := by decide +kernel
theorem dX5_deed_51 : decode cX5_deed 51 = .ok (.iconst 1, 1) := by decide +kernel
theorem dX5_deed_52 : decode cX5_deed 52 = .ok (.iadd, 1) := by decide +kernel
theorem dX5_deed_53 : decode cX5_deed 53 = .ok (.iload_n 2, 1) := by decide +kernel
theorem dX5_deed_54 : decode cX5_deed 54 = .ok (.iastore, 1) := by decide +kernel
theorem dX5_deed_55 : decode cX5_deed 55 = .ok (.aload_n 0, 1) := by decide +kernel
theorem dX5_deed_56 : decode cX5_deed 56 = .ok (.dup, 1) := by decide +kernel
theorem dX5_deed_57 : decode cX5_deed 57 = .ok (.getfield 148, 3) := by decide +kernel
theorem dX5_deed_60 : decode cX5_deed 60 = .ok (.iconst 1, 1) := by decide +kernel
theorem dX5_deed_61 : decode cX5_deed 61 = .ok (.iadd, 1) := by decide +kernel
theorem dX5_deed_62 : decode cX5_deed 62 = .ok (.putfield 148, 3) := by decide +kernel
theorem dX5_deed_65 : decode cX5_deed 65 = .ok (.aload_n 0, 1) := by decide +kernel
theorem dX5_deed_66 : decode cX5_deed 66 = .ok (.getfield 148, 3) := by decide +kernel
theorem dX5_deed_69 : decode cX5_deed 69 = .ok (.ireturn, 1) := by decide +kernel
theorem dX5_back_0 : decode cX5_back 0 = .ok (.iload_n 1, 1) := by decide +kernel
theorem dX5_back_1 : decode cX5_back 1 = .ok (.invokestatic 89, 3) := by decide +kernel
theorem dX5_back_4 : decode cX5_back 4 = .ok (.ifCond .ne 6, 3) := by decide +kernel
theorem dX5_back_7 : decode cX5_back 7 = .ok (.bipush (-2), 2) := by decide +kernel
theorem dX5_back_9 : decode cX5_back 9 = .ok (.ireturn, 1) := by decide +kernel
theorem dX5_back_10 : decode cX5_back 10 = .ok (.iload_n 1, 1) := by decide +kernel
theorem dX5_back_11 : decode cX5_back 11 = .ok (.ifCond .ne 10, 3) := by decide +kernel
theorem dX5_back_14 : decode cX5_back 14 = .ok (.aload_n 0, 1) := by decide +kernel
theorem dX5_back_15 : decode cX5_back 15 = .ok (.getfield 139, 3) := by decide +kernel
theorem dX5_back_18 : decode cX5_back 18 = .ok (.goto 7, 3) := by decide +kernel
theorem dX5_back_21 : decode cX5_back 21 = .ok (.aload_n 0, 1) := by decide +kernel
theorem dX5_back_22 : decode cX5_back 22 = .ok (.getfield 148, 3) := by decide +kernel
theorem dX5_back_25 : decode cX5_back 25 = .ok (.istore_n 2, 1) := by decide +kernel
theorem dX5_back_26 : decode cX5_back 26 = .ok (.iload_n 2, 1) := by decide +kernel
theorem dX5_back_27 : decode cX5_back 27 = .ok (.ifCond .ne 6, 3) := by decide +kernel
theorem dX5_back_30 : decode cX5_back 30 = .ok (.bipush (-3), 2) := by decide +kernel
theorem dX5_back_32 : decode cX5_back 32 = .ok (.ireturn, 1) := by decide +kernel
theorem dX5_back_33 : decode cX5_back 33 = .ok (.aload_n 0, 1) := by decide +kernel
theorem dX5_back_34 : decode cX5_back 34 = .ok (.dup, 1) := by decide +kernel
theorem dX5_back_35 : decode cX5_back 35 = .ok (.getfield 139, 3) := by decide +kernel
theorem dX5_back_38 : decode cX5_back 38 = .ok (.iload_n 1, 1) := by decide +kernel
theorem dX5_back_39 : decode cX5_back 39 = .ok (.ifCond .ne 7, 3) := by decide +kernel
theorem dX5_back_42 : decode cX5_back 42 = .ok (.iconst 1, 1) := by decide +kernel
theorem dX5_back_43 : decode cX5_back 43 = .ok (.goto 4, 3) := by decide +kernel
theorem dX5_back_46 : decode cX5_back 46 = .ok (.iconst 0, 1) := by decide +kernel
theorem dX5_back_47 : decode cX5_back 47 = .ok (.isub, 1) := by decide +kernel
theorem dX5_back_48 : decode cX5_back 48 = .ok (.putfield 139, 3) := by decide +kernel
theorem dX5_back_51 : decode cX5_back 51 = .ok (.aload_n 0, 1) := by decide +kernel
theorem dX5_back_52 : decode cX5_back 52 = .ok (.dup, 1) := by decide +kernel
theorem dX5_back_53 : decode cX5_back 53 = .ok (.getfield 148, 3) := by decide +kernel
theorem dX5_back_56 : decode cX5_back 56 = .ok (.iload_n 1, 1) := by decide +kernel
theorem dX5_back_57 : decode cX5_back 57 = .ok (.isub, 1) := by decide +kernel
theorem dX5_back_58 : decode cX5_back 58 = .ok (.putfield 148, 3) := by decide +kernel
theorem dX5_back_61 : decode cX5_back 61 = .ok (.iload_n 2, 1) := by decide +kernel
theorem dX5_back_62 : decode cX5_back 62 = .ok (.iconst 1, 1) := by decide +kernel
theorem dX5_back_63 : decode cX5_back 63 = .ok (.isub, 1) := by decide +kernel
theorem dX5_back_64 : decode cX5_back 64 = .ok (.ireturn, 1) := by decide +kernel
theorem dX5_set_0 : decode cX5_set 0 = .ok (.iload_n 1, 1) := by decide +kernel
theorem dX5_set_1 : decode cX5_set 1 = .ok (.invokestatic 89, 3) := by decide +kernel
theorem dX5_set_4 : decode cX5_set 4 = .ok (.ifCond .eq 15, 3) := by decide +kernel
theorem dX5_set_7 : decode cX5_set 7 = .ok (.iload_n 2, 1) := by decide +kernel
theorem dX5_set_8 : decode cX5_set 8 = .ok (.i2l, 1) := by decide +kernel
theorem dX5_set_9 : decode cX5_set 9 = .ok (.lconst 0, 1) := by decide +kernel
theorem dX5_set_10 : decode cX5_set 10 = .ok (.ldc2_w 68, 3) := by decide +kernel
theorem dX5_set_13 : decode cX5_set 13 = .ok (.invokestatic 61, 3) := by decide +kernel
theorem dX5_set_16 : decode cX5_set 16 = .ok (.ifCond .ne 6, 3) := by decide +kernel
theorem dX5_set_19 : decode cX5_set 19 = .ok (.bipush (-2), 2) := by decide +kernel
theorem dX5_set_21 : decode cX5_set 21 = .ok (.ireturn, 1) := by decide +kernel
theorem dX5_set_22 : decode cX5_set 22 = .ok (.aload_n 0, 1) := by decide +kernel
theorem dX5_set_23 : decode cX5_set 23 = .ok (.getfield 40, 3) := by decide +kernel
theorem dX5_set_26 : decode cX5_set 26 = .ok (.iload_n 1, 1) := by decide +kernel
theorem dX5_set_27 : decode cX5_set 27 = .ok (.iaload, 1) := by decide +kernel
theorem dX5_set_28 : decode cX5_set 28 = .ok (.istore_n 3, 1) := by decide +kernel
theorem dX5_set_29 : decode cX5_set 29 = .ok (.aload_n 0, 1) := by decide +kernel
theorem dX5_set_30 : decode cX5_set 30 = .ok (.getfield 40, 3) := by decide +kernel
theorem dX5_set_33 : decode cX5_set 33 = .ok (.iload_n 1, 1) := by decide +kernel
theorem dX5_set_34 : decode cX5_set 34 = .ok (.iload_n 2, 1) := by decide +kernel
theorem dX5_set_35 : decode cX5_set 35 = .ok (.iastore, 1) := by decide +kernel
theorem dX5_set_36 : decode cX5_set 36 = .ok (.iload_n 3, 1) := by decide +kernel
theorem dX5_set_37 : decode cX5_set 37 = .ok (.ireturn, 1) := by decide +kernel
theorem dX5_turnsOne_0 : decode cX5_turnsOne 0 = .ok (.aload_n 0, 1) := by decide +kernel
theorem dX5_turnsOne_1 : decode cX5_turnsOne 1 = .ok (.getfield 28, 3) := by decide +kernel
theorem dX5_turnsOne_4 : decode cX5_turnsOne 4 = .ok (.iconst 3, 1) := by decide +kernel
theorem dX5_turnsOne_5 : decode cX5_turnsOne 5 = .ok (.iload_n 1, 1) := by decide +kernel
theorem dX5_turnsOne_6 : decode cX5_turnsOne 6 = .ok (.imul, 1) := by decide +kernel
theorem dX5_turnsOne_7 : decode cX5_turnsOne 7 = .ok (.iaload, 1) := by decide +kernel
theorem dX5_turnsOne_8 : decode cX5_turnsOne 8 = .ok (.istore_n 3, 1) := by decide +kernel
theorem dX5_turnsOne_9 : decode cX5_turnsOne 9 = .ok (.aload_n 0, 1) := by decide +kernel
theorem dX5_turnsOne_10 : decode cX5_turnsOne 10 = .ok (.getfield 28, 3) := by decide +kernel
theorem dX5_turnsOne_13 : decode cX5_turnsOne 13 = .ok (.iconst 3, 1) := by decide +kernel
theorem dX5_turnsOne_14 : decode cX5_turnsOne 14 = .ok (.iload_n 1, 1) := by decide +kernel
theorem dX5_turnsOne_15 : decode cX5_turnsOne 15 = .ok (.imul, 1) := by decide +kernel
theorem dX5_turnsOne_16 : decode cX5_turnsOne 16 = .ok (.iconst 1, 1) := by decide +kernel
theorem dX5_turnsOne_17 : decode cX5_turnsOne 17 = .ok (.iadd, 1) := by decide +kernel
theorem dX5_turnsOne_18 : decode cX5_turnsOne 18 = .ok (.iaload, 1) := by decide +kernel
theorem dX5_turnsOne_19 : decode cX5_turnsOne 19 = .ok (.istore 4, 2) := by decide +kernel
theorem dX5_turnsOne_21 : decode cX5_turnsOne 21 = .ok (.iconst 0, 1) := by decide +kernel
theorem dX5_turnsOne_22 : decode cX5_turnsOne 22 = .ok (.istore 5, 2) := by decide +kernel
theorem dX5_turnsOne_24 : decode cX5_turnsOne 24 = .ok (.iload 5, 2) := by decide +kernel
theorem dX5_turnsOne_26 : decode cX5_turnsOne 26 = .ok (.iload_n 2, 1) := by decide +kernel
theorem dX5_turnsOne_27 : decode cX5_turnsOne 27 = .ok (.if_icmp .ge 21, 3) := by decide +kernel
theorem dX5_turnsOne_30 : decode cX5_turnsOne 30 = .ok (.iload_n 3, 1) := by decide +kernel
theorem dX5_turnsOne_31 : decode cX5_turnsOne 31 = .ok (.istore 6, 2) := by decide +kernel
theorem dX5_turnsOne_33 : decode cX5_turnsOne 33 = .ok (.iconst 5, 1) := by decide +kernel
theorem dX5_turnsOne_34 : decode cX5_turnsOne 34 = .ok (.iload 4, 2) := by decide +kernel
theorem dX5_turnsOne_36 : decode cX5_turnsOne 36 = .ok (.isub, 1) := by decide +kernel
theorem dX5_turnsOne_37 : decode cX5_turnsOne 37 = .ok (.istore_n 3, 1) := by decide +kernel
theorem dX5_turnsOne_38 : decode cX5_turnsOne 38 = .ok (.iload 6, 2) := by decide +kernel
theorem dX5_turnsOne_40 : decode cX5_turnsOne 40 = .ok (.istore 4, 2) := by decide +kernel
theorem dX5_turnsOne_42 : decode cX5_turnsOne 42 = .ok (.iinc 5 1, 3) := by decide +kernel
theorem dX5_turnsOne_45 : decode cX5_turnsOne 45 = .ok (.goto (-21), 3) := by decide +kernel
theorem dX5_turnsOne_48 : decode cX5_turnsOne 48 = .ok (.aload_n 0, 1) := by decide +kernel
theorem dX5_turnsOne_49 : decode cX5_turnsOne 49 = .ok (.getfield 43, 3) := by decide +kernel
theorem dX5_turnsOne_52 : decode cX5_turnsOne 52 = .ok (.iload_n 1, 1) := by decide +kernel
theorem dX5_turnsOne_53 : decode cX5_turnsOne 53 = .ok (.iload_n 3, 1) := by decide +kernel
theorem dX5_turnsOne_54 : decode cX5_turnsOne 54 = .ok (.iastore, 1) := by decide +kernel
theorem dX5_turnsOne_55 : decode cX5_turnsOne 55 = .ok (.aload_n 0, 1) := by decide +kernel
theorem dX5_turnsOne_56 : decode cX5_turnsOne 56 = .ok (.getfield 46, 3) := by decide +kernel
theorem dX5_turnsOne_59 : decode cX5_turnsOne 59 = .ok (.iload_n 1, 1) := by decide +kernel
theorem dX5_turnsOne_60 : decode cX5_turnsOne 60 = .ok (.iload 4, 2) := by decide +kernel
theorem dX5_turnsOne_62 : decode cX5_turnsOne 62 = .ok (.iastore, 1) := by decide +kernel
theorem dX5_turnsOne_63 : decode cX5_turnsOne 63 = .ok (.return_, 1) := by decide +kernel
theorem dX5_isCracked_0 : decode cX5_isCracked 0 = .ok (.iconst 0, 1) := by decide +kernel
theorem dX5_isCracked_1 : decode cX5_isCracked 1 = .ok (.istore_n 3, 1) := by decide +kernel
theorem dX5_isCracked_2 : decode cX5_isCracked 2 = .ok (.iconst 0, 1) := by decide +kernel
theorem dX5_isCracked_3 : decode cX5_isCracked 3 = .ok (.istore 4, 2) := by decide +kernel
theorem dX5_isCracked_5 : decode cX5_isCracked 5 = .ok (.iload 4, 2) := by decide +kernel
theorem dX5_isCracked_7 : decode cX5_isCracked 7 = .ok (.aload_n 0, 1) := by decide +kernel
theorem dX5_isCracked_8 : decode cX5_isCracked 8 = .ok (.getfield 139, 3) := by decide +kernel
theorem dX5_isCracked_11 : decode cX5_isCracked 11 = .ok (.if_icmp .ge 47, 3) := by decide +kernel
theorem dX5_isCracked_14 : decode cX5_isCracked 14 = .ok (.iload_n 3, 1) := by decide +kernel
theorem dX5_isCracked_15 : decode cX5_isCracked 15 = .ok (.ifCond .ne 31, 3) := by decide +kernel
theorem dX5_isCracked_18 : decode cX5_isCracked 18 = .ok (.aload_n 0, 1) := by decide +kernel
theorem dX5_isCracked_19 : decode cX5_isCracked 19 = .ok (.getfield 34, 3) := by decide +kernel
theorem dX5_isCracked_22 : decode cX5_isCracked 22 = .ok (.iconst 2, 1) := by decide +kernel
theorem dX5_isCracked_23 : decode cX5_isCracked 23 = .ok (.iload 4, 2) := by decide +kernel
theorem dX5_isCracked_25 : decode cX5_isCracked 25 = .ok (.imul, 1) := by decide +kernel
theorem dX5_isCracked_26 : decode cX5_isCracked 26 = .ok (.iaload, 1) := by decide +kernel
theorem dX5_isCracked_27 : decode cX5_isCracked 27 = .ok (.iload_n 1, 1) := by decide +kernel
theorem dX5_isCracked_28 : decode cX5_isCracked 28 = .ok (.if_icmp .ne 22, 3) := by decide +kernel
theorem dX5_isCracked_31 : decode cX5_isCracked 31 = .ok (.aload_n 0, 1) := by decide +kernel
theorem dX5_isCracked_32 : decode cX5_isCracked 32 = .ok (.getfield 34, 3) := by decide +kernel
theorem dX5_isCracked_35 : decode cX5_isCracked 35 = .ok (.iconst 2, 1) := by decide +kernel
theorem dX5_isCracked_36 : decode cX5_isCracked 36 = .ok (.iload 4, 2) := by decide +kernel
theorem dX5_isCracked_38 : decode cX5_isCracked 38 = .ok (.imul, 1) := by decide +kernel
theorem dX5_isCracked_39 : decode cX5_isCracked 39 = .ok (.iconst 1, 1) := by decide +kernel
theorem dX5_isCracked_40 : decode cX5_isCracked 40 = .ok (.iadd, 1) := by decide +kernel
theorem dX5_isCracked_41 : decode cX5_isCracked 41 = .ok (.iaload, 1) := by decide +kernel
theorem dX5_isCracked_42 : decode cX5_isCracked 42 = .ok (.iload_n 2, 1) := by decide +kernel
theorem dX5_isCracked_43 : decode cX5_isCracked 43 = .ok (.if_icmp .ne 7, 3) := by decide +kernel
theorem dX5_isCracked_46 : decode cX5_isCracked 46 = .ok (.iconst 1, 1) := by decide +kernel
theorem dX5_isCracked_47 : decode cX5_isCracked 47 = .ok (.goto 4, 3) := by decide +kernel
theorem dX5_isCracked_50 : decode cX5_isCracked 50 = .ok (.iconst 0, 1) := by decide +kernel
theorem dX5_isCracked_51 : decode cX5_isCracked 51 = .ok (.istore_n 3, 1) := by decide +kernel
theorem dX5_isCracked_52 : decode cX5_isCracked 52 = .ok (.iinc 4 1, 3) := by decide +kernel
theorem dX5_isCracked_55 : decode cX5_isCracked 55 = .ok (.goto (-50), 3) := by decide +kernel
theorem dX5_isCracked_58 : decode cX5_isCracked 58 = .ok (.iload_n 3, 1) := by decide +kernel
theorem dX5_isCracked_59 : decode cX5_isCracked 59 = .ok (.ireturn, 1) := by decide +kernel
theorem dX5_lieSo_0 : decode cX5_lieSo 0 = .ok (.aload_n 0, 1) := by decide +kernel
theorem dX5_lieSo_1 : decode cX5_lieSo 1 = .ok (.getfield 43, 3) := by decide +kernel
theorem dX5_lieSo_4 : decode cX5_lieSo 4 = .ok (.iload_n 2, 1) := by decide +kernel
theorem dX5_lieSo_5 : decode cX5_lieSo 5 = .ok (.iaload, 1) := by decide +kernel
theorem dX5_lieSo_6 : decode cX5_lieSo 6 = .ok (.aload_n 0, 1) := by decide +kernel
theorem dX5_lieSo_7 : decode cX5_lieSo 7 = .ok (.getfield 43, 3) := by decide +kernel
theorem dX5_lieSo_10 : decode cX5_lieSo 10 = .ok (.iload_n 3, 1) := by decide +kernel
theorem dX5_lieSo_11 : decode cX5_lieSo 11 = .ok (.iaload, 1) := by decide +kernel
theorem dX5_lieSo_12 : decode cX5_lieSo 12 = .ok (.isub, 1) := by decide +kernel
theorem dX5_lieSo_13 : decode cX5_lieSo 13 = .ok (.invokestatic 151, 3) := by decide +kernel
theorem dX5_lieSo_16 : decode cX5_lieSo 16 = .ok (.istore 4, 2) := by decide +kernel
theorem dX5_lieSo_18 : decode cX5_lieSo 18 = .ok (.aload_n 0, 1) := by decide +kernel
theorem dX5_lieSo_19 : decode cX5_lieSo 19 = .ok (.getfield 46, 3) := by decide +kernel
theorem dX5_lieSo_22 : decode cX5_lieSo 22 = .ok (.iload_n 2, 1) := by decide +kernel
theorem dX5_lieSo_23 : decode cX5_lieSo 23 = .ok (.iaload, 1) := by decide +kernel
theorem dX5_lieSo_24 : decode cX5_lieSo 24 = .ok (.aload_n 0, 1) := by decide +kernel
theorem dX5_lieSo_25 : decode cX5_lieSo 25 = .ok (.getfield 46, 3) := by decide +kernel
theorem dX5_lieSo_28 : decode cX5_lieSo 28 = .ok (.iload_n 3, 1) := by decide +kernel
theorem dX5_lieSo_29 : decode cX5_lieSo 29 = .ok (.iaload, 1) := by decide +kernel
theorem dX5_lieSo_30 : decode cX5_lieSo 30 = .ok (.isub, 1) := by decide +kernel
theorem dX5_lieSo_31 : decode cX5_lieSo 31 = .ok (.invokestatic 151, 3) := by decide +kernel
theorem dX5_lieSo_34 : decode cX5_lieSo 34 = .ok (.istore 5, 2) := by decide +kernel
theorem dX5_lieSo_36 : decode cX5_lieSo 36 = .ok (.iload_n 1, 1) := by decide +kernel
theorem dX5_lieSo_37 : decode cX5_lieSo 37 = .ok (.tableswitch 89 0 2 #[27, 45, 71], 27) := by decide +kernel
theorem dX5_lieSo_64 : decode cX5_lieSo 64 = .ok (.iload 4, 2) := by decide +kernel
theorem dX5_lieSo_66 : decode cX5_lieSo 66 = .ok (.iconst 1, 1) := by decide +kernel
theorem dX5_lieSo_67 : decode cX5_lieSo 67 = .ok (.if_icmp .gt 13, 3) := by decide +kernel
theorem dX5_lieSo_70 : decode cX5_lieSo 70 = .ok (.iload 5, 2) := by decide +kernel
theorem dX5_lieSo_72 : decode cX5_lieSo 72 = .ok (.iconst 1, 1) := by decide +kernel
theorem dX5_lieSo_73 : decode cX5_lieSo 73 = .ok (.if_icmp .gt 7, 3) := by decide +kernel
theorem dX5_lieSo_76 : decode cX5_lieSo 76 = .ok (.iconst 1, 1) := by decide +kernel
theorem dX5_lieSo_77 : decode cX5_lieSo 77 = .ok (.goto 4, 3) := by decide +kernel
theorem dX5_lieSo_80 : decode cX5_lieSo 80 = .ok (.iconst 0, 1) := by decide +kernel
theorem dX5_lieSo_81 : decode cX5_lieSo 81 = .ok (.ireturn, 1) := by decide +kernel
theorem dX5_lieSo_82 : decode cX5_lieSo 82 = .ok (.iload 4, 2) := by decide +kernel
theorem dX5_lieSo_84 : decode cX5_lieSo 84 = .ok (.ifCond .ne 22, 3) := by decide +kernel
theorem dX5_lieSo_87 : decode cX5_lieSo 87 = .ok (.aload_n 0, 1) := by decide +kernel
theorem dX5_lieSo_88 : decode cX5_lieSo 88 = .ok (.getfield 46, 3) := by decide +kernel
theorem dX5_lieSo_91 : decode cX5_lieSo 91 = .ok (.iload_n 2, 1) := by decide +kernel
theorem dX5_lieSo_92 : decode cX5_lieSo 92 = .ok (.iaload, 1) := by decide +kernel
theorem dX5_lieSo_93 : decode cX5_lieSo 93 = .ok (.aload_n 0, 1) := by decide +kernel
theorem dX5_lieSo_94 : decode cX5_lieSo 94 = .ok (.getfield 46, 3) := by decide +kernel
theorem dX5_lieSo_97 : decode cX5_lieSo 97 = .ok (.iload_n 3, 1) := by decide +kernel
theorem dX5_lieSo_98 : decode cX5_lieSo 98 = .ok (.iaload, 1) := by decide +kernel
theorem dX5_lieSo_99 : decode cX5_lieSo 99 = .ok (.if_icmp .ge 7, 3) := by decide +kernel
theorem dX5_lieSo_102 : decode cX5_lieSo 102 = .ok (.iconst 1, 1) := by decide +kernel
theorem dX5_lieSo_103 : decode cX5_lieSo 103 = .ok (.goto 4, 3) := by decide +kernel
theorem dX5_lieSo_106 : decode cX5_lieSo 106 = .ok (.iconst 0, 1) := by decide +kernel
theorem dX5_lieSo_107 : decode cX5_lieSo 107 = .ok (.ireturn, 1) := by decide +kernel
theorem dX5_lieSo_108 : decode cX5_lieSo 108 = .ok (.iload 4, 2) := by decide +kernel
theorem dX5_lieSo_110 : decode cX5_lieSo 110 = .ok (.iconst 3, 1) := by decide +kernel
theorem dX5_lieSo_111 : decode cX5_lieSo 111 = .ok (.if_icmp .ge 9, 3) := by decide +kernel
theorem dX5_lieSo_114 : decode cX5_lieSo 114 = .ok (.iload 5, 2) := by decide +kernel
theorem dX5_lieSo_116 : decode cX5_lieSo 116 = .ok (.iconst 3, 1) := by decide +kernel
theorem dX5_lieSo_117 : decode cX5_lieSo 117 = .ok (.if_icmp .lt 7, 3) := by decide +kernel
theorem dX5_lieSo_120 : decode cX5_lieSo 120 = .ok (.iconst 1, 1) := by decide +kernel
theorem dX5_lieSo_121 : decode cX5_lieSo 121 = .ok (.goto 4, 3) := by decide +kernel
theorem dX5_lieSo_124 : decode cX5_lieSo 124 = .ok (.iconst 0, 1) := by decide +kernel
theorem dX5_lieSo_125 : decode cX5_lieSo 125 = .ok (.ireturn, 1) := by decide +kernel
theorem dX5_lieSo_126 : decode cX5_lieSo 126 = .ok (.iconst 1, 1) := by decide +kernel
theorem dX5_lieSo_127 : decode cX5_lieSo 127 = .ok (.ireturn, 1) := by decide +kernel
theorem dX5_pairs_0 : decode cX5_pairs 0 = .ok (.iconst 0, 1) := by decide +kernel
theorem dX5_pairs_1 : decode cX5_pairs 1 = .ok (.istore_n 2, 1) := by decide +kernel
theorem dX5_pairs_2 : decode cX5_pairs 2 = .ok (.iload_n 2, 1) := by decide +kernel
theorem dX5_pairs_3 : decode cX5_pairs 3 = .ok (.aload_n 0, 1) := by decide +kernel
theorem dX5_pairs_4 : decode cX5_pairs 4 = .ok (.getfield 154, 3) := by decide +kernel
theorem dX5_pairs_7 : decode cX5_pairs 7 = .ok (.if_icmp .ge 135, 3) := by decide +kernel
theorem dX5_pairs_10 : decode cX5_pairs 10 = .ok (.iconst 0, 1) := by decide +kernel
theorem dX5_pairs_11 : decode cX5_pairs 11 = .ok (.istore_n 3, 1) := by decide +kernel
theorem dX5_pairs_12 : decode cX5_pairs 12 = .ok (.iconst 0, 1) := by decide +kernel
theorem dX5_pairs_13 : decode cX5_pairs 13 = .ok (.istore 4, 2) := by decide +kernel
theorem dX5_pairs_15 : decode cX5_pairs 15 = .ok (.iload 4, 2) := by decide +kernel
theorem dX5_pairs_17 : decode cX5_pairs 17 = .ok (.aload_n 0, 1) := by decide +kernel
theorem dX5_pairs_18 : decode cX5_pairs 18 = .ok (.getfield 154, 3) := by decide +kernel
theorem dX5_pairs_21 : decode cX5_pairs 21 = .ok (.if_icmp .ge 103, 3) := by decide +kernel
theorem dX5_pairs_24 : decode cX5_pairs 24 = .ok (.iload_n 2, 1) := by decide +kernel
theorem dX5_pairs_25 : decode cX5_pairs 25 = .ok (.iload 4, 2) := by decide +kernel
theorem dX5_pairs_27 : decode cX5_pairs 27 = .ok (.if_icmp .eq 52, 3) := by decide +kernel
theorem dX5_pairs_30 : decode cX5_pairs 30 = .ok (.aload_n 0, 1) := by decide +kernel
theorem dX5_pairs_31 : decode cX5_pairs 31 = .ok (.getfield 28, 3) := by decide +kernel
theorem dX5_pairs_34 : decode cX5_pairs 34 = .ok (.iconst 3, 1) := by decide +kernel
theorem dX5_pairs_35 : decode cX5_pairs 35 = .ok (.iload_n 2, 1) := by decide +kernel
theorem dX5_pairs_36 : decode cX5_pairs 36 = .ok (.imul, 1) := by decide +kernel
theorem dX5_pairs_37 : decode cX5_pairs 37 = .ok (.iconst 2, 1) := by decide +kernel
theorem dX5_pairs_38 : decode cX5_pairs 38 = .ok (.iadd, 1) := by decide +kernel
theorem dX5_pairs_39 : decode cX5_pairs 39 = .ok (.iaload, 1) := by decide +kernel
theorem dX5_pairs_40 : decode cX5_pairs 40 = .ok (.aload_n 0, 1) := by decide +kernel
theorem dX5_pairs_41 : decode cX5_pairs 41 = .ok (.getfield 31, 3) := by decide +kernel
theorem dX5_pairs_44 : decode cX5_pairs 44 = .ok (.iconst 5, 1) := by decide +kernel
theorem dX5_pairs_45 : decode cX5_pairs 45 = .ok (.iload_n 1, 1) := by decide +kernel
theorem dX5_pairs_46 : decode cX5_pairs 46 = .ok (.imul, 1) := by decide +kernel
theorem dX5_pairs_47 : decode cX5_pairs 47 = .ok (.iaload, 1) := by decide +kernel
theorem dX5_pairs_48 : decode cX5_pairs 48 = .ok (.if_icmp .ne 31, 3) := by decide +kernel
theorem dX5_pairs_51 : decode cX5_pairs 51 = .ok (.aload_n 0, 1) := by decide +kernel
theorem dX5_pairs_52 : decode cX5_pairs 52 = .ok (.getfield 28, 3) := by decide +kernel
theorem dX5_pairs_55 : decode cX5_pairs 55 = .ok (.iconst 3, 1) := by decide +kernel
theorem dX5_pairs_56 : decode cX5_pairs 56 = .ok (.iload 4, 2) := by decide +kernel
theorem dX5_pairs_58 : decode cX5_pairs 58 = .ok (.imul, 1) := by decide +kernel
theorem dX5_pairs_59 : decode cX5_pairs 59 = .ok (.iconst 2, 1) := by decide +kernel
theorem dX5_pairs_60 : decode cX5_pairs 60 = .ok (.iadd, 1) := by decide +kernel
theorem dX5_pairs_61 : decode cX5_pairs 61 = .ok (.iaload, 1) := by decide +kernel
theorem dX5_pairs_62 : decode cX5_pairs 62 = .ok (.aload_n 0, 1) := by decide +kernel
theorem dX5_pairs_63 : decode cX5_pairs 63 = .ok (.getfield 31, 3) := by decide +kernel
theorem dX5_pairs_66 : decode cX5_pairs 66 = .ok (.iconst 5, 1) := by decide +kernel
theorem dX5_pairs_67 : decode cX5_pairs 67 = .ok (.iload_n 1, 1) := by decide +kernel
theorem dX5_pairs_68 : decode cX5_pairs 68 = .ok (.imul, 1) := by decide +kernel
theorem dX5_pairs_69 : decode cX5_pairs 69 = .ok (.iconst 2, 1) := by decide +kernel
theorem dX5_pairs_70 : decode cX5_pairs 70 = .ok (.iadd, 1) := by decide +kernel
theorem dX5_pairs_71 : decode cX5_pairs 71 = .ok (.iaload, 1) := by decide +kernel
theorem dX5_pairs_72 : decode cX5_pairs 72 = .ok (.if_icmp .ne 7, 3) := by decide +kernel
theorem dX5_pairs_75 : decode cX5_pairs 75 = .ok (.iconst 1, 1) := by decide +kernel
theorem dX5_pairs_76 : decode cX5_pairs 76 = .ok (.goto 4, 3) := by decide +kernel
theorem dX5_pairs_79 : decode cX5_pairs 79 = .ok (.iconst 0, 1) := by decide +kernel
theorem dX5_pairs_80 : decode cX5_pairs 80 = .ok (.istore 5, 2) := by decide +kernel
theorem dX5_pairs_82 : decode cX5_pairs 82 = .ok (.iload_n 3, 1) := by decide +kernel
theorem dX5_pairs_83 : decode cX5_pairs 83 = .ok (.iload 5, 2) := by decide +kernel
theorem dX5_pairs_85 : decode cX5_pairs 85 = .ok (.ifCond .eq 30, 3) := by decide +kernel
theorem dX5_pairs_88 : decode cX5_pairs 88 = .ok (.aload_n 0, 1) := by decide +kernel
theorem dX5_pairs_89 : decode cX5_pairs 89 = .ok (.aload_n 0, 1) := by decide +kernel
theorem dX5_pairs_90 : decode cX5_pairs 90 = .ok (.getfield 31, 3) := by decide +kernel
theorem dX5_pairs_93 : decode cX5_pairs 93 = .ok (.iconst 5, 1) := by decide +kernel
theorem dX5_pairs_94 : decode cX5_pairs 94 = .ok (.iload_n 1, 1) := by decide +kernel
theorem dX5_pairs_95 : decode cX5_pairs 95 = .ok (.imul, 1) := by decide +kernel
theorem dX5_pairs_96 : decode cX5_pairs 96 = .ok (.iconst 1, 1) := by decide +kernel
theorem dX5_pairs_97 : decode cX5_pairs 97 = .ok (.iadd, 1) := by decide +kernel
theorem dX5_pairs_98 : decode cX5_pairs 98 = .ok (.iaload, 1) := by decide +kernel
theorem dX5_pairs_99 : decode cX5_pairs 99 = .ok (.iload_n 2, 1) := by decide +kernel
theorem dX5_pairs_100 : decode cX5_pairs 100 = .ok (.iload 4, 2) := by decide +kernel
theorem dX5_pairs_102 : decode cX5_pairs 102 = .ok (.invokevirtual 157, 3) := by decide +kernel
theorem dX5_pairs_105 : decode cX5_pairs 105 = .ok (.ifCond .eq 10, 3) := by decide +kernel
theorem dX5_pairs_108 : decode cX5_pairs 108 = .ok (.iconst 1, 1) := by decide +kernel
theorem dX5_pairs_109 : decode cX5_pairs 109 = .ok (.iload 4, 2) := by decide +kernel
theorem dX5_pairs_111 : decode cX5_pairs 111 = .ok (.ishl, 1) := by decide +kernel
theorem dX5_pairs_112 : decode cX5_pairs 112 = .ok (.goto 4, 3) := by decide +kernel
theorem dX5_pairs_115 : decode cX5_pairs 115 = .ok (.iconst 0, 1) := by decide +kernel
theorem dX5_pairs_116 : decode cX5_pairs 116 = .ok (.ior, 1) := by decide +kernel
theorem dX5_pairs_117 : decode cX5_pairs 117 = .ok (.istore_n 3, 1) := by decide +kernel
theorem dX5_pairs_118 : decode cX5_pairs 118 = .ok (.iinc 4 1, 3) := by decide +kernel
theorem dX5_pairs_121 : decode cX5_pairs 121 = .ok (.goto (-106), 3) := by decide +kernel
theorem dX5_pairs_124 : decode cX5_pairs 124 = .ok (.aload_n 0, 1) := by decide +kernel
theorem dX5_pairs_125 : decode cX5_pairs 125 = .ok (.getfield 49, 3) := by decide +kernel
theorem dX5_pairs_128 : decode cX5_pairs 128 = .ok (.bipush 13, 2) := by decide +kernel
theorem dX5_pairs_130 : decode cX5_pairs 130 = .ok (.iload_n 1, 1) := by decide +kernel
theorem dX5_pairs_131 : decode cX5_pairs 131 = .ok (.imul, 1) := by decide +kernel
theorem dX5_pairs_132 : decode cX5_pairs 132 = .ok (.iload_n 2, 1) := by decide +kernel
theorem dX5_pairs_133 : decode cX5_pairs 133 = .ok (.iadd, 1) := by decide +kernel
theorem dX5_pairs_134 : decode cX5_pairs 134 = .ok (.iload_n 3, 1) := by decide +kernel
theorem dX5_pairs_135 : decode cX5_pairs 135 = .ok (.iastore, 1) := by decide +kernel
theorem dX5_pairs_136 : decode cX5_pairs 136 = .ok (.iinc 2 1, 3) := by decide +kernel
theorem dX5_pairs_139 : decode cX5_pairs 139 = .ok (.goto (-137), 3) := by decide +kernel
theorem dX5_pairs_142 : decode cX5_pairs 142 = .ok (.return_, 1) := by decide +kernel
theorem dX5_laysOut_0 : decode cX5_laysOut 0 = .ok (.aload_n 0, 1) := by decide +kernel
theorem dX5_laysOut_1 : decode cX5_laysOut 1 = .ok (.iconst 0, 1) := by decide +kernel
theorem dX5_laysOut_2 : decode cX5_laysOut 2 = .ok (.putfield 161, 3) := by decide +kernel
theorem dX5_laysOut_5 : decode cX5_laysOut 5 = .ok (.iconst 0, 1) := by decide +kernel
theorem dX5_laysOut_6 : decode cX5_laysOut 6 = .ok (.istore_n 1, 1) := by decide +kernel
theorem dX5_laysOut_7 : decode cX5_laysOut 7 = .ok (.iload_n 1, 1) := by decide +kernel
theorem dX5_laysOut_8 : decode cX5_laysOut 8 = .ok (.aload_n 0, 1) := by decide +kernel
theorem dX5_laysOut_9 : decode cX5_laysOut 9 = .ok (.getfield 154, 3) := by decide +kernel
theorem dX5_laysOut_12 : decode cX5_laysOut 12 = .ok (.if_icmp .ge 44, 3) := by decide +kernel
theorem dX5_laysOut_15 : decode cX5_laysOut 15 = .ok (.aload_n 0, 1) := by decide +kernel
theorem dX5_laysOut_16 : decode cX5_laysOut 16 = .ok (.dup, 1) := by decide +kernel
theorem dX5_laysOut_17 : decode cX5_laysOut 17 = .ok (.getfield 161, 3) := by decide +kernel
theorem dX5_laysOut_20 : decode cX5_laysOut 20 = .ok (.aload_n 0, 1) := by decide +kernel
theorem dX5_laysOut_21 : decode cX5_laysOut 21 = .ok (.aload_n 0, 1) := by decide +kernel
theorem dX5_laysOut_22 : decode cX5_laysOut 22 = .ok (.getfield 43, 3) := by decide +kernel
theorem dX5_laysOut_25 : decode cX5_laysOut 25 = .ok (.iload_n 1, 1) := by decide +kernel
theorem dX5_laysOut_26 : decode cX5_laysOut 26 = .ok (.iaload, 1) := by decide +kernel
theorem dX5_laysOut_27 : decode cX5_laysOut 27 = .ok (.aload_n 0, 1) := by decide +kernel
theorem dX5_laysOut_28 : decode cX5_laysOut 28 = .ok (.getfield 46, 3) := by decide +kernel
theorem dX5_laysOut_31 : decode cX5_laysOut 31 = .ok (.iload_n 1, 1) := by decide +kernel
theorem dX5_laysOut_32 : decode cX5_laysOut 32 = .ok (.iaload, 1) := by decide +kernel
theorem dX5_laysOut_33 : decode cX5_laysOut 33 = .ok (.invokevirtual 164, 3) := by decide +kernel
theorem dX5_laysOut_36 : decode cX5_laysOut 36 = .ok (.ifCond .eq 7, 3) := by decide +kernel
theorem dX5_laysOut_39 : decode cX5_laysOut 39 = .ok (.iconst 0, 1) := by decide +kernel
theorem dX5_laysOut_40 : decode cX5_laysOut 40 = .ok (.goto 6, 3) := by decide +kernel
theorem dX5_laysOut_43 : decode cX5_laysOut 43 = .ok (.iconst 1, 1) := by decide +kernel
theorem dX5_laysOut_44 : decode cX5_laysOut 44 = .ok (.iload_n 1, 1) := by decide +kernel
theorem dX5_laysOut_45 : decode cX5_laysOut 45 = .ok (.ishl, 1) := by decide +kernel
theorem dX5_laysOut_46 : decode cX5_laysOut 46 = .ok (.ior, 1) := by decide +kernel
theorem dX5_laysOut_47 : decode cX5_laysOut 47 = .ok (.putfield 161, 3) := by decide +kernel
theorem dX5_laysOut_50 : decode cX5_laysOut 50 = .ok (.iinc 1 1, 3) := by decide +kernel
theorem dX5_laysOut_53 : decode cX5_laysOut 53 = .ok (.goto (-46), 3) := by decide +kernel
theorem dX5_laysOut_56 : decode cX5_laysOut 56 = .ok (.iconst 0, 1) := by decide +kernel
theorem dX5_laysOut_57 : decode cX5_laysOut 57 = .ok (.istore_n 1, 1) := by decide +kernel
theorem dX5_laysOut_58 : decode cX5_laysOut 58 = .ok (.iload_n 1, 1) := by decide +kernel
theorem dX5_laysOut_59 : decode cX5_laysOut 59 = .ok (.aload_n 0, 1) := by decide +kernel
theorem dX5_laysOut_60 : decode cX5_laysOut 60 = .ok (.getfield 106, 3) := by decide +kernel
theorem dX5_laysOut_63 : decode cX5_laysOut 63 = .ok (.if_icmp .ge 14, 3) := by decide +kernel
theorem dX5_laysOut_66 : decode cX5_laysOut 66 = .ok (.aload_n 0, 1) := by decide +kernel
theorem dX5_laysOut_67 : decode cX5_laysOut 67 = .ok (.iload_n 1, 1) := by decide +kernel
theorem dX5_laysOut_68 : decode cX5_laysOut 68 = .ok (.invokevirtual 168, 3) := by decide +kernel
theorem dX5_laysOut_71 : decode cX5_laysOut 71 = .ok (.iinc 1 1, 3) := by decide +kernel
theorem dX5_laysOut_74 : decode cX5_laysOut 74 = .ok (.goto (-16), 3) := by decide +kernel
theorem dX5_laysOut_77 : decode cX5_laysOut 77 = .ok (.return_, 1) := by decide +kernel
theorem dX5_turnsCup_0 : decode cX5_turnsCup 0 = .ok (.aload_n 0, 1) := by decide +kernel
theorem dX5_turnsCup_1 : decode cX5_turnsCup 1 = .ok (.aload_n 0, 1) := by decide +kernel
theorem dX5_turnsCup_2 : decode cX5_turnsCup 2 = .ok (.getfield 103, 3) := by decide +kernel
theorem dX5_turnsCup_5 : decode cX5_turnsCup 5 = .ok (.putfield 154, 3) := by decide +kernel
theorem dX5_turnsCup_8 : decode cX5_turnsCup 8 = .ok (.iconst 0, 1) := by decide +kernel
theorem dX5_turnsCup_9 : decode cX5_turnsCup 9 = .ok (.istore_n 2, 1) := by decide +kernel
theorem dX5_turnsCup_10 : decode cX5_turnsCup 10 = .ok (.iload_n 2, 1) := by decide +kernel
theorem dX5_turnsCup_11 : decode cX5_turnsCup 11 = .ok (.aload_n 0, 1) := by decide +kernel
theorem dX5_turnsCup_12 : decode cX5_turnsCup 12 = .ok (.getfield 103, 3) := by decide +kernel
theorem dX5_turnsCup_15 : decode cX5_turnsCup 15 = .ok (.if_icmp .ge 15, 3) := by decide +kernel
theorem dX5_turnsCup_18 : decode cX5_turnsCup 18 = .ok (.aload_n 0, 1) := by decide +kernel
theorem dX5_turnsCup_19 : decode cX5_turnsCup 19 = .ok (.iload_n 2, 1) := by decide +kernel
theorem dX5_turnsCup_20 : decode cX5_turnsCup 20 = .ok (.iload_n 1, 1) := by decide +kernel
theorem dX5_turnsCup_21 : decode cX5_turnsCup 21 = .ok (.invokevirtual 171, 3) := by decide +kernel
theorem dX5_turnsCup_24 : decode cX5_turnsCup 24 = .ok (.iinc 2 1, 3) := by decide +kernel
theorem dX5_turnsCup_27 : decode cX5_turnsCup 27 = .ok (.goto (-17), 3) := by decide +kernel
theorem dX5_turnsCup_30 : decode cX5_turnsCup 30 = .ok (.aload_n 0, 1) := by decide +kernel
theorem dX5_turnsCup_31 : decode cX5_turnsCup 31 = .ok (.invokevirtual 175, 3) := by decide +kernel
theorem dX5_turnsCup_34 : decode cX5_turnsCup 34 = .ok (.return_, 1) := by decide +kernel
theorem dX5_applies_0 : decode cX5_applies 0 = .ok (.iconst 0, 1) := by decide +kernel
theorem dX5_applies_1 : decode cX5_applies 1 = .ok (.istore_n 3, 1) := by decide +kernel
theorem dX5_applies_2 : decode cX5_applies 2 = .ok (.iconst 0, 1) := by decide +kernel
theorem dX5_applies_3 : decode cX5_applies 3 = .ok (.istore 4, 2) := by decide +kernel
theorem dX5_applies_5 : decode cX5_applies 5 = .ok (.iload 4, 2) := by decide +kernel
theorem dX5_applies_7 : decode cX5_applies 7 = .ok (.aload_n 0, 1) := by decide +kernel
theorem dX5_applies_8 : decode cX5_applies 8 = .ok (.getfield 154, 3) := by decide +kernel
theorem dX5_applies_11 : decode cX5_applies 11 = .ok (.if_icmp .ge 45, 3) := by decide +kernel
theorem dX5_applies_14 : decode cX5_applies 14 = .ok (.iload_n 3, 1) := by decide +kernel
theorem dX5_applies_15 : decode cX5_applies 15 = .ok (.ifCond .ne 41, 3) := by decide +kernel
theorem dX5_applies_18 : decode cX5_applies 18 = .ok (.iload_n 2, 1) := by decide +kernel
theorem dX5_applies_19 : decode cX5_applies 19 = .ok (.iload 4, 2) := by decide +kernel
theorem dX5_applies_21 : decode cX5_applies 21 = .ok (.invokestatic 178, 3) := by decide +kernel
theorem dX5_applies_24 : decode cX5_applies 24 = .ok (.ifCond .eq 24, 3) := by decide +kernel
theorem dX5_applies_27 : decode cX5_applies 27 = .ok (.aload_n 0, 1) := by decide +kernel
theorem dX5_applies_28 : decode cX5_applies 28 = .ok (.getfield 49, 3) := by decide +kernel
theorem dX5_applies_31 : decode cX5_applies 31 = .ok (.bipush 13, 2) := by decide +kernel
theorem dX5_applies_33 : decode cX5_applies 33 = .ok (.iload_n 1, 1) := by decide +kernel
theorem dX5_applies_34 : decode cX5_applies 34 = .ok (.imul, 1) := by decide +kernel
theorem dX5_applies_35 : decode cX5_applies 35 = .ok (.iload 4, 2) := by decide +kernel
theorem dX5_applies_37 : decode cX5_applies 37 = .ok (.iadd, 1) := by decide +kernel
theorem dX5_applies_38 : decode cX5_applies 38 = .ok (.iaload, 1) := by decide +kernel
theorem dX5_applies_39 : decode cX5_applies 39 = .ok (.iload_n 2, 1) := by decide +kernel
theorem dX5_applies_40 : decode cX5_applies 40 = .ok (.iand, 1) := by decide +kernel
theorem dX5_applies_41 : decode cX5_applies 41 = .ok (.ifCond .eq 7, 3) := by decide +kernel
theorem dX5_applies_44 : decode cX5_applies 44 = .ok (.iconst 1, 1) := by decide +kernel
theorem dX5_applies_45 : decode cX5_applies 45 = .ok (.goto 4, 3) := by decide +kernel
theorem dX5_applies_48 : decode cX5_applies 48 = .ok (.iconst 0, 1) := by decide +kernel
theorem dX5_applies_49 : decode cX5_applies 49 = .ok (.istore_n 3, 1) := by decide +kernel
theorem dX5_applies_50 : decode cX5_applies 50 = .ok (.iinc 4 1, 3) := by decide +kernel
theorem dX5_applies_53 : decode cX5_applies 53 = .ok (.goto (-48), 3) := by decide +kernel
theorem dX5_applies_56 : decode cX5_applies 56 = .ok (.iload_n 3, 1) := by decide +kernel
theorem dX5_applies_57 : decode cX5_applies 57 = .ok (.ireturn, 1) := by decide +kernel
theorem dX5_readBy_0 : decode cX5_readBy 0 = .ok (.iconst 0, 1) := by decide +kernel
theorem dX5_readBy_1 : decode cX5_readBy 1 = .ok (.istore_n 2, 1) := by decide +kernel
theorem dX5_readBy_2 : decode cX5_readBy 2 = .ok (.iconst 0, 1) := by decide +kernel
theorem dX5_readBy_3 : decode cX5_readBy 3 = .ok (.istore_n 3, 1) := by decide +kernel
theorem dX5_readBy_4 : decode cX5_readBy 4 = .ok (.iload_n 3, 1) := by decide +kernel
theorem dX5_readBy_5 : decode cX5_readBy 5 = .ok (.aload_n 0, 1) := by decide +kernel
theorem dX5_readBy_6 : decode cX5_readBy 6 = .ok (.getfield 106, 3) := by decide +kernel
theorem dX5_readBy_9 : decode cX5_readBy 9 = .ok (.if_icmp .ge 104, 3) := by decide +kernel
theorem dX5_readBy_12 : decode cX5_readBy 12 = .ok (.aload_n 0, 1) := by decide +kernel
theorem dX5_readBy_13 : decode cX5_readBy 13 = .ok (.getfield 181, 3) := by decide +kernel
theorem dX5_readBy_16 : decode cX5_readBy 16 = .ok (.iload_n 3, 1) := by decide +kernel
theorem dX5_readBy_17 : decode cX5_readBy 17 = .ok (.invokestatic 178, 3) := by decide +kernel
theorem dX5_readBy_20 : decode cX5_readBy 20 = .ok (.ifCond .ne 87, 3) := by decide +kernel
theorem dX5_readBy_23 : decode cX5_readBy 23 = .ok (.aload_n 0, 1) := by decide +kernel
theorem dX5_readBy_24 : decode cX5_readBy 24 = .ok (.iload_n 3, 1) := by decide +kernel
theorem dX5_readBy_25 : decode cX5_readBy 25 = .ok (.iload_n 1, 1) := by decide +kernel
theorem dX5_readBy_26 : decode cX5_readBy 26 = .ok (.invokevirtual 184, 3) := by decide +kernel
theorem dX5_readBy_29 : decode cX5_readBy 29 = .ok (.ifCond .eq 78, 3) := by decide +kernel
theorem dX5_readBy_32 : decode cX5_readBy 32 = .ok (.iconst 1, 1) := by decide +kernel
theorem dX5_readBy_33 : decode cX5_readBy 33 = .ok (.aload_n 0, 1) := by decide +kernel
theorem dX5_readBy_34 : decode cX5_readBy 34 = .ok (.getfield 31, 3) := by decide +kernel
theorem dX5_readBy_37 : decode cX5_readBy 37 = .ok (.iconst 5, 1) := by decide +kernel
theorem dX5_readBy_38 : decode cX5_readBy 38 = .ok (.iload_n 3, 1) := by decide +kernel
theorem dX5_readBy_39 : decode cX5_readBy 39 = .ok (.imul, 1) := by decide +kernel
theorem dX5_readBy_40 : decode cX5_readBy 40 = .ok (.iconst 4, 1) := by decide +kernel
theorem dX5_readBy_41 : decode cX5_readBy 41 = .ok (.iadd, 1) := by decide +kernel
theorem dX5_readBy_42 : decode cX5_readBy 42 = .ok (.iaload, 1) := by decide +kernel
theorem dX5_readBy_43 : decode cX5_readBy 43 = .ok (.ishl, 1) := by decide +kernel
theorem dX5_readBy_44 : decode cX5_readBy 44 = .ok (.istore 4, 2) := by decide +kernel
theorem dX5_readBy_46 : decode cX5_readBy 46 = .ok (.aload_n 0, 1) := by decide +kernel
theorem dX5_readBy_47 : decode cX5_readBy 47 = .ok (.getfield 31, 3) := by decide +kernel
theorem dX5_readBy_50 : decode cX5_readBy 50 = .ok (.iconst 5, 1) := by decide +kernel
theorem dX5_readBy_51 : decode cX5_readBy 51 = .ok (.iload_n 3, 1) := by decide +kernel
theorem dX5_readBy_52 : decode cX5_readBy 52 = .ok (.imul, 1) := by decide +kernel
theorem dX5_readBy_53 : decode cX5_readBy 53 = .ok (.iconst 3, 1) := by decide +kernel
theorem dX5_readBy_54 : decode cX5_readBy 54 = .ok (.iadd, 1) := by decide +kernel
theorem dX5_readBy_55 : decode cX5_readBy 55 = .ok (.iaload, 1) := by decide +kernel
theorem dX5_readBy_56 : decode cX5_readBy 56 = .ok (.iconst 1, 1) := by decide +kernel
theorem dX5_readBy_57 : decode cX5_readBy 57 = .ok (.if_icmp .ne 7, 3) := by decide +kernel
theorem dX5_readBy_60 : decode cX5_readBy 60 = .ok (.iconst 1, 1) := by decide +kernel
theorem dX5_readBy_61 : decode cX5_readBy 61 = .ok (.goto 4, 3) := by decide +kernel
theorem dX5_readBy_64 : decode cX5_readBy 64 = .ok (.iconst 0, 1) := by decide +kernel
theorem dX5_readBy_65 : decode cX5_readBy 65 = .ok (.iload_n 3, 1) := by decide +kernel
theorem dX5_readBy_66 : decode cX5_readBy 66 = .ok (.aload_n 0, 1) := by decide +kernel
theorem dX5_readBy_67 : decode cX5_readBy 67 = .ok (.getfield 55, 3) := by decide +kernel
theorem dX5_readBy_70 : decode cX5_readBy 70 = .ok (.if_icmp .ne 7, 3) := by decide +kernel
theorem dX5_readBy_73 : decode cX5_readBy 73 = .ok (.iconst 1, 1) := by decide +kernel
theorem dX5_readBy_74 : decode cX5_readBy 74 = .ok (.goto 4, 3) := by decide +kernel
theorem dX5_readBy_77 : decode cX5_readBy 77 = .ok (.iconst 0, 1) := by decide +kernel
theorem dX5_readBy_78 : decode cX5_readBy 78 = .ok (.if_icmp .eq 7, 3) := by decide +kernel
theorem dX5_readBy_81 : decode cX5_readBy 81 = .ok (.iconst 1, 1) := by decide +kernel
theorem dX5_readBy_82 : decode cX5_readBy 82 = .ok (.goto 4, 3) := by decide +kernel
theorem dX5_readBy_85 : decode cX5_readBy 85 = .ok (.iconst 0, 1) := by decide +kernel
theorem dX5_readBy_86 : decode cX5_readBy 86 = .ok (.istore 5, 2) := by decide +kernel
theorem dX5_readBy_88 : decode cX5_readBy 88 = .ok (.iload 5, 2) := by decide +kernel
theorem dX5_readBy_90 : decode cX5_readBy 90 = .ok (.ifCond .eq 10, 3) := by decide +kernel
theorem dX5_readBy_93 : decode cX5_readBy 93 = .ok (.iload_n 2, 1) := by decide +kernel
theorem dX5_readBy_94 : decode cX5_readBy 94 = .ok (.iload 4, 2) := by decide +kernel
theorem dX5_readBy_96 : decode cX5_readBy 96 = .ok (.ior, 1) := by decide +kernel
theorem dX5_readBy_97 : decode cX5_readBy 97 = .ok (.goto 9, 3) := by decide +kernel
theorem dX5_readBy_100 : decode cX5_readBy 100 = .ok (.iload_n 2, 1) := by decide +kernel
theorem dX5_readBy_101 : decode cX5_readBy 101 = .ok (.iload 4, 2) := by decide +kernel
theorem dX5_readBy_103 : decode cX5_readBy 103 = .ok (.iconst (-1), 1) := by decide +kernel
theorem dX5_readBy_104 : decode cX5_readBy 104 = .ok (.ixor, 1) := by decide +kernel
theorem dX5_readBy_105 : decode cX5_readBy 105 = .ok (.iand, 1) := by decide +kernel
theorem dX5_readBy_106 : decode cX5_readBy 106 = .ok (.istore_n 2, 1) := by decide +kernel
theorem dX5_readBy_107 : decode cX5_readBy 107 = .ok (.iinc 3 1, 3) := by decide +kernel
theorem dX5_readBy_110 : decode cX5_readBy 110 = .ok (.goto (-106), 3) := by decide +kernel
theorem dX5_readBy_113 : decode cX5_readBy 113 = .ok (.iload_n 2, 1) := by decide +kernel
theorem dX5_readBy_114 : decode cX5_readBy 114 = .ok (.ireturn, 1) := by decide +kernel
theorem dX5_readNow_0 : decode cX5_readNow 0 = .ok (.aload_n 0, 1) := by decide +kernel
theorem dX5_readNow_1 : decode cX5_readNow 1 = .ok (.iload_n 1, 1) := by decide +kernel
theorem dX5_readNow_2 : decode cX5_readNow 2 = .ok (.invokevirtual 187, 3) := by decide +kernel
theorem dX5_readNow_5 : decode cX5_readNow 5 = .ok (.aload_n 0, 1) := by decide +kernel
theorem dX5_readNow_6 : decode cX5_readNow 6 = .ok (.aload_n 0, 1) := by decide +kernel
theorem dX5_readNow_7 : decode cX5_readNow 7 = .ok (.getfield 161, 3) := by decide +kernel
theorem dX5_readNow_10 : decode cX5_readNow 10 = .ok (.invokevirtual 190, 3) := by decide +kernel
theorem dX5_readNow_13 : decode cX5_readNow 13 = .ok (.ireturn, 1) := by decide +kernel
theorem dX5_lies_0 : decode cX5_lies 0 = .ok (.aload_n 0, 1) := by decide +kernel
theorem dX5_lies_1 : decode cX5_lies 1 = .ok (.invokevirtual 129, 3) := by decide +kernel
theorem dX5_lies_4 : decode cX5_lies 4 = .ok (.iload_n 1, 1) := by decide +kernel
theorem dX5_lies_5 : decode cX5_lies 5 = .ok (.invokestatic 193, 3) := by decide +kernel
theorem dX5_lies_8 : decode cX5_lies 8 = .ok (.ifCond .eq 18, 3) := by decide +kernel
theorem dX5_lies_11 : decode cX5_lies 11 = .ok (.aload_n 0, 1) := by decide +kernel
theorem dX5_lies_12 : decode cX5_lies 12 = .ok (.iload_n 2, 1) := by decide +kernel
theorem dX5_lies_13 : decode cX5_lies 13 = .ok (.invokevirtual 132, 3) := by decide +kernel
theorem dX5_lies_16 : decode cX5_lies 16 = .ok (.ifCond .eq 10, 3) := by decide +kernel
theorem dX5_lies_19 : decode cX5_lies 19 = .ok (.iload_n 3, 1) := by decide +kernel
theorem dX5_lies_20 : decode cX5_lies 20 = .ok (.invokestatic 89, 3) := by decide +kernel
theorem dX5_lies_23 : decode cX5_lies 23 = .ok (.ifCond .ne 6, 3) := by decide +kernel
theorem dX5_lies_26 : decode cX5_lies 26 = .ok (.bipush (-2), 2) := by decide +kernel
theorem dX5_lies_28 : decode cX5_lies 28 = .ok (.ireturn, 1) := by decide +kernel
theorem dX5_lies_29 : decode cX5_lies 29 = .ok (.aload_n 0, 1) := by decide +kernel
theorem dX5_lies_30 : decode cX5_lies 30 = .ok (.iload_n 2, 1) := by decide +kernel
theorem dX5_lies_31 : decode cX5_lies 31 = .ok (.iload_n 1, 1) := by decide +kernel
theorem dX5_lies_32 : decode cX5_lies 32 = .ok (.invokevirtual 171, 3) := by decide +kernel
theorem dX5_lies_35 : decode cX5_lies 35 = .ok (.iload_n 3, 1) := by decide +kernel
theorem dX5_lies_36 : decode cX5_lies 36 = .ok (.ifCond .ne 12, 3) := by decide +kernel
theorem dX5_lies_39 : decode cX5_lies 39 = .ok (.aload_n 0, 1) := by decide +kernel
theorem dX5_lies_40 : decode cX5_lies 40 = .ok (.getfield 43, 3) := by decide +kernel
theorem dX5_lies_43 : decode cX5_lies 43 = .ok (.iload_n 2, 1) := by decide +kernel
theorem dX5_lies_44 : decode cX5_lies 44 = .ok (.iaload, 1) := by decide +kernel
theorem dX5_lies_45 : decode cX5_lies 45 = .ok (.goto 9, 3) := by decide +kernel
theorem dX5_lies_48 : decode cX5_lies 48 = .ok (.aload_n 0, 1) := by decide +kernel
theorem dX5_lies_49 : decode cX5_lies 49 = .ok (.getfield 46, 3) := by decide +kernel
theorem dX5_lies_52 : decode cX5_lies 52 = .ok (.iload_n 2, 1) := by decide +kernel
theorem dX5_lies_53 : decode cX5_lies 53 = .ok (.iaload, 1) := by decide +kernel
theorem dX5_lies_54 : decode cX5_lies 54 = .ok (.ireturn, 1) := by decide +kernel
theorem dX5_appliesNow_0 : decode cX5_appliesNow 0 = .ok (.iconst 0, 1) := by decide +kernel
theorem dX5_appliesNow_1 : decode cX5_appliesNow 1 = .ok (.istore_n 1, 1) := by decide +kernel
theorem dX5_appliesNow_2 : decode cX5_appliesNow 2 = .ok (.iconst 0, 1) := by decide +kernel
theorem dX5_appliesNow_3 : decode cX5_appliesNow 3 = .ok (.istore_n 2, 1) := by decide +kernel
theorem dX5_appliesNow_4 : decode cX5_appliesNow 4 = .ok (.iload_n 2, 1) := by decide +kernel
theorem dX5_appliesNow_5 : decode cX5_appliesNow 5 = .ok (.aload_n 0, 1) := by decide +kernel
theorem dX5_appliesNow_6 : decode cX5_appliesNow 6 = .ok (.getfield 106, 3) := by decide +kernel
theorem dX5_appliesNow_9 : decode cX5_appliesNow 9 = .ok (.if_icmp .ge 31, 3) := by decide +kernel
theorem dX5_appliesNow_12 : decode cX5_appliesNow 12 = .ok (.iload_n 1, 1) := by decide +kernel
theorem dX5_appliesNow_13 : decode cX5_appliesNow 13 = .ok (.aload_n 0, 1) := by decide +kernel
theorem dX5_appliesNow_14 : decode cX5_appliesNow 14 = .ok (.iload_n 2, 1) := by decide +kernel
theorem dX5_appliesNow_15 : decode cX5_appliesNow 15 = .ok (.aload_n 0, 1) := by decide +kernel
theorem dX5_appliesNow_16 : decode cX5_appliesNow 16 = .ok (.getfield 161, 3) := by decide +kernel
theorem dX5_appliesNow_19 : decode cX5_appliesNow 19 = .ok (.invokevirtual 184, 3) := by decide +kernel
theorem dX5_appliesNow_22 : decode cX5_appliesNow 22 = .ok (.ifCond .eq 9, 3) := by decide +kernel
theorem dX5_appliesNow_25 : decode cX5_appliesNow 25 = .ok (.iconst 1, 1) := by decide +kernel
theorem dX5_appliesNow_26 : decode cX5_appliesNow 26 = .ok (.iload_n 2, 1) := by decide +kernel
theorem dX5_appliesNow_27 : decode cX5_appliesNow 27 = .ok (.ishl, 1) := by decide +kernel
theorem dX5_appliesNow_28 : decode cX5_appliesNow 28 = .ok (.goto 4, 3) := by decide +kernel
theorem dX5_appliesNow_31 : decode cX5_appliesNow 31 = .ok (.iconst 0, 1) := by decide +kernel
theorem dX5_appliesNow_32 : decode cX5_appliesNow 32 = .ok (.ior, 1) := by decide +kernel
theorem dX5_appliesNow_33 : decode cX5_appliesNow 33 = .ok (.istore_n 1, 1) := by decide +kernel
theorem dX5_appliesNow_34 : decode cX5_appliesNow 34 = .ok (.iinc 2 1, 3) := by decide +kernel
theorem dX5_appliesNow_37 : decode cX5_appliesNow 37 = .ok (.goto (-33), 3) := by decide +kernel
theorem dX5_appliesNow_40 : decode cX5_appliesNow 40 = .ok (.iload_n 1, 1) := by decide +kernel
theorem dX5_appliesNow_41 : decode cX5_appliesNow 41 = .ok (.ireturn, 1) := by decide +kernel
theorem dX5_readingOf_0 : decode cX5_readingOf 0 = .ok (.aload_n 0, 1) := by decide +kernel
theorem dX5_readingOf_1 : decode cX5_readingOf 1 = .ok (.iload_n 1, 1) := by decide +kernel
theorem dX5_readingOf_2 : decode cX5_readingOf 2 = .ok (.invokevirtual 187, 3) := by decide +kernel
theorem dX5_readingOf_5 : decode cX5_readingOf 5 = .ok (.iload_n 2, 1) := by decide +kernel
theorem dX5_readingOf_6 : decode cX5_readingOf 6 = .ok (.ifCond .ne 10, 3) := by decide +kernel
theorem dX5_readingOf_9 : decode cX5_readingOf 9 = .ok (.aload_n 0, 1) := by decide +kernel
theorem dX5_readingOf_10 : decode cX5_readingOf 10 = .ok (.getfield 161, 3) := by decide +kernel
theorem dX5_readingOf_13 : decode cX5_readingOf 13 = .ok (.goto 23, 3) := by decide +kernel
theorem dX5_readingOf_16 : decode cX5_readingOf 16 = .ok (.iload_n 2, 1) := by decide +kernel
theorem dX5_readingOf_17 : decode cX5_readingOf 17 = .ok (.iconst 1, 1) := by decide +kernel
theorem dX5_readingOf_18 : decode cX5_readingOf 18 = .ok (.if_icmp .ne 10, 3) := by decide +kernel
theorem dX5_readingOf_21 : decode cX5_readingOf 21 = .ok (.aload_n 0, 1) := by decide +kernel
theorem dX5_readingOf_22 : decode cX5_readingOf 22 = .ok (.invokevirtual 196, 3) := by decide +kernel
theorem dX5_readingOf_25 : decode cX5_readingOf 25 = .ok (.goto 11, 3) := by decide +kernel
theorem dX5_readingOf_28 : decode cX5_readingOf 28 = .ok (.aload_n 0, 1) := by decide +kernel
theorem dX5_readingOf_29 : decode cX5_readingOf 29 = .ok (.aload_n 0, 1) := by decide +kernel
theorem dX5_readingOf_30 : decode cX5_readingOf 30 = .ok (.getfield 161, 3) := by decide +kernel
theorem dX5_readingOf_33 : decode cX5_readingOf 33 = .ok (.invokevirtual 190, 3) := by decide +kernel
theorem dX5_readingOf_36 : decode cX5_readingOf 36 = .ok (.ireturn, 1) := by decide +kernel
theorem dX5_reading_0 : decode cX5_reading 0 = .ok (.aload_n 0, 1) := by decide +kernel
theorem dX5_reading_1 : decode cX5_reading 1 = .ok (.invokevirtual 129, 3) := by decide +kernel
theorem dX5_reading_4 : decode cX5_reading 4 = .ok (.iload_n 1, 1) := by decide +kernel
theorem dX5_reading_5 : decode cX5_reading 5 = .ok (.invokestatic 193, 3) := by decide +kernel
theorem dX5_reading_8 : decode cX5_reading 8 = .ok (.ifCond .eq 24, 3) := by decide +kernel
theorem dX5_reading_11 : decode cX5_reading 11 = .ok (.iload_n 2, 1) := by decide +kernel
theorem dX5_reading_12 : decode cX5_reading 12 = .ok (.i2l, 1) := by decide +kernel
theorem dX5_reading_13 : decode cX5_reading 13 = .ok (.lconst 0, 1) := by decide +kernel
theorem dX5_reading_14 : decode cX5_reading 14 = .ok (.ldc2_w 74, 3) := by decide +kernel
theorem dX5_reading_17 : decode cX5_reading 17 = .ok (.invokestatic 61, 3) := by decide +kernel
theorem dX5_reading_20 : decode cX5_reading 20 = .ok (.ifCond .eq 12, 3) := by decide +kernel
theorem dX5_reading_23 : decode cX5_reading 23 = .ok (.aload_n 0, 1) := by decide +kernel
theorem dX5_reading_24 : decode cX5_reading 24 = .ok (.iload_n 1, 1) := by decide +kernel
theorem dX5_reading_25 : decode cX5_reading 25 = .ok (.iload_n 2, 1) := by decide +kernel
theorem dX5_reading_26 : decode cX5_reading 26 = .ok (.invokevirtual 200, 3) := by decide +kernel
theorem dX5_reading_29 : decode cX5_reading 29 = .ok (.goto 5, 3) := by decide +kernel
theorem dX5_reading_32 : decode cX5_reading 32 = .ok (.bipush (-2), 2) := by decide +kernel
theorem dX5_reading_34 : decode cX5_reading 34 = .ok (.ireturn, 1) := by decide +kernel
theorem dX5_dayOf_0 : decode cX5_dayOf 0 = .ok (.aload_n 0, 1) := by decide +kernel
theorem dX5_dayOf_1 : decode cX5_dayOf 1 = .ok (.aload_n 0, 1) := by decide +kernel
theorem dX5_dayOf_2 : decode cX5_dayOf 2 = .ok (.getfield 40, 3) := by decide +kernel
theorem dX5_dayOf_5 : decode cX5_dayOf 5 = .ok (.iconst 0, 1) := by decide +kernel
theorem dX5_dayOf_6 : decode cX5_dayOf 6 = .ok (.iaload, 1) := by decide +kernel
end
section
theorem dX5_dayOf_7 : decode cX5_dayOf 7 = .ok (.iload_n 1, 1) := by decide +kernel
theorem dX5_dayOf_8 : decode cX5_dayOf 8 = .ok (.aload_n 0, 1) := by decide +kernel
theorem dX5_dayOf_9 : decode cX5_dayOf 9 = .ok (.getfield 40, 3) := by decide +kernel
theorem dX5_dayOf_12 : decode cX5_dayOf 12 = .ok (.iconst 1, 1) := by decide +kernel
theorem dX5_dayOf_13 : decode cX5_dayOf 13 = .ok (.iaload, 1) := by decide +kernel
theorem dX5_dayOf_14 : decode cX5_dayOf 14 = .ok (.imul, 1) := by decide +kernel
theorem dX5_dayOf_15 : decode cX5_dayOf 15 = .ok (.iadd, 1) := by decide +kernel
theorem dX5_dayOf_16 : decode cX5_dayOf 16 = .ok (.iconst 4, 1) := by decide +kernel
theorem dX5_dayOf_17 : decode cX5_dayOf 17 = .ok (.irem, 1) := by decide +kernel
theorem dX5_dayOf_18 : decode cX5_dayOf 18 = .ok (.invokevirtual 203, 3) := by decide +kernel
theorem dX5_dayOf_21 : decode cX5_dayOf 21 = .ok (.ireturn, 1) := by decide +kernel
theorem dX5_day_0 : decode cX5_day 0 = .ok (.aload_n 0, 1) := by decide +kernel
theorem dX5_day_1 : decode cX5_day 1 = .ok (.invokevirtual 129, 3) := by decide +kernel
theorem dX5_day_4 : decode cX5_day 4 = .ok (.iload_n 1, 1) := by decide +kernel
theorem dX5_day_5 : decode cX5_day 5 = .ok (.invokestatic 142, 3) := by decide +kernel
theorem dX5_day_8 : decode cX5_day 8 = .ok (.ifCond .eq 11, 3) := by decide +kernel
theorem dX5_day_11 : decode cX5_day 11 = .ok (.aload_n 0, 1) := by decide +kernel
theorem dX5_day_12 : decode cX5_day 12 = .ok (.iload_n 1, 1) := by decide +kernel
theorem dX5_day_13 : decode cX5_day 13 = .ok (.invokevirtual 206, 3) := by decide +kernel
theorem dX5_day_16 : decode cX5_day 16 = .ok (.goto 5, 3) := by decide +kernel
theorem dX5_day_19 : decode cX5_day 19 = .ok (.bipush (-2), 2) := by decide +kernel
theorem dX5_day_21 : decode cX5_day 21 = .ok (.ireturn, 1) := by decide +kernel
theorem dX5_brokenNow_0 : decode cX5_brokenNow 0 = .ok (.iconst 0, 1) := by decide +kernel
theorem dX5_brokenNow_1 : decode cX5_brokenNow 1 = .ok (.istore_n 1, 1) := by decide +kernel
theorem dX5_brokenNow_2 : decode cX5_brokenNow 2 = .ok (.iconst 0, 1) := by decide +kernel
theorem dX5_brokenNow_3 : decode cX5_brokenNow 3 = .ok (.istore_n 2, 1) := by decide +kernel
theorem dX5_brokenNow_4 : decode cX5_brokenNow 4 = .ok (.iload_n 2, 1) := by decide +kernel
theorem dX5_brokenNow_5 : decode cX5_brokenNow 5 = .ok (.aload_n 0, 1) := by decide +kernel
theorem dX5_brokenNow_6 : decode cX5_brokenNow 6 = .ok (.getfield 148, 3) := by decide +kernel
theorem dX5_brokenNow_9 : decode cX5_brokenNow 9 = .ok (.if_icmp .ge 47, 3) := by decide +kernel
theorem dX5_brokenNow_12 : decode cX5_brokenNow 12 = .ok (.iload_n 1, 1) := by decide +kernel
theorem dX5_brokenNow_13 : decode cX5_brokenNow 13 = .ok (.aload_n 0, 1) := by decide +kernel
theorem dX5_brokenNow_14 : decode cX5_brokenNow 14 = .ok (.aload_n 0, 1) := by decide +kernel
theorem dX5_brokenNow_15 : decode cX5_brokenNow 15 = .ok (.getfield 37, 3) := by decide +kernel
theorem dX5_brokenNow_18 : decode cX5_brokenNow 18 = .ok (.iconst 2, 1) := by decide +kernel
theorem dX5_brokenNow_19 : decode cX5_brokenNow 19 = .ok (.iload_n 2, 1) := by decide +kernel
theorem dX5_brokenNow_20 : decode cX5_brokenNow 20 = .ok (.imul, 1) := by decide +kernel
theorem dX5_brokenNow_21 : decode cX5_brokenNow 21 = .ok (.iaload, 1) := by decide +kernel
theorem dX5_brokenNow_22 : decode cX5_brokenNow 22 = .ok (.invokevirtual 206, 3) := by decide +kernel
theorem dX5_brokenNow_25 : decode cX5_brokenNow 25 = .ok (.aload_n 0, 1) := by decide +kernel
theorem dX5_brokenNow_26 : decode cX5_brokenNow 26 = .ok (.getfield 37, 3) := by decide +kernel
theorem dX5_brokenNow_29 : decode cX5_brokenNow 29 = .ok (.iconst 2, 1) := by decide +kernel
theorem dX5_brokenNow_30 : decode cX5_brokenNow 30 = .ok (.iload_n 2, 1) := by decide +kernel
theorem dX5_brokenNow_31 : decode cX5_brokenNow 31 = .ok (.imul, 1) := by decide +kernel
theorem dX5_brokenNow_32 : decode cX5_brokenNow 32 = .ok (.iconst 1, 1) := by decide +kernel
theorem dX5_brokenNow_33 : decode cX5_brokenNow 33 = .ok (.iadd, 1) := by decide +kernel
theorem dX5_brokenNow_34 : decode cX5_brokenNow 34 = .ok (.iaload, 1) := by decide +kernel
theorem dX5_brokenNow_35 : decode cX5_brokenNow 35 = .ok (.invokestatic 178, 3) := by decide +kernel
theorem dX5_brokenNow_38 : decode cX5_brokenNow 38 = .ok (.ifCond .eq 9, 3) := by decide +kernel
theorem dX5_brokenNow_41 : decode cX5_brokenNow 41 = .ok (.iconst 1, 1) := by decide +kernel
theorem dX5_brokenNow_42 : decode cX5_brokenNow 42 = .ok (.iload_n 2, 1) := by decide +kernel
theorem dX5_brokenNow_43 : decode cX5_brokenNow 43 = .ok (.ishl, 1) := by decide +kernel
theorem dX5_brokenNow_44 : decode cX5_brokenNow 44 = .ok (.goto 4, 3) := by decide +kernel
theorem dX5_brokenNow_47 : decode cX5_brokenNow 47 = .ok (.iconst 0, 1) := by decide +kernel
theorem dX5_brokenNow_48 : decode cX5_brokenNow 48 = .ok (.ior, 1) := by decide +kernel
theorem dX5_brokenNow_49 : decode cX5_brokenNow 49 = .ok (.istore_n 1, 1) := by decide +kernel
theorem dX5_brokenNow_50 : decode cX5_brokenNow 50 = .ok (.iinc 2 1, 3) := by decide +kernel
theorem dX5_brokenNow_53 : decode cX5_brokenNow 53 = .ok (.goto (-49), 3) := by decide +kernel
theorem dX5_brokenNow_56 : decode cX5_brokenNow 56 = .ok (.iload_n 1, 1) := by decide +kernel
theorem dX5_brokenNow_57 : decode cX5_brokenNow 57 = .ok (.ireturn, 1) := by decide +kernel
theorem dX5_firstBroken_0 : decode cX5_firstBroken 0 = .ok (.aload_n 0, 1) := by decide +kernel
theorem dX5_firstBroken_1 : decode cX5_firstBroken 1 = .ok (.invokevirtual 209, 3) := by decide +kernel
theorem dX5_firstBroken_4 : decode cX5_firstBroken 4 = .ok (.istore_n 1, 1) := by decide +kernel
theorem dX5_firstBroken_5 : decode cX5_firstBroken 5 = .ok (.iconst (-1), 1) := by decide +kernel
theorem dX5_firstBroken_6 : decode cX5_firstBroken 6 = .ok (.istore_n 2, 1) := by decide +kernel
theorem dX5_firstBroken_7 : decode cX5_firstBroken 7 = .ok (.iconst 0, 1) := by decide +kernel
theorem dX5_firstBroken_8 : decode cX5_firstBroken 8 = .ok (.istore_n 3, 1) := by decide +kernel
theorem dX5_firstBroken_9 : decode cX5_firstBroken 9 = .ok (.iload_n 3, 1) := by decide +kernel
theorem dX5_firstBroken_10 : decode cX5_firstBroken 10 = .ok (.aload_n 0, 1) := by decide +kernel
theorem dX5_firstBroken_11 : decode cX5_firstBroken 11 = .ok (.getfield 148, 3) := by decide +kernel
theorem dX5_firstBroken_14 : decode cX5_firstBroken 14 = .ok (.if_icmp .ge 47, 3) := by decide +kernel
theorem dX5_firstBroken_17 : decode cX5_firstBroken 17 = .ok (.iload_n 1, 1) := by decide +kernel
theorem dX5_firstBroken_18 : decode cX5_firstBroken 18 = .ok (.iload_n 3, 1) := by decide +kernel
theorem dX5_firstBroken_19 : decode cX5_firstBroken 19 = .ok (.invokestatic 178, 3) := by decide +kernel
theorem dX5_firstBroken_22 : decode cX5_firstBroken 22 = .ok (.ifCond .eq 31, 3) := by decide +kernel
theorem dX5_firstBroken_25 : decode cX5_firstBroken 25 = .ok (.iload_n 2, 1) := by decide +kernel
theorem dX5_firstBroken_26 : decode cX5_firstBroken 26 = .ok (.iconst (-1), 1) := by decide +kernel
theorem dX5_firstBroken_27 : decode cX5_firstBroken 27 = .ok (.if_icmp .eq 22, 3) := by decide +kernel
theorem dX5_firstBroken_30 : decode cX5_firstBroken 30 = .ok (.aload_n 0, 1) := by decide +kernel
theorem dX5_firstBroken_31 : decode cX5_firstBroken 31 = .ok (.getfield 37, 3) := by decide +kernel
theorem dX5_firstBroken_34 : decode cX5_firstBroken 34 = .ok (.iconst 2, 1) := by decide +kernel
theorem dX5_firstBroken_35 : decode cX5_firstBroken 35 = .ok (.iload_n 3, 1) := by decide +kernel
theorem dX5_firstBroken_36 : decode cX5_firstBroken 36 = .ok (.imul, 1) := by decide +kernel
theorem dX5_firstBroken_37 : decode cX5_firstBroken 37 = .ok (.iaload, 1) := by decide +kernel
theorem dX5_firstBroken_38 : decode cX5_firstBroken 38 = .ok (.aload_n 0, 1) := by decide +kernel
theorem dX5_firstBroken_39 : decode cX5_firstBroken 39 = .ok (.getfield 37, 3) := by decide +kernel
theorem dX5_firstBroken_42 : decode cX5_firstBroken 42 = .ok (.iconst 2, 1) := by decide +kernel
theorem dX5_firstBroken_43 : decode cX5_firstBroken 43 = .ok (.iload_n 2, 1) := by decide +kernel
theorem dX5_firstBroken_44 : decode cX5_firstBroken 44 = .ok (.imul, 1) := by decide +kernel
theorem dX5_firstBroken_45 : decode cX5_firstBroken 45 = .ok (.iaload, 1) := by decide +kernel
theorem dX5_firstBroken_46 : decode cX5_firstBroken 46 = .ok (.if_icmp .ge 7, 3) := by decide +kernel
theorem dX5_firstBroken_49 : decode cX5_firstBroken 49 = .ok (.iload_n 3, 1) := by decide +kernel
theorem dX5_firstBroken_50 : decode cX5_firstBroken 50 = .ok (.goto 4, 3) := by decide +kernel
theorem dX5_firstBroken_53 : decode cX5_firstBroken 53 = .ok (.iload_n 2, 1) := by decide +kernel
theorem dX5_firstBroken_54 : decode cX5_firstBroken 54 = .ok (.istore_n 2, 1) := by decide +kernel
theorem dX5_firstBroken_55 : decode cX5_firstBroken 55 = .ok (.iinc 3 1, 3) := by decide +kernel
theorem dX5_firstBroken_58 : decode cX5_firstBroken 58 = .ok (.goto (-49), 3) := by decide +kernel
theorem dX5_firstBroken_61 : decode cX5_firstBroken 61 = .ok (.iload_n 2, 1) := by decide +kernel
theorem dX5_firstBroken_62 : decode cX5_firstBroken 62 = .ok (.ireturn, 1) := by decide +kernel
theorem dX5_broken_0 : decode cX5_broken 0 = .ok (.aload_n 0, 1) := by decide +kernel
theorem dX5_broken_1 : decode cX5_broken 1 = .ok (.invokevirtual 129, 3) := by decide +kernel
theorem dX5_broken_4 : decode cX5_broken 4 = .ok (.iload_n 1, 1) := by decide +kernel
theorem dX5_broken_5 : decode cX5_broken 5 = .ok (.invokestatic 89, 3) := by decide +kernel
theorem dX5_broken_8 : decode cX5_broken 8 = .ok (.ifCond .ne 8, 3) := by decide +kernel
theorem dX5_broken_11 : decode cX5_broken 11 = .ok (.bipush (-2), 2) := by decide +kernel
theorem dX5_broken_13 : decode cX5_broken 13 = .ok (.goto 18, 3) := by decide +kernel
theorem dX5_broken_16 : decode cX5_broken 16 = .ok (.iload_n 1, 1) := by decide +kernel
theorem dX5_broken_17 : decode cX5_broken 17 = .ok (.ifCond .ne 10, 3) := by decide +kernel
theorem dX5_broken_20 : decode cX5_broken 20 = .ok (.aload_n 0, 1) := by decide +kernel
theorem dX5_broken_21 : decode cX5_broken 21 = .ok (.invokevirtual 209, 3) := by decide +kernel
theorem dX5_broken_24 : decode cX5_broken 24 = .ok (.goto 7, 3) := by decide +kernel
theorem dX5_broken_27 : decode cX5_broken 27 = .ok (.aload_n 0, 1) := by decide +kernel
theorem dX5_broken_28 : decode cX5_broken 28 = .ok (.invokevirtual 212, 3) := by decide +kernel
theorem dX5_broken_31 : decode cX5_broken 31 = .ok (.ireturn, 1) := by decide +kernel
theorem dX5_freeOf_0 : decode cX5_freeOf 0 = .ok (.iconst 0, 1) := by decide +kernel
theorem dX5_freeOf_1 : decode cX5_freeOf 1 = .ok (.istore_n 2, 1) := by decide +kernel
theorem dX5_freeOf_2 : decode cX5_freeOf 2 = .ok (.iconst 0, 1) := by decide +kernel
theorem dX5_freeOf_3 : decode cX5_freeOf 3 = .ok (.istore_n 3, 1) := by decide +kernel
theorem dX5_freeOf_4 : decode cX5_freeOf 4 = .ok (.iload_n 3, 1) := by decide +kernel
theorem dX5_freeOf_5 : decode cX5_freeOf 5 = .ok (.bipush 28, 2) := by decide +kernel
theorem dX5_freeOf_7 : decode cX5_freeOf 7 = .ok (.if_icmp .ge 31, 3) := by decide +kernel
theorem dX5_freeOf_10 : decode cX5_freeOf 10 = .ok (.iload_n 2, 1) := by decide +kernel
theorem dX5_freeOf_11 : decode cX5_freeOf 11 = .ok (.aload_n 0, 1) := by decide +kernel
theorem dX5_freeOf_12 : decode cX5_freeOf 12 = .ok (.iload_n 3, 1) := by decide +kernel
theorem dX5_freeOf_13 : decode cX5_freeOf 13 = .ok (.invokevirtual 206, 3) := by decide +kernel
theorem dX5_freeOf_16 : decode cX5_freeOf 16 = .ok (.iload_n 1, 1) := by decide +kernel
theorem dX5_freeOf_17 : decode cX5_freeOf 17 = .ok (.invokestatic 178, 3) := by decide +kernel
theorem dX5_freeOf_20 : decode cX5_freeOf 20 = .ok (.ifCond .eq 7, 3) := by decide +kernel
theorem dX5_freeOf_23 : decode cX5_freeOf 23 = .ok (.iconst 0, 1) := by decide +kernel
theorem dX5_freeOf_24 : decode cX5_freeOf 24 = .ok (.goto 6, 3) := by decide +kernel
theorem dX5_freeOf_27 : decode cX5_freeOf 27 = .ok (.iconst 1, 1) := by decide +kernel
theorem dX5_freeOf_28 : decode cX5_freeOf 28 = .ok (.iload_n 3, 1) := by decide +kernel
theorem dX5_freeOf_29 : decode cX5_freeOf 29 = .ok (.ishl, 1) := by decide +kernel
theorem dX5_freeOf_30 : decode cX5_freeOf 30 = .ok (.ior, 1) := by decide +kernel
theorem dX5_freeOf_31 : decode cX5_freeOf 31 = .ok (.istore_n 2, 1) := by decide +kernel
theorem dX5_freeOf_32 : decode cX5_freeOf 32 = .ok (.iinc 3 1, 3) := by decide +kernel
theorem dX5_freeOf_35 : decode cX5_freeOf 35 = .ok (.goto (-31), 3) := by decide +kernel
theorem dX5_freeOf_38 : decode cX5_freeOf 38 = .ok (.iload_n 2, 1) := by decide +kernel
theorem dX5_freeOf_39 : decode cX5_freeOf 39 = .ok (.ireturn, 1) := by decide +kernel
theorem dX5_free_0 : decode cX5_free 0 = .ok (.aload_n 0, 1) := by decide +kernel
theorem dX5_free_1 : decode cX5_free 1 = .ok (.invokevirtual 129, 3) := by decide +kernel
theorem dX5_free_4 : decode cX5_free 4 = .ok (.iload_n 1, 1) := by decide +kernel
theorem dX5_free_5 : decode cX5_free 5 = .ok (.invokestatic 145, 3) := by decide +kernel
theorem dX5_free_8 : decode cX5_free 8 = .ok (.ifCond .eq 11, 3) := by decide +kernel
theorem dX5_free_11 : decode cX5_free 11 = .ok (.aload_n 0, 1) := by decide +kernel
theorem dX5_free_12 : decode cX5_free 12 = .ok (.iload_n 1, 1) := by decide +kernel
theorem dX5_free_13 : decode cX5_free 13 = .ok (.invokevirtual 215, 3) := by decide +kernel
theorem dX5_free_16 : decode cX5_free 16 = .ok (.goto 5, 3) := by decide +kernel
theorem dX5_free_19 : decode cX5_free 19 = .ok (.bipush (-2), 2) := by decide +kernel
theorem dX5_free_21 : decode cX5_free 21 = .ok (.ireturn, 1) := by decide +kernel
theorem dX5_clashOf_0 : decode cX5_clashOf 0 = .ok (.aload_n 0, 1) := by decide +kernel
theorem dX5_clashOf_1 : decode cX5_clashOf 1 = .ok (.iload_n 1, 1) := by decide +kernel
theorem dX5_clashOf_2 : decode cX5_clashOf 2 = .ok (.invokevirtual 187, 3) := by decide +kernel
theorem dX5_clashOf_5 : decode cX5_clashOf 5 = .ok (.aload_n 0, 1) := by decide +kernel
theorem dX5_clashOf_6 : decode cX5_clashOf 6 = .ok (.invokevirtual 196, 3) := by decide +kernel
theorem dX5_clashOf_9 : decode cX5_clashOf 9 = .ok (.istore_n 2, 1) := by decide +kernel
theorem dX5_clashOf_10 : decode cX5_clashOf 10 = .ok (.iconst 0, 1) := by decide +kernel
theorem dX5_clashOf_11 : decode cX5_clashOf 11 = .ok (.istore_n 3, 1) := by decide +kernel
theorem dX5_clashOf_12 : decode cX5_clashOf 12 = .ok (.iload_n 3, 1) := by decide +kernel
theorem dX5_clashOf_13 : decode cX5_clashOf 13 = .ok (.aload_n 0, 1) := by decide +kernel
theorem dX5_clashOf_14 : decode cX5_clashOf 14 = .ok (.getfield 106, 3) := by decide +kernel
theorem dX5_clashOf_17 : decode cX5_clashOf 17 = .ok (.if_icmp .ge 103, 3) := by decide +kernel
theorem dX5_clashOf_20 : decode cX5_clashOf 20 = .ok (.iconst 0, 1) := by decide +kernel
theorem dX5_clashOf_21 : decode cX5_clashOf 21 = .ok (.istore 4, 2) := by decide +kernel
theorem dX5_clashOf_23 : decode cX5_clashOf 23 = .ok (.iload 4, 2) := by decide +kernel
theorem dX5_clashOf_25 : decode cX5_clashOf 25 = .ok (.iload_n 3, 1) := by decide +kernel
theorem dX5_clashOf_26 : decode cX5_clashOf 26 = .ok (.if_icmp .ge 88, 3) := by decide +kernel
theorem dX5_clashOf_29 : decode cX5_clashOf 29 = .ok (.iload_n 2, 1) := by decide +kernel
theorem dX5_clashOf_30 : decode cX5_clashOf 30 = .ok (.iload_n 3, 1) := by decide +kernel
theorem dX5_clashOf_31 : decode cX5_clashOf 31 = .ok (.invokestatic 178, 3) := by decide +kernel
theorem dX5_clashOf_34 : decode cX5_clashOf 34 = .ok (.ifCond .eq 40, 3) := by decide +kernel
theorem dX5_clashOf_37 : decode cX5_clashOf 37 = .ok (.iload_n 2, 1) := by decide +kernel
theorem dX5_clashOf_38 : decode cX5_clashOf 38 = .ok (.iload 4, 2) := by decide +kernel
theorem dX5_clashOf_40 : decode cX5_clashOf 40 = .ok (.invokestatic 178, 3) := by decide +kernel
theorem dX5_clashOf_43 : decode cX5_clashOf 43 = .ok (.ifCond .eq 31, 3) := by decide +kernel
theorem dX5_clashOf_46 : decode cX5_clashOf 46 = .ok (.aload_n 0, 1) := by decide +kernel
theorem dX5_clashOf_47 : decode cX5_clashOf 47 = .ok (.getfield 31, 3) := by decide +kernel
theorem dX5_clashOf_50 : decode cX5_clashOf 50 = .ok (.iconst 5, 1) := by decide +kernel
theorem dX5_clashOf_51 : decode cX5_clashOf 51 = .ok (.iload_n 3, 1) := by decide +kernel
theorem dX5_clashOf_52 : decode cX5_clashOf 52 = .ok (.imul, 1) := by decide +kernel
theorem dX5_clashOf_53 : decode cX5_clashOf 53 = .ok (.iconst 4, 1) := by decide +kernel
theorem dX5_clashOf_54 : decode cX5_clashOf 54 = .ok (.iadd, 1) := by decide +kernel
theorem dX5_clashOf_55 : decode cX5_clashOf 55 = .ok (.iaload, 1) := by decide +kernel
theorem dX5_clashOf_56 : decode cX5_clashOf 56 = .ok (.aload_n 0, 1) := by decide +kernel
theorem dX5_clashOf_57 : decode cX5_clashOf 57 = .ok (.getfield 31, 3) := by decide +kernel
theorem dX5_clashOf_60 : decode cX5_clashOf 60 = .ok (.iconst 5, 1) := by decide +kernel
theorem dX5_clashOf_61 : decode cX5_clashOf 61 = .ok (.iload 4, 2) := by decide +kernel
theorem dX5_clashOf_63 : decode cX5_clashOf 63 = .ok (.imul, 1) := by decide +kernel
theorem dX5_clashOf_64 : decode cX5_clashOf 64 = .ok (.iconst 4, 1) := by decide +kernel
theorem dX5_clashOf_65 : decode cX5_clashOf 65 = .ok (.iadd, 1) := by decide +kernel
theorem dX5_clashOf_66 : decode cX5_clashOf 66 = .ok (.iaload, 1) := by decide +kernel
theorem dX5_clashOf_67 : decode cX5_clashOf 67 = .ok (.if_icmp .ne 7, 3) := by decide +kernel
theorem dX5_clashOf_70 : decode cX5_clashOf 70 = .ok (.iconst 1, 1) := by decide +kernel
theorem dX5_clashOf_71 : decode cX5_clashOf 71 = .ok (.goto 4, 3) := by decide +kernel
theorem dX5_clashOf_74 : decode cX5_clashOf 74 = .ok (.iconst 0, 1) := by decide +kernel
theorem dX5_clashOf_75 : decode cX5_clashOf 75 = .ok (.istore 5, 2) := by decide +kernel
theorem dX5_clashOf_77 : decode cX5_clashOf 77 = .ok (.iload 5, 2) := by decide +kernel
theorem dX5_clashOf_79 : decode cX5_clashOf 79 = .ok (.ifCond .eq 29, 3) := by decide +kernel
theorem dX5_clashOf_82 : decode cX5_clashOf 82 = .ok (.aload_n 0, 1) := by decide +kernel
theorem dX5_clashOf_83 : decode cX5_clashOf 83 = .ok (.getfield 31, 3) := by decide +kernel
theorem dX5_clashOf_86 : decode cX5_clashOf 86 = .ok (.iconst 5, 1) := by decide +kernel
theorem dX5_clashOf_87 : decode cX5_clashOf 87 = .ok (.iload_n 3, 1) := by decide +kernel
theorem dX5_clashOf_88 : decode cX5_clashOf 88 = .ok (.imul, 1) := by decide +kernel
theorem dX5_clashOf_89 : decode cX5_clashOf 89 = .ok (.iconst 3, 1) := by decide +kernel
theorem dX5_clashOf_90 : decode cX5_clashOf 90 = .ok (.iadd, 1) := by decide +kernel
theorem dX5_clashOf_91 : decode cX5_clashOf 91 = .ok (.iaload, 1) := by decide +kernel
theorem dX5_clashOf_92 : decode cX5_clashOf 92 = .ok (.aload_n 0, 1) := by decide +kernel
theorem dX5_clashOf_93 : decode cX5_clashOf 93 = .ok (.getfield 31, 3) := by decide +kernel
theorem dX5_clashOf_96 : decode cX5_clashOf 96 = .ok (.iconst 5, 1) := by decide +kernel
theorem dX5_clashOf_97 : decode cX5_clashOf 97 = .ok (.iload 4, 2) := by decide +kernel
theorem dX5_clashOf_99 : decode cX5_clashOf 99 = .ok (.imul, 1) := by decide +kernel
theorem dX5_clashOf_100 : decode cX5_clashOf 100 = .ok (.iconst 3, 1) := by decide +kernel
theorem dX5_clashOf_101 : decode cX5_clashOf 101 = .ok (.iadd, 1) := by decide +kernel
theorem dX5_clashOf_102 : decode cX5_clashOf 102 = .ok (.iaload, 1) := by decide +kernel
theorem dX5_clashOf_103 : decode cX5_clashOf 103 = .ok (.if_icmp .eq 5, 3) := by decide +kernel
theorem dX5_clashOf_106 : decode cX5_clashOf 106 = .ok (.iload_n 3, 1) := by decide +kernel
theorem dX5_clashOf_107 : decode cX5_clashOf 107 = .ok (.ireturn, 1) := by decide +kernel
theorem dX5_clashOf_108 : decode cX5_clashOf 108 = .ok (.iinc 4 1, 3) := by decide +kernel
theorem dX5_clashOf_111 : decode cX5_clashOf 111 = .ok (.goto (-88), 3) := by decide +kernel
theorem dX5_clashOf_114 : decode cX5_clashOf 114 = .ok (.iinc 3 1, 3) := by decide +kernel
theorem dX5_clashOf_117 : decode cX5_clashOf 117 = .ok (.goto (-105), 3) := by decide +kernel
theorem dX5_clashOf_120 : decode cX5_clashOf 120 = .ok (.iconst (-1), 1) := by decide +kernel
theorem dX5_clashOf_121 : decode cX5_clashOf 121 = .ok (.ireturn, 1) := by decide +kernel
theorem dX5_clash_0 : decode cX5_clash 0 = .ok (.aload_n 0, 1) := by decide +kernel
theorem dX5_clash_1 : decode cX5_clash 1 = .ok (.invokevirtual 129, 3) := by decide +kernel
theorem dX5_clash_4 : decode cX5_clash 4 = .ok (.iload_n 1, 1) := by decide +kernel
theorem dX5_clash_5 : decode cX5_clash 5 = .ok (.invokestatic 193, 3) := by decide +kernel
theorem dX5_clash_8 : decode cX5_clash 8 = .ok (.ifCond .eq 11, 3) := by decide +kernel
theorem dX5_clash_11 : decode cX5_clash 11 = .ok (.aload_n 0, 1) := by decide +kernel
theorem dX5_clash_12 : decode cX5_clash 12 = .ok (.iload_n 1, 1) := by decide +kernel
theorem dX5_clash_13 : decode cX5_clash 13 = .ok (.invokevirtual 218, 3) := by decide +kernel
theorem dX5_clash_16 : decode cX5_clash 16 = .ok (.goto 5, 3) := by decide +kernel
theorem dX5_clash_19 : decode cX5_clash 19 = .ok (.bipush (-2), 2) := by decide +kernel
theorem dX5_clash_21 : decode cX5_clash 21 = .ok (.ireturn, 1) := by decide +kernel
theorem dX5_pourOf_0 : decode cX5_pourOf 0 = .ok (.iconst 0, 1) := by decide +kernel
theorem dX5_pourOf_1 : decode cX5_pourOf 1 = .ok (.istore_n 2, 1) := by decide +kernel
theorem dX5_pourOf_2 : decode cX5_pourOf 2 = .ok (.bipush (-9), 2) := by decide +kernel
theorem dX5_pourOf_4 : decode cX5_pourOf 4 = .ok (.istore_n 3, 1) := by decide +kernel
theorem dX5_pourOf_5 : decode cX5_pourOf 5 = .ok (.iconst 0, 1) := by decide +kernel
theorem dX5_pourOf_6 : decode cX5_pourOf 6 = .ok (.istore 4, 2) := by decide +kernel
theorem dX5_pourOf_8 : decode cX5_pourOf 8 = .ok (.iload 4, 2) := by decide +kernel
theorem dX5_pourOf_10 : decode cX5_pourOf 10 = .ok (.iconst 4, 1) := by decide +kernel
theorem dX5_pourOf_11 : decode cX5_pourOf 11 = .ok (.if_icmp .ge 62, 3) := by decide +kernel
theorem dX5_pourOf_14 : decode cX5_pourOf 14 = .ok (.aload_n 0, 1) := by decide +kernel
theorem dX5_pourOf_15 : decode cX5_pourOf 15 = .ok (.iload 4, 2) := by decide +kernel
theorem dX5_pourOf_17 : decode cX5_pourOf 17 = .ok (.invokevirtual 203, 3) := by decide +kernel
theorem dX5_pourOf_20 : decode cX5_pourOf 20 = .ok (.istore 5, 2) := by decide +kernel
theorem dX5_pourOf_22 : decode cX5_pourOf 22 = .ok (.iload 5, 2) := by decide +kernel
theorem dX5_pourOf_24 : decode cX5_pourOf 24 = .ok (.iload_n 1, 1) := by decide +kernel
theorem dX5_pourOf_25 : decode cX5_pourOf 25 = .ok (.iand, 1) := by decide +kernel
theorem dX5_pourOf_26 : decode cX5_pourOf 26 = .ok (.invokestatic 221, 3) := by decide +kernel
theorem dX5_pourOf_29 : decode cX5_pourOf 29 = .ok (.iload 5, 2) := by decide +kernel
theorem dX5_pourOf_31 : decode cX5_pourOf 31 = .ok (.iload_n 1, 1) := by decide +kernel
theorem dX5_pourOf_32 : decode cX5_pourOf 32 = .ok (.iconst (-1), 1) := by decide +kernel
theorem dX5_pourOf_33 : decode cX5_pourOf 33 = .ok (.ixor, 1) := by decide +kernel
theorem dX5_pourOf_34 : decode cX5_pourOf 34 = .ok (.iand, 1) := by decide +kernel
theorem dX5_pourOf_35 : decode cX5_pourOf 35 = .ok (.invokestatic 221, 3) := by decide +kernel
theorem dX5_pourOf_38 : decode cX5_pourOf 38 = .ok (.isub, 1) := by decide +kernel
theorem dX5_pourOf_39 : decode cX5_pourOf 39 = .ok (.istore 6, 2) := by decide +kernel
theorem dX5_pourOf_41 : decode cX5_pourOf 41 = .ok (.iload 6, 2) := by decide +kernel
theorem dX5_pourOf_43 : decode cX5_pourOf 43 = .ok (.iload_n 3, 1) := by decide +kernel
theorem dX5_pourOf_44 : decode cX5_pourOf 44 = .ok (.if_icmp .le 8, 3) := by decide +kernel
theorem dX5_pourOf_47 : decode cX5_pourOf 47 = .ok (.iload 4, 2) := by decide +kernel
theorem dX5_pourOf_49 : decode cX5_pourOf 49 = .ok (.goto 4, 3) := by decide +kernel
theorem dX5_pourOf_52 : decode cX5_pourOf 52 = .ok (.iload_n 2, 1) := by decide +kernel
theorem dX5_pourOf_53 : decode cX5_pourOf 53 = .ok (.istore_n 2, 1) := by decide +kernel
theorem dX5_pourOf_54 : decode cX5_pourOf 54 = .ok (.iload 6, 2) := by decide +kernel
theorem dX5_pourOf_56 : decode cX5_pourOf 56 = .ok (.iload_n 3, 1) := by decide +kernel
theorem dX5_pourOf_57 : decode cX5_pourOf 57 = .ok (.if_icmp .le 8, 3) := by decide +kernel
theorem dX5_pourOf_60 : decode cX5_pourOf 60 = .ok (.iload 6, 2) := by decide +kernel
theorem dX5_pourOf_62 : decode cX5_pourOf 62 = .ok (.goto 4, 3) := by decide +kernel
theorem dX5_pourOf_65 : decode cX5_pourOf 65 = .ok (.iload_n 3, 1) := by decide +kernel
theorem dX5_pourOf_66 : decode cX5_pourOf 66 = .ok (.istore_n 3, 1) := by decide +kernel
theorem dX5_pourOf_67 : decode cX5_pourOf 67 = .ok (.iinc 4 1, 3) := by decide +kernel
theorem dX5_pourOf_70 : decode cX5_pourOf 70 = .ok (.goto (-62), 3) := by decide +kernel
theorem dX5_pourOf_73 : decode cX5_pourOf 73 = .ok (.iload_n 2, 1) := by decide +kernel
theorem dX5_pourOf_74 : decode cX5_pourOf 74 = .ok (.ireturn, 1) := by decide +kernel
theorem dX5_pour_0 : decode cX5_pour 0 = .ok (.aload_n 0, 1) := by decide +kernel
theorem dX5_pour_1 : decode cX5_pour 1 = .ok (.invokevirtual 129, 3) := by decide +kernel
theorem dX5_pour_4 : decode cX5_pour 4 = .ok (.iload_n 1, 1) := by decide +kernel
theorem dX5_pour_5 : decode cX5_pour 5 = .ok (.invokestatic 224, 3) := by decide +kernel
theorem dX5_pour_8 : decode cX5_pour 8 = .ok (.ifCond .eq 11, 3) := by decide +kernel
theorem dX5_pour_11 : decode cX5_pour 11 = .ok (.aload_n 0, 1) := by decide +kernel
theorem dX5_pour_12 : decode cX5_pour 12 = .ok (.iload_n 1, 1) := by decide +kernel
theorem dX5_pour_13 : decode cX5_pour 13 = .ok (.invokevirtual 227, 3) := by decide +kernel
theorem dX5_pour_16 : decode cX5_pour 16 = .ok (.goto 5, 3) := by decide +kernel
theorem dX5_pour_19 : decode cX5_pour 19 = .ok (.bipush (-2), 2) := by decide +kernel
theorem dX5_pour_21 : decode cX5_pour 21 = .ok (.ireturn, 1) := by decide +kernel
theorem dX5_tells_0 : decode cX5_tells 0 = .ok (.iload_n 0, 1) := by decide +kernel
theorem dX5_tells_1 : decode cX5_tells 1 = .ok (.iconst (-1), 1) := by decide +kernel
theorem dX5_tells_2 : decode cX5_tells 2 = .ok (.if_icmp .eq 8, 3) := by decide +kernel
theorem dX5_tells_5 : decode cX5_tells 5 = .ok (.iload_n 1, 1) := by decide +kernel
theorem dX5_tells_6 : decode cX5_tells 6 = .ok (.iconst 1, 1) := by decide +kernel
theorem dX5_tells_7 : decode cX5_tells 7 = .ok (.if_icmp .ne 7, 3) := by decide +kernel
theorem dX5_tells_10 : decode cX5_tells 10 = .ok (.iload_n 0, 1) := by decide +kernel
theorem dX5_tells_11 : decode cX5_tells 11 = .ok (.goto 7, 3) := by decide +kernel
theorem dX5_tells_14 : decode cX5_tells 14 = .ok (.iload_n 0, 1) := by decide +kernel
theorem dX5_tells_15 : decode cX5_tells 15 = .ok (.invokestatic 221, 3) := by decide +kernel
theorem dX5_tells_18 : decode cX5_tells 18 = .ok (.ireturn, 1) := by decide +kernel
theorem dX5_strainOf_0 : decode cX5_strainOf 0 = .ok (.aload_n 0, 1) := by decide +kernel
theorem dX5_strainOf_1 : decode cX5_strainOf 1 = .ok (.iload_n 1, 1) := by decide +kernel
theorem dX5_strainOf_2 : decode cX5_strainOf 2 = .ok (.invokevirtual 187, 3) := by decide +kernel
theorem dX5_strainOf_5 : decode cX5_strainOf 5 = .ok (.iconst (-1), 1) := by decide +kernel
theorem dX5_strainOf_6 : decode cX5_strainOf 6 = .ok (.istore 4, 2) := by decide +kernel
theorem dX5_strainOf_8 : decode cX5_strainOf 8 = .ok (.iconst 0, 1) := by decide +kernel
theorem dX5_strainOf_9 : decode cX5_strainOf 9 = .ok (.istore 5, 2) := by decide +kernel
theorem dX5_strainOf_11 : decode cX5_strainOf 11 = .ok (.iload 5, 2) := by decide +kernel
theorem dX5_strainOf_13 : decode cX5_strainOf 13 = .ok (.iconst 1, 1) := by decide +kernel
theorem dX5_strainOf_14 : decode cX5_strainOf 14 = .ok (.aload_n 0, 1) := by decide +kernel
theorem dX5_strainOf_15 : decode cX5_strainOf 15 = .ok (.getfield 103, 3) := by decide +kernel
theorem dX5_strainOf_18 : decode cX5_strainOf 18 = .ok (.ishl, 1) := by decide +kernel
theorem dX5_strainOf_19 : decode cX5_strainOf 19 = .ok (.if_icmp .ge 67, 3) := by decide +kernel
theorem dX5_strainOf_22 : decode cX5_strainOf 22 = .ok (.iload 4, 2) := by decide +kernel
theorem dX5_strainOf_24 : decode cX5_strainOf 24 = .ok (.iconst (-1), 1) := by decide +kernel
theorem dX5_strainOf_25 : decode cX5_strainOf 25 = .ok (.if_icmp .eq 16, 3) := by decide +kernel
theorem dX5_strainOf_28 : decode cX5_strainOf 28 = .ok (.iload 5, 2) := by decide +kernel
theorem dX5_strainOf_30 : decode cX5_strainOf 30 = .ok (.invokestatic 221, 3) := by decide +kernel
theorem dX5_strainOf_33 : decode cX5_strainOf 33 = .ok (.iload 4, 2) := by decide +kernel
theorem dX5_strainOf_35 : decode cX5_strainOf 35 = .ok (.invokestatic 221, 3) := by decide +kernel
theorem dX5_strainOf_38 : decode cX5_strainOf 38 = .ok (.if_icmp .ge 42, 3) := by decide +kernel
theorem dX5_strainOf_41 : decode cX5_strainOf 41 = .ok (.aload_n 0, 1) := by decide +kernel
theorem dX5_strainOf_42 : decode cX5_strainOf 42 = .ok (.aload_n 0, 1) := by decide +kernel
theorem dX5_strainOf_43 : decode cX5_strainOf 43 = .ok (.getfield 161, 3) := by decide +kernel
theorem dX5_strainOf_46 : decode cX5_strainOf 46 = .ok (.iload 5, 2) := by decide +kernel
theorem dX5_strainOf_48 : decode cX5_strainOf 48 = .ok (.iconst (-1), 1) := by decide +kernel
theorem dX5_strainOf_49 : decode cX5_strainOf 49 = .ok (.ixor, 1) := by decide +kernel
theorem dX5_strainOf_50 : decode cX5_strainOf 50 = .ok (.iand, 1) := by decide +kernel
theorem dX5_strainOf_51 : decode cX5_strainOf 51 = .ok (.invokevirtual 190, 3) := by decide +kernel
theorem dX5_strainOf_54 : decode cX5_strainOf 54 = .ok (.istore 6, 2) := by decide +kernel
theorem dX5_strainOf_56 : decode cX5_strainOf 56 = .ok (.iload 6, 2) := by decide +kernel
theorem dX5_strainOf_58 : decode cX5_strainOf 58 = .ok (.iload_n 2, 1) := by decide +kernel
theorem dX5_strainOf_59 : decode cX5_strainOf 59 = .ok (.iand, 1) := by decide +kernel
theorem dX5_strainOf_60 : decode cX5_strainOf 60 = .ok (.iload_n 2, 1) := by decide +kernel
theorem dX5_strainOf_61 : decode cX5_strainOf 61 = .ok (.if_icmp .ne 15, 3) := by decide +kernel
theorem dX5_strainOf_64 : decode cX5_strainOf 64 = .ok (.iload 6, 2) := by decide +kernel
theorem dX5_strainOf_66 : decode cX5_strainOf 66 = .ok (.iload_n 3, 1) := by decide +kernel
theorem dX5_strainOf_67 : decode cX5_strainOf 67 = .ok (.iand, 1) := by decide +kernel
theorem dX5_strainOf_68 : decode cX5_strainOf 68 = .ok (.ifCond .ne 8, 3) := by decide +kernel
theorem dX5_strainOf_71 : decode cX5_strainOf 71 = .ok (.iload 5, 2) := by decide +kernel
theorem dX5_strainOf_73 : decode cX5_strainOf 73 = .ok (.goto 5, 3) := by decide +kernel
theorem dX5_strainOf_76 : decode cX5_strainOf 76 = .ok (.iload 4, 2) := by decide +kernel
theorem dX5_strainOf_78 : decode cX5_strainOf 78 = .ok (.istore 4, 2) := by decide +kernel
theorem dX5_strainOf_80 : decode cX5_strainOf 80 = .ok (.iinc 5 1, 3) := by decide +kernel
theorem dX5_strainOf_83 : decode cX5_strainOf 83 = .ok (.goto (-72), 3) := by decide +kernel
theorem dX5_strainOf_86 : decode cX5_strainOf 86 = .ok (.iload 4, 2) := by decide +kernel
theorem dX5_strainOf_88 : decode cX5_strainOf 88 = .ok (.ireturn, 1) := by decide +kernel
theorem dX5_strain_0 : decode cX5_strain 0 = .ok (.aload_n 0, 1) := by decide +kernel
theorem dX5_strain_1 : decode cX5_strain 1 = .ok (.invokevirtual 129, 3) := by decide +kernel
theorem dX5_strain_4 : decode cX5_strain 4 = .ok (.iload_n 1, 1) := by decide +kernel
theorem dX5_strain_5 : decode cX5_strain 5 = .ok (.invokestatic 193, 3) := by decide +kernel
theorem dX5_strain_8 : decode cX5_strain 8 = .ok (.ifCond .eq 35, 3) := by decide +kernel
theorem dX5_strain_11 : decode cX5_strain 11 = .ok (.iload_n 2, 1) := by decide +kernel
theorem dX5_strain_12 : decode cX5_strain 12 = .ok (.invokestatic 224, 3) := by decide +kernel
theorem dX5_strain_15 : decode cX5_strain 15 = .ok (.ifCond .eq 28, 3) := by decide +kernel
theorem dX5_strain_18 : decode cX5_strain 18 = .ok (.iload_n 3, 1) := by decide +kernel
theorem dX5_strain_19 : decode cX5_strain 19 = .ok (.invokestatic 224, 3) := by decide +kernel
theorem dX5_strain_22 : decode cX5_strain 22 = .ok (.ifCond .eq 21, 3) := by decide +kernel
theorem dX5_strain_25 : decode cX5_strain 25 = .ok (.iload_n 2, 1) := by decide +kernel
theorem dX5_strain_26 : decode cX5_strain 26 = .ok (.iload_n 3, 1) := by decide +kernel
theorem dX5_strain_27 : decode cX5_strain 27 = .ok (.iand, 1) := by decide +kernel
theorem dX5_strain_28 : decode cX5_strain 28 = .ok (.ifCond .ne 15, 3) := by decide +kernel
theorem dX5_strain_31 : decode cX5_strain 31 = .ok (.iload 4, 2) := by decide +kernel
theorem dX5_strain_33 : decode cX5_strain 33 = .ok (.invokestatic 89, 3) := by decide +kernel
theorem dX5_strain_36 : decode cX5_strain 36 = .ok (.ifCond .eq 7, 3) := by decide +kernel
theorem dX5_strain_39 : decode cX5_strain 39 = .ok (.iconst 1, 1) := by decide +kernel
theorem dX5_strain_40 : decode cX5_strain 40 = .ok (.goto 4, 3) := by decide +kernel
theorem dX5_strain_43 : decode cX5_strain 43 = .ok (.iconst 0, 1) := by decide +kernel
theorem dX5_strain_44 : decode cX5_strain 44 = .ok (.istore 5, 2) := by decide +kernel
theorem dX5_strain_46 : decode cX5_strain 46 = .ok (.iload 5, 2) := by decide +kernel
theorem dX5_strain_48 : decode cX5_strain 48 = .ok (.ifCond .eq 18, 3) := by decide +kernel
theorem dX5_strain_51 : decode cX5_strain 51 = .ok (.aload_n 0, 1) := by decide +kernel
theorem dX5_strain_52 : decode cX5_strain 52 = .ok (.iload_n 1, 1) := by decide +kernel
theorem dX5_strain_53 : decode cX5_strain 53 = .ok (.iload_n 2, 1) := by decide +kernel
theorem dX5_strain_54 : decode cX5_strain 54 = .ok (.iload_n 3, 1) := by decide +kernel
theorem dX5_strain_55 : decode cX5_strain 55 = .ok (.invokevirtual 230, 3) := by decide +kernel
theorem dX5_strain_58 : decode cX5_strain 58 = .ok (.iload 4, 2) := by decide +kernel
theorem dX5_strain_60 : decode cX5_strain 60 = .ok (.invokestatic 233, 3) := by decide +kernel
theorem dX5_strain_63 : decode cX5_strain 63 = .ok (.goto 5, 3) := by decide +kernel
theorem dX5_strain_66 : decode cX5_strain 66 = .ok (.bipush (-2), 2) := by decide +kernel
theorem dX5_strain_68 : decode cX5_strain 68 = .ok (.ireturn, 1) := by decide +kernel
theorem dX5_strikeOf_0 : decode cX5_strikeOf 0 = .ok (.aload_n 0, 1) := by decide +kernel
theorem dX5_strikeOf_1 : decode cX5_strikeOf 1 = .ok (.iload_n 1, 1) := by decide +kernel
theorem dX5_strikeOf_2 : decode cX5_strikeOf 2 = .ok (.invokevirtual 187, 3) := by decide +kernel
theorem dX5_strikeOf_5 : decode cX5_strikeOf 5 = .ok (.iconst (-1), 1) := by decide +kernel
theorem dX5_strikeOf_6 : decode cX5_strikeOf 6 = .ok (.istore_n 3, 1) := by decide +kernel
theorem dX5_strikeOf_7 : decode cX5_strikeOf 7 = .ok (.iconst 0, 1) := by decide +kernel
theorem dX5_strikeOf_8 : decode cX5_strikeOf 8 = .ok (.istore 4, 2) := by decide +kernel
theorem dX5_strikeOf_10 : decode cX5_strikeOf 10 = .ok (.iload 4, 2) := by decide +kernel
theorem dX5_strikeOf_12 : decode cX5_strikeOf 12 = .ok (.iconst 1, 1) := by decide +kernel
theorem dX5_strikeOf_13 : decode cX5_strikeOf 13 = .ok (.aload_n 0, 1) := by decide +kernel
theorem dX5_strikeOf_14 : decode cX5_strikeOf 14 = .ok (.getfield 106, 3) := by decide +kernel
theorem dX5_strikeOf_17 : decode cX5_strikeOf 17 = .ok (.ishl, 1) := by decide +kernel
theorem dX5_strikeOf_18 : decode cX5_strikeOf 18 = .ok (.if_icmp .ge 51, 3) := by decide +kernel
theorem dX5_strikeOf_21 : decode cX5_strikeOf 21 = .ok (.iload_n 3, 1) := by decide +kernel
theorem dX5_strikeOf_22 : decode cX5_strikeOf 22 = .ok (.iconst (-1), 1) := by decide +kernel
theorem dX5_strikeOf_23 : decode cX5_strikeOf 23 = .ok (.if_icmp .eq 15, 3) := by decide +kernel
theorem dX5_strikeOf_26 : decode cX5_strikeOf 26 = .ok (.iload 4, 2) := by decide +kernel
theorem dX5_strikeOf_28 : decode cX5_strikeOf 28 = .ok (.invokestatic 221, 3) := by decide +kernel
theorem dX5_strikeOf_31 : decode cX5_strikeOf 31 = .ok (.iload_n 3, 1) := by decide +kernel
theorem dX5_strikeOf_32 : decode cX5_strikeOf 32 = .ok (.invokestatic 221, 3) := by decide +kernel
theorem dX5_strikeOf_35 : decode cX5_strikeOf 35 = .ok (.if_icmp .ge 28, 3) := by decide +kernel
theorem dX5_strikeOf_38 : decode cX5_strikeOf 38 = .ok (.aload_n 0, 1) := by decide +kernel
theorem dX5_strikeOf_39 : decode cX5_strikeOf 39 = .ok (.iload 4, 2) := by decide +kernel
theorem dX5_strikeOf_41 : decode cX5_strikeOf 41 = .ok (.putfield 181, 3) := by decide +kernel
theorem dX5_strikeOf_44 : decode cX5_strikeOf 44 = .ok (.aload_n 0, 1) := by decide +kernel
theorem dX5_strikeOf_45 : decode cX5_strikeOf 45 = .ok (.aload_n 0, 1) := by decide +kernel
theorem dX5_strikeOf_46 : decode cX5_strikeOf 46 = .ok (.getfield 161, 3) := by decide +kernel
theorem dX5_strikeOf_49 : decode cX5_strikeOf 49 = .ok (.invokevirtual 190, 3) := by decide +kernel
theorem dX5_strikeOf_52 : decode cX5_strikeOf 52 = .ok (.iload_n 2, 1) := by decide +kernel
theorem dX5_strikeOf_53 : decode cX5_strikeOf 53 = .ok (.if_icmp .ne 8, 3) := by decide +kernel
theorem dX5_strikeOf_56 : decode cX5_strikeOf 56 = .ok (.iload 4, 2) := by decide +kernel
theorem dX5_strikeOf_58 : decode cX5_strikeOf 58 = .ok (.goto 4, 3) := by decide +kernel
theorem dX5_strikeOf_61 : decode cX5_strikeOf 61 = .ok (.iload_n 3, 1) := by decide +kernel
theorem dX5_strikeOf_62 : decode cX5_strikeOf 62 = .ok (.istore_n 3, 1) := by decide +kernel
theorem dX5_strikeOf_63 : decode cX5_strikeOf 63 = .ok (.iinc 4 1, 3) := by decide +kernel
theorem dX5_strikeOf_66 : decode cX5_strikeOf 66 = .ok (.goto (-56), 3) := by decide +kernel
theorem dX5_strikeOf_69 : decode cX5_strikeOf 69 = .ok (.aload_n 0, 1) := by decide +kernel
theorem dX5_strikeOf_70 : decode cX5_strikeOf 70 = .ok (.iconst 0, 1) := by decide +kernel
theorem dX5_strikeOf_71 : decode cX5_strikeOf 71 = .ok (.putfield 181, 3) := by decide +kernel
theorem dX5_strikeOf_74 : decode cX5_strikeOf 74 = .ok (.iload_n 3, 1) := by decide +kernel
theorem dX5_strikeOf_75 : decode cX5_strikeOf 75 = .ok (.ireturn, 1) := by decide +kernel
theorem dX5_strike_0 : decode cX5_strike 0 = .ok (.aload_n 0, 1) := by decide +kernel
theorem dX5_strike_1 : decode cX5_strike 1 = .ok (.invokevirtual 129, 3) := by decide +kernel
theorem dX5_strike_4 : decode cX5_strike 4 = .ok (.iload_n 1, 1) := by decide +kernel
theorem dX5_strike_5 : decode cX5_strike 5 = .ok (.invokestatic 193, 3) := by decide +kernel
theorem dX5_strike_8 : decode cX5_strike 8 = .ok (.ifCond .eq 30, 3) := by decide +kernel
theorem dX5_strike_11 : decode cX5_strike 11 = .ok (.iload_n 2, 1) := by decide +kernel
theorem dX5_strike_12 : decode cX5_strike 12 = .ok (.invokestatic 224, 3) := by decide +kernel
theorem dX5_strike_15 : decode cX5_strike 15 = .ok (.ifCond .eq 23, 3) := by decide +kernel
theorem dX5_strike_18 : decode cX5_strike 18 = .ok (.iload_n 3, 1) := by decide +kernel
theorem dX5_strike_19 : decode cX5_strike 19 = .ok (.invokestatic 89, 3) := by decide +kernel
theorem dX5_strike_22 : decode cX5_strike 22 = .ok (.ifCond .eq 16, 3) := by decide +kernel
theorem dX5_strike_25 : decode cX5_strike 25 = .ok (.aload_n 0, 1) := by decide +kernel
theorem dX5_strike_26 : decode cX5_strike 26 = .ok (.iload_n 1, 1) := by decide +kernel
theorem dX5_strike_27 : decode cX5_strike 27 = .ok (.iload_n 2, 1) := by decide +kernel
theorem dX5_strike_28 : decode cX5_strike 28 = .ok (.invokevirtual 236, 3) := by decide +kernel
theorem dX5_strike_31 : decode cX5_strike 31 = .ok (.iload_n 3, 1) := by decide +kernel
theorem dX5_strike_32 : decode cX5_strike 32 = .ok (.invokestatic 233, 3) := by decide +kernel
theorem dX5_strike_35 : decode cX5_strike 35 = .ok (.goto 5, 3) := by decide +kernel
theorem dX5_strike_38 : decode cX5_strike 38 = .ok (.bipush (-2), 2) := by decide +kernel
theorem dX5_strike_40 : decode cX5_strike 40 = .ok (.ireturn, 1) := by decide +kernel
theorem dX5_isFree_0 : decode cX5_isFree 0 = .ok (.iconst 1, 1) := by decide +kernel
theorem dX5_isFree_1 : decode cX5_isFree 1 = .ok (.istore_n 3, 1) := by decide +kernel
theorem dX5_isFree_2 : decode cX5_isFree 2 = .ok (.iconst 0, 1) := by decide +kernel
theorem dX5_isFree_3 : decode cX5_isFree 3 = .ok (.istore 4, 2) := by decide +kernel
theorem dX5_isFree_5 : decode cX5_isFree 5 = .ok (.iload 4, 2) := by decide +kernel
theorem dX5_isFree_7 : decode cX5_isFree 7 = .ok (.aload_n 0, 1) := by decide +kernel
theorem dX5_isFree_8 : decode cX5_isFree 8 = .ok (.getfield 103, 3) := by decide +kernel
theorem dX5_isFree_11 : decode cX5_isFree 11 = .ok (.if_icmp .ge 41, 3) := by decide +kernel
theorem dX5_isFree_14 : decode cX5_isFree 14 = .ok (.iload_n 3, 1) := by decide +kernel
theorem dX5_isFree_15 : decode cX5_isFree 15 = .ok (.ifCond .eq 29, 3) := by decide +kernel
theorem dX5_isFree_18 : decode cX5_isFree 18 = .ok (.aload_n 0, 1) := by decide +kernel
theorem dX5_isFree_19 : decode cX5_isFree 19 = .ok (.getfield 43, 3) := by decide +kernel
theorem dX5_isFree_22 : decode cX5_isFree 22 = .ok (.iload 4, 2) := by decide +kernel
theorem dX5_isFree_24 : decode cX5_isFree 24 = .ok (.iaload, 1) := by decide +kernel
theorem dX5_isFree_25 : decode cX5_isFree 25 = .ok (.iload_n 1, 1) := by decide +kernel
theorem dX5_isFree_26 : decode cX5_isFree 26 = .ok (.if_icmp .ne 14, 3) := by decide +kernel
theorem dX5_isFree_29 : decode cX5_isFree 29 = .ok (.aload_n 0, 1) := by decide +kernel
theorem dX5_isFree_30 : decode cX5_isFree 30 = .ok (.getfield 46, 3) := by decide +kernel
theorem dX5_isFree_33 : decode cX5_isFree 33 = .ok (.iload 4, 2) := by decide +kernel
theorem dX5_isFree_35 : decode cX5_isFree 35 = .ok (.iaload, 1) := by decide +kernel
theorem dX5_isFree_36 : decode cX5_isFree 36 = .ok (.iload_n 2, 1) := by decide +kernel
theorem dX5_isFree_37 : decode cX5_isFree 37 = .ok (.if_icmp .eq 7, 3) := by decide +kernel
theorem dX5_isFree_40 : decode cX5_isFree 40 = .ok (.iconst 1, 1) := by decide +kernel
theorem dX5_isFree_41 : decode cX5_isFree 41 = .ok (.goto 4, 3) := by decide +kernel
theorem dX5_isFree_44 : decode cX5_isFree 44 = .ok (.iconst 0, 1) := by decide +kernel
theorem dX5_isFree_45 : decode cX5_isFree 45 = .ok (.istore_n 3, 1) := by decide +kernel
theorem dX5_isFree_46 : decode cX5_isFree 46 = .ok (.iinc 4 1, 3) := by decide +kernel
theorem dX5_isFree_49 : decode cX5_isFree 49 = .ok (.goto (-44), 3) := by decide +kernel
theorem dX5_isFree_52 : decode cX5_isFree 52 = .ok (.iload_n 3, 1) := by decide +kernel
theorem dX5_isFree_53 : decode cX5_isFree 53 = .ok (.ireturn, 1) := by decide +kernel
theorem dX5_placeOf_0 : decode cX5_placeOf 0 = .ok (.aload_n 0, 1) := by decide +kernel
theorem dX5_placeOf_1 : decode cX5_placeOf 1 = .ok (.iload_n 1, 1) := by decide +kernel
theorem dX5_placeOf_2 : decode cX5_placeOf 2 = .ok (.invokevirtual 203, 3) := by decide +kernel
theorem dX5_placeOf_5 : decode cX5_placeOf 5 = .ok (.iload_n 2, 1) := by decide +kernel
theorem dX5_placeOf_6 : decode cX5_placeOf 6 = .ok (.invokestatic 178, 3) := by decide +kernel
theorem dX5_placeOf_9 : decode cX5_placeOf 9 = .ok (.istore_n 3, 1) := by decide +kernel
theorem dX5_placeOf_10 : decode cX5_placeOf 10 = .ok (.iconst 0, 1) := by decide +kernel
theorem dX5_placeOf_11 : decode cX5_placeOf 11 = .ok (.istore 4, 2) := by decide +kernel
theorem dX5_placeOf_13 : decode cX5_placeOf 13 = .ok (.iload 4, 2) := by decide +kernel
theorem dX5_placeOf_15 : decode cX5_placeOf 15 = .ok (.bipush 108, 2) := by decide +kernel
theorem dX5_placeOf_17 : decode cX5_placeOf 17 = .ok (.if_icmp .ge 110, 3) := by decide +kernel
theorem dX5_placeOf_20 : decode cX5_placeOf 20 = .ok (.iload 4, 2) := by decide +kernel
theorem dX5_placeOf_22 : decode cX5_placeOf 22 = .ok (.bipush 6, 2) := by decide +kernel
theorem dX5_placeOf_24 : decode cX5_placeOf 24 = .ok (.irem, 1) := by decide +kernel
theorem dX5_placeOf_25 : decode cX5_placeOf 25 = .ok (.istore 5, 2) := by decide +kernel
theorem dX5_placeOf_27 : decode cX5_placeOf 27 = .ok (.iload 4, 2) := by decide +kernel
theorem dX5_placeOf_29 : decode cX5_placeOf 29 = .ok (.bipush 6, 2) := by decide +kernel
theorem dX5_placeOf_31 : decode cX5_placeOf 31 = .ok (.idiv, 1) := by decide +kernel
theorem dX5_placeOf_32 : decode cX5_placeOf 32 = .ok (.bipush 6, 2) := by decide +kernel
theorem dX5_placeOf_34 : decode cX5_placeOf 34 = .ok (.irem, 1) := by decide +kernel
theorem dX5_placeOf_35 : decode cX5_placeOf 35 = .ok (.istore 6, 2) := by decide +kernel
theorem dX5_placeOf_37 : decode cX5_placeOf 37 = .ok (.aload_n 0, 1) := by decide +kernel
theorem dX5_placeOf_38 : decode cX5_placeOf 38 = .ok (.iload 5, 2) := by decide +kernel
theorem dX5_placeOf_40 : decode cX5_placeOf 40 = .ok (.iload 6, 2) := by decide +kernel
theorem dX5_placeOf_42 : decode cX5_placeOf 42 = .ok (.invokevirtual 239, 3) := by decide +kernel
theorem dX5_placeOf_45 : decode cX5_placeOf 45 = .ok (.ifCond .eq 76, 3) := by decide +kernel
theorem dX5_placeOf_48 : decode cX5_placeOf 48 = .ok (.aload_n 0, 1) := by decide +kernel
theorem dX5_placeOf_49 : decode cX5_placeOf 49 = .ok (.getfield 28, 3) := by decide +kernel
theorem dX5_placeOf_52 : decode cX5_placeOf 52 = .ok (.iconst 3, 1) := by decide +kernel
theorem dX5_placeOf_53 : decode cX5_placeOf 53 = .ok (.aload_n 0, 1) := by decide +kernel
theorem dX5_placeOf_54 : decode cX5_placeOf 54 = .ok (.getfield 103, 3) := by decide +kernel
theorem dX5_placeOf_57 : decode cX5_placeOf 57 = .ok (.imul, 1) := by decide +kernel
theorem dX5_placeOf_58 : decode cX5_placeOf 58 = .ok (.iconst 2, 1) := by decide +kernel
theorem dX5_placeOf_59 : decode cX5_placeOf 59 = .ok (.iadd, 1) := by decide +kernel
theorem dX5_placeOf_60 : decode cX5_placeOf 60 = .ok (.iload 4, 2) := by decide +kernel
theorem dX5_placeOf_62 : decode cX5_placeOf 62 = .ok (.bipush 36, 2) := by decide +kernel
theorem dX5_placeOf_64 : decode cX5_placeOf 64 = .ok (.idiv, 1) := by decide +kernel
theorem dX5_placeOf_65 : decode cX5_placeOf 65 = .ok (.iastore, 1) := by decide +kernel
theorem dX5_placeOf_66 : decode cX5_placeOf 66 = .ok (.aload_n 0, 1) := by decide +kernel
theorem dX5_placeOf_67 : decode cX5_placeOf 67 = .ok (.getfield 43, 3) := by decide +kernel
theorem dX5_placeOf_70 : decode cX5_placeOf 70 = .ok (.aload_n 0, 1) := by decide +kernel
theorem dX5_placeOf_71 : decode cX5_placeOf 71 = .ok (.getfield 103, 3) := by decide +kernel
theorem dX5_placeOf_74 : decode cX5_placeOf 74 = .ok (.iload 5, 2) := by decide +kernel
theorem dX5_placeOf_76 : decode cX5_placeOf 76 = .ok (.iastore, 1) := by decide +kernel
theorem dX5_placeOf_77 : decode cX5_placeOf 77 = .ok (.aload_n 0, 1) := by decide +kernel
theorem dX5_placeOf_78 : decode cX5_placeOf 78 = .ok (.getfield 46, 3) := by decide +kernel
theorem dX5_placeOf_81 : decode cX5_placeOf 81 = .ok (.aload_n 0, 1) := by decide +kernel
theorem dX5_placeOf_82 : decode cX5_placeOf 82 = .ok (.getfield 103, 3) := by decide +kernel
theorem dX5_placeOf_85 : decode cX5_placeOf 85 = .ok (.iload 6, 2) := by decide +kernel
theorem dX5_placeOf_87 : decode cX5_placeOf 87 = .ok (.iastore, 1) := by decide +kernel
theorem dX5_placeOf_88 : decode cX5_placeOf 88 = .ok (.aload_n 0, 1) := by decide +kernel
theorem dX5_placeOf_89 : decode cX5_placeOf 89 = .ok (.aload_n 0, 1) := by decide +kernel
theorem dX5_placeOf_90 : decode cX5_placeOf 90 = .ok (.getfield 103, 3) := by decide +kernel
theorem dX5_placeOf_93 : decode cX5_placeOf 93 = .ok (.iconst 1, 1) := by decide +kernel
theorem dX5_placeOf_94 : decode cX5_placeOf 94 = .ok (.iadd, 1) := by decide +kernel
theorem dX5_placeOf_95 : decode cX5_placeOf 95 = .ok (.putfield 154, 3) := by decide +kernel
theorem dX5_placeOf_98 : decode cX5_placeOf 98 = .ok (.aload_n 0, 1) := by decide +kernel
theorem dX5_placeOf_99 : decode cX5_placeOf 99 = .ok (.invokevirtual 175, 3) := by decide +kernel
theorem dX5_placeOf_102 : decode cX5_placeOf 102 = .ok (.aload_n 0, 1) := by decide +kernel
theorem dX5_placeOf_103 : decode cX5_placeOf 103 = .ok (.aload_n 0, 1) := by decide +kernel
theorem dX5_placeOf_104 : decode cX5_placeOf 104 = .ok (.getfield 161, 3) := by decide +kernel
theorem dX5_placeOf_107 : decode cX5_placeOf 107 = .ok (.invokevirtual 190, 3) := by decide +kernel
theorem dX5_placeOf_110 : decode cX5_placeOf 110 = .ok (.iload_n 2, 1) := by decide +kernel
theorem dX5_placeOf_111 : decode cX5_placeOf 111 = .ok (.invokestatic 178, 3) := by decide +kernel
theorem dX5_placeOf_114 : decode cX5_placeOf 114 = .ok (.iload_n 3, 1) := by decide +kernel
theorem dX5_placeOf_115 : decode cX5_placeOf 115 = .ok (.if_icmp .eq 6, 3) := by decide +kernel
theorem dX5_placeOf_118 : decode cX5_placeOf 118 = .ok (.iload 4, 2) := by decide +kernel
theorem dX5_placeOf_120 : decode cX5_placeOf 120 = .ok (.ireturn, 1) := by decide +kernel
theorem dX5_placeOf_121 : decode cX5_placeOf 121 = .ok (.iinc 4 1, 3) := by decide +kernel
theorem dX5_placeOf_124 : decode cX5_placeOf 124 = .ok (.goto (-111), 3) := by decide +kernel
theorem dX5_placeOf_127 : decode cX5_placeOf 127 = .ok (.iconst (-1), 1) := by decide +kernel
theorem dX5_placeOf_128 : decode cX5_placeOf 128 = .ok (.ireturn, 1) := by decide +kernel
theorem dX5_place_0 : decode cX5_place 0 = .ok (.aload_n 0, 1) := by decide +kernel
theorem dX5_place_1 : decode cX5_place 1 = .ok (.invokevirtual 129, 3) := by decide +kernel
theorem dX5_place_4 : decode cX5_place 4 = .ok (.iload_n 1, 1) := by decide +kernel
theorem dX5_place_5 : decode cX5_place 5 = .ok (.invokestatic 193, 3) := by decide +kernel
theorem dX5_place_8 : decode cX5_place 8 = .ok (.ifCond .eq 19, 3) := by decide +kernel
theorem dX5_place_11 : decode cX5_place 11 = .ok (.iload_n 2, 1) := by decide +kernel
theorem dX5_place_12 : decode cX5_place 12 = .ok (.invokestatic 145, 3) := by decide +kernel
theorem dX5_place_15 : decode cX5_place 15 = .ok (.ifCond .eq 12, 3) := by decide +kernel
theorem dX5_place_18 : decode cX5_place 18 = .ok (.aload_n 0, 1) := by decide +kernel
theorem dX5_place_19 : decode cX5_place 19 = .ok (.iload_n 1, 1) := by decide +kernel
theorem dX5_place_20 : decode cX5_place 20 = .ok (.iload_n 2, 1) := by decide +kernel
theorem dX5_place_21 : decode cX5_place 21 = .ok (.invokevirtual 242, 3) := by decide +kernel
theorem dX5_place_24 : decode cX5_place 24 = .ok (.goto 5, 3) := by decide +kernel
theorem dX5_place_27 : decode cX5_place 27 = .ok (.bipush (-2), 2) := by decide +kernel
theorem dX5_place_29 : decode cX5_place 29 = .ok (.ireturn, 1) := by decide +kernel
theorem dX5_sidesOf_0 : decode cX5_sidesOf 0 = .ok (.iconst 0, 1) := by decide +kernel
theorem dX5_sidesOf_1 : decode cX5_sidesOf 1 = .ok (.istore_n 3, 1) := by decide +kernel
theorem dX5_sidesOf_2 : decode cX5_sidesOf 2 = .ok (.iload_n 3, 1) := by decide +kernel
theorem dX5_sidesOf_3 : decode cX5_sidesOf 3 = .ok (.iconst 4, 1) := by decide +kernel
theorem dX5_sidesOf_4 : decode cX5_sidesOf 4 = .ok (.if_icmp .ge 47, 3) := by decide +kernel
theorem dX5_sidesOf_7 : decode cX5_sidesOf 7 = .ok (.aload_n 0, 1) := by decide +kernel
theorem dX5_sidesOf_8 : decode cX5_sidesOf 8 = .ok (.iload_n 3, 1) := by decide +kernel
theorem dX5_sidesOf_9 : decode cX5_sidesOf 9 = .ok (.invokevirtual 203, 3) := by decide +kernel
theorem dX5_sidesOf_12 : decode cX5_sidesOf 12 = .ok (.iload_n 1, 1) := by decide +kernel
theorem dX5_sidesOf_13 : decode cX5_sidesOf 13 = .ok (.invokestatic 178, 3) := by decide +kernel
theorem dX5_sidesOf_16 : decode cX5_sidesOf 16 = .ok (.ifCond .eq 29, 3) := by decide +kernel
theorem dX5_sidesOf_19 : decode cX5_sidesOf 19 = .ok (.aload_n 0, 1) := by decide +kernel
theorem dX5_sidesOf_20 : decode cX5_sidesOf 20 = .ok (.iload_n 3, 1) := by decide +kernel
theorem dX5_sidesOf_21 : decode cX5_sidesOf 21 = .ok (.iconst 1, 1) := by decide +kernel
theorem dX5_sidesOf_22 : decode cX5_sidesOf 22 = .ok (.iadd, 1) := by decide +kernel
theorem dX5_sidesOf_23 : decode cX5_sidesOf 23 = .ok (.iconst 4, 1) := by decide +kernel
theorem dX5_sidesOf_24 : decode cX5_sidesOf 24 = .ok (.irem, 1) := by decide +kernel
theorem dX5_sidesOf_25 : decode cX5_sidesOf 25 = .ok (.invokevirtual 203, 3) := by decide +kernel
theorem dX5_sidesOf_28 : decode cX5_sidesOf 28 = .ok (.iload_n 1, 1) := by decide +kernel
theorem dX5_sidesOf_29 : decode cX5_sidesOf 29 = .ok (.invokestatic 178, 3) := by decide +kernel
theorem dX5_sidesOf_32 : decode cX5_sidesOf 32 = .ok (.ifCond .eq 13, 3) := by decide +kernel
theorem dX5_sidesOf_35 : decode cX5_sidesOf 35 = .ok (.iload_n 2, 1) := by decide +kernel
theorem dX5_sidesOf_36 : decode cX5_sidesOf 36 = .ok (.ifCond .ne 7, 3) := by decide +kernel
theorem dX5_sidesOf_39 : decode cX5_sidesOf 39 = .ok (.iconst 1, 1) := by decide +kernel
theorem dX5_sidesOf_40 : decode cX5_sidesOf 40 = .ok (.goto 4, 3) := by decide +kernel
theorem dX5_sidesOf_43 : decode cX5_sidesOf 43 = .ok (.iload_n 3, 1) := by decide +kernel
theorem dX5_sidesOf_44 : decode cX5_sidesOf 44 = .ok (.ireturn, 1) := by decide +kernel
theorem dX5_sidesOf_45 : decode cX5_sidesOf 45 = .ok (.iinc 3 1, 3) := by decide +kernel
theorem dX5_sidesOf_48 : decode cX5_sidesOf 48 = .ok (.goto (-46), 3) := by decide +kernel
theorem dX5_sidesOf_51 : decode cX5_sidesOf 51 = .ok (.iload_n 2, 1) := by decide +kernel
theorem dX5_sidesOf_52 : decode cX5_sidesOf 52 = .ok (.ifCond .ne 7, 3) := by decide +kernel
theorem dX5_sidesOf_55 : decode cX5_sidesOf 55 = .ok (.iconst 0, 1) := by decide +kernel
theorem dX5_sidesOf_56 : decode cX5_sidesOf 56 = .ok (.goto 4, 3) := by decide +kernel
theorem dX5_sidesOf_59 : decode cX5_sidesOf 59 = .ok (.iconst (-1), 1) := by decide +kernel
theorem dX5_sidesOf_60 : decode cX5_sidesOf 60 = .ok (.ireturn, 1) := by decide +kernel
theorem dX5_sides_0 : decode cX5_sides 0 = .ok (.aload_n 0, 1) := by decide +kernel
theorem dX5_sides_1 : decode cX5_sides 1 = .ok (.invokevirtual 129, 3) := by decide +kernel
theorem dX5_sides_4 : decode cX5_sides 4 = .ok (.iload_n 1, 1) := by decide +kernel
theorem dX5_sides_5 : decode cX5_sides 5 = .ok (.invokestatic 145, 3) := by decide +kernel
theorem dX5_sides_8 : decode cX5_sides 8 = .ok (.ifCond .eq 19, 3) := by decide +kernel
theorem dX5_sides_11 : decode cX5_sides 11 = .ok (.iload_n 2, 1) := by decide +kernel
theorem dX5_sides_12 : decode cX5_sides 12 = .ok (.invokestatic 89, 3) := by decide +kernel
theorem dX5_sides_15 : decode cX5_sides 15 = .ok (.ifCond .eq 12, 3) := by decide +kernel
theorem dX5_sides_18 : decode cX5_sides 18 = .ok (.aload_n 0, 1) := by decide +kernel
theorem dX5_sides_19 : decode cX5_sides 19 = .ok (.iload_n 1, 1) := by decide +kernel
theorem dX5_sides_20 : decode cX5_sides 20 = .ok (.iload_n 2, 1) := by decide +kernel
theorem dX5_sides_21 : decode cX5_sides 21 = .ok (.invokevirtual 245, 3) := by decide +kernel
theorem dX5_sides_24 : decode cX5_sides 24 = .ok (.goto 5, 3) := by decide +kernel
theorem dX5_sides_27 : decode cX5_sides 27 = .ok (.bipush (-2), 2) := by decide +kernel
theorem dX5_sides_29 : decode cX5_sides 29 = .ok (.ireturn, 1) := by decide +kernel
theorem dX5_read_0 : decode cX5_read 0 = .ok (.iload_n 1, 1) := by decide +kernel
theorem dX5_read_1 : decode cX5_read 1 = .ok (.invokestatic 193, 3) := by decide +kernel
theorem dX5_read_4 : decode cX5_read 4 = .ok (.ifCond .eq 10, 3) := by decide +kernel
theorem dX5_read_7 : decode cX5_read 7 = .ok (.iload_n 2, 1) := by decide +kernel
theorem dX5_read_8 : decode cX5_read 8 = .ok (.invokestatic 224, 3) := by decide +kernel
theorem dX5_read_11 : decode cX5_read 11 = .ok (.ifCond .ne 6, 3) := by decide +kernel
theorem dX5_read_14 : decode cX5_read 14 = .ok (.bipush (-2), 2) := by decide +kernel
theorem dX5_read_16 : decode cX5_read 16 = .ok (.ireturn, 1) := by decide +kernel
theorem dX5_read_17 : decode cX5_read 17 = .ok (.aload_n 0, 1) := by decide +kernel
theorem dX5_read_18 : decode cX5_read 18 = .ok (.getfield 248, 3) := by decide +kernel
theorem dX5_read_21 : decode cX5_read 21 = .ok (.bipush 8, 2) := by decide +kernel
theorem dX5_read_23 : decode cX5_read 23 = .ok (.if_icmp .ne 6, 3) := by decide +kernel
theorem dX5_read_26 : decode cX5_read 26 = .ok (.bipush (-4), 2) := by decide +kernel
theorem dX5_read_28 : decode cX5_read 28 = .ok (.ireturn, 1) := by decide +kernel
theorem dX5_read_29 : decode cX5_read 29 = .ok (.aload_n 0, 1) := by decide +kernel
theorem dX5_read_30 : decode cX5_read 30 = .ok (.getfield 52, 3) := by decide +kernel
theorem dX5_read_33 : decode cX5_read 33 = .ok (.iconst 2, 1) := by decide +kernel
theorem dX5_read_34 : decode cX5_read 34 = .ok (.aload_n 0, 1) := by decide +kernel
theorem dX5_read_35 : decode cX5_read 35 = .ok (.getfield 248, 3) := by decide +kernel
theorem dX5_read_38 : decode cX5_read 38 = .ok (.imul, 1) := by decide +kernel
theorem dX5_read_39 : decode cX5_read 39 = .ok (.iload_n 1, 1) := by decide +kernel
theorem dX5_read_40 : decode cX5_read 40 = .ok (.iastore, 1) := by decide +kernel
theorem dX5_read_41 : decode cX5_read 41 = .ok (.aload_n 0, 1) := by decide +kernel
theorem dX5_read_42 : decode cX5_read 42 = .ok (.getfield 52, 3) := by decide +kernel
theorem dX5_read_45 : decode cX5_read 45 = .ok (.iconst 2, 1) := by decide +kernel
theorem dX5_read_46 : decode cX5_read 46 = .ok (.aload_n 0, 1) := by decide +kernel
theorem dX5_read_47 : decode cX5_read 47 = .ok (.getfield 248, 3) := by decide +kernel
theorem dX5_read_50 : decode cX5_read 50 = .ok (.imul, 1) := by decide +kernel
theorem dX5_read_51 : decode cX5_read 51 = .ok (.iconst 1, 1) := by decide +kernel
theorem dX5_read_52 : decode cX5_read 52 = .ok (.iadd, 1) := by decide +kernel
theorem dX5_read_53 : decode cX5_read 53 = .ok (.iload_n 2, 1) := by decide +kernel
theorem dX5_read_54 : decode cX5_read 54 = .ok (.iastore, 1) := by decide +kernel
theorem dX5_read_55 : decode cX5_read 55 = .ok (.aload_n 0, 1) := by decide +kernel
theorem dX5_read_56 : decode cX5_read 56 = .ok (.dup, 1) := by decide +kernel
theorem dX5_read_57 : decode cX5_read 57 = .ok (.getfield 248, 3) := by decide +kernel
theorem dX5_read_60 : decode cX5_read 60 = .ok (.iconst 1, 1) := by decide +kernel
theorem dX5_read_61 : decode cX5_read 61 = .ok (.iadd, 1) := by decide +kernel
theorem dX5_read_62 : decode cX5_read 62 = .ok (.putfield 248, 3) := by decide +kernel
theorem dX5_read_65 : decode cX5_read 65 = .ok (.aload_n 0, 1) := by decide +kernel
theorem dX5_read_66 : decode cX5_read 66 = .ok (.getfield 248, 3) := by decide +kernel
theorem dX5_read_69 : decode cX5_read 69 = .ok (.ireturn, 1) := by decide +kernel
theorem dX5_forget_0 : decode cX5_forget 0 = .ok (.aload_n 0, 1) := by decide +kernel
theorem dX5_forget_1 : decode cX5_forget 1 = .ok (.getfield 248, 3) := by decide +kernel
theorem dX5_forget_4 : decode cX5_forget 4 = .ok (.istore_n 1, 1) := by decide +kernel
theorem dX5_forget_5 : decode cX5_forget 5 = .ok (.aload_n 0, 1) := by decide +kernel
theorem dX5_forget_6 : decode cX5_forget 6 = .ok (.iconst 0, 1) := by decide +kernel
theorem dX5_forget_7 : decode cX5_forget 7 = .ok (.putfield 248, 3) := by decide +kernel
theorem dX5_forget_10 : decode cX5_forget 10 = .ok (.iload_n 1, 1) := by decide +kernel
theorem dX5_forget_11 : decode cX5_forget 11 = .ok (.ireturn, 1) := by decide +kernel
theorem dX5_take_0 : decode cX5_take 0 = .ok (.iload_n 1, 1) := by decide +kernel
theorem dX5_take_1 : decode cX5_take 1 = .ok (.invokestatic 70, 3) := by decide +kernel
theorem dX5_take_4 : decode cX5_take 4 = .ok (.ifCond .ne 6, 3) := by decide +kernel
theorem dX5_take_7 : decode cX5_take 7 = .ok (.bipush (-2), 2) := by decide +kernel
theorem dX5_take_9 : decode cX5_take 9 = .ok (.ireturn, 1) := by decide +kernel
theorem dX5_take_10 : decode cX5_take 10 = .ok (.aload_n 0, 1) := by decide +kernel
theorem dX5_take_11 : decode cX5_take 11 = .ok (.getfield 7, 3) := by decide +kernel
theorem dX5_take_14 : decode cX5_take 14 = .ok (.iload_n 1, 1) := by decide +kernel
theorem dX5_take_15 : decode cX5_take 15 = .ok (.iaload, 1) := by decide +kernel
theorem dX5_take_16 : decode cX5_take 16 = .ok (.ifCond .ge 9, 3) := by decide +kernel
theorem dX5_take_19 : decode cX5_take 19 = .ok (.aload_n 0, 1) := by decide +kernel
theorem dX5_take_20 : decode cX5_take 20 = .ok (.iconst 1, 1) := by decide +kernel
theorem dX5_take_21 : decode cX5_take 21 = .ok (.invokevirtual 76, 3) := by decide +kernel
theorem dX5_take_24 : decode cX5_take 24 = .ok (.ireturn, 1) := by decide +kernel
theorem dX5_take_25 : decode cX5_take 25 = .ok (.iconst 0, 1) := by decide +kernel
theorem dX5_take_26 : decode cX5_take 26 = .ok (.istore_n 2, 1) := by decide +kernel
theorem dX5_take_27 : decode cX5_take 27 = .ok (.iconst 1, 1) := by decide +kernel
theorem dX5_take_28 : decode cX5_take 28 = .ok (.istore_n 3, 1) := by decide +kernel
theorem dX5_take_29 : decode cX5_take 29 = .ok (.iload_n 3, 1) := by decide +kernel
theorem dX5_take_30 : decode cX5_take 30 = .ok (.ifCond .eq 73, 3) := by decide +kernel
theorem dX5_take_33 : decode cX5_take 33 = .ok (.iconst 2, 1) := by decide +kernel
theorem dX5_take_34 : decode cX5_take 34 = .ok (.iload_n 2, 1) := by decide +kernel
theorem dX5_take_35 : decode cX5_take 35 = .ok (.imul, 1) := by decide +kernel
theorem dX5_take_36 : decode cX5_take 36 = .ok (.iconst 2, 1) := by decide +kernel
theorem dX5_take_37 : decode cX5_take 37 = .ok (.iadd, 1) := by decide +kernel
theorem dX5_take_38 : decode cX5_take 38 = .ok (.aload_n 0, 1) := by decide +kernel
theorem dX5_take_39 : decode cX5_take 39 = .ok (.getfield 13, 3) := by decide +kernel
theorem dX5_take_42 : decode cX5_take 42 = .ok (.iload_n 1, 1) := by decide +kernel
theorem dX5_take_43 : decode cX5_take 43 = .ok (.iaload, 1) := by decide +kernel
theorem dX5_take_44 : decode cX5_take 44 = .ok (.if_icmp .gt 59, 3) := by decide +kernel
theorem dX5_take_47 : decode cX5_take 47 = .ok (.aload_n 0, 1) := by decide +kernel
theorem dX5_take_48 : decode cX5_take 48 = .ok (.aload_n 0, 1) := by decide +kernel
theorem dX5_take_49 : decode cX5_take 49 = .ok (.getfield 16, 3) := by decide +kernel
theorem dX5_take_52 : decode cX5_take 52 = .ok (.bipush 60, 2) := by decide +kernel
theorem dX5_take_54 : decode cX5_take 54 = .ok (.iload_n 1, 1) := by decide +kernel
theorem dX5_take_55 : decode cX5_take 55 = .ok (.imul, 1) := by decide +kernel
theorem dX5_take_56 : decode cX5_take 56 = .ok (.iconst 2, 1) := by decide +kernel
theorem dX5_take_57 : decode cX5_take 57 = .ok (.iload_n 2, 1) := by decide +kernel
theorem dX5_take_58 : decode cX5_take 58 = .ok (.imul, 1) := by decide +kernel
theorem dX5_take_59 : decode cX5_take 59 = .ok (.iadd, 1) := by decide +kernel
theorem dX5_take_60 : decode cX5_take 60 = .ok (.iaload, 1) := by decide +kernel
theorem dX5_take_61 : decode cX5_take 61 = .ok (.aload_n 0, 1) := by decide +kernel
theorem dX5_take_62 : decode cX5_take 62 = .ok (.getfield 16, 3) := by decide +kernel
theorem dX5_take_65 : decode cX5_take 65 = .ok (.bipush 60, 2) := by decide +kernel
theorem dX5_take_67 : decode cX5_take 67 = .ok (.iload_n 1, 1) := by decide +kernel
theorem dX5_take_68 : decode cX5_take 68 = .ok (.imul, 1) := by decide +kernel
theorem dX5_take_69 : decode cX5_take 69 = .ok (.iconst 2, 1) := by decide +kernel
theorem dX5_take_70 : decode cX5_take 70 = .ok (.iload_n 2, 1) := by decide +kernel
theorem dX5_take_71 : decode cX5_take 71 = .ok (.imul, 1) := by decide +kernel
theorem dX5_take_72 : decode cX5_take 72 = .ok (.iadd, 1) := by decide +kernel
theorem dX5_take_73 : decode cX5_take 73 = .ok (.iconst 1, 1) := by decide +kernel
theorem dX5_take_74 : decode cX5_take 74 = .ok (.iadd, 1) := by decide +kernel
theorem dX5_take_75 : decode cX5_take 75 = .ok (.iaload, 1) := by decide +kernel
theorem dX5_take_76 : decode cX5_take 76 = .ok (.invokevirtual 251, 3) := by decide +kernel
theorem dX5_take_79 : decode cX5_take 79 = .ok (.ifCond .lt 7, 3) := by decide +kernel
theorem dX5_take_82 : decode cX5_take 82 = .ok (.iconst 1, 1) := by decide +kernel
theorem dX5_take_83 : decode cX5_take 83 = .ok (.goto 4, 3) := by decide +kernel
theorem dX5_take_86 : decode cX5_take 86 = .ok (.iconst 0, 1) := by decide +kernel
theorem dX5_take_87 : decode cX5_take 87 = .ok (.istore_n 3, 1) := by decide +kernel
theorem dX5_take_88 : decode cX5_take 88 = .ok (.iload_n 2, 1) := by decide +kernel
theorem dX5_take_89 : decode cX5_take 89 = .ok (.iload_n 3, 1) := by decide +kernel
theorem dX5_take_90 : decode cX5_take 90 = .ok (.ifCond .eq 7, 3) := by decide +kernel
theorem dX5_take_93 : decode cX5_take 93 = .ok (.iconst 1, 1) := by decide +kernel
theorem dX5_take_94 : decode cX5_take 94 = .ok (.goto 4, 3) := by decide +kernel
theorem dX5_take_97 : decode cX5_take 97 = .ok (.iconst 0, 1) := by decide +kernel
theorem dX5_take_98 : decode cX5_take 98 = .ok (.iadd, 1) := by decide +kernel
theorem dX5_take_99 : decode cX5_take 99 = .ok (.istore_n 2, 1) := by decide +kernel
theorem dX5_take_100 : decode cX5_take 100 = .ok (.goto (-71), 3) := by decide +kernel
theorem dX5_take_103 : decode cX5_take 103 = .ok (.iload_n 2, 1) := by decide +kernel
theorem dX5_take_104 : decode cX5_take 104 = .ok (.ireturn, 1) := by decide +kernel
theorem dX5_isRead_0 : decode cX5_isRead 0 = .ok (.iconst 1, 1) := by decide +kernel
theorem dX5_isRead_1 : decode cX5_isRead 1 = .ok (.istore_n 2, 1) := by decide +kernel
theorem dX5_isRead_2 : decode cX5_isRead 2 = .ok (.iconst 0, 1) := by decide +kernel
theorem dX5_isRead_3 : decode cX5_isRead 3 = .ok (.istore_n 3, 1) := by decide +kernel
theorem dX5_isRead_4 : decode cX5_isRead 4 = .ok (.iload_n 3, 1) := by decide +kernel
theorem dX5_isRead_5 : decode cX5_isRead 5 = .ok (.aload_n 0, 1) := by decide +kernel
theorem dX5_isRead_6 : decode cX5_isRead 6 = .ok (.getfield 248, 3) := by decide +kernel
theorem dX5_isRead_9 : decode cX5_isRead 9 = .ok (.if_icmp .ge 56, 3) := by decide +kernel
theorem dX5_isRead_12 : decode cX5_isRead 12 = .ok (.iload_n 2, 1) := by decide +kernel
theorem dX5_isRead_13 : decode cX5_isRead 13 = .ok (.ifCond .eq 52, 3) := by decide +kernel
theorem dX5_isRead_16 : decode cX5_isRead 16 = .ok (.aload_n 0, 1) := by decide +kernel
theorem dX5_isRead_17 : decode cX5_isRead 17 = .ok (.aload_n 0, 1) := by decide +kernel
theorem dX5_isRead_18 : decode cX5_isRead 18 = .ok (.getfield 52, 3) := by decide +kernel
theorem dX5_isRead_21 : decode cX5_isRead 21 = .ok (.iconst 2, 1) := by decide +kernel
theorem dX5_isRead_22 : decode cX5_isRead 22 = .ok (.iload_n 3, 1) := by decide +kernel
theorem dX5_isRead_23 : decode cX5_isRead 23 = .ok (.imul, 1) := by decide +kernel
theorem dX5_isRead_24 : decode cX5_isRead 24 = .ok (.iaload, 1) := by decide +kernel
theorem dX5_isRead_25 : decode cX5_isRead 25 = .ok (.invokevirtual 187, 3) := by decide +kernel
theorem dX5_isRead_28 : decode cX5_isRead 28 = .ok (.aload_n 0, 1) := by decide +kernel
theorem dX5_isRead_29 : decode cX5_isRead 29 = .ok (.aload_n 0, 1) := by decide +kernel
theorem dX5_isRead_30 : decode cX5_isRead 30 = .ok (.getfield 161, 3) := by decide +kernel
theorem dX5_isRead_33 : decode cX5_isRead 33 = .ok (.iload_n 1, 1) := by decide +kernel
theorem dX5_isRead_34 : decode cX5_isRead 34 = .ok (.iconst (-1), 1) := by decide +kernel
theorem dX5_isRead_35 : decode cX5_isRead 35 = .ok (.ixor, 1) := by decide +kernel
theorem dX5_isRead_36 : decode cX5_isRead 36 = .ok (.iand, 1) := by decide +kernel
theorem dX5_isRead_37 : decode cX5_isRead 37 = .ok (.invokevirtual 190, 3) := by decide +kernel
theorem dX5_isRead_40 : decode cX5_isRead 40 = .ok (.aload_n 0, 1) := by decide +kernel
theorem dX5_isRead_41 : decode cX5_isRead 41 = .ok (.getfield 52, 3) := by decide +kernel
theorem dX5_isRead_44 : decode cX5_isRead 44 = .ok (.iconst 2, 1) := by decide +kernel
theorem dX5_isRead_45 : decode cX5_isRead 45 = .ok (.iload_n 3, 1) := by decide +kernel
theorem dX5_isRead_46 : decode cX5_isRead 46 = .ok (.imul, 1) := by decide +kernel
theorem dX5_isRead_47 : decode cX5_isRead 47 = .ok (.iconst 1, 1) := by decide +kernel
theorem dX5_isRead_48 : decode cX5_isRead 48 = .ok (.iadd, 1) := by decide +kernel
theorem dX5_isRead_49 : decode cX5_isRead 49 = .ok (.iaload, 1) := by decide +kernel
theorem dX5_isRead_50 : decode cX5_isRead 50 = .ok (.if_icmp .ne 7, 3) := by decide +kernel
theorem dX5_isRead_53 : decode cX5_isRead 53 = .ok (.iconst 1, 1) := by decide +kernel
theorem dX5_isRead_54 : decode cX5_isRead 54 = .ok (.goto 4, 3) := by decide +kernel
theorem dX5_isRead_57 : decode cX5_isRead 57 = .ok (.iconst 0, 1) := by decide +kernel
theorem dX5_isRead_58 : decode cX5_isRead 58 = .ok (.istore_n 2, 1) := by decide +kernel
theorem dX5_isRead_59 : decode cX5_isRead 59 = .ok (.iinc 3 1, 3) := by decide +kernel
theorem dX5_isRead_62 : decode cX5_isRead 62 = .ok (.goto (-58), 3) := by decide +kernel
theorem dX5_isRead_65 : decode cX5_isRead 65 = .ok (.iload_n 2, 1) := by decide +kernel
theorem dX5_isRead_66 : decode cX5_isRead 66 = .ok (.ireturn, 1) := by decide +kernel
theorem dX5_fitsOf_0 : decode cX5_fitsOf 0 = .ok (.iconst 0, 1) := by decide +kernel
theorem dX5_fitsOf_1 : decode cX5_fitsOf 1 = .ok (.istore_n 2, 1) := by decide +kernel
theorem dX5_fitsOf_2 : decode cX5_fitsOf 2 = .ok (.iconst 0, 1) := by decide +kernel
theorem dX5_fitsOf_3 : decode cX5_fitsOf 3 = .ok (.istore_n 3, 1) := by decide +kernel
theorem dX5_fitsOf_4 : decode cX5_fitsOf 4 = .ok (.iload_n 3, 1) := by decide +kernel
theorem dX5_fitsOf_5 : decode cX5_fitsOf 5 = .ok (.iload_n 1, 1) := by decide +kernel
theorem dX5_fitsOf_6 : decode cX5_fitsOf 6 = .ok (.iconst 1, 1) := by decide +kernel
theorem dX5_fitsOf_7 : decode cX5_fitsOf 7 = .ok (.if_icmp .ne 10, 3) := by decide +kernel
theorem dX5_fitsOf_10 : decode cX5_fitsOf 10 = .ok (.aload_n 0, 1) := by decide +kernel
theorem dX5_fitsOf_11 : decode cX5_fitsOf 11 = .ok (.getfield 103, 3) := by decide +kernel
theorem dX5_fitsOf_14 : decode cX5_fitsOf 14 = .ok (.goto 7, 3) := by decide +kernel
theorem dX5_fitsOf_17 : decode cX5_fitsOf 17 = .ok (.aload_n 0, 1) := by decide +kernel
theorem dX5_fitsOf_18 : decode cX5_fitsOf 18 = .ok (.getfield 106, 3) := by decide +kernel
theorem dX5_fitsOf_21 : decode cX5_fitsOf 21 = .ok (.if_icmp .ge 67, 3) := by decide +kernel
theorem dX5_fitsOf_24 : decode cX5_fitsOf 24 = .ok (.aload_n 0, 1) := by decide +kernel
theorem dX5_fitsOf_25 : decode cX5_fitsOf 25 = .ok (.iload_n 1, 1) := by decide +kernel
theorem dX5_fitsOf_26 : decode cX5_fitsOf 26 = .ok (.ifCond .ne 9, 3) := by decide +kernel
theorem dX5_fitsOf_29 : decode cX5_fitsOf 29 = .ok (.iconst 1, 1) := by decide +kernel
theorem dX5_fitsOf_30 : decode cX5_fitsOf 30 = .ok (.iload_n 3, 1) := by decide +kernel
theorem dX5_fitsOf_31 : decode cX5_fitsOf 31 = .ok (.ishl, 1) := by decide +kernel
theorem dX5_fitsOf_32 : decode cX5_fitsOf 32 = .ok (.goto 4, 3) := by decide +kernel
theorem dX5_fitsOf_35 : decode cX5_fitsOf 35 = .ok (.iconst 0, 1) := by decide +kernel
theorem dX5_fitsOf_36 : decode cX5_fitsOf 36 = .ok (.putfield 181, 3) := by decide +kernel
theorem dX5_fitsOf_39 : decode cX5_fitsOf 39 = .ok (.aload_n 0, 1) := by decide +kernel
theorem dX5_fitsOf_40 : decode cX5_fitsOf 40 = .ok (.iload_n 1, 1) := by decide +kernel
theorem dX5_fitsOf_41 : decode cX5_fitsOf 41 = .ok (.iconst 2, 1) := by decide +kernel
theorem dX5_fitsOf_42 : decode cX5_fitsOf 42 = .ok (.if_icmp .ne 7, 3) := by decide +kernel
theorem dX5_fitsOf_45 : decode cX5_fitsOf 45 = .ok (.iload_n 3, 1) := by decide +kernel
theorem dX5_fitsOf_46 : decode cX5_fitsOf 46 = .ok (.goto 4, 3) := by decide +kernel
theorem dX5_fitsOf_49 : decode cX5_fitsOf 49 = .ok (.iconst (-1), 1) := by decide +kernel
theorem dX5_fitsOf_50 : decode cX5_fitsOf 50 = .ok (.putfield 55, 3) := by decide +kernel
theorem dX5_fitsOf_53 : decode cX5_fitsOf 53 = .ok (.iload_n 2, 1) := by decide +kernel
theorem dX5_fitsOf_54 : decode cX5_fitsOf 54 = .ok (.aload_n 0, 1) := by decide +kernel
theorem dX5_fitsOf_55 : decode cX5_fitsOf 55 = .ok (.iload_n 1, 1) := by decide +kernel
theorem dX5_fitsOf_56 : decode cX5_fitsOf 56 = .ok (.iconst 1, 1) := by decide +kernel
theorem dX5_fitsOf_57 : decode cX5_fitsOf 57 = .ok (.if_icmp .ne 9, 3) := by decide +kernel
theorem dX5_fitsOf_60 : decode cX5_fitsOf 60 = .ok (.iconst 1, 1) := by decide +kernel
theorem dX5_fitsOf_61 : decode cX5_fitsOf 61 = .ok (.iload_n 3, 1) := by decide +kernel
theorem dX5_fitsOf_62 : decode cX5_fitsOf 62 = .ok (.ishl, 1) := by decide +kernel
theorem dX5_fitsOf_63 : decode cX5_fitsOf 63 = .ok (.goto 4, 3) := by decide +kernel
theorem dX5_fitsOf_66 : decode cX5_fitsOf 66 = .ok (.iconst 0, 1) := by decide +kernel
theorem dX5_fitsOf_67 : decode cX5_fitsOf 67 = .ok (.invokevirtual 254, 3) := by decide +kernel
theorem dX5_fitsOf_70 : decode cX5_fitsOf 70 = .ok (.ifCond .eq 9, 3) := by decide +kernel
theorem dX5_fitsOf_73 : decode cX5_fitsOf 73 = .ok (.iconst 1, 1) := by decide +kernel
theorem dX5_fitsOf_74 : decode cX5_fitsOf 74 = .ok (.iload_n 3, 1) := by decide +kernel
theorem dX5_fitsOf_75 : decode cX5_fitsOf 75 = .ok (.ishl, 1) := by decide +kernel
theorem dX5_fitsOf_76 : decode cX5_fitsOf 76 = .ok (.goto 4, 3) := by decide +kernel
theorem dX5_fitsOf_79 : decode cX5_fitsOf 79 = .ok (.iconst 0, 1) := by decide +kernel
theorem dX5_fitsOf_80 : decode cX5_fitsOf 80 = .ok (.ior, 1) := by decide +kernel
theorem dX5_fitsOf_81 : decode cX5_fitsOf 81 = .ok (.istore_n 2, 1) := by decide +kernel
theorem dX5_fitsOf_82 : decode cX5_fitsOf 82 = .ok (.iinc 3 1, 3) := by decide +kernel
theorem dX5_fitsOf_85 : decode cX5_fitsOf 85 = .ok (.goto (-81), 3) := by decide +kernel
theorem dX5_fitsOf_88 : decode cX5_fitsOf 88 = .ok (.aload_n 0, 1) := by decide +kernel
theorem dX5_fitsOf_89 : decode cX5_fitsOf 89 = .ok (.iconst 0, 1) := by decide +kernel
theorem dX5_fitsOf_90 : decode cX5_fitsOf 90 = .ok (.putfield 181, 3) := by decide +kernel
theorem dX5_fitsOf_93 : decode cX5_fitsOf 93 = .ok (.aload_n 0, 1) := by decide +kernel
theorem dX5_fitsOf_94 : decode cX5_fitsOf 94 = .ok (.iconst (-1), 1) := by decide +kernel
theorem dX5_fitsOf_95 : decode cX5_fitsOf 95 = .ok (.putfield 55, 3) := by decide +kernel
theorem dX5_fitsOf_98 : decode cX5_fitsOf 98 = .ok (.iload_n 2, 1) := by decide +kernel
theorem dX5_fitsOf_99 : decode cX5_fitsOf 99 = .ok (.ireturn, 1) := by decide +kernel
theorem dX5_fits_0 : decode cX5_fits 0 = .ok (.aload_n 0, 1) := by decide +kernel
theorem dX5_fits_1 : decode cX5_fits 1 = .ok (.invokevirtual 129, 3) := by decide +kernel
theorem dX5_fits_4 : decode cX5_fits 4 = .ok (.iload_n 1, 1) := by decide +kernel
theorem dX5_fits_5 : decode cX5_fits 5 = .ok (.i2l, 1) := by decide +kernel
theorem dX5_fits_6 : decode cX5_fits 6 = .ok (.lconst 0, 1) := by decide +kernel
theorem dX5_fits_7 : decode cX5_fits 7 = .ok (.ldc2_w 74, 3) := by decide +kernel
theorem dX5_fits_10 : decode cX5_fits 10 = .ok (.invokestatic 61, 3) := by decide +kernel
theorem dX5_fits_13 : decode cX5_fits 13 = .ok (.ifCond .eq 11, 3) := by decide +kernel
theorem dX5_fits_16 : decode cX5_fits 16 = .ok (.aload_n 0, 1) := by decide +kernel
theorem dX5_fits_17 : decode cX5_fits 17 = .ok (.iload_n 1, 1) := by decide +kernel
theorem dX5_fits_18 : decode cX5_fits 18 = .ok (.invokevirtual 257, 3) := by decide +kernel
theorem dX5_fits_21 : decode cX5_fits 21 = .ok (.goto 5, 3) := by decide +kernel
theorem dX5_fits_24 : decode cX5_fits 24 = .ok (.bipush (-2), 2) := by decide +kernel
theorem dX5_fits_26 : decode cX5_fits 26 = .ok (.ireturn, 1) := by decide +kernel
theorem dX5_sinksOf_0 : decode cX5_sinksOf 0 = .ok (.aload_n 0, 1) := by decide +kernel
theorem dX5_sinksOf_1 : decode cX5_sinksOf 1 = .ok (.iload_n 2, 1) := by decide +kernel
theorem dX5_sinksOf_2 : decode cX5_sinksOf 2 = .ok (.invokevirtual 187, 3) := by decide +kernel
theorem dX5_sinksOf_5 : decode cX5_sinksOf 5 = .ok (.lconst 0, 1) := by decide +kernel
theorem dX5_sinksOf_6 : decode cX5_sinksOf 6 = .ok (.lstore 5, 2) := by decide +kernel
theorem dX5_sinksOf_8 : decode cX5_sinksOf 8 = .ok (.lconst 1, 1) := by decide +kernel
theorem dX5_sinksOf_9 : decode cX5_sinksOf 9 = .ok (.lstore 7, 2) := by decide +kernel
theorem dX5_sinksOf_11 : decode cX5_sinksOf 11 = .ok (.iconst 0, 1) := by decide +kernel
theorem dX5_sinksOf_12 : decode cX5_sinksOf 12 = .ok (.istore 9, 2) := by decide +kernel
theorem dX5_sinksOf_14 : decode cX5_sinksOf 14 = .ok (.iload 9, 2) := by decide +kernel
theorem dX5_sinksOf_16 : decode cX5_sinksOf 16 = .ok (.aload_n 0, 1) := by decide +kernel
theorem dX5_sinksOf_17 : decode cX5_sinksOf 17 = .ok (.getfield 103, 3) := by decide +kernel
theorem dX5_sinksOf_20 : decode cX5_sinksOf 20 = .ok (.if_icmp .ge 17, 3) := by decide +kernel
theorem dX5_sinksOf_23 : decode cX5_sinksOf 23 = .ok (.lload 7, 2) := by decide +kernel
theorem dX5_sinksOf_25 : decode cX5_sinksOf 25 = .ok (.ldc2_w 260, 3) := by decide +kernel
theorem dX5_sinksOf_28 : decode cX5_sinksOf 28 = .ok (.lmul, 1) := by decide +kernel
theorem dX5_sinksOf_29 : decode cX5_sinksOf 29 = .ok (.lstore 7, 2) := by decide +kernel
theorem dX5_sinksOf_31 : decode cX5_sinksOf 31 = .ok (.iinc 9 1, 3) := by decide +kernel
theorem dX5_sinksOf_34 : decode cX5_sinksOf 34 = .ok (.goto (-20), 3) := by decide +kernel
theorem dX5_sinksOf_37 : decode cX5_sinksOf 37 = .ok (.iconst 0, 1) := by decide +kernel
theorem dX5_sinksOf_38 : decode cX5_sinksOf 38 = .ok (.istore 9, 2) := by decide +kernel
theorem dX5_sinksOf_40 : decode cX5_sinksOf 40 = .ok (.iload 9, 2) := by decide +kernel
theorem dX5_sinksOf_42 : decode cX5_sinksOf 42 = .ok (.iconst 1, 1) := by decide +kernel
theorem dX5_sinksOf_43 : decode cX5_sinksOf 43 = .ok (.aload_n 0, 1) := by decide +kernel
theorem dX5_sinksOf_44 : decode cX5_sinksOf 44 = .ok (.getfield 103, 3) := by decide +kernel
theorem dX5_sinksOf_47 : decode cX5_sinksOf 47 = .ok (.ishl, 1) := by decide +kernel
theorem dX5_sinksOf_48 : decode cX5_sinksOf 48 = .ok (.if_icmp .ge 82, 3) := by decide +kernel
theorem dX5_sinksOf_51 : decode cX5_sinksOf 51 = .ok (.aload_n 0, 1) := by decide +kernel
theorem dX5_sinksOf_52 : decode cX5_sinksOf 52 = .ok (.aload_n 0, 1) := by decide +kernel
theorem dX5_sinksOf_53 : decode cX5_sinksOf 53 = .ok (.getfield 161, 3) := by decide +kernel
theorem dX5_sinksOf_56 : decode cX5_sinksOf 56 = .ok (.iload 9, 2) := by decide +kernel
theorem dX5_sinksOf_58 : decode cX5_sinksOf 58 = .ok (.iconst (-1), 1) := by decide +kernel
theorem dX5_sinksOf_59 : decode cX5_sinksOf 59 = .ok (.ixor, 1) := by decide +kernel
theorem dX5_sinksOf_60 : decode cX5_sinksOf 60 = .ok (.iand, 1) := by decide +kernel
theorem dX5_sinksOf_61 : decode cX5_sinksOf 61 = .ok (.invokevirtual 190, 3) := by decide +kernel
theorem dX5_sinksOf_64 : decode cX5_sinksOf 64 = .ok (.iload_n 3, 1) := by decide +kernel
theorem dX5_sinksOf_65 : decode cX5_sinksOf 65 = .ok (.invokestatic 178, 3) := by decide +kernel
theorem dX5_sinksOf_68 : decode cX5_sinksOf 68 = .ok (.ifCond .eq 56, 3) := by decide +kernel
theorem dX5_sinksOf_71 : decode cX5_sinksOf 71 = .ok (.lconst 1, 1) := by decide +kernel
theorem dX5_sinksOf_72 : decode cX5_sinksOf 72 = .ok (.lstore 10, 2) := by decide +kernel
theorem dX5_sinksOf_74 : decode cX5_sinksOf 74 = .ok (.iconst 0, 1) := by decide +kernel
theorem dX5_sinksOf_75 : decode cX5_sinksOf 75 = .ok (.istore 12, 2) := by decide +kernel
theorem dX5_sinksOf_77 : decode cX5_sinksOf 77 = .ok (.iload 12, 2) := by decide +kernel
theorem dX5_sinksOf_79 : decode cX5_sinksOf 79 = .ok (.aload_n 0, 1) := by decide +kernel
theorem dX5_sinksOf_80 : decode cX5_sinksOf 80 = .ok (.getfield 103, 3) := by decide +kernel
theorem dX5_sinksOf_83 : decode cX5_sinksOf 83 = .ok (.if_icmp .ge 34, 3) := by decide +kernel
theorem dX5_sinksOf_86 : decode cX5_sinksOf 86 = .ok (.lload 10, 2) := by decide +kernel
theorem dX5_sinksOf_88 : decode cX5_sinksOf 88 = .ok (.iload 9, 2) := by decide +kernel
theorem dX5_sinksOf_90 : decode cX5_sinksOf 90 = .ok (.iload 12, 2) := by decide +kernel
theorem dX5_sinksOf_92 : decode cX5_sinksOf 92 = .ok (.invokestatic 178, 3) := by decide +kernel
theorem dX5_sinksOf_95 : decode cX5_sinksOf 95 = .ok (.ifCond .eq 8, 3) := by decide +kernel
theorem dX5_sinksOf_98 : decode cX5_sinksOf 98 = .ok (.iload_n 1, 1) := by decide +kernel
theorem dX5_sinksOf_99 : decode cX5_sinksOf 99 = .ok (.i2l, 1) := by decide +kernel
theorem dX5_sinksOf_100 : decode cX5_sinksOf 100 = .ok (.goto 8, 3) := by decide +kernel
theorem dX5_sinksOf_103 : decode cX5_sinksOf 103 = .ok (.bipush 16, 2) := by decide +kernel
theorem dX5_sinksOf_105 : decode cX5_sinksOf 105 = .ok (.iload_n 1, 1) := by decide +kernel
theorem dX5_sinksOf_106 : decode cX5_sinksOf 106 = .ok (.isub, 1) := by decide +kernel
theorem dX5_sinksOf_107 : decode cX5_sinksOf 107 = .ok (.i2l, 1) := by decide +kernel
theorem dX5_sinksOf_108 : decode cX5_sinksOf 108 = .ok (.lmul, 1) := by decide +kernel
theorem dX5_sinksOf_109 : decode cX5_sinksOf 109 = .ok (.lstore 10, 2) := by decide +kernel
theorem dX5_sinksOf_111 : decode cX5_sinksOf 111 = .ok (.iinc 12 1, 3) := by decide +kernel
theorem dX5_sinksOf_114 : decode cX5_sinksOf 114 = .ok (.goto (-37), 3) := by decide +kernel
theorem dX5_sinksOf_117 : decode cX5_sinksOf 117 = .ok (.lload 5, 2) := by decide +kernel
theorem dX5_sinksOf_119 : decode cX5_sinksOf 119 = .ok (.lload 10, 2) := by decide +kernel
theorem dX5_sinksOf_121 : decode cX5_sinksOf 121 = .ok (.ladd, 1) := by decide +kernel
theorem dX5_sinksOf_122 : decode cX5_sinksOf 122 = .ok (.lstore 5, 2) := by decide +kernel
theorem dX5_sinksOf_124 : decode cX5_sinksOf 124 = .ok (.iinc 9 1, 3) := by decide +kernel
theorem dX5_sinksOf_127 : decode cX5_sinksOf 127 = .ok (.goto (-87), 3) := by decide +kernel
theorem dX5_sinksOf_130 : decode cX5_sinksOf 130 = .ok (.lload 5, 2) := by decide +kernel
theorem dX5_sinksOf_132 : decode cX5_sinksOf 132 = .ok (.lload 7, 2) := by decide +kernel
theorem dX5_sinksOf_134 : decode cX5_sinksOf 134 = .ok (.iload 4, 2) := by decide +kernel
theorem dX5_sinksOf_136 : decode cX5_sinksOf 136 = .ok (.invokestatic 262, 3) := by decide +kernel
theorem dX5_sinksOf_139 : decode cX5_sinksOf 139 = .ok (.lreturn, 1) := by decide +kernel
theorem dX5_sinks_0 : decode cX5_sinks 0 = .ok (.aload_n 0, 1) := by decide +kernel
theorem dX5_sinks_1 : decode cX5_sinks 1 = .ok (.invokevirtual 129, 3) := by decide +kernel
theorem dX5_sinks_4 : decode cX5_sinks 4 = .ok (.iload_n 1, 1) := by decide +kernel
theorem dX5_sinks_5 : decode cX5_sinks 5 = .ok (.i2l, 1) := by decide +kernel
theorem dX5_sinks_6 : decode cX5_sinks 6 = .ok (.lconst 0, 1) := by decide +kernel
theorem dX5_sinks_7 : decode cX5_sinks 7 = .ok (.ldc2_w 260, 3) := by decide +kernel
theorem dX5_sinks_10 : decode cX5_sinks 10 = .ok (.invokestatic 61, 3) := by decide +kernel
theorem dX5_sinks_13 : decode cX5_sinks 13 = .ok (.ifCond .eq 37, 3) := by decide +kernel
theorem dX5_sinks_16 : decode cX5_sinks 16 = .ok (.iload_n 2, 1) := by decide +kernel
theorem dX5_sinks_17 : decode cX5_sinks 17 = .ok (.invokestatic 193, 3) := by decide +kernel
theorem dX5_sinks_20 : decode cX5_sinks 20 = .ok (.ifCond .eq 30, 3) := by decide +kernel
theorem dX5_sinks_23 : decode cX5_sinks 23 = .ok (.iload_n 3, 1) := by decide +kernel
theorem dX5_sinks_24 : decode cX5_sinks 24 = .ok (.invokestatic 145, 3) := by decide +kernel
theorem dX5_sinks_27 : decode cX5_sinks 27 = .ok (.ifCond .eq 23, 3) := by decide +kernel
theorem dX5_sinks_30 : decode cX5_sinks 30 = .ok (.iload 4, 2) := by decide +kernel
theorem dX5_sinks_32 : decode cX5_sinks 32 = .ok (.invokestatic 89, 3) := by decide +kernel
theorem dX5_sinks_35 : decode cX5_sinks 35 = .ok (.ifCond .eq 15, 3) := by decide +kernel
theorem dX5_sinks_38 : decode cX5_sinks 38 = .ok (.aload_n 0, 1) := by decide +kernel
theorem dX5_sinks_39 : decode cX5_sinks 39 = .ok (.iload_n 1, 1) := by decide +kernel
theorem dX5_sinks_40 : decode cX5_sinks 40 = .ok (.iload_n 2, 1) := by decide +kernel
theorem dX5_sinks_41 : decode cX5_sinks 41 = .ok (.iload_n 3, 1) := by decide +kernel
theorem dX5_sinks_42 : decode cX5_sinks 42 = .ok (.iload 4, 2) := by decide +kernel
theorem dX5_sinks_44 : decode cX5_sinks 44 = .ok (.invokevirtual 266, 3) := by decide +kernel
theorem dX5_sinks_47 : decode cX5_sinks 47 = .ok (.goto 8, 3) := by decide +kernel
theorem dX5_sinks_50 : decode cX5_sinks 50 = .ok (.bipush (-2), 2) := by decide +kernel
theorem dX5_sinks_52 : decode cX5_sinks 52 = .ok (.invokestatic 270, 3) := by decide +kernel
theorem dX5_sinks_55 : decode cX5_sinks 55 = .ok (.lreturn, 1) := by decide +kernel
theorem dX5_morningsOf_0 : decode cX5_morningsOf 0 = .ok (.iload_n 1, 1) := by decide +kernel
theorem dX5_morningsOf_1 : decode cX5_morningsOf 1 = .ok (.istore 4, 2) := by decide +kernel
theorem dX5_morningsOf_3 : decode cX5_morningsOf 3 = .ok (.iconst 0, 1) := by decide +kernel
theorem dX5_morningsOf_4 : decode cX5_morningsOf 4 = .ok (.istore 5, 2) := by decide +kernel
theorem dX5_morningsOf_6 : decode cX5_morningsOf 6 = .ok (.iconst 0, 1) := by decide +kernel
theorem dX5_morningsOf_7 : decode cX5_morningsOf 7 = .ok (.istore 6, 2) := by decide +kernel
theorem dX5_morningsOf_9 : decode cX5_morningsOf 9 = .ok (.iload 6, 2) := by decide +kernel
theorem dX5_morningsOf_11 : decode cX5_morningsOf 11 = .ok (.iload_n 2, 1) := by decide +kernel
theorem dX5_morningsOf_12 : decode cX5_morningsOf 12 = .ok (.if_icmp .ge 49, 3) := by decide +kernel
theorem dX5_morningsOf_15 : decode cX5_morningsOf 15 = .ok (.ldc_w 274, 3) := by decide +kernel
theorem dX5_morningsOf_18 : decode cX5_morningsOf 18 = .ok (.iload 4, 2) := by decide +kernel
theorem dX5_morningsOf_20 : decode cX5_morningsOf 20 = .ok (.imul, 1) := by decide +kernel
theorem dX5_morningsOf_21 : decode cX5_morningsOf 21 = .ok (.sipush 12345, 3) := by decide +kernel
theorem dX5_morningsOf_24 : decode cX5_morningsOf 24 = .ok (.iadd, 1) := by decide +kernel
theorem dX5_morningsOf_25 : decode cX5_morningsOf 25 = .ok (.istore 4, 2) := by decide +kernel
theorem dX5_morningsOf_27 : decode cX5_morningsOf 27 = .ok (.iload 5, 2) := by decide +kernel
theorem dX5_morningsOf_29 : decode cX5_morningsOf 29 = .ok (.aload_n 0, 1) := by decide +kernel
theorem dX5_morningsOf_30 : decode cX5_morningsOf 30 = .ok (.iload 4, 2) := by decide +kernel
theorem dX5_morningsOf_32 : decode cX5_morningsOf 32 = .ok (.bipush 16, 2) := by decide +kernel
theorem dX5_morningsOf_34 : decode cX5_morningsOf 34 = .ok (.iushr, 1) := by decide +kernel
theorem dX5_morningsOf_35 : decode cX5_morningsOf 35 = .ok (.iconst 4, 1) := by decide +kernel
theorem dX5_morningsOf_36 : decode cX5_morningsOf 36 = .ok (.irem, 1) := by decide +kernel
theorem dX5_morningsOf_37 : decode cX5_morningsOf 37 = .ok (.invokevirtual 203, 3) := by decide +kernel
theorem dX5_morningsOf_40 : decode cX5_morningsOf 40 = .ok (.iload_n 3, 1) := by decide +kernel
theorem dX5_morningsOf_41 : decode cX5_morningsOf 41 = .ok (.invokestatic 178, 3) := by decide +kernel
theorem dX5_morningsOf_44 : decode cX5_morningsOf 44 = .ok (.ifCond .eq 7, 3) := by decide +kernel
theorem dX5_morningsOf_47 : decode cX5_morningsOf 47 = .ok (.iconst 1, 1) := by decide +kernel
theorem dX5_morningsOf_48 : decode cX5_morningsOf 48 = .ok (.goto 4, 3) := by decide +kernel
theorem dX5_morningsOf_51 : decode cX5_morningsOf 51 = .ok (.iconst 0, 1) := by decide +kernel
theorem dX5_morningsOf_52 : decode cX5_morningsOf 52 = .ok (.iadd, 1) := by decide +kernel
theorem dX5_morningsOf_53 : decode cX5_morningsOf 53 = .ok (.istore 5, 2) := by decide +kernel
theorem dX5_morningsOf_55 : decode cX5_morningsOf 55 = .ok (.iinc 6 1, 3) := by decide +kernel
theorem dX5_morningsOf_58 : decode cX5_morningsOf 58 = .ok (.goto (-49), 3) := by decide +kernel
theorem dX5_morningsOf_61 : decode cX5_morningsOf 61 = .ok (.iload 5, 2) := by decide +kernel
theorem dX5_morningsOf_63 : decode cX5_morningsOf 63 = .ok (.ireturn, 1) := by decide +kernel
theorem dX5_mornings_0 : decode cX5_mornings 0 = .ok (.aload_n 0, 1) := by decide +kernel
theorem dX5_mornings_1 : decode cX5_mornings 1 = .ok (.invokevirtual 129, 3) := by decide +kernel
theorem dX5_mornings_4 : decode cX5_mornings 4 = .ok (.iload_n 2, 1) := by decide +kernel
theorem dX5_mornings_5 : decode cX5_mornings 5 = .ok (.i2l, 1) := by decide +kernel
theorem dX5_mornings_6 : decode cX5_mornings 6 = .ok (.lconst 1, 1) := by decide +kernel
theorem dX5_mornings_7 : decode cX5_mornings 7 = .ok (.ldc2_w 275, 3) := by decide +kernel
theorem dX5_mornings_10 : decode cX5_mornings 10 = .ok (.invokestatic 61, 3) := by decide +kernel
theorem dX5_mornings_13 : decode cX5_mornings 13 = .ok (.ifCond .eq 20, 3) := by decide +kernel
theorem dX5_mornings_16 : decode cX5_mornings 16 = .ok (.iload_n 3, 1) := by decide +kernel
theorem dX5_mornings_17 : decode cX5_mornings 17 = .ok (.invokestatic 145, 3) := by decide +kernel
theorem dX5_mornings_20 : decode cX5_mornings 20 = .ok (.ifCond .eq 13, 3) := by decide +kernel
theorem dX5_mornings_23 : decode cX5_mornings 23 = .ok (.aload_n 0, 1) := by decide +kernel
theorem dX5_mornings_24 : decode cX5_mornings 24 = .ok (.iload_n 1, 1) := by decide +kernel
theorem dX5_mornings_25 : decode cX5_mornings 25 = .ok (.iload_n 2, 1) := by decide +kernel
theorem dX5_mornings_26 : decode cX5_mornings 26 = .ok (.iload_n 3, 1) := by decide +kernel
theorem dX5_mornings_27 : decode cX5_mornings 27 = .ok (.invokevirtual 277, 3) := by decide +kernel
theorem dX5_mornings_30 : decode cX5_mornings 30 = .ok (.goto 5, 3) := by decide +kernel
theorem dX5_mornings_33 : decode cX5_mornings 33 = .ok (.bipush (-2), 2) := by decide +kernel
theorem dX5_mornings_35 : decode cX5_mornings 35 = .ok (.ireturn, 1) := by decide +kernel
theorem dX5_write_0 : decode cX5_write 0 = .ok (.iload_n 1, 1) := by decide +kernel
theorem dX5_write_1 : decode cX5_write 1 = .ok (.invokestatic 70, 3) := by decide +kernel
theorem dX5_write_4 : decode cX5_write 4 = .ok (.ifCond .ne 6, 3) := by decide +kernel
theorem dX5_write_7 : decode cX5_write 7 = .ok (.bipush (-2), 2) := by decide +kernel
theorem dX5_write_9 : decode cX5_write 9 = .ok (.ireturn, 1) := by decide +kernel
theorem dX5_write_10 : decode cX5_write 10 = .ok (.aload_n 0, 1) := by decide +kernel
theorem dX5_write_11 : decode cX5_write 11 = .ok (.getfield 7, 3) := by decide +kernel
theorem dX5_write_14 : decode cX5_write 14 = .ok (.iload_n 1, 1) := by decide +kernel
theorem dX5_write_15 : decode cX5_write 15 = .ok (.iaload, 1) := by decide +kernel
theorem dX5_write_16 : decode cX5_write 16 = .ok (.ifCond .ge 9, 3) := by decide +kernel
theorem dX5_write_19 : decode cX5_write 19 = .ok (.aload_n 0, 1) := by decide +kernel
theorem dX5_write_20 : decode cX5_write 20 = .ok (.iconst 1, 1) := by decide +kernel
theorem dX5_write_21 : decode cX5_write 21 = .ok (.invokevirtual 76, 3) := by decide +kernel
theorem dX5_write_24 : decode cX5_write 24 = .ok (.ireturn, 1) := by decide +kernel
theorem dX5_write_25 : decode cX5_write 25 = .ok (.aload_n 0, 1) := by decide +kernel
theorem dX5_write_26 : decode cX5_write 26 = .ok (.invokevirtual 129, 3) := by decide +kernel
theorem dX5_write_29 : decode cX5_write 29 = .ok (.aload_n 0, 1) := by decide +kernel
theorem dX5_write_30 : decode cX5_write 30 = .ok (.getfield 13, 3) := by decide +kernel
theorem dX5_write_33 : decode cX5_write 33 = .ok (.iload_n 1, 1) := by decide +kernel
theorem dX5_write_34 : decode cX5_write 34 = .ok (.iaload, 1) := by decide +kernel
theorem dX5_write_35 : decode cX5_write 35 = .ok (.bipush 28, 2) := by decide +kernel
theorem dX5_write_37 : decode cX5_write 37 = .ok (.if_icmp .ge 12, 3) := by decide +kernel
theorem dX5_write_40 : decode cX5_write 40 = .ok (.aload_n 0, 1) := by decide +kernel
theorem dX5_write_41 : decode cX5_write 41 = .ok (.getfield 13, 3) := by decide +kernel
theorem dX5_write_44 : decode cX5_write 44 = .ok (.iload_n 1, 1) := by decide +kernel
theorem dX5_write_45 : decode cX5_write 45 = .ok (.iaload, 1) := by decide +kernel
theorem dX5_write_46 : decode cX5_write 46 = .ok (.goto 5, 3) := by decide +kernel
theorem dX5_write_49 : decode cX5_write 49 = .ok (.bipush 28, 2) := by decide +kernel
theorem dX5_write_51 : decode cX5_write 51 = .ok (.istore_n 2, 1) := by decide +kernel
theorem dX5_write_52 : decode cX5_write 52 = .ok (.iconst 0, 1) := by decide +kernel
theorem dX5_write_53 : decode cX5_write 53 = .ok (.istore_n 3, 1) := by decide +kernel
theorem dX5_write_54 : decode cX5_write 54 = .ok (.iload_n 3, 1) := by decide +kernel
theorem dX5_write_55 : decode cX5_write 55 = .ok (.iload_n 2, 1) := by decide +kernel
theorem dX5_write_56 : decode cX5_write 56 = .ok (.if_icmp .ge 34, 3) := by decide +kernel
theorem dX5_write_59 : decode cX5_write 59 = .ok (.aload_n 0, 1) := by decide +kernel
theorem dX5_write_60 : decode cX5_write 60 = .ok (.getfield 16, 3) := by decide +kernel
theorem dX5_write_63 : decode cX5_write 63 = .ok (.bipush 60, 2) := by decide +kernel
theorem dX5_write_65 : decode cX5_write 65 = .ok (.iload_n 1, 1) := by decide +kernel
theorem dX5_write_66 : decode cX5_write 66 = .ok (.imul, 1) := by decide +kernel
theorem dX5_write_67 : decode cX5_write 67 = .ok (.iload_n 3, 1) := by decide +kernel
theorem dX5_write_68 : decode cX5_write 68 = .ok (.iadd, 1) := by decide +kernel
theorem dX5_write_69 : decode cX5_write 69 = .ok (.aload_n 0, 1) := by decide +kernel
theorem dX5_write_70 : decode cX5_write 70 = .ok (.getfield 7, 3) := by decide +kernel
theorem dX5_write_73 : decode cX5_write 73 = .ok (.iload_n 1, 1) := by decide +kernel
theorem dX5_write_74 : decode cX5_write 74 = .ok (.iaload, 1) := by decide +kernel
theorem dX5_write_75 : decode cX5_write 75 = .ok (.aload_n 0, 1) := by decide +kernel
theorem dX5_write_76 : decode cX5_write 76 = .ok (.iload_n 3, 1) := by decide +kernel
theorem dX5_write_77 : decode cX5_write 77 = .ok (.invokevirtual 206, 3) := by decide +kernel
theorem dX5_write_80 : decode cX5_write 80 = .ok (.invokestatic 84, 3) := by decide +kernel
theorem dX5_write_83 : decode cX5_write 83 = .ok (.iastore, 1) := by decide +kernel
theorem dX5_write_84 : decode cX5_write 84 = .ok (.iinc 3 1, 3) := by decide +kernel
theorem dX5_write_87 : decode cX5_write 87 = .ok (.goto (-33), 3) := by decide +kernel
theorem dX5_write_90 : decode cX5_write 90 = .ok (.iload_n 2, 1) := by decide +kernel
theorem dX5_write_91 : decode cX5_write 91 = .ok (.ireturn, 1) := by decide +kernel
theorem dX5_count_0 : decode cX5_count 0 = .ok (.iconst 0, 1) := by decide +kernel
theorem dX5_count_1 : decode cX5_count 1 = .ok (.istore_n 2, 1) := by decide +kernel
theorem dX5_count_2 : decode cX5_count 2 = .ok (.aload_n 0, 1) := by decide +kernel
theorem dX5_count_3 : decode cX5_count 3 = .ok (.invokevirtual 129, 3) := by decide +kernel
theorem dX5_count_6 : decode cX5_count 6 = .ok (.iload_n 1, 1) := by decide +kernel
theorem dX5_count_7 : decode cX5_count 7 = .ok (.tableswitch 119 0 8 #[49, 54, 59, 59, 68, 73, 78, 83, 114], 49) := by decide +kernel
theorem dX5_count_56 : decode cX5_count 56 = .ok (.aload_n 0, 1) := by decide +kernel
theorem dX5_count_57 : decode cX5_count 57 = .ok (.getfield 103, 3) := by decide +kernel
theorem dX5_count_60 : decode cX5_count 60 = .ok (.ireturn, 1) := by decide +kernel
theorem dX5_count_61 : decode cX5_count 61 = .ok (.aload_n 0, 1) := by decide +kernel
theorem dX5_count_62 : decode cX5_count 62 = .ok (.getfield 106, 3) := by decide +kernel
theorem dX5_count_65 : decode cX5_count 65 = .ok (.ireturn, 1) := by decide +kernel
theorem dX5_count_66 : decode cX5_count 66 = .ok (.aload_n 0, 1) := by decide +kernel
theorem dX5_count_67 : decode cX5_count 67 = .ok (.getfield 25, 3) := by decide +kernel
theorem dX5_count_70 : decode cX5_count 70 = .ok (.iload_n 1, 1) := by decide +kernel
theorem dX5_count_71 : decode cX5_count 71 = .ok (.iconst 2, 1) := by decide +kernel
theorem dX5_count_72 : decode cX5_count 72 = .ok (.isub, 1) := by decide +kernel
theorem dX5_count_73 : decode cX5_count 73 = .ok (.iaload, 1) := by decide +kernel
theorem dX5_count_74 : decode cX5_count 74 = .ok (.ireturn, 1) := by decide +kernel
theorem dX5_count_75 : decode cX5_count 75 = .ok (.aload_n 0, 1) := by decide +kernel
theorem dX5_count_76 : decode cX5_count 76 = .ok (.getfield 139, 3) := by decide +kernel
theorem dX5_count_79 : decode cX5_count 79 = .ok (.ireturn, 1) := by decide +kernel
theorem dX5_count_80 : decode cX5_count 80 = .ok (.aload_n 0, 1) := by decide +kernel
theorem dX5_count_81 : decode cX5_count 81 = .ok (.getfield 148, 3) := by decide +kernel
theorem dX5_count_84 : decode cX5_count 84 = .ok (.ireturn, 1) := by decide +kernel
theorem dX5_count_85 : decode cX5_count 85 = .ok (.aload_n 0, 1) := by decide +kernel
theorem dX5_count_86 : decode cX5_count 86 = .ok (.getfield 248, 3) := by decide +kernel
theorem dX5_count_89 : decode cX5_count 89 = .ok (.ireturn, 1) := by decide +kernel
theorem dX5_count_90 : decode cX5_count 90 = .ok (.iconst 0, 1) := by decide +kernel
theorem dX5_count_91 : decode cX5_count 91 = .ok (.istore_n 3, 1) := by decide +kernel
theorem dX5_count_92 : decode cX5_count 92 = .ok (.iload_n 3, 1) := by decide +kernel
theorem dX5_count_93 : decode cX5_count 93 = .ok (.aload_n 0, 1) := by decide +kernel
theorem dX5_count_94 : decode cX5_count 94 = .ok (.getfield 106, 3) := by decide +kernel
theorem dX5_count_97 : decode cX5_count 97 = .ok (.if_icmp .ge 22, 3) := by decide +kernel
theorem dX5_count_100 : decode cX5_count 100 = .ok (.iload_n 2, 1) := by decide +kernel
theorem dX5_count_101 : decode cX5_count 101 = .ok (.aload_n 0, 1) := by decide +kernel
theorem dX5_count_102 : decode cX5_count 102 = .ok (.getfield 31, 3) := by decide +kernel
theorem dX5_count_105 : decode cX5_count 105 = .ok (.iconst 5, 1) := by decide +kernel
theorem dX5_count_106 : decode cX5_count 106 = .ok (.iload_n 3, 1) := by decide +kernel
theorem dX5_count_107 : decode cX5_count 107 = .ok (.imul, 1) := by decide +kernel
theorem dX5_count_108 : decode cX5_count 108 = .ok (.iconst 3, 1) := by decide +kernel
theorem dX5_count_109 : decode cX5_count 109 = .ok (.iadd, 1) := by decide +kernel
theorem dX5_count_110 : decode cX5_count 110 = .ok (.iaload, 1) := by decide +kernel
theorem dX5_count_111 : decode cX5_count 111 = .ok (.iadd, 1) := by decide +kernel
theorem dX5_count_112 : decode cX5_count 112 = .ok (.istore_n 2, 1) := by decide +kernel
theorem dX5_count_113 : decode cX5_count 113 = .ok (.iinc 3 1, 3) := by decide +kernel
theorem dX5_count_116 : decode cX5_count 116 = .ok (.goto (-24), 3) := by decide +kernel
theorem dX5_count_119 : decode cX5_count 119 = .ok (.iload_n 2, 1) := by decide +kernel
theorem dX5_count_120 : decode cX5_count 120 = .ok (.ireturn, 1) := by decide +kernel
theorem dX5_count_121 : decode cX5_count 121 = .ok (.aload_n 0, 1) := by decide +kernel
theorem dX5_count_122 : decode cX5_count 122 = .ok (.getfield 65, 3) := by decide +kernel
theorem dX5_count_125 : decode cX5_count 125 = .ok (.ireturn, 1) := by decide +kernel
theorem dX5_count_126 : decode cX5_count 126 = .ok (.bipush (-2), 2) := by decide +kernel
theorem dX5_count_128 : decode cX5_count 128 = .ok (.ireturn, 1) := by decide +kernel
theorem dX5_tellsTurns_0 : decode cX5_tellsTurns 0 = .ok (.lload_n 1, 1) := by decide +kernel
theorem dX5_tellsTurns_1 : decode cX5_tellsTurns 1 = .ok (.lstore 4, 2) := by decide +kernel
theorem dX5_tellsTurns_3 : decode cX5_tellsTurns 3 = .ok (.iconst 0, 1) := by decide +kernel
theorem dX5_tellsTurns_4 : decode cX5_tellsTurns 4 = .ok (.istore 6, 2) := by decide +kernel
theorem dX5_tellsTurns_6 : decode cX5_tellsTurns 6 = .ok (.iload 6, 2) := by decide +kernel
theorem dX5_tellsTurns_8 : decode cX5_tellsTurns 8 = .ok (.iconst 3, 1) := by decide +kernel
theorem dX5_tellsTurns_9 : decode cX5_tellsTurns 9 = .ok (.if_icmp .ge 26, 3) := by decide +kernel
theorem dX5_tellsTurns_12 : decode cX5_tellsTurns 12 = .ok (.ldc2_w 280, 3) := by decide +kernel
theorem dX5_tellsTurns_15 : decode cX5_tellsTurns 15 = .ok (.lload 4, 2) := by decide +kernel
theorem dX5_tellsTurns_17 : decode cX5_tellsTurns 17 = .ok (.lmul, 1) := by decide +kernel
theorem dX5_tellsTurns_18 : decode cX5_tellsTurns 18 = .ok (.aload_n 0, 1) := by decide +kernel
theorem dX5_tellsTurns_19 : decode cX5_tellsTurns 19 = .ok (.iload_n 3, 1) := by decide +kernel
theorem dX5_tellsTurns_20 : decode cX5_tellsTurns 20 = .ok (.iload 6, 2) := by decide +kernel
theorem dX5_tellsTurns_22 : decode cX5_tellsTurns 22 = .ok (.invokevirtual 200, 3) := by decide +kernel
theorem dX5_tellsTurns_25 : decode cX5_tellsTurns 25 = .ok (.i2l, 1) := by decide +kernel
theorem dX5_tellsTurns_26 : decode cX5_tellsTurns 26 = .ok (.ladd, 1) := by decide +kernel
theorem dX5_tellsTurns_27 : decode cX5_tellsTurns 27 = .ok (.lstore 4, 2) := by decide +kernel
theorem dX5_tellsTurns_29 : decode cX5_tellsTurns 29 = .ok (.iinc 6 1, 3) := by decide +kernel
theorem dX5_tellsTurns_32 : decode cX5_tellsTurns 32 = .ok (.goto (-26), 3) := by decide +kernel
theorem dX5_tellsTurns_35 : decode cX5_tellsTurns 35 = .ok (.ldc2_w 280, 3) := by decide +kernel
theorem dX5_tellsTurns_38 : decode cX5_tellsTurns 38 = .ok (.lload 4, 2) := by decide +kernel
theorem dX5_tellsTurns_40 : decode cX5_tellsTurns 40 = .ok (.lmul, 1) := by decide +kernel
theorem dX5_tellsTurns_41 : decode cX5_tellsTurns 41 = .ok (.aload_n 0, 1) := by decide +kernel
theorem dX5_tellsTurns_42 : decode cX5_tellsTurns 42 = .ok (.iload_n 3, 1) := by decide +kernel
theorem dX5_tellsTurns_43 : decode cX5_tellsTurns 43 = .ok (.invokevirtual 218, 3) := by decide +kernel
theorem dX5_tellsTurns_46 : decode cX5_tellsTurns 46 = .ok (.i2l, 1) := by decide +kernel
theorem dX5_tellsTurns_47 : decode cX5_tellsTurns 47 = .ok (.ladd, 1) := by decide +kernel
theorem dX5_tellsTurns_48 : decode cX5_tellsTurns 48 = .ok (.lstore 4, 2) := by decide +kernel
theorem dX5_tellsTurns_50 : decode cX5_tellsTurns 50 = .ok (.aload_n 0, 1) := by decide +kernel
theorem dX5_tellsTurns_51 : decode cX5_tellsTurns 51 = .ok (.iload_n 3, 1) := by decide +kernel
theorem dX5_tellsTurns_52 : decode cX5_tellsTurns 52 = .ok (.iconst 1, 1) := by decide +kernel
theorem dX5_tellsTurns_53 : decode cX5_tellsTurns 53 = .ok (.iconst 2, 1) := by decide +kernel
theorem dX5_tellsTurns_54 : decode cX5_tellsTurns 54 = .ok (.invokevirtual 230, 3) := by decide +kernel
theorem dX5_tellsTurns_57 : decode cX5_tellsTurns 57 = .ok (.istore 6, 2) := by decide +kernel
theorem dX5_tellsTurns_59 : decode cX5_tellsTurns 59 = .ok (.ldc2_w 280, 3) := by decide +kernel
theorem dX5_tellsTurns_62 : decode cX5_tellsTurns 62 = .ok (.lload 4, 2) := by decide +kernel
theorem dX5_tellsTurns_64 : decode cX5_tellsTurns 64 = .ok (.lmul, 1) := by decide +kernel
theorem dX5_tellsTurns_65 : decode cX5_tellsTurns 65 = .ok (.iload 6, 2) := by decide +kernel
theorem dX5_tellsTurns_67 : decode cX5_tellsTurns 67 = .ok (.iconst 0, 1) := by decide +kernel
theorem dX5_tellsTurns_68 : decode cX5_tellsTurns 68 = .ok (.invokestatic 233, 3) := by decide +kernel
theorem dX5_tellsTurns_71 : decode cX5_tellsTurns 71 = .ok (.i2l, 1) := by decide +kernel
theorem dX5_tellsTurns_72 : decode cX5_tellsTurns 72 = .ok (.ladd, 1) := by decide +kernel
theorem dX5_tellsTurns_73 : decode cX5_tellsTurns 73 = .ok (.lstore 4, 2) := by decide +kernel
theorem dX5_tellsTurns_75 : decode cX5_tellsTurns 75 = .ok (.ldc2_w 280, 3) := by decide +kernel
theorem dX5_tellsTurns_78 : decode cX5_tellsTurns 78 = .ok (.lload 4, 2) := by decide +kernel
theorem dX5_tellsTurns_80 : decode cX5_tellsTurns 80 = .ok (.lmul, 1) := by decide +kernel
theorem dX5_tellsTurns_81 : decode cX5_tellsTurns 81 = .ok (.iload 6, 2) := by decide +kernel
theorem dX5_tellsTurns_83 : decode cX5_tellsTurns 83 = .ok (.iconst 1, 1) := by decide +kernel
theorem dX5_tellsTurns_84 : decode cX5_tellsTurns 84 = .ok (.invokestatic 233, 3) := by decide +kernel
theorem dX5_tellsTurns_87 : decode cX5_tellsTurns 87 = .ok (.i2l, 1) := by decide +kernel
theorem dX5_tellsTurns_88 : decode cX5_tellsTurns 88 = .ok (.ladd, 1) := by decide +kernel
theorem dX5_tellsTurns_89 : decode cX5_tellsTurns 89 = .ok (.lstore 4, 2) := by decide +kernel
theorem dX5_tellsTurns_91 : decode cX5_tellsTurns 91 = .ok (.aload_n 0, 1) := by decide +kernel
theorem dX5_tellsTurns_92 : decode cX5_tellsTurns 92 = .ok (.iload_n 3, 1) := by decide +kernel
theorem dX5_tellsTurns_93 : decode cX5_tellsTurns 93 = .ok (.iconst 3, 1) := by decide +kernel
theorem dX5_tellsTurns_94 : decode cX5_tellsTurns 94 = .ok (.invokevirtual 236, 3) := by decide +kernel
theorem dX5_tellsTurns_97 : decode cX5_tellsTurns 97 = .ok (.istore 7, 2) := by decide +kernel
theorem dX5_tellsTurns_99 : decode cX5_tellsTurns 99 = .ok (.ldc2_w 280, 3) := by decide +kernel
theorem dX5_tellsTurns_102 : decode cX5_tellsTurns 102 = .ok (.lload 4, 2) := by decide +kernel
theorem dX5_tellsTurns_104 : decode cX5_tellsTurns 104 = .ok (.lmul, 1) := by decide +kernel
theorem dX5_tellsTurns_105 : decode cX5_tellsTurns 105 = .ok (.iload 7, 2) := by decide +kernel
theorem dX5_tellsTurns_107 : decode cX5_tellsTurns 107 = .ok (.iconst 0, 1) := by decide +kernel
theorem dX5_tellsTurns_108 : decode cX5_tellsTurns 108 = .ok (.invokestatic 233, 3) := by decide +kernel
theorem dX5_tellsTurns_111 : decode cX5_tellsTurns 111 = .ok (.i2l, 1) := by decide +kernel
theorem dX5_tellsTurns_112 : decode cX5_tellsTurns 112 = .ok (.ladd, 1) := by decide +kernel
theorem dX5_tellsTurns_113 : decode cX5_tellsTurns 113 = .ok (.lstore 4, 2) := by decide +kernel
theorem dX5_tellsTurns_115 : decode cX5_tellsTurns 115 = .ok (.ldc2_w 280, 3) := by decide +kernel
theorem dX5_tellsTurns_118 : decode cX5_tellsTurns 118 = .ok (.lload 4, 2) := by decide +kernel
theorem dX5_tellsTurns_120 : decode cX5_tellsTurns 120 = .ok (.lmul, 1) := by decide +kernel
theorem dX5_tellsTurns_121 : decode cX5_tellsTurns 121 = .ok (.iload 7, 2) := by decide +kernel
theorem dX5_tellsTurns_123 : decode cX5_tellsTurns 123 = .ok (.iconst 1, 1) := by decide +kernel
theorem dX5_tellsTurns_124 : decode cX5_tellsTurns 124 = .ok (.invokestatic 233, 3) := by decide +kernel
theorem dX5_tellsTurns_127 : decode cX5_tellsTurns 127 = .ok (.i2l, 1) := by decide +kernel
theorem dX5_tellsTurns_128 : decode cX5_tellsTurns 128 = .ok (.ladd, 1) := by decide +kernel
theorem dX5_tellsTurns_129 : decode cX5_tellsTurns 129 = .ok (.lstore 4, 2) := by decide +kernel
theorem dX5_tellsTurns_131 : decode cX5_tellsTurns 131 = .ok (.ldc2_w 280, 3) := by decide +kernel
theorem dX5_tellsTurns_134 : decode cX5_tellsTurns 134 = .ok (.lload 4, 2) := by decide +kernel
theorem dX5_tellsTurns_136 : decode cX5_tellsTurns 136 = .ok (.lmul, 1) := by decide +kernel
theorem dX5_tellsTurns_137 : decode cX5_tellsTurns 137 = .ok (.aload_n 0, 1) := by decide +kernel
theorem dX5_tellsTurns_138 : decode cX5_tellsTurns 138 = .ok (.iload_n 3, 1) := by decide +kernel
theorem dX5_tellsTurns_139 : decode cX5_tellsTurns 139 = .ok (.iconst 0, 1) := by decide +kernel
theorem dX5_tellsTurns_140 : decode cX5_tellsTurns 140 = .ok (.invokevirtual 242, 3) := by decide +kernel
theorem dX5_tellsTurns_143 : decode cX5_tellsTurns 143 = .ok (.i2l, 1) := by decide +kernel
theorem dX5_tellsTurns_144 : decode cX5_tellsTurns 144 = .ok (.ladd, 1) := by decide +kernel
theorem dX5_tellsTurns_145 : decode cX5_tellsTurns 145 = .ok (.lreturn, 1) := by decide +kernel
theorem dX5_tellsLaw_0 : decode cX5_tellsLaw 0 = .ok (.ldc2_w 280, 3) := by decide +kernel
theorem dX5_tellsLaw_3 : decode cX5_tellsLaw 3 = .ok (.lload_n 1, 1) := by decide +kernel
theorem dX5_tellsLaw_4 : decode cX5_tellsLaw 4 = .ok (.lmul, 1) := by decide +kernel
theorem dX5_tellsLaw_5 : decode cX5_tellsLaw 5 = .ok (.aload_n 0, 1) := by decide +kernel
theorem dX5_tellsLaw_6 : decode cX5_tellsLaw 6 = .ok (.iload_n 3, 1) := by decide +kernel
theorem dX5_tellsLaw_7 : decode cX5_tellsLaw 7 = .ok (.invokevirtual 215, 3) := by decide +kernel
theorem dX5_tellsLaw_10 : decode cX5_tellsLaw 10 = .ok (.i2l, 1) := by decide +kernel
theorem dX5_tellsLaw_11 : decode cX5_tellsLaw 11 = .ok (.ladd, 1) := by decide +kernel
theorem dX5_tellsLaw_12 : decode cX5_tellsLaw 12 = .ok (.lstore 4, 2) := by decide +kernel
theorem dX5_tellsLaw_14 : decode cX5_tellsLaw 14 = .ok (.ldc2_w 280, 3) := by decide +kernel
theorem dX5_tellsLaw_17 : decode cX5_tellsLaw 17 = .ok (.lload 4, 2) := by decide +kernel
theorem dX5_tellsLaw_19 : decode cX5_tellsLaw 19 = .ok (.lmul, 1) := by decide +kernel
theorem dX5_tellsLaw_20 : decode cX5_tellsLaw 20 = .ok (.aload_n 0, 1) := by decide +kernel
theorem dX5_tellsLaw_21 : decode cX5_tellsLaw 21 = .ok (.iload_n 3, 1) := by decide +kernel
theorem dX5_tellsLaw_22 : decode cX5_tellsLaw 22 = .ok (.iconst 0, 1) := by decide +kernel
theorem dX5_tellsLaw_23 : decode cX5_tellsLaw 23 = .ok (.invokevirtual 245, 3) := by decide +kernel
theorem dX5_tellsLaw_26 : decode cX5_tellsLaw 26 = .ok (.i2l, 1) := by decide +kernel
theorem dX5_tellsLaw_27 : decode cX5_tellsLaw 27 = .ok (.ladd, 1) := by decide +kernel
theorem dX5_tellsLaw_28 : decode cX5_tellsLaw 28 = .ok (.lstore 4, 2) := by decide +kernel
theorem dX5_tellsLaw_30 : decode cX5_tellsLaw 30 = .ok (.ldc2_w 280, 3) := by decide +kernel
theorem dX5_tellsLaw_33 : decode cX5_tellsLaw 33 = .ok (.lload 4, 2) := by decide +kernel
theorem dX5_tellsLaw_35 : decode cX5_tellsLaw 35 = .ok (.lmul, 1) := by decide +kernel
theorem dX5_tellsLaw_36 : decode cX5_tellsLaw 36 = .ok (.aload_n 0, 1) := by decide +kernel
theorem dX5_tellsLaw_37 : decode cX5_tellsLaw 37 = .ok (.iload_n 3, 1) := by decide +kernel
theorem dX5_tellsLaw_38 : decode cX5_tellsLaw 38 = .ok (.iconst 1, 1) := by decide +kernel
theorem dX5_tellsLaw_39 : decode cX5_tellsLaw 39 = .ok (.invokevirtual 245, 3) := by decide +kernel
theorem dX5_tellsLaw_42 : decode cX5_tellsLaw 42 = .ok (.i2l, 1) := by decide +kernel
theorem dX5_tellsLaw_43 : decode cX5_tellsLaw 43 = .ok (.ladd, 1) := by decide +kernel
theorem dX5_tellsLaw_44 : decode cX5_tellsLaw 44 = .ok (.lstore 4, 2) := by decide +kernel
theorem dX5_tellsLaw_46 : decode cX5_tellsLaw 46 = .ok (.ldc2_w 280, 3) := by decide +kernel
theorem dX5_tellsLaw_49 : decode cX5_tellsLaw 49 = .ok (.lload 4, 2) := by decide +kernel
theorem dX5_tellsLaw_51 : decode cX5_tellsLaw 51 = .ok (.lmul, 1) := by decide +kernel
theorem dX5_tellsLaw_52 : decode cX5_tellsLaw 52 = .ok (.aload_n 0, 1) := by decide +kernel
theorem dX5_tellsLaw_53 : decode cX5_tellsLaw 53 = .ok (.iconst 5, 1) := by decide +kernel
theorem dX5_tellsLaw_54 : decode cX5_tellsLaw 54 = .ok (.iconst 1, 1) := by decide +kernel
theorem dX5_tellsLaw_55 : decode cX5_tellsLaw 55 = .ok (.iload_n 3, 1) := by decide +kernel
theorem dX5_tellsLaw_56 : decode cX5_tellsLaw 56 = .ok (.iconst 0, 1) := by decide +kernel
theorem dX5_tellsLaw_57 : decode cX5_tellsLaw 57 = .ok (.invokevirtual 266, 3) := by decide +kernel
theorem dX5_tellsLaw_60 : decode cX5_tellsLaw 60 = .ok (.ladd, 1) := by decide +kernel
theorem dX5_tellsLaw_61 : decode cX5_tellsLaw 61 = .ok (.lstore 4, 2) := by decide +kernel
theorem dX5_tellsLaw_63 : decode cX5_tellsLaw 63 = .ok (.ldc2_w 280, 3) := by decide +kernel
theorem dX5_tellsLaw_66 : decode cX5_tellsLaw 66 = .ok (.lload 4, 2) := by decide +kernel
theorem dX5_tellsLaw_68 : decode cX5_tellsLaw 68 = .ok (.lmul, 1) := by decide +kernel
theorem dX5_tellsLaw_69 : decode cX5_tellsLaw 69 = .ok (.aload_n 0, 1) := by decide +kernel
theorem dX5_tellsLaw_70 : decode cX5_tellsLaw 70 = .ok (.iconst 5, 1) := by decide +kernel
theorem dX5_tellsLaw_71 : decode cX5_tellsLaw 71 = .ok (.iconst 1, 1) := by decide +kernel
theorem dX5_tellsLaw_72 : decode cX5_tellsLaw 72 = .ok (.iload_n 3, 1) := by decide +kernel
theorem dX5_tellsLaw_73 : decode cX5_tellsLaw 73 = .ok (.iconst 1, 1) := by decide +kernel
theorem dX5_tellsLaw_74 : decode cX5_tellsLaw 74 = .ok (.invokevirtual 266, 3) := by decide +kernel
theorem dX5_tellsLaw_77 : decode cX5_tellsLaw 77 = .ok (.ladd, 1) := by decide +kernel
theorem dX5_tellsLaw_78 : decode cX5_tellsLaw 78 = .ok (.lstore 4, 2) := by decide +kernel
theorem dX5_tellsLaw_80 : decode cX5_tellsLaw 80 = .ok (.ldc2_w 280, 3) := by decide +kernel
theorem dX5_tellsLaw_83 : decode cX5_tellsLaw 83 = .ok (.lload 4, 2) := by decide +kernel
theorem dX5_tellsLaw_85 : decode cX5_tellsLaw 85 = .ok (.lmul, 1) := by decide +kernel
theorem dX5_tellsLaw_86 : decode cX5_tellsLaw 86 = .ok (.aload_n 0, 1) := by decide +kernel
theorem dX5_tellsLaw_87 : decode cX5_tellsLaw 87 = .ok (.bipush 7, 2) := by decide +kernel
theorem dX5_tellsLaw_89 : decode cX5_tellsLaw 89 = .ok (.bipush 20, 2) := by decide +kernel
theorem dX5_tellsLaw_91 : decode cX5_tellsLaw 91 = .ok (.iload_n 3, 1) := by decide +kernel
theorem dX5_tellsLaw_92 : decode cX5_tellsLaw 92 = .ok (.invokevirtual 277, 3) := by decide +kernel
theorem dX5_tellsLaw_95 : decode cX5_tellsLaw 95 = .ok (.i2l, 1) := by decide +kernel
theorem dX5_tellsLaw_96 : decode cX5_tellsLaw 96 = .ok (.ladd, 1) := by decide +kernel
theorem dX5_tellsLaw_97 : decode cX5_tellsLaw 97 = .ok (.lreturn, 1) := by decide +kernel
theorem dX5_digest_0 : decode cX5_digest 0 = .ok (.ldc2_w 282, 3) := by decide +kernel
theorem dX5_digest_3 : decode cX5_digest 3 = .ok (.lstore_n 1, 1) := by decide +kernel
theorem dX5_digest_4 : decode cX5_digest 4 = .ok (.iconst 0, 1) := by decide +kernel
theorem dX5_digest_5 : decode cX5_digest 5 = .ok (.istore_n 3, 1) := by decide +kernel
theorem dX5_digest_6 : decode cX5_digest 6 = .ok (.iload_n 3, 1) := by decide +kernel
theorem dX5_digest_7 : decode cX5_digest 7 = .ok (.bipush 8, 2) := by decide +kernel
theorem dX5_digest_9 : decode cX5_digest 9 = .ok (.if_icmp .ge 22, 3) := by decide +kernel
theorem dX5_digest_12 : decode cX5_digest 12 = .ok (.ldc2_w 280, 3) := by decide +kernel
theorem dX5_digest_15 : decode cX5_digest 15 = .ok (.lload_n 1, 1) := by decide +kernel
theorem dX5_digest_16 : decode cX5_digest 16 = .ok (.lmul, 1) := by decide +kernel
theorem dX5_digest_17 : decode cX5_digest 17 = .ok (.aload_n 0, 1) := by decide +kernel
theorem dX5_digest_18 : decode cX5_digest 18 = .ok (.iload_n 3, 1) := by decide +kernel
theorem dX5_digest_19 : decode cX5_digest 19 = .ok (.invokevirtual 284, 3) := by decide +kernel
theorem dX5_digest_22 : decode cX5_digest 22 = .ok (.i2l, 1) := by decide +kernel
theorem dX5_digest_23 : decode cX5_digest 23 = .ok (.ladd, 1) := by decide +kernel
theorem dX5_digest_24 : decode cX5_digest 24 = .ok (.lstore_n 1, 1) := by decide +kernel
theorem dX5_digest_25 : decode cX5_digest 25 = .ok (.iinc 3 1, 3) := by decide +kernel
theorem dX5_digest_28 : decode cX5_digest 28 = .ok (.goto (-22), 3) := by decide +kernel
theorem dX5_digest_31 : decode cX5_digest 31 = .ok (.ldc2_w 280, 3) := by decide +kernel
theorem dX5_digest_34 : decode cX5_digest 34 = .ok (.lload_n 1, 1) := by decide +kernel
theorem dX5_digest_35 : decode cX5_digest 35 = .ok (.lmul, 1) := by decide +kernel
theorem dX5_digest_36 : decode cX5_digest 36 = .ok (.aload_n 0, 1) := by decide +kernel
theorem dX5_digest_37 : decode cX5_digest 37 = .ok (.iconst 0, 1) := by decide +kernel
theorem dX5_digest_38 : decode cX5_digest 38 = .ok (.invokevirtual 122, 3) := by decide +kernel
theorem dX5_digest_41 : decode cX5_digest 41 = .ok (.i2l, 1) := by decide +kernel
theorem dX5_digest_42 : decode cX5_digest 42 = .ok (.ladd, 1) := by decide +kernel
theorem dX5_digest_43 : decode cX5_digest 43 = .ok (.lstore_n 1, 1) := by decide +kernel
theorem dX5_digest_44 : decode cX5_digest 44 = .ok (.ldc2_w 280, 3) := by decide +kernel
theorem dX5_digest_47 : decode cX5_digest 47 = .ok (.lload_n 1, 1) := by decide +kernel
theorem dX5_digest_48 : decode cX5_digest 48 = .ok (.lmul, 1) := by decide +kernel
theorem dX5_digest_49 : decode cX5_digest 49 = .ok (.aload_n 0, 1) := by decide +kernel
theorem dX5_digest_50 : decode cX5_digest 50 = .ok (.iconst 1, 1) := by decide +kernel
theorem dX5_digest_51 : decode cX5_digest 51 = .ok (.invokevirtual 122, 3) := by decide +kernel
theorem dX5_digest_54 : decode cX5_digest 54 = .ok (.i2l, 1) := by decide +kernel
theorem dX5_digest_55 : decode cX5_digest 55 = .ok (.ladd, 1) := by decide +kernel
theorem dX5_digest_56 : decode cX5_digest 56 = .ok (.lstore_n 1, 1) := by decide +kernel
theorem dX5_digest_57 : decode cX5_digest 57 = .ok (.iconst 0, 1) := by decide +kernel
theorem dX5_digest_58 : decode cX5_digest 58 = .ok (.istore_n 3, 1) := by decide +kernel
theorem dX5_digest_59 : decode cX5_digest 59 = .ok (.iload_n 3, 1) := by decide +kernel
theorem dX5_digest_60 : decode cX5_digest 60 = .ok (.aload_n 0, 1) := by decide +kernel
theorem dX5_digest_61 : decode cX5_digest 61 = .ok (.getfield 103, 3) := by decide +kernel
theorem dX5_digest_64 : decode cX5_digest 64 = .ok (.if_icmp .ge 43, 3) := by decide +kernel
theorem dX5_digest_67 : decode cX5_digest 67 = .ok (.iconst 0, 1) := by decide +kernel
theorem dX5_digest_68 : decode cX5_digest 68 = .ok (.istore 4, 2) := by decide +kernel
theorem dX5_digest_70 : decode cX5_digest 70 = .ok (.iload 4, 2) := by decide +kernel
theorem dX5_digest_72 : decode cX5_digest 72 = .ok (.iconst 3, 1) := by decide +kernel
theorem dX5_digest_73 : decode cX5_digest 73 = .ok (.if_icmp .ge 28, 3) := by decide +kernel
theorem dX5_digest_76 : decode cX5_digest 76 = .ok (.ldc2_w 280, 3) := by decide +kernel
theorem dX5_digest_79 : decode cX5_digest 79 = .ok (.lload_n 1, 1) := by decide +kernel
theorem dX5_digest_80 : decode cX5_digest 80 = .ok (.lmul, 1) := by decide +kernel
theorem dX5_digest_81 : decode cX5_digest 81 = .ok (.aload_n 0, 1) := by decide +kernel
theorem dX5_digest_82 : decode cX5_digest 82 = .ok (.getfield 28, 3) := by decide +kernel
theorem dX5_digest_85 : decode cX5_digest 85 = .ok (.iconst 3, 1) := by decide +kernel
theorem dX5_digest_86 : decode cX5_digest 86 = .ok (.iload_n 3, 1) := by decide +kernel
theorem dX5_digest_87 : decode cX5_digest 87 = .ok (.imul, 1) := by decide +kernel
theorem dX5_digest_88 : decode cX5_digest 88 = .ok (.iload 4, 2) := by decide +kernel
theorem dX5_digest_90 : decode cX5_digest 90 = .ok (.iadd, 1) := by decide +kernel
theorem dX5_digest_91 : decode cX5_digest 91 = .ok (.iaload, 1) := by decide +kernel
theorem dX5_digest_92 : decode cX5_digest 92 = .ok (.i2l, 1) := by decide +kernel
theorem dX5_digest_93 : decode cX5_digest 93 = .ok (.ladd, 1) := by decide +kernel
theorem dX5_digest_94 : decode cX5_digest 94 = .ok (.lstore_n 1, 1) := by decide +kernel
theorem dX5_digest_95 : decode cX5_digest 95 = .ok (.iinc 4 1, 3) := by decide +kernel
theorem dX5_digest_98 : decode cX5_digest 98 = .ok (.goto (-28), 3) := by decide +kernel
theorem dX5_digest_101 : decode cX5_digest 101 = .ok (.iinc 3 1, 3) := by decide +kernel
theorem dX5_digest_104 : decode cX5_digest 104 = .ok (.goto (-45), 3) := by decide +kernel
theorem dX5_digest_107 : decode cX5_digest 107 = .ok (.iconst 0, 1) := by decide +kernel
theorem dX5_digest_108 : decode cX5_digest 108 = .ok (.istore_n 3, 1) := by decide +kernel
theorem dX5_digest_109 : decode cX5_digest 109 = .ok (.iload_n 3, 1) := by decide +kernel
theorem dX5_digest_110 : decode cX5_digest 110 = .ok (.aload_n 0, 1) := by decide +kernel
theorem dX5_digest_111 : decode cX5_digest 111 = .ok (.getfield 106, 3) := by decide +kernel
theorem dX5_digest_114 : decode cX5_digest 114 = .ok (.if_icmp .ge 43, 3) := by decide +kernel
theorem dX5_digest_117 : decode cX5_digest 117 = .ok (.iconst 0, 1) := by decide +kernel
theorem dX5_digest_118 : decode cX5_digest 118 = .ok (.istore 4, 2) := by decide +kernel
theorem dX5_digest_120 : decode cX5_digest 120 = .ok (.iload 4, 2) := by decide +kernel
theorem dX5_digest_122 : decode cX5_digest 122 = .ok (.iconst 5, 1) := by decide +kernel
theorem dX5_digest_123 : decode cX5_digest 123 = .ok (.if_icmp .ge 28, 3) := by decide +kernel
theorem dX5_digest_126 : decode cX5_digest 126 = .ok (.ldc2_w 280, 3) := by decide +kernel
theorem dX5_digest_129 : decode cX5_digest 129 = .ok (.lload_n 1, 1) := by decide +kernel
theorem dX5_digest_130 : decode cX5_digest 130 = .ok (.lmul, 1) := by decide +kernel
theorem dX5_digest_131 : decode cX5_digest 131 = .ok (.aload_n 0, 1) := by decide +kernel
theorem dX5_digest_132 : decode cX5_digest 132 = .ok (.getfield 31, 3) := by decide +kernel
theorem dX5_digest_135 : decode cX5_digest 135 = .ok (.iconst 5, 1) := by decide +kernel
theorem dX5_digest_136 : decode cX5_digest 136 = .ok (.iload_n 3, 1) := by decide +kernel
theorem dX5_digest_137 : decode cX5_digest 137 = .ok (.imul, 1) := by decide +kernel
theorem dX5_digest_138 : decode cX5_digest 138 = .ok (.iload 4, 2) := by decide +kernel
theorem dX5_digest_140 : decode cX5_digest 140 = .ok (.iadd, 1) := by decide +kernel
theorem dX5_digest_141 : decode cX5_digest 141 = .ok (.iaload, 1) := by decide +kernel
theorem dX5_digest_142 : decode cX5_digest 142 = .ok (.i2l, 1) := by decide +kernel
theorem dX5_digest_143 : decode cX5_digest 143 = .ok (.ladd, 1) := by decide +kernel
theorem dX5_digest_144 : decode cX5_digest 144 = .ok (.lstore_n 1, 1) := by decide +kernel
theorem dX5_digest_145 : decode cX5_digest 145 = .ok (.iinc 4 1, 3) := by decide +kernel
theorem dX5_digest_148 : decode cX5_digest 148 = .ok (.goto (-28), 3) := by decide +kernel
theorem dX5_digest_151 : decode cX5_digest 151 = .ok (.iinc 3 1, 3) := by decide +kernel
theorem dX5_digest_154 : decode cX5_digest 154 = .ok (.goto (-45), 3) := by decide +kernel
theorem dX5_digest_157 : decode cX5_digest 157 = .ok (.iconst 0, 1) := by decide +kernel
theorem dX5_digest_158 : decode cX5_digest 158 = .ok (.istore_n 3, 1) := by decide +kernel
theorem dX5_digest_159 : decode cX5_digest 159 = .ok (.iload_n 3, 1) := by decide +kernel
theorem dX5_digest_160 : decode cX5_digest 160 = .ok (.iconst 4, 1) := by decide +kernel
theorem dX5_digest_161 : decode cX5_digest 161 = .ok (.if_icmp .ge 16, 3) := by decide +kernel
theorem dX5_digest_164 : decode cX5_digest 164 = .ok (.aload_n 0, 1) := by decide +kernel
theorem dX5_digest_165 : decode cX5_digest 165 = .ok (.lload_n 1, 1) := by decide +kernel
theorem dX5_digest_166 : decode cX5_digest 166 = .ok (.iload_n 3, 1) := by decide +kernel
theorem dX5_digest_167 : decode cX5_digest 167 = .ok (.invokevirtual 287, 3) := by decide +kernel
theorem dX5_digest_170 : decode cX5_digest 170 = .ok (.lstore_n 1, 1) := by decide +kernel
theorem dX5_digest_171 : decode cX5_digest 171 = .ok (.iinc 3 1, 3) := by decide +kernel
theorem dX5_digest_174 : decode cX5_digest 174 = .ok (.goto (-15), 3) := by decide +kernel
theorem dX5_digest_177 : decode cX5_digest 177 = .ok (.iconst 0, 1) := by decide +kernel
theorem dX5_digest_178 : decode cX5_digest 178 = .ok (.istore_n 3, 1) := by decide +kernel
theorem dX5_digest_179 : decode cX5_digest 179 = .ok (.iload_n 3, 1) := by decide +kernel
theorem dX5_digest_180 : decode cX5_digest 180 = .ok (.bipush 8, 2) := by decide +kernel
theorem dX5_digest_182 : decode cX5_digest 182 = .ok (.if_icmp .ge 16, 3) := by decide +kernel
theorem dX5_digest_185 : decode cX5_digest 185 = .ok (.aload_n 0, 1) := by decide +kernel
theorem dX5_digest_186 : decode cX5_digest 186 = .ok (.lload_n 1, 1) := by decide +kernel
theorem dX5_digest_187 : decode cX5_digest 187 = .ok (.iload_n 3, 1) := by decide +kernel
theorem dX5_digest_188 : decode cX5_digest 188 = .ok (.invokevirtual 291, 3) := by decide +kernel
theorem dX5_digest_191 : decode cX5_digest 191 = .ok (.lstore_n 1, 1) := by decide +kernel
theorem dX5_digest_192 : decode cX5_digest 192 = .ok (.iinc 3 1, 3) := by decide +kernel
theorem dX5_digest_195 : decode cX5_digest 195 = .ok (.goto (-16), 3) := by decide +kernel
theorem dX5_digest_198 : decode cX5_digest 198 = .ok (.ldc2_w 280, 3) := by decide +kernel
theorem dX5_digest_201 : decode cX5_digest 201 = .ok (.lload_n 1, 1) := by decide +kernel
theorem dX5_digest_202 : decode cX5_digest 202 = .ok (.lmul, 1) := by decide +kernel
theorem dX5_digest_203 : decode cX5_digest 203 = .ok (.aload_n 0, 1) := by decide +kernel
theorem dX5_digest_204 : decode cX5_digest 204 = .ok (.invokevirtual 209, 3) := by decide +kernel
theorem dX5_digest_207 : decode cX5_digest 207 = .ok (.i2l, 1) := by decide +kernel
theorem dX5_digest_208 : decode cX5_digest 208 = .ok (.ladd, 1) := by decide +kernel
theorem dX5_digest_209 : decode cX5_digest 209 = .ok (.lstore_n 1, 1) := by decide +kernel
theorem dX5_digest_210 : decode cX5_digest 210 = .ok (.ldc2_w 280, 3) := by decide +kernel
theorem dX5_digest_213 : decode cX5_digest 213 = .ok (.lload_n 1, 1) := by decide +kernel
theorem dX5_digest_214 : decode cX5_digest 214 = .ok (.lmul, 1) := by decide +kernel
theorem dX5_digest_215 : decode cX5_digest 215 = .ok (.aload_n 0, 1) := by decide +kernel
theorem dX5_digest_216 : decode cX5_digest 216 = .ok (.invokevirtual 212, 3) := by decide +kernel
theorem dX5_digest_219 : decode cX5_digest 219 = .ok (.i2l, 1) := by decide +kernel
theorem dX5_digest_220 : decode cX5_digest 220 = .ok (.ladd, 1) := by decide +kernel
theorem dX5_digest_221 : decode cX5_digest 221 = .ok (.lstore_n 1, 1) := by decide +kernel
theorem dX5_digest_222 : decode cX5_digest 222 = .ok (.ldc2_w 280, 3) := by decide +kernel
theorem dX5_digest_225 : decode cX5_digest 225 = .ok (.lload_n 1, 1) := by decide +kernel
theorem dX5_digest_226 : decode cX5_digest 226 = .ok (.lmul, 1) := by decide +kernel
theorem dX5_digest_227 : decode cX5_digest 227 = .ok (.aload_n 0, 1) := by decide +kernel
theorem dX5_digest_228 : decode cX5_digest 228 = .ok (.iconst 5, 1) := by decide +kernel
theorem dX5_digest_229 : decode cX5_digest 229 = .ok (.invokevirtual 227, 3) := by decide +kernel
theorem dX5_digest_232 : decode cX5_digest 232 = .ok (.i2l, 1) := by decide +kernel
theorem dX5_digest_233 : decode cX5_digest 233 = .ok (.ladd, 1) := by decide +kernel
theorem dX5_digest_234 : decode cX5_digest 234 = .ok (.lstore_n 1, 1) := by decide +kernel
theorem dX5_digest_235 : decode cX5_digest 235 = .ok (.iconst 0, 1) := by decide +kernel
theorem dX5_digest_236 : decode cX5_digest 236 = .ok (.istore_n 3, 1) := by decide +kernel
theorem dX5_digest_237 : decode cX5_digest 237 = .ok (.iload_n 3, 1) := by decide +kernel
theorem dX5_digest_238 : decode cX5_digest 238 = .ok (.iconst 3, 1) := by decide +kernel
theorem dX5_digest_239 : decode cX5_digest 239 = .ok (.if_icmp .ge 22, 3) := by decide +kernel
theorem dX5_digest_242 : decode cX5_digest 242 = .ok (.ldc2_w 280, 3) := by decide +kernel
theorem dX5_digest_245 : decode cX5_digest 245 = .ok (.lload_n 1, 1) := by decide +kernel
theorem dX5_digest_246 : decode cX5_digest 246 = .ok (.lmul, 1) := by decide +kernel
theorem dX5_digest_247 : decode cX5_digest 247 = .ok (.aload_n 0, 1) := by decide +kernel
theorem dX5_digest_248 : decode cX5_digest 248 = .ok (.iload_n 3, 1) := by decide +kernel
theorem dX5_digest_249 : decode cX5_digest 249 = .ok (.invokevirtual 257, 3) := by decide +kernel
theorem dX5_digest_252 : decode cX5_digest 252 = .ok (.i2l, 1) := by decide +kernel
theorem dX5_digest_253 : decode cX5_digest 253 = .ok (.ladd, 1) := by decide +kernel
theorem dX5_digest_254 : decode cX5_digest 254 = .ok (.lstore_n 1, 1) := by decide +kernel
theorem dX5_digest_255 : decode cX5_digest 255 = .ok (.iinc 3 1, 3) := by decide +kernel
theorem dX5_digest_258 : decode cX5_digest 258 = .ok (.goto (-21), 3) := by decide +kernel
theorem dX5_digest_261 : decode cX5_digest 261 = .ok (.lload_n 1, 1) := by decide +kernel
theorem dX5_digest_262 : decode cX5_digest 262 = .ok (.lreturn, 1) := by decide +kernel
theorem dJ6_numberOfLeadingZeros_0f7a4_0 : decode cJ6_numberOfLeadingZeros_0f7a4 0 = .ok (.iload_n 0, 1) := by decide +kernel
theorem dJ6_numberOfLeadingZeros_0f7a4_1 : decode cJ6_numberOfLeadingZeros_0f7a4 1 = .ok (.ifCond .gt 14, 3) := by decide +kernel
theorem dJ6_numberOfLeadingZeros_0f7a4_4 : decode cJ6_numberOfLeadingZeros_0f7a4 4 = .ok (.iload_n 0, 1) := by decide +kernel
theorem dJ6_numberOfLeadingZeros_0f7a4_5 : decode cJ6_numberOfLeadingZeros_0f7a4 5 = .ok (.ifCond .ne 8, 3) := by decide +kernel
theorem dJ6_numberOfLeadingZeros_0f7a4_8 : decode cJ6_numberOfLeadingZeros_0f7a4 8 = .ok (.bipush 32, 2) := by decide +kernel
theorem dJ6_numberOfLeadingZeros_0f7a4_10 : decode cJ6_numberOfLeadingZeros_0f7a4 10 = .ok (.goto 4, 3) := by decide +kernel
theorem dJ6_numberOfLeadingZeros_0f7a4_13 : decode cJ6_numberOfLeadingZeros_0f7a4 13 = .ok (.iconst 0, 1) := by decide +kernel
theorem dJ6_numberOfLeadingZeros_0f7a4_14 : decode cJ6_numberOfLeadingZeros_0f7a4 14 = .ok (.ireturn, 1) := by decide +kernel
theorem dJ6_numberOfLeadingZeros_0f7a4_15 : decode cJ6_numberOfLeadingZeros_0f7a4 15 = .ok (.bipush 31, 2) := by decide +kernel
theorem dJ6_numberOfLeadingZeros_0f7a4_17 : decode cJ6_numberOfLeadingZeros_0f7a4 17 = .ok (.istore_n 1, 1) := by decide +kernel
theorem dJ6_numberOfLeadingZeros_0f7a4_18 : decode cJ6_numberOfLeadingZeros_0f7a4 18 = .ok (.iload_n 0, 1) := by decide +kernel
theorem dJ6_numberOfLeadingZeros_0f7a4_19 : decode cJ6_numberOfLeadingZeros_0f7a4 19 = .ok (.ldc_w 264, 3) := by decide +kernel
theorem dJ6_numberOfLeadingZeros_0f7a4_22 : decode cJ6_numberOfLeadingZeros_0f7a4 22 = .ok (.if_icmp .lt 11, 3) := by decide +kernel
theorem dJ6_numberOfLeadingZeros_0f7a4_25 : decode cJ6_numberOfLeadingZeros_0f7a4 25 = .ok (.iinc 1 (-16), 3) := by decide +kernel
theorem dJ6_numberOfLeadingZeros_0f7a4_28 : decode cJ6_numberOfLeadingZeros_0f7a4 28 = .ok (.iload_n 0, 1) := by decide +kernel
theorem dJ6_numberOfLeadingZeros_0f7a4_29 : decode cJ6_numberOfLeadingZeros_0f7a4 29 = .ok (.bipush 16, 2) := by decide +kernel
theorem dJ6_numberOfLeadingZeros_0f7a4_31 : decode cJ6_numberOfLeadingZeros_0f7a4 31 = .ok (.iushr, 1) := by decide +kernel
theorem dJ6_numberOfLeadingZeros_0f7a4_32 : decode cJ6_numberOfLeadingZeros_0f7a4 32 = .ok (.istore_n 0, 1) := by decide +kernel
theorem dJ6_numberOfLeadingZeros_0f7a4_33 : decode cJ6_numberOfLeadingZeros_0f7a4 33 = .ok (.iload_n 0, 1) := by decide +kernel
theorem dJ6_numberOfLeadingZeros_0f7a4_34 : decode cJ6_numberOfLeadingZeros_0f7a4 34 = .ok (.sipush 256, 3) := by decide +kernel
theorem dJ6_numberOfLeadingZeros_0f7a4_37 : decode cJ6_numberOfLeadingZeros_0f7a4 37 = .ok (.if_icmp .lt 11, 3) := by decide +kernel
theorem dJ6_numberOfLeadingZeros_0f7a4_40 : decode cJ6_numberOfLeadingZeros_0f7a4 40 = .ok (.iinc 1 (-8), 3) := by decide +kernel
theorem dJ6_numberOfLeadingZeros_0f7a4_43 : decode cJ6_numberOfLeadingZeros_0f7a4 43 = .ok (.iload_n 0, 1) := by decide +kernel
theorem dJ6_numberOfLeadingZeros_0f7a4_44 : decode cJ6_numberOfLeadingZeros_0f7a4 44 = .ok (.bipush 8, 2) := by decide +kernel
theorem dJ6_numberOfLeadingZeros_0f7a4_46 : decode cJ6_numberOfLeadingZeros_0f7a4 46 = .ok (.iushr, 1) := by decide +kernel
theorem dJ6_numberOfLeadingZeros_0f7a4_47 : decode cJ6_numberOfLeadingZeros_0f7a4 47 = .ok (.istore_n 0, 1) := by decide +kernel
theorem dJ6_numberOfLeadingZeros_0f7a4_48 : decode cJ6_numberOfLeadingZeros_0f7a4 48 = .ok (.iload_n 0, 1) := by decide +kernel
theorem dJ6_numberOfLeadingZeros_0f7a4_49 : decode cJ6_numberOfLeadingZeros_0f7a4 49 = .ok (.bipush 16, 2) := by decide +kernel
theorem dJ6_numberOfLeadingZeros_0f7a4_51 : decode cJ6_numberOfLeadingZeros_0f7a4 51 = .ok (.if_icmp .lt 10, 3) := by decide +kernel
theorem dJ6_numberOfLeadingZeros_0f7a4_54 : decode cJ6_numberOfLeadingZeros_0f7a4 54 = .ok (.iinc 1 (-4), 3) := by decide +kernel
theorem dJ6_numberOfLeadingZeros_0f7a4_57 : decode cJ6_numberOfLeadingZeros_0f7a4 57 = .ok (.iload_n 0, 1) := by decide +kernel
theorem dJ6_numberOfLeadingZeros_0f7a4_58 : decode cJ6_numberOfLeadingZeros_0f7a4 58 = .ok (.iconst 4, 1) := by decide +kernel
theorem dJ6_numberOfLeadingZeros_0f7a4_59 : decode cJ6_numberOfLeadingZeros_0f7a4 59 = .ok (.iushr, 1) := by decide +kernel
theorem dJ6_numberOfLeadingZeros_0f7a4_60 : decode cJ6_numberOfLeadingZeros_0f7a4 60 = .ok (.istore_n 0, 1) := by decide +kernel
theorem dJ6_numberOfLeadingZeros_0f7a4_61 : decode cJ6_numberOfLeadingZeros_0f7a4 61 = .ok (.iload_n 0, 1) := by decide +kernel
theorem dJ6_numberOfLeadingZeros_0f7a4_62 : decode cJ6_numberOfLeadingZeros_0f7a4 62 = .ok (.iconst 4, 1) := by decide +kernel
theorem dJ6_numberOfLeadingZeros_0f7a4_63 : decode cJ6_numberOfLeadingZeros_0f7a4 63 = .ok (.if_icmp .lt 10, 3) := by decide +kernel
theorem dJ6_numberOfLeadingZeros_0f7a4_66 : decode cJ6_numberOfLeadingZeros_0f7a4 66 = .ok (.iinc 1 (-2), 3) := by decide +kernel
theorem dJ6_numberOfLeadingZeros_0f7a4_69 : decode cJ6_numberOfLeadingZeros_0f7a4 69 = .ok (.iload_n 0, 1) := by decide +kernel
theorem dJ6_numberOfLeadingZeros_0f7a4_70 : decode cJ6_numberOfLeadingZeros_0f7a4 70 = .ok (.iconst 2, 1) := by decide +kernel
theorem dJ6_numberOfLeadingZeros_0f7a4_71 : decode cJ6_numberOfLeadingZeros_0f7a4 71 = .ok (.iushr, 1) := by decide +kernel
theorem dJ6_numberOfLeadingZeros_0f7a4_72 : decode cJ6_numberOfLeadingZeros_0f7a4 72 = .ok (.istore_n 0, 1) := by decide +kernel
theorem dJ6_numberOfLeadingZeros_0f7a4_73 : decode cJ6_numberOfLeadingZeros_0f7a4 73 = .ok (.iload_n 1, 1) := by decide +kernel
theorem dJ6_numberOfLeadingZeros_0f7a4_74 : decode cJ6_numberOfLeadingZeros_0f7a4 74 = .ok (.iload_n 0, 1) := by decide +kernel
theorem dJ6_numberOfLeadingZeros_0f7a4_75 : decode cJ6_numberOfLeadingZeros_0f7a4 75 = .ok (.iconst 1, 1) := by decide +kernel
theorem dJ6_numberOfLeadingZeros_0f7a4_76 : decode cJ6_numberOfLeadingZeros_0f7a4 76 = .ok (.iushr, 1) := by decide +kernel
theorem dJ6_numberOfLeadingZeros_0f7a4_77 : decode cJ6_numberOfLeadingZeros_0f7a4 77 = .ok (.isub, 1) := by decide +kernel
theorem dJ6_numberOfLeadingZeros_0f7a4_78 : decode cJ6_numberOfLeadingZeros_0f7a4 78 = .ok (.ireturn, 1) := by decide +kernel
theorem dJ6_numberOfTrailingZeros_0f7a4_0 : decode cJ6_numberOfTrailingZeros_0f7a4 0 = .ok (.iload_n 0, 1) := by decide +kernel
theorem dJ6_numberOfTrailingZeros_0f7a4_1 : decode cJ6_numberOfTrailingZeros_0f7a4 1 = .ok (.iconst (-1), 1) := by decide +kernel
theorem dJ6_numberOfTrailingZeros_0f7a4_2 : decode cJ6_numberOfTrailingZeros_0f7a4 2 = .ok (.ixor, 1) := by decide +kernel
theorem dJ6_numberOfTrailingZeros_0f7a4_3 : decode cJ6_numberOfTrailingZeros_0f7a4 3 = .ok (.iload_n 0, 1) := by decide +kernel
theorem dJ6_numberOfTrailingZeros_0f7a4_4 : decode cJ6_numberOfTrailingZeros_0f7a4 4 = .ok (.iconst 1, 1) := by decide +kernel
theorem dJ6_numberOfTrailingZeros_0f7a4_5 : decode cJ6_numberOfTrailingZeros_0f7a4 5 = .ok (.isub, 1) := by decide +kernel
theorem dJ6_numberOfTrailingZeros_0f7a4_6 : decode cJ6_numberOfTrailingZeros_0f7a4 6 = .ok (.iand, 1) := by decide +kernel
theorem dJ6_numberOfTrailingZeros_0f7a4_7 : decode cJ6_numberOfTrailingZeros_0f7a4 7 = .ok (.istore_n 0, 1) := by decide +kernel
theorem dJ6_numberOfTrailingZeros_0f7a4_8 : decode cJ6_numberOfTrailingZeros_0f7a4 8 = .ok (.iload_n 0, 1) := by decide +kernel
theorem dJ6_numberOfTrailingZeros_0f7a4_9 : decode cJ6_numberOfTrailingZeros_0f7a4 9 = .ok (.ifCond .gt 8, 3) := by decide +kernel
theorem dJ6_numberOfTrailingZeros_0f7a4_12 : decode cJ6_numberOfTrailingZeros_0f7a4 12 = .ok (.iload_n 0, 1) := by decide +kernel
theorem dJ6_numberOfTrailingZeros_0f7a4_13 : decode cJ6_numberOfTrailingZeros_0f7a4 13 = .ok (.bipush 32, 2) := by decide +kernel
theorem dJ6_numberOfTrailingZeros_0f7a4_15 : decode cJ6_numberOfTrailingZeros_0f7a4 15 = .ok (.iand, 1) := by decide +kernel
theorem dJ6_numberOfTrailingZeros_0f7a4_16 : decode cJ6_numberOfTrailingZeros_0f7a4 16 = .ok (.ireturn, 1) := by decide +kernel
theorem dJ6_numberOfTrailingZeros_0f7a4_17 : decode cJ6_numberOfTrailingZeros_0f7a4 17 = .ok (.iconst 1, 1) := by decide +kernel
theorem dJ6_numberOfTrailingZeros_0f7a4_18 : decode cJ6_numberOfTrailingZeros_0f7a4 18 = .ok (.istore_n 1, 1) := by decide +kernel
theorem dJ6_numberOfTrailingZeros_0f7a4_19 : decode cJ6_numberOfTrailingZeros_0f7a4 19 = .ok (.iload_n 0, 1) := by decide +kernel
theorem dJ6_numberOfTrailingZeros_0f7a4_20 : decode cJ6_numberOfTrailingZeros_0f7a4 20 = .ok (.ldc_w 264, 3) := by decide +kernel
theorem dJ6_numberOfTrailingZeros_0f7a4_23 : decode cJ6_numberOfTrailingZeros_0f7a4 23 = .ok (.if_icmp .le 11, 3) := by decide +kernel
theorem dJ6_numberOfTrailingZeros_0f7a4_26 : decode cJ6_numberOfTrailingZeros_0f7a4 26 = .ok (.iinc 1 16, 3) := by decide +kernel
theorem dJ6_numberOfTrailingZeros_0f7a4_29 : decode cJ6_numberOfTrailingZeros_0f7a4 29 = .ok (.iload_n 0, 1) := by decide +kernel
theorem dJ6_numberOfTrailingZeros_0f7a4_30 : decode cJ6_numberOfTrailingZeros_0f7a4 30 = .ok (.bipush 16, 2) := by decide +kernel
theorem dJ6_numberOfTrailingZeros_0f7a4_32 : decode cJ6_numberOfTrailingZeros_0f7a4 32 = .ok (.iushr, 1) := by decide +kernel
theorem dJ6_numberOfTrailingZeros_0f7a4_33 : decode cJ6_numberOfTrailingZeros_0f7a4 33 = .ok (.istore_n 0, 1) := by decide +kernel
theorem dJ6_numberOfTrailingZeros_0f7a4_34 : decode cJ6_numberOfTrailingZeros_0f7a4 34 = .ok (.iload_n 0, 1) := by decide +kernel
theorem dJ6_numberOfTrailingZeros_0f7a4_35 : decode cJ6_numberOfTrailingZeros_0f7a4 35 = .ok (.sipush 256, 3) := by decide +kernel
theorem dJ6_numberOfTrailingZeros_0f7a4_38 : decode cJ6_numberOfTrailingZeros_0f7a4 38 = .ok (.if_icmp .le 11, 3) := by decide +kernel
theorem dJ6_numberOfTrailingZeros_0f7a4_41 : decode cJ6_numberOfTrailingZeros_0f7a4 41 = .ok (.iinc 1 8, 3) := by decide +kernel
theorem dJ6_numberOfTrailingZeros_0f7a4_44 : decode cJ6_numberOfTrailingZeros_0f7a4 44 = .ok (.iload_n 0, 1) := by decide +kernel
theorem dJ6_numberOfTrailingZeros_0f7a4_45 : decode cJ6_numberOfTrailingZeros_0f7a4 45 = .ok (.bipush 8, 2) := by decide +kernel
theorem dJ6_numberOfTrailingZeros_0f7a4_47 : decode cJ6_numberOfTrailingZeros_0f7a4 47 = .ok (.iushr, 1) := by decide +kernel
theorem dJ6_numberOfTrailingZeros_0f7a4_48 : decode cJ6_numberOfTrailingZeros_0f7a4 48 = .ok (.istore_n 0, 1) := by decide +kernel
theorem dJ6_numberOfTrailingZeros_0f7a4_49 : decode cJ6_numberOfTrailingZeros_0f7a4 49 = .ok (.iload_n 0, 1) := by decide +kernel
theorem dJ6_numberOfTrailingZeros_0f7a4_50 : decode cJ6_numberOfTrailingZeros_0f7a4 50 = .ok (.bipush 16, 2) := by decide +kernel
theorem dJ6_numberOfTrailingZeros_0f7a4_52 : decode cJ6_numberOfTrailingZeros_0f7a4 52 = .ok (.if_icmp .le 10, 3) := by decide +kernel
theorem dJ6_numberOfTrailingZeros_0f7a4_55 : decode cJ6_numberOfTrailingZeros_0f7a4 55 = .ok (.iinc 1 4, 3) := by decide +kernel
theorem dJ6_numberOfTrailingZeros_0f7a4_58 : decode cJ6_numberOfTrailingZeros_0f7a4 58 = .ok (.iload_n 0, 1) := by decide +kernel
theorem dJ6_numberOfTrailingZeros_0f7a4_59 : decode cJ6_numberOfTrailingZeros_0f7a4 59 = .ok (.iconst 4, 1) := by decide +kernel
theorem dJ6_numberOfTrailingZeros_0f7a4_60 : decode cJ6_numberOfTrailingZeros_0f7a4 60 = .ok (.iushr, 1) := by decide +kernel
theorem dJ6_numberOfTrailingZeros_0f7a4_61 : decode cJ6_numberOfTrailingZeros_0f7a4 61 = .ok (.istore_n 0, 1) := by decide +kernel
theorem dJ6_numberOfTrailingZeros_0f7a4_62 : decode cJ6_numberOfTrailingZeros_0f7a4 62 = .ok (.iload_n 0, 1) := by decide +kernel
theorem dJ6_numberOfTrailingZeros_0f7a4_63 : decode cJ6_numberOfTrailingZeros_0f7a4 63 = .ok (.iconst 4, 1) := by decide +kernel
theorem dJ6_numberOfTrailingZeros_0f7a4_64 : decode cJ6_numberOfTrailingZeros_0f7a4 64 = .ok (.if_icmp .le 10, 3) := by decide +kernel
theorem dJ6_numberOfTrailingZeros_0f7a4_67 : decode cJ6_numberOfTrailingZeros_0f7a4 67 = .ok (.iinc 1 2, 3) := by decide +kernel
theorem dJ6_numberOfTrailingZeros_0f7a4_70 : decode cJ6_numberOfTrailingZeros_0f7a4 70 = .ok (.iload_n 0, 1) := by decide +kernel
theorem dJ6_numberOfTrailingZeros_0f7a4_71 : decode cJ6_numberOfTrailingZeros_0f7a4 71 = .ok (.iconst 2, 1) := by decide +kernel
theorem dJ6_numberOfTrailingZeros_0f7a4_72 : decode cJ6_numberOfTrailingZeros_0f7a4 72 = .ok (.iushr, 1) := by decide +kernel
theorem dJ6_numberOfTrailingZeros_0f7a4_73 : decode cJ6_numberOfTrailingZeros_0f7a4 73 = .ok (.istore_n 0, 1) := by decide +kernel
theorem dJ6_numberOfTrailingZeros_0f7a4_74 : decode cJ6_numberOfTrailingZeros_0f7a4 74 = .ok (.iload_n 1, 1) := by decide +kernel
theorem dJ6_numberOfTrailingZeros_0f7a4_75 : decode cJ6_numberOfTrailingZeros_0f7a4 75 = .ok (.iload_n 0, 1) := by decide +kernel
theorem dJ6_numberOfTrailingZeros_0f7a4_76 : decode cJ6_numberOfTrailingZeros_0f7a4 76 = .ok (.iconst 1, 1) := by decide +kernel
theorem dJ6_numberOfTrailingZeros_0f7a4_77 : decode cJ6_numberOfTrailingZeros_0f7a4 77 = .ok (.iushr, 1) := by decide +kernel
theorem dJ6_numberOfTrailingZeros_0f7a4_78 : decode cJ6_numberOfTrailingZeros_0f7a4 78 = .ok (.iadd, 1) := by decide +kernel
theorem dJ6_numberOfTrailingZeros_0f7a4_79 : decode cJ6_numberOfTrailingZeros_0f7a4 79 = .ok (.ireturn, 1) := by decide +kernel
theorem dJ6_bitCount_0f7a4_0 : decode cJ6_bitCount_0f7a4 0 = .ok (.iload_n 0, 1) := by decide +kernel
theorem dJ6_bitCount_0f7a4_1 : decode cJ6_bitCount_0f7a4 1 = .ok (.iload_n 0, 1) := by decide +kernel
theorem dJ6_bitCount_0f7a4_2 : decode cJ6_bitCount_0f7a4 2 = .ok (.iconst 1, 1) := by decide +kernel
theorem dJ6_bitCount_0f7a4_3 : decode cJ6_bitCount_0f7a4 3 = .ok (.iushr, 1) := by decide +kernel
theorem dJ6_bitCount_0f7a4_4 : decode cJ6_bitCount_0f7a4 4 = .ok (.ldc_w 265, 3) := by decide +kernel
theorem dJ6_bitCount_0f7a4_7 : decode cJ6_bitCount_0f7a4 7 = .ok (.iand, 1) := by decide +kernel
theorem dJ6_bitCount_0f7a4_8 : decode cJ6_bitCount_0f7a4 8 = .ok (.isub, 1) := by decide +kernel
theorem dJ6_bitCount_0f7a4_9 : decode cJ6_bitCount_0f7a4 9 = .ok (.istore_n 0, 1) := by decide +kernel
theorem dJ6_bitCount_0f7a4_10 : decode cJ6_bitCount_0f7a4 10 = .ok (.iload_n 0, 1) := by decide +kernel
theorem dJ6_bitCount_0f7a4_11 : decode cJ6_bitCount_0f7a4 11 = .ok (.ldc_w 266, 3) := by decide +kernel
theorem dJ6_bitCount_0f7a4_14 : decode cJ6_bitCount_0f7a4 14 = .ok (.iand, 1) := by decide +kernel
theorem dJ6_bitCount_0f7a4_15 : decode cJ6_bitCount_0f7a4 15 = .ok (.iload_n 0, 1) := by decide +kernel
theorem dJ6_bitCount_0f7a4_16 : decode cJ6_bitCount_0f7a4 16 = .ok (.iconst 2, 1) := by decide +kernel
theorem dJ6_bitCount_0f7a4_17 : decode cJ6_bitCount_0f7a4 17 = .ok (.iushr, 1) := by decide +kernel
theorem dJ6_bitCount_0f7a4_18 : decode cJ6_bitCount_0f7a4 18 = .ok (.ldc_w 266, 3) := by decide +kernel
theorem dJ6_bitCount_0f7a4_21 : decode cJ6_bitCount_0f7a4 21 = .ok (.iand, 1) := by decide +kernel
theorem dJ6_bitCount_0f7a4_22 : decode cJ6_bitCount_0f7a4 22 = .ok (.iadd, 1) := by decide +kernel
theorem dJ6_bitCount_0f7a4_23 : decode cJ6_bitCount_0f7a4 23 = .ok (.istore_n 0, 1) := by decide +kernel
theorem dJ6_bitCount_0f7a4_24 : decode cJ6_bitCount_0f7a4 24 = .ok (.iload_n 0, 1) := by decide +kernel
theorem dJ6_bitCount_0f7a4_25 : decode cJ6_bitCount_0f7a4 25 = .ok (.iload_n 0, 1) := by decide +kernel
theorem dJ6_bitCount_0f7a4_26 : decode cJ6_bitCount_0f7a4 26 = .ok (.iconst 4, 1) := by decide +kernel
theorem dJ6_bitCount_0f7a4_27 : decode cJ6_bitCount_0f7a4 27 = .ok (.iushr, 1) := by decide +kernel
theorem dJ6_bitCount_0f7a4_28 : decode cJ6_bitCount_0f7a4 28 = .ok (.iadd, 1) := by decide +kernel
theorem dJ6_bitCount_0f7a4_29 : decode cJ6_bitCount_0f7a4 29 = .ok (.ldc_w 267, 3) := by decide +kernel
theorem dJ6_bitCount_0f7a4_32 : decode cJ6_bitCount_0f7a4 32 = .ok (.iand, 1) := by decide +kernel
theorem dJ6_bitCount_0f7a4_33 : decode cJ6_bitCount_0f7a4 33 = .ok (.istore_n 0, 1) := by decide +kernel
theorem dJ6_bitCount_0f7a4_34 : decode cJ6_bitCount_0f7a4 34 = .ok (.iload_n 0, 1) := by decide +kernel
theorem dJ6_bitCount_0f7a4_35 : decode cJ6_bitCount_0f7a4 35 = .ok (.iload_n 0, 1) := by decide +kernel
theorem dJ6_bitCount_0f7a4_36 : decode cJ6_bitCount_0f7a4 36 = .ok (.bipush 8, 2) := by decide +kernel
theorem dJ6_bitCount_0f7a4_38 : decode cJ6_bitCount_0f7a4 38 = .ok (.iushr, 1) := by decide +kernel
theorem dJ6_bitCount_0f7a4_39 : decode cJ6_bitCount_0f7a4 39 = .ok (.iadd, 1) := by decide +kernel
theorem dJ6_bitCount_0f7a4_40 : decode cJ6_bitCount_0f7a4 40 = .ok (.istore_n 0, 1) := by decide +kernel
theorem dJ6_bitCount_0f7a4_41 : decode cJ6_bitCount_0f7a4 41 = .ok (.iload_n 0, 1) := by decide +kernel
theorem dJ6_bitCount_0f7a4_42 : decode cJ6_bitCount_0f7a4 42 = .ok (.iload_n 0, 1) := by decide +kernel
theorem dJ6_bitCount_0f7a4_43 : decode cJ6_bitCount_0f7a4 43 = .ok (.bipush 16, 2) := by decide +kernel
theorem dJ6_bitCount_0f7a4_45 : decode cJ6_bitCount_0f7a4 45 = .ok (.iushr, 1) := by decide +kernel
theorem dJ6_bitCount_0f7a4_46 : decode cJ6_bitCount_0f7a4 46 = .ok (.iadd, 1) := by decide +kernel
theorem dJ6_bitCount_0f7a4_47 : decode cJ6_bitCount_0f7a4 47 = .ok (.istore_n 0, 1) := by decide +kernel
theorem dJ6_bitCount_0f7a4_48 : decode cJ6_bitCount_0f7a4 48 = .ok (.iload_n 0, 1) := by decide +kernel
theorem dJ6_bitCount_0f7a4_49 : decode cJ6_bitCount_0f7a4 49 = .ok (.bipush 63, 2) := by decide +kernel
theorem dJ6_bitCount_0f7a4_51 : decode cJ6_bitCount_0f7a4 51 = .ok (.iand, 1) := by decide +kernel
theorem dJ6_bitCount_0f7a4_52 : decode cJ6_bitCount_0f7a4 52 = .ok (.ireturn, 1) := by decide +kernel
theorem dJ13_numberOfTrailingZeros_95d88_0 : decode cJ13_numberOfTrailingZeros_95d88 0 = .ok (.lload_n 0, 1) := by decide +kernel
theorem dJ13_numberOfTrailingZeros_95d88_1 : decode cJ13_numberOfTrailingZeros_95d88 1 = .ok (.l2i, 1) := by decide +kernel
theorem dJ13_numberOfTrailingZeros_95d88_2 : decode cJ13_numberOfTrailingZeros_95d88 2 = .ok (.istore_n 2, 1) := by decide +kernel
theorem dJ13_numberOfTrailingZeros_95d88_3 : decode cJ13_numberOfTrailingZeros_95d88 3 = .ok (.iload_n 2, 1) := by decide +kernel
theorem dJ13_numberOfTrailingZeros_95d88_4 : decode cJ13_numberOfTrailingZeros_95d88 4 = .ok (.ifCond .ne 17, 3) := by decide +kernel
theorem dJ13_numberOfTrailingZeros_95d88_7 : decode cJ13_numberOfTrailingZeros_95d88 7 = .ok (.bipush 32, 2) := by decide +kernel
theorem dJ13_numberOfTrailingZeros_95d88_9 : decode cJ13_numberOfTrailingZeros_95d88 9 = .ok (.lload_n 0, 1) := by decide +kernel
theorem dJ13_numberOfTrailingZeros_95d88_10 : decode cJ13_numberOfTrailingZeros_95d88 10 = .ok (.bipush 32, 2) := by decide +kernel
theorem dJ13_numberOfTrailingZeros_95d88_12 : decode cJ13_numberOfTrailingZeros_95d88 12 = .ok (.lushr, 1) := by decide +kernel
theorem dJ13_numberOfTrailingZeros_95d88_13 : decode cJ13_numberOfTrailingZeros_95d88 13 = .ok (.l2i, 1) := by decide +kernel
theorem dJ13_numberOfTrailingZeros_95d88_14 : decode cJ13_numberOfTrailingZeros_95d88 14 = .ok (.invokestatic 311, 3) := by decide +kernel
theorem dJ13_numberOfTrailingZeros_95d88_17 : decode cJ13_numberOfTrailingZeros_95d88 17 = .ok (.iadd, 1) := by decide +kernel
theorem dJ13_numberOfTrailingZeros_95d88_18 : decode cJ13_numberOfTrailingZeros_95d88 18 = .ok (.goto 7, 3) := by decide +kernel
theorem dJ13_numberOfTrailingZeros_95d88_21 : decode cJ13_numberOfTrailingZeros_95d88 21 = .ok (.iload_n 2, 1) := by decide +kernel
theorem dJ13_numberOfTrailingZeros_95d88_22 : decode cJ13_numberOfTrailingZeros_95d88 22 = .ok (.invokestatic 311, 3) := by decide +kernel
theorem dJ13_numberOfTrailingZeros_95d88_25 : decode cJ13_numberOfTrailingZeros_95d88 25 = .ok (.ireturn, 1) := by decide +kernel
theorem dJ9_abs_0f7a4_0 : decode cJ9_abs_0f7a4 0 = .ok (.iload_n 0, 1) := by decide +kernel
theorem dJ9_abs_0f7a4_1 : decode cJ9_abs_0f7a4 1 = .ok (.ifCond .ge 8, 3) := by decide +kernel
theorem dJ9_abs_0f7a4_4 : decode cJ9_abs_0f7a4 4 = .ok (.iload_n 0, 1) := by decide +kernel
theorem dJ9_abs_0f7a4_5 : decode cJ9_abs_0f7a4 5 = .ok (.ineg, 1) := by decide +kernel
theorem dJ9_abs_0f7a4_6 : decode cJ9_abs_0f7a4 6 = .ok (.goto 4, 3) := by decide +kernel
theorem dJ9_abs_0f7a4_9 : decode cJ9_abs_0f7a4 9 = .ok (.iload_n 0, 1) := by decide +kernel
theorem dJ9_abs_0f7a4_10 : decode cJ9_abs_0f7a4 10 = .ok (.ireturn, 1) := by decide +kernel
theorem dJ9_max_7cf53_0 : decode cJ9_max_7cf53 0 = .ok (.iload_n 0, 1) := by decide +kernel
theorem dJ9_max_7cf53_1 : decode cJ9_max_7cf53 1 = .ok (.iload_n 1, 1) := by decide +kernel
theorem dJ9_max_7cf53_2 : decode cJ9_max_7cf53 2 = .ok (.if_icmp .lt 7, 3) := by decide +kernel
theorem dJ9_max_7cf53_5 : decode cJ9_max_7cf53 5 = .ok (.iload_n 0, 1) := by decide +kernel
theorem dJ9_max_7cf53_6 : decode cJ9_max_7cf53 6 = .ok (.goto 4, 3) := by decide +kernel
theorem dJ9_max_7cf53_9 : decode cJ9_max_7cf53 9 = .ok (.iload_n 1, 1) := by decide +kernel
theorem dJ9_max_7cf53_10 : decode cJ9_max_7cf53 10 = .ok (.ireturn, 1) := by decide +kernel
theorem dJ9_min_7cf53_0 : decode cJ9_min_7cf53 0 = .ok (.iload_n 0, 1) := by decide +kernel
theorem dJ9_min_7cf53_1 : decode cJ9_min_7cf53 1 = .ok (.iload_n 1, 1) := by decide +kernel
theorem dJ9_min_7cf53_2 : decode cJ9_min_7cf53 2 = .ok (.if_icmp .gt 7, 3) := by decide +kernel
theorem dJ9_min_7cf53_5 : decode cJ9_min_7cf53 5 = .ok (.iload_n 0, 1) := by decide +kernel
theorem dJ9_min_7cf53_6 : decode cJ9_min_7cf53 6 = .ok (.goto 4, 3) := by decide +kernel
theorem dJ9_min_7cf53_9 : decode cJ9_min_7cf53 9 = .ok (.iload_n 1, 1) := by decide +kernel
theorem dJ9_min_7cf53_10 : decode cJ9_min_7cf53 10 = .ok (.ireturn, 1) := by decide +kernel
theorem dJ0_length_8abf5_0 : decode cJ0_length_8abf5 0 = .ok (.aload_n 0, 1) := by decide +kernel
theorem dJ0_length_8abf5_1 : decode cJ0_length_8abf5 1 = .ok (.getfield 9, 3) := by decide +kernel
theorem dJ0_length_8abf5_4 : decode cJ0_length_8abf5 4 = .ok (.arraylength, 1) := by decide +kernel
theorem dJ0_length_8abf5_5 : decode cJ0_length_8abf5 5 = .ok (.aload_n 0, 1) := by decide +kernel
theorem dJ0_length_8abf5_6 : decode cJ0_length_8abf5 6 = .ok (.invokevirtual 335, 3) := by decide +kernel
theorem dJ0_length_8abf5_9 : decode cJ0_length_8abf5 9 = .ok (.ishr, 1) := by decide +kernel
theorem dJ0_length_8abf5_10 : decode cJ0_length_8abf5 10 = .ok (.ireturn, 1) := by decide +kernel
theorem dJ0_indexOf_0f7a4_0 : decode cJ0_indexOf_0f7a4 0 = .ok (.aload_n 0, 1) := by decide +kernel
theorem dJ0_indexOf_0f7a4_1 : decode cJ0_indexOf_0f7a4 1 = .ok (.iload_n 1, 1) := by decide +kernel
theorem dJ0_indexOf_0f7a4_2 : decode cJ0_indexOf_0f7a4 2 = .ok (.iconst 0, 1) := by decide +kernel
theorem dJ0_indexOf_0f7a4_3 : decode cJ0_indexOf_0f7a4 3 = .ok (.invokevirtual 633, 3) := by decide +kernel
theorem dJ0_indexOf_0f7a4_6 : decode cJ0_indexOf_0f7a4 6 = .ok (.ireturn, 1) := by decide +kernel
theorem dJ0_indexOf_7cf53_0 : decode cJ0_indexOf_7cf53 0 = .ok (.aload_n 0, 1) := by decide +kernel
theorem dJ0_indexOf_7cf53_1 : decode cJ0_indexOf_7cf53 1 = .ok (.invokevirtual 492, 3) := by decide +kernel
theorem dJ0_indexOf_7cf53_4 : decode cJ0_indexOf_7cf53 4 = .ok (.ifCond .eq 19, 3) := by decide +kernel
theorem dJ0_indexOf_7cf53_7 : decode cJ0_indexOf_7cf53 7 = .ok (.aload_n 0, 1) := by decide +kernel
theorem dJ0_indexOf_7cf53_8 : decode cJ0_indexOf_7cf53 8 = .ok (.getfield 9, 3) := by decide +kernel
theorem dJ0_indexOf_7cf53_11 : decode cJ0_indexOf_7cf53 11 = .ok (.iload_n 1, 1) := by decide +kernel
theorem dJ0_indexOf_7cf53_12 : decode cJ0_indexOf_7cf53 12 = .ok (.iload_n 2, 1) := by decide +kernel
theorem dJ0_indexOf_7cf53_13 : decode cJ0_indexOf_7cf53 13 = .ok (.aload_n 0, 1) := by decide +kernel
theorem dJ0_indexOf_7cf53_14 : decode cJ0_indexOf_7cf53 14 = .ok (.invokevirtual 505, 3) := by decide +kernel
theorem dJ0_indexOf_7cf53_17 : decode cJ0_indexOf_7cf53 17 = .ok (.invokestatic 637, 3) := by decide +kernel
theorem dJ0_indexOf_7cf53_20 : decode cJ0_indexOf_7cf53 20 = .ok (.goto 16, 3) := by decide +kernel
theorem dJ0_indexOf_7cf53_23 : decode cJ0_indexOf_7cf53 23 = .ok (.aload_n 0, 1) := by decide +kernel
theorem dJ0_indexOf_7cf53_24 : decode cJ0_indexOf_7cf53 24 = .ok (.getfield 9, 3) := by decide +kernel
theorem dJ0_indexOf_7cf53_27 : decode cJ0_indexOf_7cf53 27 = .ok (.iload_n 1, 1) := by decide +kernel
theorem dJ0_indexOf_7cf53_28 : decode cJ0_indexOf_7cf53 28 = .ok (.iload_n 2, 1) := by decide +kernel
theorem dJ0_indexOf_7cf53_29 : decode cJ0_indexOf_7cf53 29 = .ok (.aload_n 0, 1) := by decide +kernel
theorem dJ0_indexOf_7cf53_30 : decode cJ0_indexOf_7cf53 30 = .ok (.invokevirtual 505, 3) := by decide +kernel
theorem dJ0_indexOf_7cf53_33 : decode cJ0_indexOf_7cf53 33 = .ok (.invokestatic 640, 3) := by decide +kernel
theorem dJ0_indexOf_7cf53_36 : decode cJ0_indexOf_7cf53 36 = .ok (.ireturn, 1) := by decide +kernel
theorem dJ0_coder_7d493_0 : decode cJ0_coder_7d493 0 = .ok (.getstatic 38, 3) := by decide +kernel
theorem dJ0_coder_7d493_3 : decode cJ0_coder_7d493 3 = .ok (.ifCond .eq 10, 3) := by decide +kernel
theorem dJ0_coder_7d493_6 : decode cJ0_coder_7d493 6 = .ok (.aload_n 0, 1) := by decide +kernel
theorem dJ0_coder_7d493_7 : decode cJ0_coder_7d493 7 = .ok (.getfield 15, 3) := by decide +kernel
theorem dJ0_coder_7d493_10 : decode cJ0_coder_7d493 10 = .ok (.goto 4, 3) := by decide +kernel
theorem dJ0_coder_7d493_13 : decode cJ0_coder_7d493 13 = .ok (.iconst 1, 1) := by decide +kernel
theorem dJ0_coder_7d493_14 : decode cJ0_coder_7d493 14 = .ok (.ireturn, 1) := by decide +kernel
theorem dJ0_isLatin1_aae02_0 : decode cJ0_isLatin1_aae02 0 = .ok (.getstatic 38, 3) := by decide +kernel
theorem dJ0_isLatin1_aae02_3 : decode cJ0_isLatin1_aae02 3 = .ok (.ifCond .eq 14, 3) := by decide +kernel
theorem dJ0_isLatin1_aae02_6 : decode cJ0_isLatin1_aae02 6 = .ok (.aload_n 0, 1) := by decide +kernel
theorem dJ0_isLatin1_aae02_7 : decode cJ0_isLatin1_aae02 7 = .ok (.getfield 15, 3) := by decide +kernel
theorem dJ0_isLatin1_aae02_10 : decode cJ0_isLatin1_aae02 10 = .ok (.ifCond .ne 7, 3) := by decide +kernel
theorem dJ0_isLatin1_aae02_13 : decode cJ0_isLatin1_aae02 13 = .ok (.iconst 1, 1) := by decide +kernel
theorem dJ0_isLatin1_aae02_14 : decode cJ0_isLatin1_aae02 14 = .ok (.goto 4, 3) := by decide +kernel
theorem dJ0_isLatin1_aae02_17 : decode cJ0_isLatin1_aae02 17 = .ok (.iconst 0, 1) := by decide +kernel
theorem dJ0_isLatin1_aae02_18 : decode cJ0_isLatin1_aae02 18 = .ok (.ireturn, 1) := by decide +kernel
theorem dJ0_checkBoundsBeginEnd_23922_0 : decode cJ0_checkBoundsBeginEnd_23922 0 = .ok (.iload_n 0, 1) := by decide +kernel
theorem dJ0_checkBoundsBeginEnd_23922_1 : decode cJ0_checkBoundsBeginEnd_23922 1 = .ok (.iload_n 1, 1) := by decide +kernel
theorem dJ0_checkBoundsBeginEnd_23922_2 : decode cJ0_checkBoundsBeginEnd_23922 2 = .ok (.iload_n 2, 1) := by decide +kernel
theorem dJ0_checkBoundsBeginEnd_23922_3 : decode cJ0_checkBoundsBeginEnd_23922 3 = .ok (.getstatic 1053, 3) := by decide +kernel
theorem dJ0_checkBoundsBeginEnd_23922_6 : decode cJ0_checkBoundsBeginEnd_23922 6 = .ok (.invokestatic 1062, 3) := by decide +kernel
theorem dJ0_checkBoundsBeginEnd_23922_9 : decode cJ0_checkBoundsBeginEnd_23922 9 = .ok (.pop, 1) := by decide +kernel
theorem dJ0_checkBoundsBeginEnd_23922_10 : decode cJ0_checkBoundsBeginEnd_23922 10 = .ok (.return_, 1) := by decide +kernel
end
section
theorem dJ1_canEncode_9a6ad_0 : decode cJ1_canEncode_9a6ad 0 = .ok (.iload_n 0, 1) := by decide +kernel
theorem dJ1_canEncode_9a6ad_1 : decode cJ1_canEncode_9a6ad 1 = .ok (.ifCond .lt 14, 3) := by decide +kernel
theorem dJ1_canEncode_9a6ad_4 : decode cJ1_canEncode_9a6ad 4 = .ok (.iload_n 0, 1) := by decide +kernel
theorem dJ1_canEncode_9a6ad_5 : decode cJ1_canEncode_9a6ad 5 = .ok (.sipush 255, 3) := by decide +kernel
theorem dJ1_canEncode_9a6ad_8 : decode cJ1_canEncode_9a6ad 8 = .ok (.if_icmp .gt 7, 3) := by decide +kernel
theorem dJ1_canEncode_9a6ad_11 : decode cJ1_canEncode_9a6ad 11 = .ok (.iconst 1, 1) := by decide +kernel
theorem dJ1_canEncode_9a6ad_12 : decode cJ1_canEncode_9a6ad 12 = .ok (.goto 4, 3) := by decide +kernel
theorem dJ1_canEncode_9a6ad_15 : decode cJ1_canEncode_9a6ad 15 = .ok (.iconst 0, 1) := by decide +kernel
theorem dJ1_canEncode_9a6ad_16 : decode cJ1_canEncode_9a6ad 16 = .ok (.ireturn, 1) := by decide +kernel
theorem dJ1_indexOf_4cfef_0 : decode cJ1_indexOf_4cfef 0 = .ok (.iload_n 1, 1) := by decide +kernel
theorem dJ1_indexOf_4cfef_1 : decode cJ1_indexOf_4cfef 1 = .ok (.invokestatic 88, 3) := by decide +kernel
theorem dJ1_indexOf_4cfef_4 : decode cJ1_indexOf_4cfef 4 = .ok (.ifCond .ne 5, 3) := by decide +kernel
theorem dJ1_indexOf_4cfef_7 : decode cJ1_indexOf_4cfef 7 = .ok (.iconst (-1), 1) := by decide +kernel
theorem dJ1_indexOf_4cfef_8 : decode cJ1_indexOf_4cfef 8 = .ok (.ireturn, 1) := by decide +kernel
theorem dJ1_indexOf_4cfef_9 : decode cJ1_indexOf_4cfef 9 = .ok (.iload_n 2, 1) := by decide +kernel
theorem dJ1_indexOf_4cfef_10 : decode cJ1_indexOf_4cfef 10 = .ok (.iconst 0, 1) := by decide +kernel
theorem dJ1_indexOf_4cfef_11 : decode cJ1_indexOf_4cfef 11 = .ok (.invokestatic 92, 3) := by decide +kernel
theorem dJ1_indexOf_4cfef_14 : decode cJ1_indexOf_4cfef 14 = .ok (.istore_n 2, 1) := by decide +kernel
theorem dJ1_indexOf_4cfef_15 : decode cJ1_indexOf_4cfef 15 = .ok (.iload_n 3, 1) := by decide +kernel
theorem dJ1_indexOf_4cfef_16 : decode cJ1_indexOf_4cfef 16 = .ok (.aload_n 0, 1) := by decide +kernel
theorem dJ1_indexOf_4cfef_17 : decode cJ1_indexOf_4cfef 17 = .ok (.arraylength, 1) := by decide +kernel
theorem dJ1_indexOf_4cfef_18 : decode cJ1_indexOf_4cfef 18 = .ok (.invokestatic 38, 3) := by decide +kernel
theorem dJ1_indexOf_4cfef_21 : decode cJ1_indexOf_4cfef 21 = .ok (.istore_n 3, 1) := by decide +kernel
theorem dJ1_indexOf_4cfef_22 : decode cJ1_indexOf_4cfef 22 = .ok (.iload_n 2, 1) := by decide +kernel
theorem dJ1_indexOf_4cfef_23 : decode cJ1_indexOf_4cfef 23 = .ok (.iload_n 3, 1) := by decide +kernel
theorem dJ1_indexOf_4cfef_24 : decode cJ1_indexOf_4cfef 24 = .ok (.if_icmp .lt 5, 3) := by decide +kernel
theorem dJ1_indexOf_4cfef_27 : decode cJ1_indexOf_4cfef 27 = .ok (.iconst (-1), 1) := by decide +kernel
theorem dJ1_indexOf_4cfef_28 : decode cJ1_indexOf_4cfef 28 = .ok (.ireturn, 1) := by decide +kernel
theorem dJ1_indexOf_4cfef_29 : decode cJ1_indexOf_4cfef 29 = .ok (.aload_n 0, 1) := by decide +kernel
theorem dJ1_indexOf_4cfef_30 : decode cJ1_indexOf_4cfef 30 = .ok (.iload_n 1, 1) := by decide +kernel
theorem dJ1_indexOf_4cfef_31 : decode cJ1_indexOf_4cfef 31 = .ok (.iload_n 2, 1) := by decide +kernel
theorem dJ1_indexOf_4cfef_32 : decode cJ1_indexOf_4cfef 32 = .ok (.iload_n 3, 1) := by decide +kernel
theorem dJ1_indexOf_4cfef_33 : decode cJ1_indexOf_4cfef 33 = .ok (.invokestatic 95, 3) := by decide +kernel
theorem dJ1_indexOf_4cfef_36 : decode cJ1_indexOf_4cfef 36 = .ok (.ireturn, 1) := by decide +kernel
theorem dJ1_indexOfChar_4cfef_0 : decode cJ1_indexOfChar_4cfef 0 = .ok (.iload_n 1, 1) := by decide +kernel
theorem dJ1_indexOfChar_4cfef_1 : decode cJ1_indexOfChar_4cfef 1 = .ok (.i2b, 1) := by decide +kernel
theorem dJ1_indexOfChar_4cfef_2 : decode cJ1_indexOfChar_4cfef 2 = .ok (.istore 4, 2) := by decide +kernel
theorem dJ1_indexOfChar_4cfef_4 : decode cJ1_indexOfChar_4cfef 4 = .ok (.iload_n 2, 1) := by decide +kernel
theorem dJ1_indexOfChar_4cfef_5 : decode cJ1_indexOfChar_4cfef 5 = .ok (.istore 5, 2) := by decide +kernel
theorem dJ1_indexOfChar_4cfef_7 : decode cJ1_indexOfChar_4cfef 7 = .ok (.iload 5, 2) := by decide +kernel
theorem dJ1_indexOfChar_4cfef_9 : decode cJ1_indexOfChar_4cfef 9 = .ok (.iload_n 3, 1) := by decide +kernel
theorem dJ1_indexOfChar_4cfef_10 : decode cJ1_indexOfChar_4cfef 10 = .ok (.if_icmp .ge 21, 3) := by decide +kernel
theorem dJ1_indexOfChar_4cfef_13 : decode cJ1_indexOfChar_4cfef 13 = .ok (.aload_n 0, 1) := by decide +kernel
theorem dJ1_indexOfChar_4cfef_14 : decode cJ1_indexOfChar_4cfef 14 = .ok (.iload 5, 2) := by decide +kernel
theorem dJ1_indexOfChar_4cfef_16 : decode cJ1_indexOfChar_4cfef 16 = .ok (.baload, 1) := by decide +kernel
theorem dJ1_indexOfChar_4cfef_17 : decode cJ1_indexOfChar_4cfef 17 = .ok (.iload 4, 2) := by decide +kernel
theorem dJ1_indexOfChar_4cfef_19 : decode cJ1_indexOfChar_4cfef 19 = .ok (.if_icmp .ne 6, 3) := by decide +kernel
theorem dJ1_indexOfChar_4cfef_22 : decode cJ1_indexOfChar_4cfef 22 = .ok (.iload 5, 2) := by decide +kernel
theorem dJ1_indexOfChar_4cfef_24 : decode cJ1_indexOfChar_4cfef 24 = .ok (.ireturn, 1) := by decide +kernel
theorem dJ1_indexOfChar_4cfef_25 : decode cJ1_indexOfChar_4cfef 25 = .ok (.iinc 5 1, 3) := by decide +kernel
theorem dJ1_indexOfChar_4cfef_28 : decode cJ1_indexOfChar_4cfef 28 = .ok (.goto (-21), 3) := by decide +kernel
theorem dJ1_indexOfChar_4cfef_31 : decode cJ1_indexOfChar_4cfef 31 = .ok (.iconst (-1), 1) := by decide +kernel
theorem dJ1_indexOfChar_4cfef_32 : decode cJ1_indexOfChar_4cfef 32 = .ok (.ireturn, 1) := by decide +kernel
theorem dL_law_0 : decode cL_law 0 = .ok (.new 7, 3) := by decide +kernel
theorem dL_law_3 : decode cL_law 3 = .ok (.dup, 1) := by decide +kernel
theorem dL_law_4 : decode cL_law 4 = .ok (.invokespecial 9, 3) := by decide +kernel
theorem dL_law_7 : decode cL_law 7 = .ok (.astore_n 1, 1) := by decide +kernel
theorem dL_law_8 : decode cL_law 8 = .ok (.new 10, 3) := by decide +kernel
theorem dL_law_11 : decode cL_law 11 = .ok (.dup, 1) := by decide +kernel
theorem dL_law_12 : decode cL_law 12 = .ok (.invokespecial 12, 3) := by decide +kernel
theorem dL_law_15 : decode cL_law 15 = .ok (.astore_n 2, 1) := by decide +kernel
theorem dL_law_16 : decode cL_law 16 = .ok (.iconst 0, 1) := by decide +kernel
theorem dL_law_17 : decode cL_law 17 = .ok (.istore_n 3, 1) := by decide +kernel
theorem dL_law_18 : decode cL_law 18 = .ok (.iload_n 3, 1) := by decide +kernel
theorem dL_law_19 : decode cL_law 19 = .ok (.aload_n 0, 1) := by decide +kernel
theorem dL_law_20 : decode cL_law 20 = .ok (.arraylength, 1) := by decide +kernel
theorem dL_law_21 : decode cL_law 21 = .ok (.bipush 6, 2) := by decide +kernel
theorem dL_law_23 : decode cL_law 23 = .ok (.isub, 1) := by decide +kernel
theorem dL_law_24 : decode cL_law 24 = .ok (.if_icmp .gt 1287, 3) := by decide +kernel
theorem dL_law_27 : decode cL_law 27 = .ok (.aload_n 0, 1) := by decide +kernel
theorem dL_law_28 : decode cL_law 28 = .ok (.iload_n 3, 1) := by decide +kernel
theorem dL_law_29 : decode cL_law 29 = .ok (.iaload, 1) := by decide +kernel
theorem dL_law_30 : decode cL_law 30 = .ok (.bipush 63, 2) := by decide +kernel
theorem dL_law_32 : decode cL_law 32 = .ok (.iand, 1) := by decide +kernel
theorem dL_law_33 : decode cL_law 33 = .ok (.tableswitch 1272 0 34 #[155, 188, 211, 234, 257, 290, 323, 356, 389, 412, 445, 488, 521, 544, 567, 590, 613, 636, 689, 732, 765, 798, 831, 844, 867, 890, 944, 987, 1030, 1053, 1106, 1149, 1212, 1235, 1258], 155) := by decide +kernel
theorem dL_law_188 : decode cL_law 188 = .ok (.aload_n 1, 1) := by decide +kernel
theorem dL_law_189 : decode cL_law 189 = .ok (.aload_n 0, 1) := by decide +kernel
theorem dL_law_190 : decode cL_law 190 = .ok (.iload_n 3, 1) := by decide +kernel
theorem dL_law_191 : decode cL_law 191 = .ok (.iconst 1, 1) := by decide +kernel
theorem dL_law_192 : decode cL_law 192 = .ok (.iadd, 1) := by decide +kernel
theorem dL_law_193 : decode cL_law 193 = .ok (.iaload, 1) := by decide +kernel
theorem dL_law_194 : decode cL_law 194 = .ok (.aload_n 0, 1) := by decide +kernel
theorem dL_law_195 : decode cL_law 195 = .ok (.iload_n 3, 1) := by decide +kernel
theorem dL_law_196 : decode cL_law 196 = .ok (.iconst 2, 1) := by decide +kernel
theorem dL_law_197 : decode cL_law 197 = .ok (.iadd, 1) := by decide +kernel
theorem dL_law_198 : decode cL_law 198 = .ok (.iaload, 1) := by decide +kernel
theorem dL_law_199 : decode cL_law 199 = .ok (.invokevirtual 13, 3) := by decide +kernel
theorem dL_law_202 : decode cL_law 202 = .ok (.aload_n 2, 1) := by decide +kernel
theorem dL_law_203 : decode cL_law 203 = .ok (.aload_n 0, 1) := by decide +kernel
theorem dL_law_204 : decode cL_law 204 = .ok (.iload_n 3, 1) := by decide +kernel
theorem dL_law_205 : decode cL_law 205 = .ok (.iconst 1, 1) := by decide +kernel
theorem dL_law_206 : decode cL_law 206 = .ok (.iadd, 1) := by decide +kernel
theorem dL_law_207 : decode cL_law 207 = .ok (.iaload, 1) := by decide +kernel
theorem dL_law_208 : decode cL_law 208 = .ok (.aload_n 0, 1) := by decide +kernel
theorem dL_law_209 : decode cL_law 209 = .ok (.iload_n 3, 1) := by decide +kernel
theorem dL_law_210 : decode cL_law 210 = .ok (.iconst 2, 1) := by decide +kernel
theorem dL_law_211 : decode cL_law 211 = .ok (.iadd, 1) := by decide +kernel
theorem dL_law_212 : decode cL_law 212 = .ok (.iaload, 1) := by decide +kernel
theorem dL_law_213 : decode cL_law 213 = .ok (.invokevirtual 17, 3) := by decide +kernel
theorem dL_law_216 : decode cL_law 216 = .ok (.if_icmp .eq 1089, 3) := by decide +kernel
theorem dL_law_219 : decode cL_law 219 = .ok (.iconst 0, 1) := by decide +kernel
theorem dL_law_220 : decode cL_law 220 = .ok (.ireturn, 1) := by decide +kernel
theorem dL_law_221 : decode cL_law 221 = .ok (.aload_n 1, 1) := by decide +kernel
theorem dL_law_222 : decode cL_law 222 = .ok (.aload_n 0, 1) := by decide +kernel
theorem dL_law_223 : decode cL_law 223 = .ok (.iload_n 3, 1) := by decide +kernel
theorem dL_law_224 : decode cL_law 224 = .ok (.iconst 1, 1) := by decide +kernel
theorem dL_law_225 : decode cL_law 225 = .ok (.iadd, 1) := by decide +kernel
theorem dL_law_226 : decode cL_law 226 = .ok (.iaload, 1) := by decide +kernel
theorem dL_law_227 : decode cL_law 227 = .ok (.invokevirtual 18, 3) := by decide +kernel
theorem dL_law_230 : decode cL_law 230 = .ok (.aload_n 2, 1) := by decide +kernel
theorem dL_law_231 : decode cL_law 231 = .ok (.aload_n 0, 1) := by decide +kernel
theorem dL_law_232 : decode cL_law 232 = .ok (.iload_n 3, 1) := by decide +kernel
theorem dL_law_233 : decode cL_law 233 = .ok (.iconst 1, 1) := by decide +kernel
theorem dL_law_234 : decode cL_law 234 = .ok (.iadd, 1) := by decide +kernel
theorem dL_law_235 : decode cL_law 235 = .ok (.iaload, 1) := by decide +kernel
theorem dL_law_236 : decode cL_law 236 = .ok (.invokevirtual 22, 3) := by decide +kernel
theorem dL_law_239 : decode cL_law 239 = .ok (.if_icmp .eq 1066, 3) := by decide +kernel
theorem dL_law_242 : decode cL_law 242 = .ok (.iconst 0, 1) := by decide +kernel
theorem dL_law_243 : decode cL_law 243 = .ok (.ireturn, 1) := by decide +kernel
theorem dL_law_244 : decode cL_law 244 = .ok (.aload_n 1, 1) := by decide +kernel
theorem dL_law_245 : decode cL_law 245 = .ok (.aload_n 0, 1) := by decide +kernel
theorem dL_law_246 : decode cL_law 246 = .ok (.iload_n 3, 1) := by decide +kernel
theorem dL_law_247 : decode cL_law 247 = .ok (.iconst 1, 1) := by decide +kernel
theorem dL_law_248 : decode cL_law 248 = .ok (.iadd, 1) := by decide +kernel
theorem dL_law_249 : decode cL_law 249 = .ok (.iaload, 1) := by decide +kernel
theorem dL_law_250 : decode cL_law 250 = .ok (.invokevirtual 23, 3) := by decide +kernel
theorem dL_law_253 : decode cL_law 253 = .ok (.aload_n 2, 1) := by decide +kernel
theorem dL_law_254 : decode cL_law 254 = .ok (.aload_n 0, 1) := by decide +kernel
theorem dL_law_255 : decode cL_law 255 = .ok (.iload_n 3, 1) := by decide +kernel
theorem dL_law_256 : decode cL_law 256 = .ok (.iconst 1, 1) := by decide +kernel
theorem dL_law_257 : decode cL_law 257 = .ok (.iadd, 1) := by decide +kernel
theorem dL_law_258 : decode cL_law 258 = .ok (.iaload, 1) := by decide +kernel
theorem dL_law_259 : decode cL_law 259 = .ok (.invokevirtual 26, 3) := by decide +kernel
theorem dL_law_262 : decode cL_law 262 = .ok (.if_icmp .eq 1043, 3) := by decide +kernel
theorem dL_law_265 : decode cL_law 265 = .ok (.iconst 0, 1) := by decide +kernel
theorem dL_law_266 : decode cL_law 266 = .ok (.ireturn, 1) := by decide +kernel
theorem dL_law_267 : decode cL_law 267 = .ok (.aload_n 1, 1) := by decide +kernel
theorem dL_law_268 : decode cL_law 268 = .ok (.aload_n 0, 1) := by decide +kernel
theorem dL_law_269 : decode cL_law 269 = .ok (.iload_n 3, 1) := by decide +kernel
theorem dL_law_270 : decode cL_law 270 = .ok (.iconst 1, 1) := by decide +kernel
theorem dL_law_271 : decode cL_law 271 = .ok (.iadd, 1) := by decide +kernel
theorem dL_law_272 : decode cL_law 272 = .ok (.iaload, 1) := by decide +kernel
theorem dL_law_273 : decode cL_law 273 = .ok (.invokevirtual 27, 3) := by decide +kernel
theorem dL_law_276 : decode cL_law 276 = .ok (.aload_n 2, 1) := by decide +kernel
theorem dL_law_277 : decode cL_law 277 = .ok (.aload_n 0, 1) := by decide +kernel
theorem dL_law_278 : decode cL_law 278 = .ok (.iload_n 3, 1) := by decide +kernel
theorem dL_law_279 : decode cL_law 279 = .ok (.iconst 1, 1) := by decide +kernel
theorem dL_law_280 : decode cL_law 280 = .ok (.iadd, 1) := by decide +kernel
theorem dL_law_281 : decode cL_law 281 = .ok (.iaload, 1) := by decide +kernel
theorem dL_law_282 : decode cL_law 282 = .ok (.invokevirtual 30, 3) := by decide +kernel
theorem dL_law_285 : decode cL_law 285 = .ok (.if_icmp .eq 1020, 3) := by decide +kernel
theorem dL_law_288 : decode cL_law 288 = .ok (.iconst 0, 1) := by decide +kernel
theorem dL_law_289 : decode cL_law 289 = .ok (.ireturn, 1) := by decide +kernel
theorem dL_law_290 : decode cL_law 290 = .ok (.aload_n 1, 1) := by decide +kernel
theorem dL_law_291 : decode cL_law 291 = .ok (.aload_n 0, 1) := by decide +kernel
theorem dL_law_292 : decode cL_law 292 = .ok (.iload_n 3, 1) := by decide +kernel
theorem dL_law_293 : decode cL_law 293 = .ok (.iconst 1, 1) := by decide +kernel
theorem dL_law_294 : decode cL_law 294 = .ok (.iadd, 1) := by decide +kernel
theorem dL_law_295 : decode cL_law 295 = .ok (.iaload, 1) := by decide +kernel
theorem dL_law_296 : decode cL_law 296 = .ok (.aload_n 0, 1) := by decide +kernel
theorem dL_law_297 : decode cL_law 297 = .ok (.iload_n 3, 1) := by decide +kernel
theorem dL_law_298 : decode cL_law 298 = .ok (.iconst 2, 1) := by decide +kernel
theorem dL_law_299 : decode cL_law 299 = .ok (.iadd, 1) := by decide +kernel
theorem dL_law_300 : decode cL_law 300 = .ok (.iaload, 1) := by decide +kernel
theorem dL_law_301 : decode cL_law 301 = .ok (.invokevirtual 31, 3) := by decide +kernel
theorem dL_law_304 : decode cL_law 304 = .ok (.aload_n 2, 1) := by decide +kernel
theorem dL_law_305 : decode cL_law 305 = .ok (.aload_n 0, 1) := by decide +kernel
theorem dL_law_306 : decode cL_law 306 = .ok (.iload_n 3, 1) := by decide +kernel
theorem dL_law_307 : decode cL_law 307 = .ok (.iconst 1, 1) := by decide +kernel
theorem dL_law_308 : decode cL_law 308 = .ok (.iadd, 1) := by decide +kernel
theorem dL_law_309 : decode cL_law 309 = .ok (.iaload, 1) := by decide +kernel
theorem dL_law_310 : decode cL_law 310 = .ok (.aload_n 0, 1) := by decide +kernel
theorem dL_law_311 : decode cL_law 311 = .ok (.iload_n 3, 1) := by decide +kernel
theorem dL_law_312 : decode cL_law 312 = .ok (.iconst 2, 1) := by decide +kernel
theorem dL_law_313 : decode cL_law 313 = .ok (.iadd, 1) := by decide +kernel
theorem dL_law_314 : decode cL_law 314 = .ok (.iaload, 1) := by decide +kernel
theorem dL_law_315 : decode cL_law 315 = .ok (.invokevirtual 34, 3) := by decide +kernel
theorem dL_law_318 : decode cL_law 318 = .ok (.if_icmp .eq 987, 3) := by decide +kernel
theorem dL_law_321 : decode cL_law 321 = .ok (.iconst 0, 1) := by decide +kernel
theorem dL_law_322 : decode cL_law 322 = .ok (.ireturn, 1) := by decide +kernel
theorem dL_law_323 : decode cL_law 323 = .ok (.aload_n 1, 1) := by decide +kernel
theorem dL_law_324 : decode cL_law 324 = .ok (.aload_n 0, 1) := by decide +kernel
theorem dL_law_325 : decode cL_law 325 = .ok (.iload_n 3, 1) := by decide +kernel
theorem dL_law_326 : decode cL_law 326 = .ok (.iconst 1, 1) := by decide +kernel
theorem dL_law_327 : decode cL_law 327 = .ok (.iadd, 1) := by decide +kernel
theorem dL_law_328 : decode cL_law 328 = .ok (.iaload, 1) := by decide +kernel
theorem dL_law_329 : decode cL_law 329 = .ok (.aload_n 0, 1) := by decide +kernel
theorem dL_law_330 : decode cL_law 330 = .ok (.iload_n 3, 1) := by decide +kernel
theorem dL_law_331 : decode cL_law 331 = .ok (.iconst 2, 1) := by decide +kernel
theorem dL_law_332 : decode cL_law 332 = .ok (.iadd, 1) := by decide +kernel
theorem dL_law_333 : decode cL_law 333 = .ok (.iaload, 1) := by decide +kernel
theorem dL_law_334 : decode cL_law 334 = .ok (.invokevirtual 35, 3) := by decide +kernel
theorem dL_law_337 : decode cL_law 337 = .ok (.aload_n 2, 1) := by decide +kernel
theorem dL_law_338 : decode cL_law 338 = .ok (.aload_n 0, 1) := by decide +kernel
theorem dL_law_339 : decode cL_law 339 = .ok (.iload_n 3, 1) := by decide +kernel
theorem dL_law_340 : decode cL_law 340 = .ok (.iconst 1, 1) := by decide +kernel
theorem dL_law_341 : decode cL_law 341 = .ok (.iadd, 1) := by decide +kernel
theorem dL_law_342 : decode cL_law 342 = .ok (.iaload, 1) := by decide +kernel
theorem dL_law_343 : decode cL_law 343 = .ok (.aload_n 0, 1) := by decide +kernel
theorem dL_law_344 : decode cL_law 344 = .ok (.iload_n 3, 1) := by decide +kernel
theorem dL_law_345 : decode cL_law 345 = .ok (.iconst 2, 1) := by decide +kernel
theorem dL_law_346 : decode cL_law 346 = .ok (.iadd, 1) := by decide +kernel
theorem dL_law_347 : decode cL_law 347 = .ok (.iaload, 1) := by decide +kernel
theorem dL_law_348 : decode cL_law 348 = .ok (.invokevirtual 38, 3) := by decide +kernel
theorem dL_law_351 : decode cL_law 351 = .ok (.if_icmp .eq 954, 3) := by decide +kernel
theorem dL_law_354 : decode cL_law 354 = .ok (.iconst 0, 1) := by decide +kernel
theorem dL_law_355 : decode cL_law 355 = .ok (.ireturn, 1) := by decide +kernel
theorem dL_law_356 : decode cL_law 356 = .ok (.aload_n 1, 1) := by decide +kernel
theorem dL_law_357 : decode cL_law 357 = .ok (.aload_n 0, 1) := by decide +kernel
theorem dL_law_358 : decode cL_law 358 = .ok (.iload_n 3, 1) := by decide +kernel
theorem dL_law_359 : decode cL_law 359 = .ok (.iconst 1, 1) := by decide +kernel
theorem dL_law_360 : decode cL_law 360 = .ok (.iadd, 1) := by decide +kernel
theorem dL_law_361 : decode cL_law 361 = .ok (.iaload, 1) := by decide +kernel
theorem dL_law_362 : decode cL_law 362 = .ok (.aload_n 0, 1) := by decide +kernel
theorem dL_law_363 : decode cL_law 363 = .ok (.iload_n 3, 1) := by decide +kernel
theorem dL_law_364 : decode cL_law 364 = .ok (.iconst 2, 1) := by decide +kernel
theorem dL_law_365 : decode cL_law 365 = .ok (.iadd, 1) := by decide +kernel
theorem dL_law_366 : decode cL_law 366 = .ok (.iaload, 1) := by decide +kernel
theorem dL_law_367 : decode cL_law 367 = .ok (.invokevirtual 39, 3) := by decide +kernel
theorem dL_law_370 : decode cL_law 370 = .ok (.aload_n 2, 1) := by decide +kernel
theorem dL_law_371 : decode cL_law 371 = .ok (.aload_n 0, 1) := by decide +kernel
theorem dL_law_372 : decode cL_law 372 = .ok (.iload_n 3, 1) := by decide +kernel
theorem dL_law_373 : decode cL_law 373 = .ok (.iconst 1, 1) := by decide +kernel
theorem dL_law_374 : decode cL_law 374 = .ok (.iadd, 1) := by decide +kernel
theorem dL_law_375 : decode cL_law 375 = .ok (.iaload, 1) := by decide +kernel
theorem dL_law_376 : decode cL_law 376 = .ok (.aload_n 0, 1) := by decide +kernel
theorem dL_law_377 : decode cL_law 377 = .ok (.iload_n 3, 1) := by decide +kernel
theorem dL_law_378 : decode cL_law 378 = .ok (.iconst 2, 1) := by decide +kernel
theorem dL_law_379 : decode cL_law 379 = .ok (.iadd, 1) := by decide +kernel
theorem dL_law_380 : decode cL_law 380 = .ok (.iaload, 1) := by decide +kernel
theorem dL_law_381 : decode cL_law 381 = .ok (.invokevirtual 42, 3) := by decide +kernel
theorem dL_law_384 : decode cL_law 384 = .ok (.if_icmp .eq 921, 3) := by decide +kernel
theorem dL_law_387 : decode cL_law 387 = .ok (.iconst 0, 1) := by decide +kernel
theorem dL_law_388 : decode cL_law 388 = .ok (.ireturn, 1) := by decide +kernel
theorem dL_law_389 : decode cL_law 389 = .ok (.aload_n 1, 1) := by decide +kernel
theorem dL_law_390 : decode cL_law 390 = .ok (.aload_n 0, 1) := by decide +kernel
theorem dL_law_391 : decode cL_law 391 = .ok (.iload_n 3, 1) := by decide +kernel
theorem dL_law_392 : decode cL_law 392 = .ok (.iconst 1, 1) := by decide +kernel
theorem dL_law_393 : decode cL_law 393 = .ok (.iadd, 1) := by decide +kernel
theorem dL_law_394 : decode cL_law 394 = .ok (.iaload, 1) := by decide +kernel
theorem dL_law_395 : decode cL_law 395 = .ok (.aload_n 0, 1) := by decide +kernel
theorem dL_law_396 : decode cL_law 396 = .ok (.iload_n 3, 1) := by decide +kernel
theorem dL_law_397 : decode cL_law 397 = .ok (.iconst 2, 1) := by decide +kernel
theorem dL_law_398 : decode cL_law 398 = .ok (.iadd, 1) := by decide +kernel
theorem dL_law_399 : decode cL_law 399 = .ok (.iaload, 1) := by decide +kernel
theorem dL_law_400 : decode cL_law 400 = .ok (.invokevirtual 43, 3) := by decide +kernel
theorem dL_law_403 : decode cL_law 403 = .ok (.aload_n 2, 1) := by decide +kernel
theorem dL_law_404 : decode cL_law 404 = .ok (.aload_n 0, 1) := by decide +kernel
theorem dL_law_405 : decode cL_law 405 = .ok (.iload_n 3, 1) := by decide +kernel
theorem dL_law_406 : decode cL_law 406 = .ok (.iconst 1, 1) := by decide +kernel
theorem dL_law_407 : decode cL_law 407 = .ok (.iadd, 1) := by decide +kernel
theorem dL_law_408 : decode cL_law 408 = .ok (.iaload, 1) := by decide +kernel
theorem dL_law_409 : decode cL_law 409 = .ok (.aload_n 0, 1) := by decide +kernel
theorem dL_law_410 : decode cL_law 410 = .ok (.iload_n 3, 1) := by decide +kernel
theorem dL_law_411 : decode cL_law 411 = .ok (.iconst 2, 1) := by decide +kernel
theorem dL_law_412 : decode cL_law 412 = .ok (.iadd, 1) := by decide +kernel
theorem dL_law_413 : decode cL_law 413 = .ok (.iaload, 1) := by decide +kernel
theorem dL_law_414 : decode cL_law 414 = .ok (.invokevirtual 46, 3) := by decide +kernel
theorem dL_law_417 : decode cL_law 417 = .ok (.if_icmp .eq 888, 3) := by decide +kernel
theorem dL_law_420 : decode cL_law 420 = .ok (.iconst 0, 1) := by decide +kernel
theorem dL_law_421 : decode cL_law 421 = .ok (.ireturn, 1) := by decide +kernel
theorem dL_law_422 : decode cL_law 422 = .ok (.aload_n 1, 1) := by decide +kernel
theorem dL_law_423 : decode cL_law 423 = .ok (.aload_n 0, 1) := by decide +kernel
theorem dL_law_424 : decode cL_law 424 = .ok (.iload_n 3, 1) := by decide +kernel
theorem dL_law_425 : decode cL_law 425 = .ok (.iconst 1, 1) := by decide +kernel
theorem dL_law_426 : decode cL_law 426 = .ok (.iadd, 1) := by decide +kernel
theorem dL_law_427 : decode cL_law 427 = .ok (.iaload, 1) := by decide +kernel
theorem dL_law_428 : decode cL_law 428 = .ok (.invokevirtual 47, 3) := by decide +kernel
theorem dL_law_431 : decode cL_law 431 = .ok (.aload_n 2, 1) := by decide +kernel
theorem dL_law_432 : decode cL_law 432 = .ok (.aload_n 0, 1) := by decide +kernel
theorem dL_law_433 : decode cL_law 433 = .ok (.iload_n 3, 1) := by decide +kernel
theorem dL_law_434 : decode cL_law 434 = .ok (.iconst 1, 1) := by decide +kernel
theorem dL_law_435 : decode cL_law 435 = .ok (.iadd, 1) := by decide +kernel
theorem dL_law_436 : decode cL_law 436 = .ok (.iaload, 1) := by decide +kernel
theorem dL_law_437 : decode cL_law 437 = .ok (.invokevirtual 50, 3) := by decide +kernel
theorem dL_law_440 : decode cL_law 440 = .ok (.if_icmp .eq 865, 3) := by decide +kernel
theorem dL_law_443 : decode cL_law 443 = .ok (.iconst 0, 1) := by decide +kernel
theorem dL_law_444 : decode cL_law 444 = .ok (.ireturn, 1) := by decide +kernel
theorem dL_law_445 : decode cL_law 445 = .ok (.aload_n 1, 1) := by decide +kernel
theorem dL_law_446 : decode cL_law 446 = .ok (.aload_n 0, 1) := by decide +kernel
theorem dL_law_447 : decode cL_law 447 = .ok (.iload_n 3, 1) := by decide +kernel
theorem dL_law_448 : decode cL_law 448 = .ok (.iconst 1, 1) := by decide +kernel
theorem dL_law_449 : decode cL_law 449 = .ok (.iadd, 1) := by decide +kernel
theorem dL_law_450 : decode cL_law 450 = .ok (.iaload, 1) := by decide +kernel
theorem dL_law_451 : decode cL_law 451 = .ok (.aload_n 0, 1) := by decide +kernel
theorem dL_law_452 : decode cL_law 452 = .ok (.iload_n 3, 1) := by decide +kernel
theorem dL_law_453 : decode cL_law 453 = .ok (.iconst 2, 1) := by decide +kernel
theorem dL_law_454 : decode cL_law 454 = .ok (.iadd, 1) := by decide +kernel
theorem dL_law_455 : decode cL_law 455 = .ok (.iaload, 1) := by decide +kernel
theorem dL_law_456 : decode cL_law 456 = .ok (.invokevirtual 51, 3) := by decide +kernel
theorem dL_law_459 : decode cL_law 459 = .ok (.aload_n 2, 1) := by decide +kernel
theorem dL_law_460 : decode cL_law 460 = .ok (.aload_n 0, 1) := by decide +kernel
theorem dL_law_461 : decode cL_law 461 = .ok (.iload_n 3, 1) := by decide +kernel
theorem dL_law_462 : decode cL_law 462 = .ok (.iconst 1, 1) := by decide +kernel
theorem dL_law_463 : decode cL_law 463 = .ok (.iadd, 1) := by decide +kernel
theorem dL_law_464 : decode cL_law 464 = .ok (.iaload, 1) := by decide +kernel
theorem dL_law_465 : decode cL_law 465 = .ok (.aload_n 0, 1) := by decide +kernel
theorem dL_law_466 : decode cL_law 466 = .ok (.iload_n 3, 1) := by decide +kernel
theorem dL_law_467 : decode cL_law 467 = .ok (.iconst 2, 1) := by decide +kernel
theorem dL_law_468 : decode cL_law 468 = .ok (.iadd, 1) := by decide +kernel
theorem dL_law_469 : decode cL_law 469 = .ok (.iaload, 1) := by decide +kernel
theorem dL_law_470 : decode cL_law 470 = .ok (.invokevirtual 54, 3) := by decide +kernel
theorem dL_law_473 : decode cL_law 473 = .ok (.if_icmp .eq 832, 3) := by decide +kernel
theorem dL_law_476 : decode cL_law 476 = .ok (.iconst 0, 1) := by decide +kernel
theorem dL_law_477 : decode cL_law 477 = .ok (.ireturn, 1) := by decide +kernel
theorem dL_law_478 : decode cL_law 478 = .ok (.aload_n 1, 1) := by decide +kernel
theorem dL_law_479 : decode cL_law 479 = .ok (.aload_n 0, 1) := by decide +kernel
theorem dL_law_480 : decode cL_law 480 = .ok (.iload_n 3, 1) := by decide +kernel
theorem dL_law_481 : decode cL_law 481 = .ok (.iconst 1, 1) := by decide +kernel
theorem dL_law_482 : decode cL_law 482 = .ok (.iadd, 1) := by decide +kernel
theorem dL_law_483 : decode cL_law 483 = .ok (.iaload, 1) := by decide +kernel
theorem dL_law_484 : decode cL_law 484 = .ok (.aload_n 0, 1) := by decide +kernel
theorem dL_law_485 : decode cL_law 485 = .ok (.iload_n 3, 1) := by decide +kernel
theorem dL_law_486 : decode cL_law 486 = .ok (.iconst 2, 1) := by decide +kernel
theorem dL_law_487 : decode cL_law 487 = .ok (.iadd, 1) := by decide +kernel
theorem dL_law_488 : decode cL_law 488 = .ok (.iaload, 1) := by decide +kernel
theorem dL_law_489 : decode cL_law 489 = .ok (.aload_n 0, 1) := by decide +kernel
theorem dL_law_490 : decode cL_law 490 = .ok (.iload_n 3, 1) := by decide +kernel
theorem dL_law_491 : decode cL_law 491 = .ok (.iconst 3, 1) := by decide +kernel
theorem dL_law_492 : decode cL_law 492 = .ok (.iadd, 1) := by decide +kernel
theorem dL_law_493 : decode cL_law 493 = .ok (.iaload, 1) := by decide +kernel
theorem dL_law_494 : decode cL_law 494 = .ok (.invokevirtual 55, 3) := by decide +kernel
theorem dL_law_497 : decode cL_law 497 = .ok (.aload_n 2, 1) := by decide +kernel
theorem dL_law_498 : decode cL_law 498 = .ok (.aload_n 0, 1) := by decide +kernel
theorem dL_law_499 : decode cL_law 499 = .ok (.iload_n 3, 1) := by decide +kernel
theorem dL_law_500 : decode cL_law 500 = .ok (.iconst 1, 1) := by decide +kernel
theorem dL_law_501 : decode cL_law 501 = .ok (.iadd, 1) := by decide +kernel
theorem dL_law_502 : decode cL_law 502 = .ok (.iaload, 1) := by decide +kernel
theorem dL_law_503 : decode cL_law 503 = .ok (.aload_n 0, 1) := by decide +kernel
theorem dL_law_504 : decode cL_law 504 = .ok (.iload_n 3, 1) := by decide +kernel
theorem dL_law_505 : decode cL_law 505 = .ok (.iconst 2, 1) := by decide +kernel
theorem dL_law_506 : decode cL_law 506 = .ok (.iadd, 1) := by decide +kernel
theorem dL_law_507 : decode cL_law 507 = .ok (.iaload, 1) := by decide +kernel
theorem dL_law_508 : decode cL_law 508 = .ok (.aload_n 0, 1) := by decide +kernel
theorem dL_law_509 : decode cL_law 509 = .ok (.iload_n 3, 1) := by decide +kernel
theorem dL_law_510 : decode cL_law 510 = .ok (.iconst 3, 1) := by decide +kernel
theorem dL_law_511 : decode cL_law 511 = .ok (.iadd, 1) := by decide +kernel
theorem dL_law_512 : decode cL_law 512 = .ok (.iaload, 1) := by decide +kernel
theorem dL_law_513 : decode cL_law 513 = .ok (.invokevirtual 59, 3) := by decide +kernel
theorem dL_law_516 : decode cL_law 516 = .ok (.if_icmp .eq 789, 3) := by decide +kernel
theorem dL_law_519 : decode cL_law 519 = .ok (.iconst 0, 1) := by decide +kernel
theorem dL_law_520 : decode cL_law 520 = .ok (.ireturn, 1) := by decide +kernel
theorem dL_law_521 : decode cL_law 521 = .ok (.aload_n 1, 1) := by decide +kernel
theorem dL_law_522 : decode cL_law 522 = .ok (.aload_n 0, 1) := by decide +kernel
theorem dL_law_523 : decode cL_law 523 = .ok (.iload_n 3, 1) := by decide +kernel
theorem dL_law_524 : decode cL_law 524 = .ok (.iconst 1, 1) := by decide +kernel
theorem dL_law_525 : decode cL_law 525 = .ok (.iadd, 1) := by decide +kernel
theorem dL_law_526 : decode cL_law 526 = .ok (.iaload, 1) := by decide +kernel
theorem dL_law_527 : decode cL_law 527 = .ok (.aload_n 0, 1) := by decide +kernel
theorem dL_law_528 : decode cL_law 528 = .ok (.iload_n 3, 1) := by decide +kernel
theorem dL_law_529 : decode cL_law 529 = .ok (.iconst 2, 1) := by decide +kernel
theorem dL_law_530 : decode cL_law 530 = .ok (.iadd, 1) := by decide +kernel
theorem dL_law_531 : decode cL_law 531 = .ok (.iaload, 1) := by decide +kernel
theorem dL_law_532 : decode cL_law 532 = .ok (.invokevirtual 60, 3) := by decide +kernel
theorem dL_law_535 : decode cL_law 535 = .ok (.aload_n 2, 1) := by decide +kernel
theorem dL_law_536 : decode cL_law 536 = .ok (.aload_n 0, 1) := by decide +kernel
theorem dL_law_537 : decode cL_law 537 = .ok (.iload_n 3, 1) := by decide +kernel
theorem dL_law_538 : decode cL_law 538 = .ok (.iconst 1, 1) := by decide +kernel
theorem dL_law_539 : decode cL_law 539 = .ok (.iadd, 1) := by decide +kernel
theorem dL_law_540 : decode cL_law 540 = .ok (.iaload, 1) := by decide +kernel
theorem dL_law_541 : decode cL_law 541 = .ok (.aload_n 0, 1) := by decide +kernel
theorem dL_law_542 : decode cL_law 542 = .ok (.iload_n 3, 1) := by decide +kernel
theorem dL_law_543 : decode cL_law 543 = .ok (.iconst 2, 1) := by decide +kernel
theorem dL_law_544 : decode cL_law 544 = .ok (.iadd, 1) := by decide +kernel
theorem dL_law_545 : decode cL_law 545 = .ok (.iaload, 1) := by decide +kernel
theorem dL_law_546 : decode cL_law 546 = .ok (.invokevirtual 63, 3) := by decide +kernel
theorem dL_law_549 : decode cL_law 549 = .ok (.if_icmp .eq 756, 3) := by decide +kernel
theorem dL_law_552 : decode cL_law 552 = .ok (.iconst 0, 1) := by decide +kernel
theorem dL_law_553 : decode cL_law 553 = .ok (.ireturn, 1) := by decide +kernel
theorem dL_law_554 : decode cL_law 554 = .ok (.aload_n 1, 1) := by decide +kernel
theorem dL_law_555 : decode cL_law 555 = .ok (.aload_n 0, 1) := by decide +kernel
theorem dL_law_556 : decode cL_law 556 = .ok (.iload_n 3, 1) := by decide +kernel
theorem dL_law_557 : decode cL_law 557 = .ok (.iconst 1, 1) := by decide +kernel
theorem dL_law_558 : decode cL_law 558 = .ok (.iadd, 1) := by decide +kernel
theorem dL_law_559 : decode cL_law 559 = .ok (.iaload, 1) := by decide +kernel
theorem dL_law_560 : decode cL_law 560 = .ok (.invokevirtual 64, 3) := by decide +kernel
theorem dL_law_563 : decode cL_law 563 = .ok (.aload_n 2, 1) := by decide +kernel
theorem dL_law_564 : decode cL_law 564 = .ok (.aload_n 0, 1) := by decide +kernel
theorem dL_law_565 : decode cL_law 565 = .ok (.iload_n 3, 1) := by decide +kernel
theorem dL_law_566 : decode cL_law 566 = .ok (.iconst 1, 1) := by decide +kernel
theorem dL_law_567 : decode cL_law 567 = .ok (.iadd, 1) := by decide +kernel
theorem dL_law_568 : decode cL_law 568 = .ok (.iaload, 1) := by decide +kernel
theorem dL_law_569 : decode cL_law 569 = .ok (.invokevirtual 67, 3) := by decide +kernel
theorem dL_law_572 : decode cL_law 572 = .ok (.if_icmp .eq 733, 3) := by decide +kernel
theorem dL_law_575 : decode cL_law 575 = .ok (.iconst 0, 1) := by decide +kernel
theorem dL_law_576 : decode cL_law 576 = .ok (.ireturn, 1) := by decide +kernel
theorem dL_law_577 : decode cL_law 577 = .ok (.aload_n 1, 1) := by decide +kernel
theorem dL_law_578 : decode cL_law 578 = .ok (.aload_n 0, 1) := by decide +kernel
theorem dL_law_579 : decode cL_law 579 = .ok (.iload_n 3, 1) := by decide +kernel
theorem dL_law_580 : decode cL_law 580 = .ok (.iconst 1, 1) := by decide +kernel
theorem dL_law_581 : decode cL_law 581 = .ok (.iadd, 1) := by decide +kernel
theorem dL_law_582 : decode cL_law 582 = .ok (.iaload, 1) := by decide +kernel
theorem dL_law_583 : decode cL_law 583 = .ok (.invokevirtual 68, 3) := by decide +kernel
theorem dL_law_586 : decode cL_law 586 = .ok (.aload_n 2, 1) := by decide +kernel
theorem dL_law_587 : decode cL_law 587 = .ok (.aload_n 0, 1) := by decide +kernel
theorem dL_law_588 : decode cL_law 588 = .ok (.iload_n 3, 1) := by decide +kernel
theorem dL_law_589 : decode cL_law 589 = .ok (.iconst 1, 1) := by decide +kernel
theorem dL_law_590 : decode cL_law 590 = .ok (.iadd, 1) := by decide +kernel
theorem dL_law_591 : decode cL_law 591 = .ok (.iaload, 1) := by decide +kernel
theorem dL_law_592 : decode cL_law 592 = .ok (.invokevirtual 71, 3) := by decide +kernel
theorem dL_law_595 : decode cL_law 595 = .ok (.if_icmp .eq 710, 3) := by decide +kernel
theorem dL_law_598 : decode cL_law 598 = .ok (.iconst 0, 1) := by decide +kernel
theorem dL_law_599 : decode cL_law 599 = .ok (.ireturn, 1) := by decide +kernel
theorem dL_law_600 : decode cL_law 600 = .ok (.aload_n 1, 1) := by decide +kernel
theorem dL_law_601 : decode cL_law 601 = .ok (.aload_n 0, 1) := by decide +kernel
theorem dL_law_602 : decode cL_law 602 = .ok (.iload_n 3, 1) := by decide +kernel
theorem dL_law_603 : decode cL_law 603 = .ok (.iconst 1, 1) := by decide +kernel
theorem dL_law_604 : decode cL_law 604 = .ok (.iadd, 1) := by decide +kernel
theorem dL_law_605 : decode cL_law 605 = .ok (.iaload, 1) := by decide +kernel
theorem dL_law_606 : decode cL_law 606 = .ok (.invokevirtual 72, 3) := by decide +kernel
theorem dL_law_609 : decode cL_law 609 = .ok (.aload_n 2, 1) := by decide +kernel
theorem dL_law_610 : decode cL_law 610 = .ok (.aload_n 0, 1) := by decide +kernel
theorem dL_law_611 : decode cL_law 611 = .ok (.iload_n 3, 1) := by decide +kernel
theorem dL_law_612 : decode cL_law 612 = .ok (.iconst 1, 1) := by decide +kernel
theorem dL_law_613 : decode cL_law 613 = .ok (.iadd, 1) := by decide +kernel
theorem dL_law_614 : decode cL_law 614 = .ok (.iaload, 1) := by decide +kernel
theorem dL_law_615 : decode cL_law 615 = .ok (.invokevirtual 75, 3) := by decide +kernel
theorem dL_law_618 : decode cL_law 618 = .ok (.if_icmp .eq 687, 3) := by decide +kernel
theorem dL_law_621 : decode cL_law 621 = .ok (.iconst 0, 1) := by decide +kernel
theorem dL_law_622 : decode cL_law 622 = .ok (.ireturn, 1) := by decide +kernel
theorem dL_law_623 : decode cL_law 623 = .ok (.aload_n 1, 1) := by decide +kernel
theorem dL_law_624 : decode cL_law 624 = .ok (.aload_n 0, 1) := by decide +kernel
theorem dL_law_625 : decode cL_law 625 = .ok (.iload_n 3, 1) := by decide +kernel
theorem dL_law_626 : decode cL_law 626 = .ok (.iconst 1, 1) := by decide +kernel
theorem dL_law_627 : decode cL_law 627 = .ok (.iadd, 1) := by decide +kernel
theorem dL_law_628 : decode cL_law 628 = .ok (.iaload, 1) := by decide +kernel
theorem dL_law_629 : decode cL_law 629 = .ok (.invokevirtual 76, 3) := by decide +kernel
theorem dL_law_632 : decode cL_law 632 = .ok (.aload_n 2, 1) := by decide +kernel
theorem dL_law_633 : decode cL_law 633 = .ok (.aload_n 0, 1) := by decide +kernel
theorem dL_law_634 : decode cL_law 634 = .ok (.iload_n 3, 1) := by decide +kernel
theorem dL_law_635 : decode cL_law 635 = .ok (.iconst 1, 1) := by decide +kernel
theorem dL_law_636 : decode cL_law 636 = .ok (.iadd, 1) := by decide +kernel
theorem dL_law_637 : decode cL_law 637 = .ok (.iaload, 1) := by decide +kernel
theorem dL_law_638 : decode cL_law 638 = .ok (.invokevirtual 79, 3) := by decide +kernel
theorem dL_law_641 : decode cL_law 641 = .ok (.if_icmp .eq 664, 3) := by decide +kernel
theorem dL_law_644 : decode cL_law 644 = .ok (.iconst 0, 1) := by decide +kernel
theorem dL_law_645 : decode cL_law 645 = .ok (.ireturn, 1) := by decide +kernel
theorem dL_law_646 : decode cL_law 646 = .ok (.aload_n 1, 1) := by decide +kernel
theorem dL_law_647 : decode cL_law 647 = .ok (.aload_n 0, 1) := by decide +kernel
theorem dL_law_648 : decode cL_law 648 = .ok (.iload_n 3, 1) := by decide +kernel
theorem dL_law_649 : decode cL_law 649 = .ok (.iconst 1, 1) := by decide +kernel
theorem dL_law_650 : decode cL_law 650 = .ok (.iadd, 1) := by decide +kernel
theorem dL_law_651 : decode cL_law 651 = .ok (.iaload, 1) := by decide +kernel
theorem dL_law_652 : decode cL_law 652 = .ok (.invokevirtual 80, 3) := by decide +kernel
theorem dL_law_655 : decode cL_law 655 = .ok (.aload_n 2, 1) := by decide +kernel
theorem dL_law_656 : decode cL_law 656 = .ok (.aload_n 0, 1) := by decide +kernel
theorem dL_law_657 : decode cL_law 657 = .ok (.iload_n 3, 1) := by decide +kernel
theorem dL_law_658 : decode cL_law 658 = .ok (.iconst 1, 1) := by decide +kernel
theorem dL_law_659 : decode cL_law 659 = .ok (.iadd, 1) := by decide +kernel
theorem dL_law_660 : decode cL_law 660 = .ok (.iaload, 1) := by decide +kernel
theorem dL_law_661 : decode cL_law 661 = .ok (.invokevirtual 83, 3) := by decide +kernel
theorem dL_law_664 : decode cL_law 664 = .ok (.if_icmp .eq 641, 3) := by decide +kernel
theorem dL_law_667 : decode cL_law 667 = .ok (.iconst 0, 1) := by decide +kernel
theorem dL_law_668 : decode cL_law 668 = .ok (.ireturn, 1) := by decide +kernel
theorem dL_law_669 : decode cL_law 669 = .ok (.aload_n 1, 1) := by decide +kernel
theorem dL_law_670 : decode cL_law 670 = .ok (.aload_n 0, 1) := by decide +kernel
theorem dL_law_671 : decode cL_law 671 = .ok (.iload_n 3, 1) := by decide +kernel
theorem dL_law_672 : decode cL_law 672 = .ok (.iconst 1, 1) := by decide +kernel
theorem dL_law_673 : decode cL_law 673 = .ok (.iadd, 1) := by decide +kernel
theorem dL_law_674 : decode cL_law 674 = .ok (.iaload, 1) := by decide +kernel
theorem dL_law_675 : decode cL_law 675 = .ok (.aload_n 0, 1) := by decide +kernel
theorem dL_law_676 : decode cL_law 676 = .ok (.iload_n 3, 1) := by decide +kernel
theorem dL_law_677 : decode cL_law 677 = .ok (.iconst 2, 1) := by decide +kernel
theorem dL_law_678 : decode cL_law 678 = .ok (.iadd, 1) := by decide +kernel
theorem dL_law_679 : decode cL_law 679 = .ok (.iaload, 1) := by decide +kernel
theorem dL_law_680 : decode cL_law 680 = .ok (.aload_n 0, 1) := by decide +kernel
theorem dL_law_681 : decode cL_law 681 = .ok (.iload_n 3, 1) := by decide +kernel
theorem dL_law_682 : decode cL_law 682 = .ok (.iconst 3, 1) := by decide +kernel
theorem dL_law_683 : decode cL_law 683 = .ok (.iadd, 1) := by decide +kernel
theorem dL_law_684 : decode cL_law 684 = .ok (.iaload, 1) := by decide +kernel
theorem dL_law_685 : decode cL_law 685 = .ok (.aload_n 0, 1) := by decide +kernel
theorem dL_law_686 : decode cL_law 686 = .ok (.iload_n 3, 1) := by decide +kernel
theorem dL_law_687 : decode cL_law 687 = .ok (.iconst 4, 1) := by decide +kernel
theorem dL_law_688 : decode cL_law 688 = .ok (.iadd, 1) := by decide +kernel
theorem dL_law_689 : decode cL_law 689 = .ok (.iaload, 1) := by decide +kernel
theorem dL_law_690 : decode cL_law 690 = .ok (.invokevirtual 84, 3) := by decide +kernel
theorem dL_law_693 : decode cL_law 693 = .ok (.aload_n 2, 1) := by decide +kernel
theorem dL_law_694 : decode cL_law 694 = .ok (.aload_n 0, 1) := by decide +kernel
theorem dL_law_695 : decode cL_law 695 = .ok (.iload_n 3, 1) := by decide +kernel
theorem dL_law_696 : decode cL_law 696 = .ok (.iconst 1, 1) := by decide +kernel
theorem dL_law_697 : decode cL_law 697 = .ok (.iadd, 1) := by decide +kernel
theorem dL_law_698 : decode cL_law 698 = .ok (.iaload, 1) := by decide +kernel
theorem dL_law_699 : decode cL_law 699 = .ok (.aload_n 0, 1) := by decide +kernel
theorem dL_law_700 : decode cL_law 700 = .ok (.iload_n 3, 1) := by decide +kernel
theorem dL_law_701 : decode cL_law 701 = .ok (.iconst 2, 1) := by decide +kernel
theorem dL_law_702 : decode cL_law 702 = .ok (.iadd, 1) := by decide +kernel
theorem dL_law_703 : decode cL_law 703 = .ok (.iaload, 1) := by decide +kernel
theorem dL_law_704 : decode cL_law 704 = .ok (.aload_n 0, 1) := by decide +kernel
theorem dL_law_705 : decode cL_law 705 = .ok (.iload_n 3, 1) := by decide +kernel
theorem dL_law_706 : decode cL_law 706 = .ok (.iconst 3, 1) := by decide +kernel
theorem dL_law_707 : decode cL_law 707 = .ok (.iadd, 1) := by decide +kernel
theorem dL_law_708 : decode cL_law 708 = .ok (.iaload, 1) := by decide +kernel
theorem dL_law_709 : decode cL_law 709 = .ok (.aload_n 0, 1) := by decide +kernel
theorem dL_law_710 : decode cL_law 710 = .ok (.iload_n 3, 1) := by decide +kernel
theorem dL_law_711 : decode cL_law 711 = .ok (.iconst 4, 1) := by decide +kernel
theorem dL_law_712 : decode cL_law 712 = .ok (.iadd, 1) := by decide +kernel
theorem dL_law_713 : decode cL_law 713 = .ok (.iaload, 1) := by decide +kernel
theorem dL_law_714 : decode cL_law 714 = .ok (.invokevirtual 88, 3) := by decide +kernel
theorem dL_law_717 : decode cL_law 717 = .ok (.if_icmp .eq 588, 3) := by decide +kernel
theorem dL_law_720 : decode cL_law 720 = .ok (.iconst 0, 1) := by decide +kernel
theorem dL_law_721 : decode cL_law 721 = .ok (.ireturn, 1) := by decide +kernel
theorem dL_law_722 : decode cL_law 722 = .ok (.aload_n 1, 1) := by decide +kernel
theorem dL_law_723 : decode cL_law 723 = .ok (.aload_n 0, 1) := by decide +kernel
theorem dL_law_724 : decode cL_law 724 = .ok (.iload_n 3, 1) := by decide +kernel
theorem dL_law_725 : decode cL_law 725 = .ok (.iconst 1, 1) := by decide +kernel
theorem dL_law_726 : decode cL_law 726 = .ok (.iadd, 1) := by decide +kernel
theorem dL_law_727 : decode cL_law 727 = .ok (.iaload, 1) := by decide +kernel
theorem dL_law_728 : decode cL_law 728 = .ok (.aload_n 0, 1) := by decide +kernel
theorem dL_law_729 : decode cL_law 729 = .ok (.iload_n 3, 1) := by decide +kernel
theorem dL_law_730 : decode cL_law 730 = .ok (.iconst 2, 1) := by decide +kernel
theorem dL_law_731 : decode cL_law 731 = .ok (.iadd, 1) := by decide +kernel
theorem dL_law_732 : decode cL_law 732 = .ok (.iaload, 1) := by decide +kernel
theorem dL_law_733 : decode cL_law 733 = .ok (.aload_n 0, 1) := by decide +kernel
theorem dL_law_734 : decode cL_law 734 = .ok (.iload_n 3, 1) := by decide +kernel
theorem dL_law_735 : decode cL_law 735 = .ok (.iconst 3, 1) := by decide +kernel
theorem dL_law_736 : decode cL_law 736 = .ok (.iadd, 1) := by decide +kernel
theorem dL_law_737 : decode cL_law 737 = .ok (.iaload, 1) := by decide +kernel
theorem dL_law_738 : decode cL_law 738 = .ok (.invokevirtual 89, 3) := by decide +kernel
theorem dL_law_741 : decode cL_law 741 = .ok (.aload_n 2, 1) := by decide +kernel
theorem dL_law_742 : decode cL_law 742 = .ok (.aload_n 0, 1) := by decide +kernel
theorem dL_law_743 : decode cL_law 743 = .ok (.iload_n 3, 1) := by decide +kernel
theorem dL_law_744 : decode cL_law 744 = .ok (.iconst 1, 1) := by decide +kernel
theorem dL_law_745 : decode cL_law 745 = .ok (.iadd, 1) := by decide +kernel
theorem dL_law_746 : decode cL_law 746 = .ok (.iaload, 1) := by decide +kernel
theorem dL_law_747 : decode cL_law 747 = .ok (.aload_n 0, 1) := by decide +kernel
theorem dL_law_748 : decode cL_law 748 = .ok (.iload_n 3, 1) := by decide +kernel
theorem dL_law_749 : decode cL_law 749 = .ok (.iconst 2, 1) := by decide +kernel
theorem dL_law_750 : decode cL_law 750 = .ok (.iadd, 1) := by decide +kernel
theorem dL_law_751 : decode cL_law 751 = .ok (.iaload, 1) := by decide +kernel
theorem dL_law_752 : decode cL_law 752 = .ok (.aload_n 0, 1) := by decide +kernel
theorem dL_law_753 : decode cL_law 753 = .ok (.iload_n 3, 1) := by decide +kernel
theorem dL_law_754 : decode cL_law 754 = .ok (.iconst 3, 1) := by decide +kernel
theorem dL_law_755 : decode cL_law 755 = .ok (.iadd, 1) := by decide +kernel
theorem dL_law_756 : decode cL_law 756 = .ok (.iaload, 1) := by decide +kernel
theorem dL_law_757 : decode cL_law 757 = .ok (.invokevirtual 92, 3) := by decide +kernel
theorem dL_law_760 : decode cL_law 760 = .ok (.if_icmp .eq 545, 3) := by decide +kernel
theorem dL_law_763 : decode cL_law 763 = .ok (.iconst 0, 1) := by decide +kernel
theorem dL_law_764 : decode cL_law 764 = .ok (.ireturn, 1) := by decide +kernel
theorem dL_law_765 : decode cL_law 765 = .ok (.aload_n 1, 1) := by decide +kernel
theorem dL_law_766 : decode cL_law 766 = .ok (.aload_n 0, 1) := by decide +kernel
theorem dL_law_767 : decode cL_law 767 = .ok (.iload_n 3, 1) := by decide +kernel
theorem dL_law_768 : decode cL_law 768 = .ok (.iconst 1, 1) := by decide +kernel
theorem dL_law_769 : decode cL_law 769 = .ok (.iadd, 1) := by decide +kernel
theorem dL_law_770 : decode cL_law 770 = .ok (.iaload, 1) := by decide +kernel
theorem dL_law_771 : decode cL_law 771 = .ok (.aload_n 0, 1) := by decide +kernel
theorem dL_law_772 : decode cL_law 772 = .ok (.iload_n 3, 1) := by decide +kernel
theorem dL_law_773 : decode cL_law 773 = .ok (.iconst 2, 1) := by decide +kernel
theorem dL_law_774 : decode cL_law 774 = .ok (.iadd, 1) := by decide +kernel
theorem dL_law_775 : decode cL_law 775 = .ok (.iaload, 1) := by decide +kernel
theorem dL_law_776 : decode cL_law 776 = .ok (.invokevirtual 93, 3) := by decide +kernel
theorem dL_law_779 : decode cL_law 779 = .ok (.aload_n 2, 1) := by decide +kernel
theorem dL_law_780 : decode cL_law 780 = .ok (.aload_n 0, 1) := by decide +kernel
theorem dL_law_781 : decode cL_law 781 = .ok (.iload_n 3, 1) := by decide +kernel
theorem dL_law_782 : decode cL_law 782 = .ok (.iconst 1, 1) := by decide +kernel
theorem dL_law_783 : decode cL_law 783 = .ok (.iadd, 1) := by decide +kernel
theorem dL_law_784 : decode cL_law 784 = .ok (.iaload, 1) := by decide +kernel
theorem dL_law_785 : decode cL_law 785 = .ok (.aload_n 0, 1) := by decide +kernel
theorem dL_law_786 : decode cL_law 786 = .ok (.iload_n 3, 1) := by decide +kernel
theorem dL_law_787 : decode cL_law 787 = .ok (.iconst 2, 1) := by decide +kernel
theorem dL_law_788 : decode cL_law 788 = .ok (.iadd, 1) := by decide +kernel
theorem dL_law_789 : decode cL_law 789 = .ok (.iaload, 1) := by decide +kernel
theorem dL_law_790 : decode cL_law 790 = .ok (.invokevirtual 96, 3) := by decide +kernel
theorem dL_law_793 : decode cL_law 793 = .ok (.if_icmp .eq 512, 3) := by decide +kernel
theorem dL_law_796 : decode cL_law 796 = .ok (.iconst 0, 1) := by decide +kernel
theorem dL_law_797 : decode cL_law 797 = .ok (.ireturn, 1) := by decide +kernel
theorem dL_law_798 : decode cL_law 798 = .ok (.aload_n 1, 1) := by decide +kernel
theorem dL_law_799 : decode cL_law 799 = .ok (.aload_n 0, 1) := by decide +kernel
theorem dL_law_800 : decode cL_law 800 = .ok (.iload_n 3, 1) := by decide +kernel
theorem dL_law_801 : decode cL_law 801 = .ok (.iconst 1, 1) := by decide +kernel
theorem dL_law_802 : decode cL_law 802 = .ok (.iadd, 1) := by decide +kernel
theorem dL_law_803 : decode cL_law 803 = .ok (.iaload, 1) := by decide +kernel
theorem dL_law_804 : decode cL_law 804 = .ok (.aload_n 0, 1) := by decide +kernel
theorem dL_law_805 : decode cL_law 805 = .ok (.iload_n 3, 1) := by decide +kernel
theorem dL_law_806 : decode cL_law 806 = .ok (.iconst 2, 1) := by decide +kernel
theorem dL_law_807 : decode cL_law 807 = .ok (.iadd, 1) := by decide +kernel
theorem dL_law_808 : decode cL_law 808 = .ok (.iaload, 1) := by decide +kernel
theorem dL_law_809 : decode cL_law 809 = .ok (.invokevirtual 97, 3) := by decide +kernel
theorem dL_law_812 : decode cL_law 812 = .ok (.aload_n 2, 1) := by decide +kernel
theorem dL_law_813 : decode cL_law 813 = .ok (.aload_n 0, 1) := by decide +kernel
theorem dL_law_814 : decode cL_law 814 = .ok (.iload_n 3, 1) := by decide +kernel
theorem dL_law_815 : decode cL_law 815 = .ok (.iconst 1, 1) := by decide +kernel
theorem dL_law_816 : decode cL_law 816 = .ok (.iadd, 1) := by decide +kernel
theorem dL_law_817 : decode cL_law 817 = .ok (.iaload, 1) := by decide +kernel
theorem dL_law_818 : decode cL_law 818 = .ok (.aload_n 0, 1) := by decide +kernel
theorem dL_law_819 : decode cL_law 819 = .ok (.iload_n 3, 1) := by decide +kernel
theorem dL_law_820 : decode cL_law 820 = .ok (.iconst 2, 1) := by decide +kernel
theorem dL_law_821 : decode cL_law 821 = .ok (.iadd, 1) := by decide +kernel
theorem dL_law_822 : decode cL_law 822 = .ok (.iaload, 1) := by decide +kernel
theorem dL_law_823 : decode cL_law 823 = .ok (.invokevirtual 100, 3) := by decide +kernel
theorem dL_law_826 : decode cL_law 826 = .ok (.if_icmp .eq 479, 3) := by decide +kernel
theorem dL_law_829 : decode cL_law 829 = .ok (.iconst 0, 1) := by decide +kernel
theorem dL_law_830 : decode cL_law 830 = .ok (.ireturn, 1) := by decide +kernel
theorem dL_law_831 : decode cL_law 831 = .ok (.aload_n 1, 1) := by decide +kernel
theorem dL_law_832 : decode cL_law 832 = .ok (.aload_n 0, 1) := by decide +kernel
theorem dL_law_833 : decode cL_law 833 = .ok (.iload_n 3, 1) := by decide +kernel
theorem dL_law_834 : decode cL_law 834 = .ok (.iconst 1, 1) := by decide +kernel
theorem dL_law_835 : decode cL_law 835 = .ok (.iadd, 1) := by decide +kernel
theorem dL_law_836 : decode cL_law 836 = .ok (.iaload, 1) := by decide +kernel
theorem dL_law_837 : decode cL_law 837 = .ok (.aload_n 0, 1) := by decide +kernel
theorem dL_law_838 : decode cL_law 838 = .ok (.iload_n 3, 1) := by decide +kernel
theorem dL_law_839 : decode cL_law 839 = .ok (.iconst 2, 1) := by decide +kernel
theorem dL_law_840 : decode cL_law 840 = .ok (.iadd, 1) := by decide +kernel
theorem dL_law_841 : decode cL_law 841 = .ok (.iaload, 1) := by decide +kernel
theorem dL_law_842 : decode cL_law 842 = .ok (.invokevirtual 101, 3) := by decide +kernel
theorem dL_law_845 : decode cL_law 845 = .ok (.aload_n 2, 1) := by decide +kernel
theorem dL_law_846 : decode cL_law 846 = .ok (.aload_n 0, 1) := by decide +kernel
theorem dL_law_847 : decode cL_law 847 = .ok (.iload_n 3, 1) := by decide +kernel
theorem dL_law_848 : decode cL_law 848 = .ok (.iconst 1, 1) := by decide +kernel
theorem dL_law_849 : decode cL_law 849 = .ok (.iadd, 1) := by decide +kernel
theorem dL_law_850 : decode cL_law 850 = .ok (.iaload, 1) := by decide +kernel
theorem dL_law_851 : decode cL_law 851 = .ok (.aload_n 0, 1) := by decide +kernel
theorem dL_law_852 : decode cL_law 852 = .ok (.iload_n 3, 1) := by decide +kernel
theorem dL_law_853 : decode cL_law 853 = .ok (.iconst 2, 1) := by decide +kernel
theorem dL_law_854 : decode cL_law 854 = .ok (.iadd, 1) := by decide +kernel
theorem dL_law_855 : decode cL_law 855 = .ok (.iaload, 1) := by decide +kernel
theorem dL_law_856 : decode cL_law 856 = .ok (.invokevirtual 104, 3) := by decide +kernel
theorem dL_law_859 : decode cL_law 859 = .ok (.if_icmp .eq 446, 3) := by decide +kernel
theorem dL_law_862 : decode cL_law 862 = .ok (.iconst 0, 1) := by decide +kernel
theorem dL_law_863 : decode cL_law 863 = .ok (.ireturn, 1) := by decide +kernel
theorem dL_law_864 : decode cL_law 864 = .ok (.aload_n 1, 1) := by decide +kernel
theorem dL_law_865 : decode cL_law 865 = .ok (.invokevirtual 105, 3) := by decide +kernel
theorem dL_law_868 : decode cL_law 868 = .ok (.aload_n 2, 1) := by decide +kernel
theorem dL_law_869 : decode cL_law 869 = .ok (.invokevirtual 109, 3) := by decide +kernel
theorem dL_law_872 : decode cL_law 872 = .ok (.if_icmp .eq 433, 3) := by decide +kernel
theorem dL_law_875 : decode cL_law 875 = .ok (.iconst 0, 1) := by decide +kernel
theorem dL_law_876 : decode cL_law 876 = .ok (.ireturn, 1) := by decide +kernel
theorem dL_law_877 : decode cL_law 877 = .ok (.aload_n 1, 1) := by decide +kernel
theorem dL_law_878 : decode cL_law 878 = .ok (.aload_n 0, 1) := by decide +kernel
theorem dL_law_879 : decode cL_law 879 = .ok (.iload_n 3, 1) := by decide +kernel
theorem dL_law_880 : decode cL_law 880 = .ok (.iconst 1, 1) := by decide +kernel
theorem dL_law_881 : decode cL_law 881 = .ok (.iadd, 1) := by decide +kernel
theorem dL_law_882 : decode cL_law 882 = .ok (.iaload, 1) := by decide +kernel
theorem dL_law_883 : decode cL_law 883 = .ok (.invokevirtual 110, 3) := by decide +kernel
theorem dL_law_886 : decode cL_law 886 = .ok (.aload_n 2, 1) := by decide +kernel
theorem dL_law_887 : decode cL_law 887 = .ok (.aload_n 0, 1) := by decide +kernel
theorem dL_law_888 : decode cL_law 888 = .ok (.iload_n 3, 1) := by decide +kernel
theorem dL_law_889 : decode cL_law 889 = .ok (.iconst 1, 1) := by decide +kernel
theorem dL_law_890 : decode cL_law 890 = .ok (.iadd, 1) := by decide +kernel
theorem dL_law_891 : decode cL_law 891 = .ok (.iaload, 1) := by decide +kernel
theorem dL_law_892 : decode cL_law 892 = .ok (.invokevirtual 113, 3) := by decide +kernel
theorem dL_law_895 : decode cL_law 895 = .ok (.if_icmp .eq 410, 3) := by decide +kernel
theorem dL_law_898 : decode cL_law 898 = .ok (.iconst 0, 1) := by decide +kernel
theorem dL_law_899 : decode cL_law 899 = .ok (.ireturn, 1) := by decide +kernel
theorem dL_law_900 : decode cL_law 900 = .ok (.aload_n 1, 1) := by decide +kernel
theorem dL_law_901 : decode cL_law 901 = .ok (.aload_n 0, 1) := by decide +kernel
theorem dL_law_902 : decode cL_law 902 = .ok (.iload_n 3, 1) := by decide +kernel
theorem dL_law_903 : decode cL_law 903 = .ok (.iconst 1, 1) := by decide +kernel
theorem dL_law_904 : decode cL_law 904 = .ok (.iadd, 1) := by decide +kernel
theorem dL_law_905 : decode cL_law 905 = .ok (.iaload, 1) := by decide +kernel
theorem dL_law_906 : decode cL_law 906 = .ok (.invokevirtual 114, 3) := by decide +kernel
theorem dL_law_909 : decode cL_law 909 = .ok (.aload_n 2, 1) := by decide +kernel
theorem dL_law_910 : decode cL_law 910 = .ok (.aload_n 0, 1) := by decide +kernel
theorem dL_law_911 : decode cL_law 911 = .ok (.iload_n 3, 1) := by decide +kernel
theorem dL_law_912 : decode cL_law 912 = .ok (.iconst 1, 1) := by decide +kernel
theorem dL_law_913 : decode cL_law 913 = .ok (.iadd, 1) := by decide +kernel
theorem dL_law_914 : decode cL_law 914 = .ok (.iaload, 1) := by decide +kernel
theorem dL_law_915 : decode cL_law 915 = .ok (.invokevirtual 117, 3) := by decide +kernel
theorem dL_law_918 : decode cL_law 918 = .ok (.if_icmp .eq 387, 3) := by decide +kernel
theorem dL_law_921 : decode cL_law 921 = .ok (.iconst 0, 1) := by decide +kernel
theorem dL_law_922 : decode cL_law 922 = .ok (.ireturn, 1) := by decide +kernel
theorem dL_law_923 : decode cL_law 923 = .ok (.aload_n 1, 1) := by decide +kernel
theorem dL_law_924 : decode cL_law 924 = .ok (.aload_n 0, 1) := by decide +kernel
theorem dL_law_925 : decode cL_law 925 = .ok (.iload_n 3, 1) := by decide +kernel
theorem dL_law_926 : decode cL_law 926 = .ok (.iconst 1, 1) := by decide +kernel
theorem dL_law_927 : decode cL_law 927 = .ok (.iadd, 1) := by decide +kernel
theorem dL_law_928 : decode cL_law 928 = .ok (.iaload, 1) := by decide +kernel
theorem dL_law_929 : decode cL_law 929 = .ok (.aload_n 0, 1) := by decide +kernel
theorem dL_law_930 : decode cL_law 930 = .ok (.iload_n 3, 1) := by decide +kernel
theorem dL_law_931 : decode cL_law 931 = .ok (.iconst 2, 1) := by decide +kernel
theorem dL_law_932 : decode cL_law 932 = .ok (.iadd, 1) := by decide +kernel
theorem dL_law_933 : decode cL_law 933 = .ok (.iaload, 1) := by decide +kernel
theorem dL_law_934 : decode cL_law 934 = .ok (.aload_n 0, 1) := by decide +kernel
theorem dL_law_935 : decode cL_law 935 = .ok (.iload_n 3, 1) := by decide +kernel
theorem dL_law_936 : decode cL_law 936 = .ok (.iconst 3, 1) := by decide +kernel
theorem dL_law_937 : decode cL_law 937 = .ok (.iadd, 1) := by decide +kernel
theorem dL_law_938 : decode cL_law 938 = .ok (.iaload, 1) := by decide +kernel
theorem dL_law_939 : decode cL_law 939 = .ok (.aload_n 0, 1) := by decide +kernel
theorem dL_law_940 : decode cL_law 940 = .ok (.iload_n 3, 1) := by decide +kernel
theorem dL_law_941 : decode cL_law 941 = .ok (.iconst 4, 1) := by decide +kernel
theorem dL_law_942 : decode cL_law 942 = .ok (.iadd, 1) := by decide +kernel
theorem dL_law_943 : decode cL_law 943 = .ok (.iaload, 1) := by decide +kernel
theorem dL_law_944 : decode cL_law 944 = .ok (.invokevirtual 118, 3) := by decide +kernel
theorem dL_law_947 : decode cL_law 947 = .ok (.aload_n 2, 1) := by decide +kernel
theorem dL_law_948 : decode cL_law 948 = .ok (.aload_n 0, 1) := by decide +kernel
theorem dL_law_949 : decode cL_law 949 = .ok (.iload_n 3, 1) := by decide +kernel
theorem dL_law_950 : decode cL_law 950 = .ok (.iconst 1, 1) := by decide +kernel
theorem dL_law_951 : decode cL_law 951 = .ok (.iadd, 1) := by decide +kernel
theorem dL_law_952 : decode cL_law 952 = .ok (.iaload, 1) := by decide +kernel
theorem dL_law_953 : decode cL_law 953 = .ok (.aload_n 0, 1) := by decide +kernel
theorem dL_law_954 : decode cL_law 954 = .ok (.iload_n 3, 1) := by decide +kernel
theorem dL_law_955 : decode cL_law 955 = .ok (.iconst 2, 1) := by decide +kernel
theorem dL_law_956 : decode cL_law 956 = .ok (.iadd, 1) := by decide +kernel
theorem dL_law_957 : decode cL_law 957 = .ok (.iaload, 1) := by decide +kernel
theorem dL_law_958 : decode cL_law 958 = .ok (.aload_n 0, 1) := by decide +kernel
theorem dL_law_959 : decode cL_law 959 = .ok (.iload_n 3, 1) := by decide +kernel
theorem dL_law_960 : decode cL_law 960 = .ok (.iconst 3, 1) := by decide +kernel
theorem dL_law_961 : decode cL_law 961 = .ok (.iadd, 1) := by decide +kernel
theorem dL_law_962 : decode cL_law 962 = .ok (.iaload, 1) := by decide +kernel
theorem dL_law_963 : decode cL_law 963 = .ok (.aload_n 0, 1) := by decide +kernel
theorem dL_law_964 : decode cL_law 964 = .ok (.iload_n 3, 1) := by decide +kernel
theorem dL_law_965 : decode cL_law 965 = .ok (.iconst 4, 1) := by decide +kernel
theorem dL_law_966 : decode cL_law 966 = .ok (.iadd, 1) := by decide +kernel
theorem dL_law_967 : decode cL_law 967 = .ok (.iaload, 1) := by decide +kernel
theorem dL_law_968 : decode cL_law 968 = .ok (.invokevirtual 122, 3) := by decide +kernel
theorem dL_law_971 : decode cL_law 971 = .ok (.lcmp, 1) := by decide +kernel
theorem dL_law_972 : decode cL_law 972 = .ok (.ifCond .eq 333, 3) := by decide +kernel
theorem dL_law_975 : decode cL_law 975 = .ok (.iconst 0, 1) := by decide +kernel
theorem dL_law_976 : decode cL_law 976 = .ok (.ireturn, 1) := by decide +kernel
theorem dL_law_977 : decode cL_law 977 = .ok (.aload_n 1, 1) := by decide +kernel
theorem dL_law_978 : decode cL_law 978 = .ok (.aload_n 0, 1) := by decide +kernel
theorem dL_law_979 : decode cL_law 979 = .ok (.iload_n 3, 1) := by decide +kernel
theorem dL_law_980 : decode cL_law 980 = .ok (.iconst 1, 1) := by decide +kernel
theorem dL_law_981 : decode cL_law 981 = .ok (.iadd, 1) := by decide +kernel
theorem dL_law_982 : decode cL_law 982 = .ok (.iaload, 1) := by decide +kernel
theorem dL_law_983 : decode cL_law 983 = .ok (.aload_n 0, 1) := by decide +kernel
theorem dL_law_984 : decode cL_law 984 = .ok (.iload_n 3, 1) := by decide +kernel
theorem dL_law_985 : decode cL_law 985 = .ok (.iconst 2, 1) := by decide +kernel
theorem dL_law_986 : decode cL_law 986 = .ok (.iadd, 1) := by decide +kernel
theorem dL_law_987 : decode cL_law 987 = .ok (.iaload, 1) := by decide +kernel
theorem dL_law_988 : decode cL_law 988 = .ok (.aload_n 0, 1) := by decide +kernel
theorem dL_law_989 : decode cL_law 989 = .ok (.iload_n 3, 1) := by decide +kernel
theorem dL_law_990 : decode cL_law 990 = .ok (.iconst 3, 1) := by decide +kernel
theorem dL_law_991 : decode cL_law 991 = .ok (.iadd, 1) := by decide +kernel
theorem dL_law_992 : decode cL_law 992 = .ok (.iaload, 1) := by decide +kernel
theorem dL_law_993 : decode cL_law 993 = .ok (.invokevirtual 123, 3) := by decide +kernel
theorem dL_law_996 : decode cL_law 996 = .ok (.aload_n 2, 1) := by decide +kernel
theorem dL_law_997 : decode cL_law 997 = .ok (.aload_n 0, 1) := by decide +kernel
theorem dL_law_998 : decode cL_law 998 = .ok (.iload_n 3, 1) := by decide +kernel
theorem dL_law_999 : decode cL_law 999 = .ok (.iconst 1, 1) := by decide +kernel
theorem dL_law_1000 : decode cL_law 1000 = .ok (.iadd, 1) := by decide +kernel
theorem dL_law_1001 : decode cL_law 1001 = .ok (.iaload, 1) := by decide +kernel
theorem dL_law_1002 : decode cL_law 1002 = .ok (.aload_n 0, 1) := by decide +kernel
theorem dL_law_1003 : decode cL_law 1003 = .ok (.iload_n 3, 1) := by decide +kernel
theorem dL_law_1004 : decode cL_law 1004 = .ok (.iconst 2, 1) := by decide +kernel
theorem dL_law_1005 : decode cL_law 1005 = .ok (.iadd, 1) := by decide +kernel
theorem dL_law_1006 : decode cL_law 1006 = .ok (.iaload, 1) := by decide +kernel
theorem dL_law_1007 : decode cL_law 1007 = .ok (.aload_n 0, 1) := by decide +kernel
theorem dL_law_1008 : decode cL_law 1008 = .ok (.iload_n 3, 1) := by decide +kernel
theorem dL_law_1009 : decode cL_law 1009 = .ok (.iconst 3, 1) := by decide +kernel
theorem dL_law_1010 : decode cL_law 1010 = .ok (.iadd, 1) := by decide +kernel
theorem dL_law_1011 : decode cL_law 1011 = .ok (.iaload, 1) := by decide +kernel
theorem dL_law_1012 : decode cL_law 1012 = .ok (.invokevirtual 126, 3) := by decide +kernel
theorem dL_law_1015 : decode cL_law 1015 = .ok (.if_icmp .eq 290, 3) := by decide +kernel
theorem dL_law_1018 : decode cL_law 1018 = .ok (.iconst 0, 1) := by decide +kernel
theorem dL_law_1019 : decode cL_law 1019 = .ok (.ireturn, 1) := by decide +kernel
theorem dL_law_1020 : decode cL_law 1020 = .ok (.aload_n 1, 1) := by decide +kernel
theorem dL_law_1021 : decode cL_law 1021 = .ok (.aload_n 0, 1) := by decide +kernel
theorem dL_law_1022 : decode cL_law 1022 = .ok (.iload_n 3, 1) := by decide +kernel
theorem dL_law_1023 : decode cL_law 1023 = .ok (.iconst 1, 1) := by decide +kernel
theorem dL_law_1024 : decode cL_law 1024 = .ok (.iadd, 1) := by decide +kernel
theorem dL_law_1025 : decode cL_law 1025 = .ok (.iaload, 1) := by decide +kernel
theorem dL_law_1026 : decode cL_law 1026 = .ok (.aload_n 0, 1) := by decide +kernel
theorem dL_law_1027 : decode cL_law 1027 = .ok (.iload_n 3, 1) := by decide +kernel
theorem dL_law_1028 : decode cL_law 1028 = .ok (.iconst 2, 1) := by decide +kernel
theorem dL_law_1029 : decode cL_law 1029 = .ok (.iadd, 1) := by decide +kernel
theorem dL_law_1030 : decode cL_law 1030 = .ok (.iaload, 1) := by decide +kernel
theorem dL_law_1031 : decode cL_law 1031 = .ok (.aload_n 0, 1) := by decide +kernel
theorem dL_law_1032 : decode cL_law 1032 = .ok (.iload_n 3, 1) := by decide +kernel
theorem dL_law_1033 : decode cL_law 1033 = .ok (.iconst 3, 1) := by decide +kernel
theorem dL_law_1034 : decode cL_law 1034 = .ok (.iadd, 1) := by decide +kernel
theorem dL_law_1035 : decode cL_law 1035 = .ok (.iaload, 1) := by decide +kernel
theorem dL_law_1036 : decode cL_law 1036 = .ok (.invokevirtual 127, 3) := by decide +kernel
theorem dL_law_1039 : decode cL_law 1039 = .ok (.aload_n 2, 1) := by decide +kernel
theorem dL_law_1040 : decode cL_law 1040 = .ok (.aload_n 0, 1) := by decide +kernel
theorem dL_law_1041 : decode cL_law 1041 = .ok (.iload_n 3, 1) := by decide +kernel
theorem dL_law_1042 : decode cL_law 1042 = .ok (.iconst 1, 1) := by decide +kernel
theorem dL_law_1043 : decode cL_law 1043 = .ok (.iadd, 1) := by decide +kernel
theorem dL_law_1044 : decode cL_law 1044 = .ok (.iaload, 1) := by decide +kernel
theorem dL_law_1045 : decode cL_law 1045 = .ok (.aload_n 0, 1) := by decide +kernel
theorem dL_law_1046 : decode cL_law 1046 = .ok (.iload_n 3, 1) := by decide +kernel
theorem dL_law_1047 : decode cL_law 1047 = .ok (.iconst 2, 1) := by decide +kernel
theorem dL_law_1048 : decode cL_law 1048 = .ok (.iadd, 1) := by decide +kernel
theorem dL_law_1049 : decode cL_law 1049 = .ok (.iaload, 1) := by decide +kernel
theorem dL_law_1050 : decode cL_law 1050 = .ok (.aload_n 0, 1) := by decide +kernel
theorem dL_law_1051 : decode cL_law 1051 = .ok (.iload_n 3, 1) := by decide +kernel
theorem dL_law_1052 : decode cL_law 1052 = .ok (.iconst 3, 1) := by decide +kernel
theorem dL_law_1053 : decode cL_law 1053 = .ok (.iadd, 1) := by decide +kernel
theorem dL_law_1054 : decode cL_law 1054 = .ok (.iaload, 1) := by decide +kernel
theorem dL_law_1055 : decode cL_law 1055 = .ok (.invokevirtual 130, 3) := by decide +kernel
theorem dL_law_1058 : decode cL_law 1058 = .ok (.if_icmp .eq 247, 3) := by decide +kernel
theorem dL_law_1061 : decode cL_law 1061 = .ok (.iconst 0, 1) := by decide +kernel
theorem dL_law_1062 : decode cL_law 1062 = .ok (.ireturn, 1) := by decide +kernel
theorem dL_law_1063 : decode cL_law 1063 = .ok (.aload_n 1, 1) := by decide +kernel
theorem dL_law_1064 : decode cL_law 1064 = .ok (.aload_n 0, 1) := by decide +kernel
theorem dL_law_1065 : decode cL_law 1065 = .ok (.iload_n 3, 1) := by decide +kernel
theorem dL_law_1066 : decode cL_law 1066 = .ok (.iconst 1, 1) := by decide +kernel
theorem dL_law_1067 : decode cL_law 1067 = .ok (.iadd, 1) := by decide +kernel
theorem dL_law_1068 : decode cL_law 1068 = .ok (.iaload, 1) := by decide +kernel
theorem dL_law_1069 : decode cL_law 1069 = .ok (.invokevirtual 131, 3) := by decide +kernel
theorem dL_law_1072 : decode cL_law 1072 = .ok (.aload_n 2, 1) := by decide +kernel
theorem dL_law_1073 : decode cL_law 1073 = .ok (.aload_n 0, 1) := by decide +kernel
theorem dL_law_1074 : decode cL_law 1074 = .ok (.iload_n 3, 1) := by decide +kernel
theorem dL_law_1075 : decode cL_law 1075 = .ok (.iconst 1, 1) := by decide +kernel
theorem dL_law_1076 : decode cL_law 1076 = .ok (.iadd, 1) := by decide +kernel
theorem dL_law_1077 : decode cL_law 1077 = .ok (.iaload, 1) := by decide +kernel
theorem dL_law_1078 : decode cL_law 1078 = .ok (.invokevirtual 134, 3) := by decide +kernel
theorem dL_law_1081 : decode cL_law 1081 = .ok (.if_icmp .eq 224, 3) := by decide +kernel
theorem dL_law_1084 : decode cL_law 1084 = .ok (.iconst 0, 1) := by decide +kernel
theorem dL_law_1085 : decode cL_law 1085 = .ok (.ireturn, 1) := by decide +kernel
theorem dL_law_1086 : decode cL_law 1086 = .ok (.aload_n 1, 1) := by decide +kernel
theorem dL_law_1087 : decode cL_law 1087 = .ok (.aload_n 0, 1) := by decide +kernel
theorem dL_law_1088 : decode cL_law 1088 = .ok (.iload_n 3, 1) := by decide +kernel
theorem dL_law_1089 : decode cL_law 1089 = .ok (.iconst 1, 1) := by decide +kernel
theorem dL_law_1090 : decode cL_law 1090 = .ok (.iadd, 1) := by decide +kernel
theorem dL_law_1091 : decode cL_law 1091 = .ok (.iaload, 1) := by decide +kernel
theorem dL_law_1092 : decode cL_law 1092 = .ok (.aload_n 0, 1) := by decide +kernel
theorem dL_law_1093 : decode cL_law 1093 = .ok (.iload_n 3, 1) := by decide +kernel
theorem dL_law_1094 : decode cL_law 1094 = .ok (.iconst 2, 1) := by decide +kernel
theorem dL_law_1095 : decode cL_law 1095 = .ok (.iadd, 1) := by decide +kernel
theorem dL_law_1096 : decode cL_law 1096 = .ok (.iaload, 1) := by decide +kernel
theorem dL_law_1097 : decode cL_law 1097 = .ok (.aload_n 0, 1) := by decide +kernel
theorem dL_law_1098 : decode cL_law 1098 = .ok (.iload_n 3, 1) := by decide +kernel
theorem dL_law_1099 : decode cL_law 1099 = .ok (.iconst 3, 1) := by decide +kernel
theorem dL_law_1100 : decode cL_law 1100 = .ok (.iadd, 1) := by decide +kernel
theorem dL_law_1101 : decode cL_law 1101 = .ok (.iaload, 1) := by decide +kernel
theorem dL_law_1102 : decode cL_law 1102 = .ok (.aload_n 0, 1) := by decide +kernel
theorem dL_law_1103 : decode cL_law 1103 = .ok (.iload_n 3, 1) := by decide +kernel
theorem dL_law_1104 : decode cL_law 1104 = .ok (.iconst 4, 1) := by decide +kernel
theorem dL_law_1105 : decode cL_law 1105 = .ok (.iadd, 1) := by decide +kernel
theorem dL_law_1106 : decode cL_law 1106 = .ok (.iaload, 1) := by decide +kernel
theorem dL_law_1107 : decode cL_law 1107 = .ok (.invokevirtual 135, 3) := by decide +kernel
theorem dL_law_1110 : decode cL_law 1110 = .ok (.aload_n 2, 1) := by decide +kernel
theorem dL_law_1111 : decode cL_law 1111 = .ok (.aload_n 0, 1) := by decide +kernel
theorem dL_law_1112 : decode cL_law 1112 = .ok (.iload_n 3, 1) := by decide +kernel
theorem dL_law_1113 : decode cL_law 1113 = .ok (.iconst 1, 1) := by decide +kernel
theorem dL_law_1114 : decode cL_law 1114 = .ok (.iadd, 1) := by decide +kernel
theorem dL_law_1115 : decode cL_law 1115 = .ok (.iaload, 1) := by decide +kernel
theorem dL_law_1116 : decode cL_law 1116 = .ok (.aload_n 0, 1) := by decide +kernel
theorem dL_law_1117 : decode cL_law 1117 = .ok (.iload_n 3, 1) := by decide +kernel
theorem dL_law_1118 : decode cL_law 1118 = .ok (.iconst 2, 1) := by decide +kernel
theorem dL_law_1119 : decode cL_law 1119 = .ok (.iadd, 1) := by decide +kernel
theorem dL_law_1120 : decode cL_law 1120 = .ok (.iaload, 1) := by decide +kernel
theorem dL_law_1121 : decode cL_law 1121 = .ok (.aload_n 0, 1) := by decide +kernel
theorem dL_law_1122 : decode cL_law 1122 = .ok (.iload_n 3, 1) := by decide +kernel
theorem dL_law_1123 : decode cL_law 1123 = .ok (.iconst 3, 1) := by decide +kernel
theorem dL_law_1124 : decode cL_law 1124 = .ok (.iadd, 1) := by decide +kernel
theorem dL_law_1125 : decode cL_law 1125 = .ok (.iaload, 1) := by decide +kernel
theorem dL_law_1126 : decode cL_law 1126 = .ok (.aload_n 0, 1) := by decide +kernel
theorem dL_law_1127 : decode cL_law 1127 = .ok (.iload_n 3, 1) := by decide +kernel
theorem dL_law_1128 : decode cL_law 1128 = .ok (.iconst 4, 1) := by decide +kernel
theorem dL_law_1129 : decode cL_law 1129 = .ok (.iadd, 1) := by decide +kernel
theorem dL_law_1130 : decode cL_law 1130 = .ok (.iaload, 1) := by decide +kernel
theorem dL_law_1131 : decode cL_law 1131 = .ok (.invokevirtual 138, 3) := by decide +kernel
theorem dL_law_1134 : decode cL_law 1134 = .ok (.if_icmp .eq 171, 3) := by decide +kernel
theorem dL_law_1137 : decode cL_law 1137 = .ok (.iconst 0, 1) := by decide +kernel
theorem dL_law_1138 : decode cL_law 1138 = .ok (.ireturn, 1) := by decide +kernel
theorem dL_law_1139 : decode cL_law 1139 = .ok (.aload_n 1, 1) := by decide +kernel
theorem dL_law_1140 : decode cL_law 1140 = .ok (.aload_n 0, 1) := by decide +kernel
theorem dL_law_1141 : decode cL_law 1141 = .ok (.iload_n 3, 1) := by decide +kernel
theorem dL_law_1142 : decode cL_law 1142 = .ok (.iconst 1, 1) := by decide +kernel
theorem dL_law_1143 : decode cL_law 1143 = .ok (.iadd, 1) := by decide +kernel
theorem dL_law_1144 : decode cL_law 1144 = .ok (.iaload, 1) := by decide +kernel
theorem dL_law_1145 : decode cL_law 1145 = .ok (.aload_n 0, 1) := by decide +kernel
theorem dL_law_1146 : decode cL_law 1146 = .ok (.iload_n 3, 1) := by decide +kernel
theorem dL_law_1147 : decode cL_law 1147 = .ok (.iconst 2, 1) := by decide +kernel
theorem dL_law_1148 : decode cL_law 1148 = .ok (.iadd, 1) := by decide +kernel
theorem dL_law_1149 : decode cL_law 1149 = .ok (.iaload, 1) := by decide +kernel
theorem dL_law_1150 : decode cL_law 1150 = .ok (.aload_n 0, 1) := by decide +kernel
theorem dL_law_1151 : decode cL_law 1151 = .ok (.iload_n 3, 1) := by decide +kernel
theorem dL_law_1152 : decode cL_law 1152 = .ok (.iconst 3, 1) := by decide +kernel
theorem dL_law_1153 : decode cL_law 1153 = .ok (.iadd, 1) := by decide +kernel
theorem dL_law_1154 : decode cL_law 1154 = .ok (.iaload, 1) := by decide +kernel
theorem dL_law_1155 : decode cL_law 1155 = .ok (.invokevirtual 139, 3) := by decide +kernel
theorem dL_law_1158 : decode cL_law 1158 = .ok (.aload_n 2, 1) := by decide +kernel
theorem dL_law_1159 : decode cL_law 1159 = .ok (.aload_n 0, 1) := by decide +kernel
theorem dL_law_1160 : decode cL_law 1160 = .ok (.iload_n 3, 1) := by decide +kernel
theorem dL_law_1161 : decode cL_law 1161 = .ok (.iconst 1, 1) := by decide +kernel
theorem dL_law_1162 : decode cL_law 1162 = .ok (.iadd, 1) := by decide +kernel
theorem dL_law_1163 : decode cL_law 1163 = .ok (.iaload, 1) := by decide +kernel
theorem dL_law_1164 : decode cL_law 1164 = .ok (.aload_n 0, 1) := by decide +kernel
theorem dL_law_1165 : decode cL_law 1165 = .ok (.iload_n 3, 1) := by decide +kernel
theorem dL_law_1166 : decode cL_law 1166 = .ok (.iconst 2, 1) := by decide +kernel
theorem dL_law_1167 : decode cL_law 1167 = .ok (.iadd, 1) := by decide +kernel
theorem dL_law_1168 : decode cL_law 1168 = .ok (.iaload, 1) := by decide +kernel
theorem dL_law_1169 : decode cL_law 1169 = .ok (.aload_n 0, 1) := by decide +kernel
theorem dL_law_1170 : decode cL_law 1170 = .ok (.iload_n 3, 1) := by decide +kernel
theorem dL_law_1171 : decode cL_law 1171 = .ok (.iconst 3, 1) := by decide +kernel
theorem dL_law_1172 : decode cL_law 1172 = .ok (.iadd, 1) := by decide +kernel
theorem dL_law_1173 : decode cL_law 1173 = .ok (.iaload, 1) := by decide +kernel
theorem dL_law_1174 : decode cL_law 1174 = .ok (.invokevirtual 142, 3) := by decide +kernel
theorem dL_law_1177 : decode cL_law 1177 = .ok (.if_icmp .eq 128, 3) := by decide +kernel
theorem dL_law_1180 : decode cL_law 1180 = .ok (.iconst 0, 1) := by decide +kernel
theorem dL_law_1181 : decode cL_law 1181 = .ok (.ireturn, 1) := by decide +kernel
theorem dL_law_1182 : decode cL_law 1182 = .ok (.aload_n 1, 1) := by decide +kernel
theorem dL_law_1183 : decode cL_law 1183 = .ok (.aload_n 0, 1) := by decide +kernel
theorem dL_law_1184 : decode cL_law 1184 = .ok (.iload_n 3, 1) := by decide +kernel
theorem dL_law_1185 : decode cL_law 1185 = .ok (.iconst 1, 1) := by decide +kernel
theorem dL_law_1186 : decode cL_law 1186 = .ok (.iadd, 1) := by decide +kernel
theorem dL_law_1187 : decode cL_law 1187 = .ok (.iaload, 1) := by decide +kernel
theorem dL_law_1188 : decode cL_law 1188 = .ok (.aload_n 0, 1) := by decide +kernel
theorem dL_law_1189 : decode cL_law 1189 = .ok (.iload_n 3, 1) := by decide +kernel
theorem dL_law_1190 : decode cL_law 1190 = .ok (.iconst 2, 1) := by decide +kernel
theorem dL_law_1191 : decode cL_law 1191 = .ok (.iadd, 1) := by decide +kernel
theorem dL_law_1192 : decode cL_law 1192 = .ok (.iaload, 1) := by decide +kernel
theorem dL_law_1193 : decode cL_law 1193 = .ok (.aload_n 0, 1) := by decide +kernel
theorem dL_law_1194 : decode cL_law 1194 = .ok (.iload_n 3, 1) := by decide +kernel
theorem dL_law_1195 : decode cL_law 1195 = .ok (.iconst 3, 1) := by decide +kernel
theorem dL_law_1196 : decode cL_law 1196 = .ok (.iadd, 1) := by decide +kernel
theorem dL_law_1197 : decode cL_law 1197 = .ok (.iaload, 1) := by decide +kernel
theorem dL_law_1198 : decode cL_law 1198 = .ok (.aload_n 0, 1) := by decide +kernel
theorem dL_law_1199 : decode cL_law 1199 = .ok (.iload_n 3, 1) := by decide +kernel
theorem dL_law_1200 : decode cL_law 1200 = .ok (.iconst 4, 1) := by decide +kernel
theorem dL_law_1201 : decode cL_law 1201 = .ok (.iadd, 1) := by decide +kernel
theorem dL_law_1202 : decode cL_law 1202 = .ok (.iaload, 1) := by decide +kernel
theorem dL_law_1203 : decode cL_law 1203 = .ok (.aload_n 0, 1) := by decide +kernel
theorem dL_law_1204 : decode cL_law 1204 = .ok (.iload_n 3, 1) := by decide +kernel
theorem dL_law_1205 : decode cL_law 1205 = .ok (.iconst 5, 1) := by decide +kernel
theorem dL_law_1206 : decode cL_law 1206 = .ok (.iadd, 1) := by decide +kernel
theorem dL_law_1207 : decode cL_law 1207 = .ok (.iaload, 1) := by decide +kernel
theorem dL_law_1208 : decode cL_law 1208 = .ok (.invokevirtual 143, 3) := by decide +kernel
theorem dL_law_1211 : decode cL_law 1211 = .ok (.aload_n 2, 1) := by decide +kernel
theorem dL_law_1212 : decode cL_law 1212 = .ok (.aload_n 0, 1) := by decide +kernel
theorem dL_law_1213 : decode cL_law 1213 = .ok (.iload_n 3, 1) := by decide +kernel
theorem dL_law_1214 : decode cL_law 1214 = .ok (.iconst 1, 1) := by decide +kernel
theorem dL_law_1215 : decode cL_law 1215 = .ok (.iadd, 1) := by decide +kernel
theorem dL_law_1216 : decode cL_law 1216 = .ok (.iaload, 1) := by decide +kernel
theorem dL_law_1217 : decode cL_law 1217 = .ok (.aload_n 0, 1) := by decide +kernel
theorem dL_law_1218 : decode cL_law 1218 = .ok (.iload_n 3, 1) := by decide +kernel
theorem dL_law_1219 : decode cL_law 1219 = .ok (.iconst 2, 1) := by decide +kernel
theorem dL_law_1220 : decode cL_law 1220 = .ok (.iadd, 1) := by decide +kernel
theorem dL_law_1221 : decode cL_law 1221 = .ok (.iaload, 1) := by decide +kernel
theorem dL_law_1222 : decode cL_law 1222 = .ok (.aload_n 0, 1) := by decide +kernel
theorem dL_law_1223 : decode cL_law 1223 = .ok (.iload_n 3, 1) := by decide +kernel
theorem dL_law_1224 : decode cL_law 1224 = .ok (.iconst 3, 1) := by decide +kernel
theorem dL_law_1225 : decode cL_law 1225 = .ok (.iadd, 1) := by decide +kernel
theorem dL_law_1226 : decode cL_law 1226 = .ok (.iaload, 1) := by decide +kernel
theorem dL_law_1227 : decode cL_law 1227 = .ok (.aload_n 0, 1) := by decide +kernel
theorem dL_law_1228 : decode cL_law 1228 = .ok (.iload_n 3, 1) := by decide +kernel
theorem dL_law_1229 : decode cL_law 1229 = .ok (.iconst 4, 1) := by decide +kernel
theorem dL_law_1230 : decode cL_law 1230 = .ok (.iadd, 1) := by decide +kernel
theorem dL_law_1231 : decode cL_law 1231 = .ok (.iaload, 1) := by decide +kernel
theorem dL_law_1232 : decode cL_law 1232 = .ok (.aload_n 0, 1) := by decide +kernel
theorem dL_law_1233 : decode cL_law 1233 = .ok (.iload_n 3, 1) := by decide +kernel
theorem dL_law_1234 : decode cL_law 1234 = .ok (.iconst 5, 1) := by decide +kernel
theorem dL_law_1235 : decode cL_law 1235 = .ok (.iadd, 1) := by decide +kernel
theorem dL_law_1236 : decode cL_law 1236 = .ok (.iaload, 1) := by decide +kernel
theorem dL_law_1237 : decode cL_law 1237 = .ok (.invokevirtual 147, 3) := by decide +kernel
theorem dL_law_1240 : decode cL_law 1240 = .ok (.if_icmp .eq 65, 3) := by decide +kernel
theorem dL_law_1243 : decode cL_law 1243 = .ok (.iconst 0, 1) := by decide +kernel
theorem dL_law_1244 : decode cL_law 1244 = .ok (.ireturn, 1) := by decide +kernel
theorem dL_law_1245 : decode cL_law 1245 = .ok (.aload_n 1, 1) := by decide +kernel
theorem dL_law_1246 : decode cL_law 1246 = .ok (.aload_n 0, 1) := by decide +kernel
theorem dL_law_1247 : decode cL_law 1247 = .ok (.iload_n 3, 1) := by decide +kernel
theorem dL_law_1248 : decode cL_law 1248 = .ok (.iconst 1, 1) := by decide +kernel
theorem dL_law_1249 : decode cL_law 1249 = .ok (.iadd, 1) := by decide +kernel
theorem dL_law_1250 : decode cL_law 1250 = .ok (.iaload, 1) := by decide +kernel
theorem dL_law_1251 : decode cL_law 1251 = .ok (.invokevirtual 148, 3) := by decide +kernel
theorem dL_law_1254 : decode cL_law 1254 = .ok (.aload_n 2, 1) := by decide +kernel
theorem dL_law_1255 : decode cL_law 1255 = .ok (.aload_n 0, 1) := by decide +kernel
theorem dL_law_1256 : decode cL_law 1256 = .ok (.iload_n 3, 1) := by decide +kernel
theorem dL_law_1257 : decode cL_law 1257 = .ok (.iconst 1, 1) := by decide +kernel
theorem dL_law_1258 : decode cL_law 1258 = .ok (.iadd, 1) := by decide +kernel
theorem dL_law_1259 : decode cL_law 1259 = .ok (.iaload, 1) := by decide +kernel
theorem dL_law_1260 : decode cL_law 1260 = .ok (.invokevirtual 151, 3) := by decide +kernel
theorem dL_law_1263 : decode cL_law 1263 = .ok (.if_icmp .eq 42, 3) := by decide +kernel
theorem dL_law_1266 : decode cL_law 1266 = .ok (.iconst 0, 1) := by decide +kernel
theorem dL_law_1267 : decode cL_law 1267 = .ok (.ireturn, 1) := by decide +kernel
theorem dL_law_1268 : decode cL_law 1268 = .ok (.aload_n 1, 1) := by decide +kernel
theorem dL_law_1269 : decode cL_law 1269 = .ok (.aload_n 0, 1) := by decide +kernel
theorem dL_law_1270 : decode cL_law 1270 = .ok (.iload_n 3, 1) := by decide +kernel
theorem dL_law_1271 : decode cL_law 1271 = .ok (.iconst 1, 1) := by decide +kernel
theorem dL_law_1272 : decode cL_law 1272 = .ok (.iadd, 1) := by decide +kernel
theorem dL_law_1273 : decode cL_law 1273 = .ok (.iaload, 1) := by decide +kernel
theorem dL_law_1274 : decode cL_law 1274 = .ok (.invokevirtual 152, 3) := by decide +kernel
theorem dL_law_1277 : decode cL_law 1277 = .ok (.aload_n 2, 1) := by decide +kernel
theorem dL_law_1278 : decode cL_law 1278 = .ok (.aload_n 0, 1) := by decide +kernel
theorem dL_law_1279 : decode cL_law 1279 = .ok (.iload_n 3, 1) := by decide +kernel
theorem dL_law_1280 : decode cL_law 1280 = .ok (.iconst 1, 1) := by decide +kernel
theorem dL_law_1281 : decode cL_law 1281 = .ok (.iadd, 1) := by decide +kernel
theorem dL_law_1282 : decode cL_law 1282 = .ok (.iaload, 1) := by decide +kernel
theorem dL_law_1283 : decode cL_law 1283 = .ok (.invokevirtual 155, 3) := by decide +kernel
theorem dL_law_1286 : decode cL_law 1286 = .ok (.if_icmp .eq 19, 3) := by decide +kernel
theorem dL_law_1289 : decode cL_law 1289 = .ok (.iconst 0, 1) := by decide +kernel
theorem dL_law_1290 : decode cL_law 1290 = .ok (.ireturn, 1) := by decide +kernel
theorem dL_law_1291 : decode cL_law 1291 = .ok (.aload_n 1, 1) := by decide +kernel
theorem dL_law_1292 : decode cL_law 1292 = .ok (.invokevirtual 156, 3) := by decide +kernel
theorem dL_law_1295 : decode cL_law 1295 = .ok (.aload_n 2, 1) := by decide +kernel
theorem dL_law_1296 : decode cL_law 1296 = .ok (.invokevirtual 160, 3) := by decide +kernel
theorem dL_law_1299 : decode cL_law 1299 = .ok (.lcmp, 1) := by decide +kernel
theorem dL_law_1300 : decode cL_law 1300 = .ok (.ifCond .eq 5, 3) := by decide +kernel
theorem dL_law_1303 : decode cL_law 1303 = .ok (.iconst 0, 1) := by decide +kernel
theorem dL_law_1304 : decode cL_law 1304 = .ok (.ireturn, 1) := by decide +kernel
theorem dL_law_1305 : decode cL_law 1305 = .ok (.iinc 3 6, 3) := by decide +kernel
theorem dL_law_1308 : decode cL_law 1308 = .ok (.goto (-1290), 3) := by decide +kernel
theorem dL_law_1311 : decode cL_law 1311 = .ok (.iconst 1, 1) := by decide +kernel
theorem dL_law_1312 : decode cL_law 1312 = .ok (.ireturn, 1) := by decide +kernel
end
section
/-! ===== the static worlds: memory as a function, cells by number ===== -/
/-- memory: cell number, slot, value -/
abbrev qM : Type := Nat → Nat → Int32
def qset (σ : qM) (o : Nat) (f : Nat → Int32) : qM := fun a => if a = o then f else σ a
def qup (σ : qM) (o k : Nat) (v : Int32) : qM := qset σ o (upd (σ o) k v)
theorem qset_s (σ : qM) (o : Nat) (f : Nat → Int32) : qset σ o f o = f := if_pos rfl
theorem qset_n (σ : qM) {o a : Nat} (f : Nat → Int32) (h : ¬ a = o) : qset σ o f a = σ a := if_neg h
/-- a shape: the kind of each cell (0..5 an object of that class, 6 ints, 7 rows of ints, 8 rows of sheets), its length, where its references lead, how many cells -/
abbrev qS : Type := (Nat → Nat) × (Nat → Nat) × (Nat → Nat → Nat) × Nat
/-- the tables' numbers, the address of each cell, the classes of the three kinds of arrays, the addresses of the texts' constants and of their bytes -/
abbrev qG : Type := va_G × (Nat → Nat) × ClassId × ClassId × ClassId × (Nat → Nat) × (Nat → Nat)
abbrev q_D (G : qG) : va_G := G.1
abbrev q_ad (G : qG) : Nat → Nat := G.2.1
abbrev q_cI (G : qG) : ClassId := G.2.2.1
abbrev q_cII (G : qG) : ClassId := G.2.2.2.1
abbrev q_cS (G : qG) : ClassId := G.2.2.2.2.1
abbrev q_aK (G : qG) : Nat → Nat := G.2.2.2.2.2.1
abbrev q_aV (G : qG) : Nat → Nat := G.2.2.2.2.2.2
abbrev q_kd (S : qS) : Nat → Nat := S.1
abbrev q_ln (S : qS) : Nat → Nat := S.2.1
abbrev q_rf (S : qS) : Nat → Nat → Nat := S.2.2.1
abbrev q_N (S : qS) : Nat := S.2.2.2
def gw : List Cond := lw_tbl.filter goodWord
theorem gw_mem {w : Cond} (h : w ∈ tables_1) (g : goodWord w = true) : w ∈ gw := List.mem_filter.mpr ⟨List.mem_append_right _ h, g⟩
theorem gw_sel {q : MethodName × Nat} (h : q ∈ lw_privs) (g : goodWord (Cond.selects q.1.cls q.1 q.1) = true) : Cond.selects q.1.cls q.1 q.1 ∈ gw := List.mem_filter.mpr ⟨List.mem_append_left _ (List.mem_map.mpr ⟨q, h, rfl⟩), g⟩
theorem gw_good {w : Cond} (h : w ∈ gw) : (w.onTables && w.keeps) = true ∨ ∃ ty, w = .arrayClass ty := good_of_word (List.mem_filter.mp h).2
def q_nf (ci : Nat) : Nat := [15, 3, 3, 7, 10, 26].getD ci 0
/-- which fields of a class are references -/
def q_isr (ci k : Nat) : Bool := (([[0, 1, 2, 3, 4, 5, 6, 7, 8, 9, 10, 11, 13], [0, 1], [0], [2, 3], [0, 1, 2, 3, 4, 5, 6], [0, 1, 2, 3, 5, 6, 9, 11, 13, 15, 16, 17, 18, 19, 25]] : List (List Nat)).getD ci []).contains k
def q_fv (S : qS) (G : qG) (f : Nat → Int32) (o ci k : Nat) : Value := if q_isr ci k = true then .ref (q_ad G (q_rf S o k)) else .int (f k)
def q_fs (S : qS) (G : qG) (f : Nat → Int32) (o ci : Nat) : List Value := (List.range (q_nf ci)).map (q_fv S G f o ci)
def q_en (S : qS) (G : qG) (f : Nat → Int32) (o : Nat) : va_E :=
  if q_kd S o = 6 then .inl (q_cI G, q_ln S o, .inl f)
  else if q_kd S o = 7 then .inl (q_cII G, q_ln S o, .inr (.inr (.inr (.inr (fun j => some (q_ad G (q_rf S o j)))))))
  else if q_kd S o = 8 then .inl (q_cS G, q_ln S o, .inr (.inr (.inr (.inr (fun j => some (q_ad G (q_rf S o j)))))))
  else .inr (q_kd S o, q_fs S G f o (q_kd S o))
def q_ws (S : qS) (G : qG) (σ : qM) : va_W := (List.range (q_N S)).map (fun o => (q_ad G o, q_en S G (σ o) o))
def q_A (S : qS) (G : qG) : Nat → Prop := fun q => ∃ o, o < q_N S ∧ q = q_ad G o
def q_tys (G : qG) : List (ClassId × FieldType) := [(q_cI G, .int), (q_cII G, .array .int), (q_cS G, .object "TeaLaws$Sheet")]
def q_inj (S : qS) (G : qG) : Prop := (∀ i j, i < q_N S → j < q_N S → q_ad G i = q_ad G j → i = j) ∧ ∀ o, q_kd S o < 9 → o < q_N S
theorem q_at {S : qS} {G : qG} {σ : qM} {o : Nat} (h : o < q_N S) : (q_ws S G σ)[o]? = some (q_ad G o, q_en S G (σ o) o) := by
  simp [q_ws, h]
theorem q_wset {S : qS} {G : qG} {σ : qM} {o : Nat} (f : Nat → Int32) : (q_ws S G σ).set o (q_ad G o, q_en S G f o) = q_ws S G (qset σ o f) := by
  apply List.ext_getElem?
  intro i
  by_cases hi : i < q_N S
  · by_cases e : i = o
    · subst e
      rw [List.getElem?_set_self (by simpa [q_ws] using hi), q_at hi, qset_s]
    · rw [List.getElem?_set_ne (Ne.symm e), q_at hi, q_at hi, qset_n _ _ e]
  · have h1 : (q_ws S G (qset σ o f))[i]? = none := by simp [q_ws]; omega
    have h2 : ((q_ws S G σ).set o (q_ad G o, q_en S G f o))[i]? = none := by simp [q_ws]; omega
    rw [h1, h2]
theorem q_dis {S : qS} {G : qG} (σ : qM) (h : q_inj S G) : va_D (q_A S G) (q_ws S G σ) := by
  have key : ∀ (k : Nat) (q : Nat × va_E), (q_ws S G σ)[k]? = some q → k < q_N S ∧ q.1 = q_ad G k := by
    intro k q hk
    by_cases hl : k < q_N S
    · rw [q_at hl] at hk
      cases hk
      exact ⟨hl, rfl⟩
    · have h1 : (q_ws S G σ)[k]? = none := by simp [q_ws]; omega
      rw [h1] at hk
      cases hk
  refine ⟨fun i j p q hi hj e => ?_, fun k q hk => ?_⟩
  · obtain ⟨h1, h2⟩ := key i p hi
    obtain ⟨h3, h4⟩ := key j q hj
    exact h.1 i j h1 h3 (h2.symm.trans (e.trans h4))
  · obtain ⟨h1, h2⟩ := key k q hk
    exact ⟨k, h1, h2⟩
theorem q_en_obj {S : qS} {G : qG} {f : Nat → Int32} {o ci : Nat} (h : q_kd S o = ci) (hc : ci < 6) : q_en S G f o = .inr (ci, q_fs S G f o ci) := by
  subst h
  unfold q_en
  rw [if_neg (by omega), if_neg (by omega), if_neg (by omega)]
theorem q_en_6 {S : qS} {G : qG} {f : Nat → Int32} {o : Nat} (h : q_kd S o = 6) : q_en S G f o = .inl (q_cI G, q_ln S o, .inl f) := if_pos h
theorem q_en_7 {S : qS} {G : qG} {f : Nat → Int32} {o : Nat} (h : q_kd S o = 7) : q_en S G f o = .inl (q_cII G, q_ln S o, .inr (.inr (.inr (.inr (fun j => some (q_ad G (q_rf S o j))))))) := by
  unfold q_en
  rw [if_neg (by omega), if_pos h]
theorem q_en_8 {S : qS} {G : qG} {f : Nat → Int32} {o : Nat} (h : q_kd S o = 8) : q_en S G f o = .inl (q_cS G, q_ln S o, .inr (.inr (.inr (.inr (fun j => some (q_ad G (q_rf S o j))))))) := by
  unfold q_en
  rw [if_neg (by omega), if_neg (by omega), if_pos h]
theorem q_fs_at {S : qS} {G : qG} {f : Nat → Int32} {o ci k : Nat} (h : k < q_nf ci) : (q_fs S G f o ci)[k]? = some (q_fv S G f o ci k) := by
  simp [q_fs, h]
theorem q_fs_set {S : qS} {G : qG} {f : Nat → Int32} {o ci k : Nat} {v : Int32} (h : k < q_nf ci) (hi : q_isr ci k = false) : (q_fs S G f o ci).set k (.int v) = q_fs S G (upd f k v) o ci := by
  apply List.ext_getElem?
  intro i
  by_cases hl : i < q_nf ci
  · by_cases e : i = k
    · subst e
      rw [List.getElem?_set_self (by simpa [q_fs] using hl), q_fs_at hl]
      simp [q_fv, hi, upd]
    · rw [List.getElem?_set_ne (Ne.symm e), q_fs_at hl, q_fs_at hl]
      simp [q_fv, upd, e]
  · have h1 : (q_fs S G (upd f k v) o ci)[i]? = none := by simp [q_fs]; omega
    have h2 : ((q_fs S G f o ci).set k (.int v))[i]? = none := by simp [q_fs]; omega
    rw [h1, h2]
/-! the constants of text -/
def q_tx (i : Nat) : String := ["abcdef", "123456", "sdr", "nofb", "-+", "ABCDEFGH"].getD i ""
def q_ti (i : Nat) : Nat := [51, 53, 55, 57, 59, 61].getD i 0
def q_tb (i : Nat) : List Int32 := ([[97, 98, 99, 100, 101, 102], [49, 50, 51, 52, 53, 54], [115, 100, 114], [110, 111, 102, 98], [45, 43], [65, 66, 67, 68, 69, 70, 71, 72]] : List (List Int32)).getD i []
def q_tbs : List (List Int32) := [[97, 98, 99, 100, 101, 102], [49, 50, 51, 52, 53, 54], [115, 100, 114], [110, 111, 102, 98], [45, 43], [65, 66, 67, 68, 69, 70, 71, 72]]
def q_str (S : qS) (G : qG) (U : State) : Prop := (∀ i, i < 6 → vk_R RX3 (q_ti i) (q_tx i) (q_aK G i) U) ∧ vk_S 6 [6, 6, 3, 4, 2, 8] q_tbs (q_aK G) (q_aV G) (q_A S G) U U.heap ∧ va_Z "java/lang/String" "COMPACT_STRINGS" "Z" (.int 1) (q_A S G) U U.heap
theorem q_str.go {S : qS} {G : qG} {s U : State} {locs : List Loc} (h : q_str S G s) (hW : s.WarmedH U.vm) (hS : va_S (q_A S G) s.heap U.heap locs) : q_str S G U :=
  ⟨fun i hi => (h.1 i hi).warm hW, (h.2.1.moved hW.alike).kept hS.2.1, (h.2.2.moved hW.alike).kept hS.2.1⟩
theorem q_str.call {S : qS} {G : qG} {U : State} {g : JFrame} {mk : MethodId} {a : Array Value} (h : q_str S G U) : q_str S G (U.calling g mk a) :=
  ⟨fun i hi => (h.1 i hi).same (u := U) rfl, h.2.1.moved (u := U) (U := U.calling g mk a) (Vm.Alike.refl U.vm), h.2.2.moved (u := U) (U := U.calling g mk a) (Vm.Alike.refl U.vm)⟩
/-! ===== the walk's judgement over a static world ===== -/
abbrev qX : Type := Program × Launch × Env × Room × State × MethodId × Array Value × List Frame × Method × Code
abbrev x_p (X : qX) : Program := X.1
abbrev x_l (X : qX) : Launch := X.2.1
abbrev x_R (X : qX) : Room := X.2.2.2.1
abbrev x_s (X : qX) : State := X.2.2.2.2.1
abbrev x_m (X : qX) : MethodId := X.2.2.2.2.2.1
abbrev x_a (X : qX) : Array Value := X.2.2.2.2.2.2.1
abbrev x_b (X : qX) : List Frame := X.2.2.2.2.2.2.2.1
abbrev x_t (X : qX) : Method := X.2.2.2.2.2.2.2.2.1
abbrev x_c (X : qX) : Code := X.2.2.2.2.2.2.2.2.2
def qW (X : qX) (H : Heap) (locs : List Loc) (Q : State → Prop) (g : JFrame) : Prop := W X.1 X.2.1 X.2.2.1 X.2.2.2.1 X.2.2.2.2.1 X.2.2.2.2.2.1 X.2.2.2.2.2.2.1 X.2.2.2.2.2.2.2.1 X.2.2.2.2.2.2.2.2.1 X.2.2.2.2.2.2.2.2.2 H locs 0 0 Q g
def q_Rm (d : Nat) : Room := { frames := d, cells := 0, slots := 0, locals := 38 * d }
/-- what stays through a method's walk -/
def qC (S : qS) (X : qX) (G : qG) (own : String) (cc : ByteArray) (nl d : Nat) (ret : Option FieldType) : Prop :=
  (x_p X).tables.exec = Jvm.exec ∧ (x_c X).code = cc ∧ (x_c X).maxLocals = nl ∧ (x_s X).vm.findClass own = some (x_m X).cls ∧ (∀ w ∈ gw, w.before (x_a X) (x_s X) = true) ∧ va_K (q_D G) vwCl (q_tys G) (x_s X) ∧ q_inj S G ∧ x_R X = q_Rm d ∧ q_str S G (x_s X) ∧ (x_t X).sig.returnType = ret ∧ (x_t X).locks = false
/-- from here, with this memory, these locals and this stack, the method comes to Q -/
def qY (S : qS) (X : qX) (G : qG) (nl : Nat) (Q : State → Prop) (σ : qM) (pc : Nat) (lv : List (Nat × Value)) (st : List Value) : Prop :=
  ∀ (H : Heap) (locs : List Loc) (ls : Array Slot), va_P (q_D G) vwCl (q_ws S G σ) H → va_S (q_A S G) (x_s X).heap H locs → lv_has ls nl lv → qW X H locs Q (F0 (x_m X) pc ls st)
/-- a method's end: its answer and the memory behind it -/
def q_Qc (S : qS) (G : qG) (r : Option Value) (σ : qM) : Array Value → State → Outcome → State → Prop := fun _ st oc t => oc = .returned r ∧ va_P (q_D G) vwCl (q_ws S G σ) t.heap ∧ va_F (q_A S G) st t
def q_Q (S : qS) (X : qX) (G : qG) (r : Option Value) (σ : qM) : State → Prop := MQ (x_b X) (q_Qc S G r σ) (x_a X) (x_s X) 0 0 (q_A S G)
def q_Pre (S : qS) (G : qG) (σ : qM) (U : State) : Prop := va_P (q_D G) vwCl (q_ws S G σ) U.heap ∧ va_K (q_D G) vwCl (q_tys G) U ∧ q_inj S G ∧ q_str S G U
/-- a method's contract at these arguments and this memory -/
def qCon (S : qS) (G : qG) (l : Launch) (y : MethodName) (cc : ByteArray) (nl : Nat) (ret : Option FieldType) (d : Nat) (av : List Value) (σ : qM) (r : Option Value) (σ' : qM) : Prop :=
  Met l y (Cond.code y cc nl ret :: gw) (q_Rm d) (va_Pc av (q_Pre S G σ)) (q_Qc S G r σ') 0 0 (q_A S G)
theorem qCon.mk {S : qS} {G : qG} {l : Launch} {y : MethodName} {cc : ByteArray} {nl : Nat} {ret : Option FieldType} {d : Nat} {av : List Value} {σ : qM} {r : Option Value} {σ' : qM} {lv : List (Nat × Value)} (hy : plainName y.cls = true) (hn : (lg_sl av).length ≤ nl) (hlv : lv_args 0 av = lv)
    (h : ∀ X : qX, x_l X = l → qC S X G y.cls cc nl d ret → qY S X G nl (q_Q S X G r σ') σ 0 lv []) : qCon S G l y cc nl ret d av σ r σ' := by
  refine Met.ofW (cc := cc) (maxL := nl) (ret := ret) hy rfl ?_
  intro p e s m args below meth c s₁ B hml hv
  obtain ⟨rfl, hP, hK, hI, hT⟩ := hv
  have hts := atoms_spec (ws := Cond.code y cc nl ret :: gw) B.pre
  have hl := lv_entry av (n := nl) hn
  rw [lg_entry_eq]
  subst hlv
  exact h (p, l, e, q_Rm d, s, m, av.toArray, below, meth, c) rfl ⟨B.exec, B.bytes, hml, findClass_of_methodNamed B.named, fun w hw => hts w (List.mem_cons_of_mem _ hw), hK, hI, rfl, hT, B.returns, B.notSynchronized⟩ s.heap [] _ hP va_S.rf hl
end
section
/-! ===== rows: an instruction each, over a static world ===== -/
section QR
variable {S : qS} {X : qX} {G : qG} {own : String} {cc : ByteArray} {nl d : Nat} {ret : Option FieldType} {Q : State → Prop} {σ : qM} {pc : Nat} {lv lv' : List (Nat × Value)} {st : List Value}
theorem q_sub (ks : List Nat) (h : lv_pick lv ks = lv') (k : qY S X G nl Q σ pc lv' st) : qY S X G nl Q σ pc lv st := fun H locs ls hP hS hl => k H locs ls hP hS (lv_sub hl ks h)
theorem q_iconst (C : qC S X G own cc nl d ret) {n : Int} {v : Int32} (hd : decode cc pc = .ok (.iconst n, 1)) (hv : Int32.ofInt n = v) (k : qY S X G nl Q σ (pc + 1) lv (.int v :: st)) : qY S X G nl Q σ pc lv st := fun H locs ls hP hS hl => lv_iconst C.1 C.2.1 hd hv (k H locs ls hP hS hl)
theorem q_bipush (C : qC S X G own cc nl d ret) {n : Int} {v : Int32} (hd : decode cc pc = .ok (.bipush n, 2)) (hv : (Int8.ofInt n).toInt32 = v) (k : qY S X G nl Q σ (pc + 2) lv (.int v :: st)) : qY S X G nl Q σ pc lv st := fun H locs ls hP hS hl => lv_bipush C.1 C.2.1 hd hv (k H locs ls hP hS hl)
theorem q_sipush (C : qC S X G own cc nl d ret) {n : Int} {v : Int32} (hd : decode cc pc = .ok (.sipush n, 3)) (hv : (Int16.ofInt n).toInt32 = v) (k : qY S X G nl Q σ (pc + 3) lv (.int v :: st)) : qY S X G nl Q σ pc lv st := fun H locs ls hP hS hl => lv_sipush C.1 C.2.1 hd hv (k H locs ls hP hS hl)
theorem q_lconst (C : qC S X G own cc nl d ret) {n : Fin 2} {v : Int64} (hd : decode cc pc = .ok (.lconst n, 1)) (hv : Int64.ofNat (n : Nat) = v) (k : qY S X G nl Q σ (pc + 1) lv (.long v :: st)) : qY S X G nl Q σ pc lv st := fun H locs ls hP hS hl => lv_lconst C.1 C.2.1 hd hv (k H locs ls hP hS hl)
theorem q_ldc (C : qC S X G own cc nl d ret) {i : Nat} {v : Int32} (hw : Cond.constant own i v ∈ gw) (hd : decode cc pc = .ok (.ldc i, 2)) (k : qY S X G nl Q σ (pc + 2) lv (.int v :: st)) : qY S X G nl Q σ pc lv st := fun H locs ls hP hS hl => lv_ldc C.1 C.2.1 C.2.2.2.1 (C.2.2.2.2.1 _ hw) hd (k H locs ls hP hS hl)
theorem q_ldcw (C : qC S X G own cc nl d ret) {i : Nat} {v : Int32} (hw : Cond.constant own i v ∈ gw) (hd : decode cc pc = .ok (.ldc_w i, 3)) (k : qY S X G nl Q σ (pc + 3) lv (.int v :: st)) : qY S X G nl Q σ pc lv st := fun H locs ls hP hS hl => lv_ldcw C.1 C.2.1 C.2.2.2.1 (C.2.2.2.2.1 _ hw) hd (k H locs ls hP hS hl)
theorem q_ldc2 (C : qC S X G own cc nl d ret) {i : Nat} {v : Int64} (hw : Cond.constantLong own i v ∈ gw) (hd : decode cc pc = .ok (.ldc2_w i, 3)) (k : qY S X G nl Q σ (pc + 3) lv (.long v :: st)) : qY S X G nl Q σ pc lv st := fun H locs ls hP hS hl => lv_ldc2 C.1 C.2.1 C.2.2.2.1 (C.2.2.2.2.1 _ hw) hd (k H locs ls hP hS hl)
theorem q_iload_n (C : qC S X G own cc nl d ret) {f : Fin 4} {i : Nat} {x : Int32} (j : Nat) (hk : lv[j]? = some (i, .int x)) (hd : decode cc pc = .ok (.iload_n f, 1)) (hi : (f : Nat) = i) (k : qY S X G nl Q σ (pc + 1) lv (.int x :: st)) : qY S X G nl Q σ pc lv st := fun H locs ls hP hS hl => lv_iload_n C.1 C.2.1 hd hi (lv_at hl j hk) (k H locs ls hP hS hl)
theorem q_iload (C : qC S X G own cc nl d ret) {i : Nat} {x : Int32} (j : Nat) (hk : lv[j]? = some (i, .int x)) (hd : decode cc pc = .ok (.iload i, 2)) (k : qY S X G nl Q σ (pc + 2) lv (.int x :: st)) : qY S X G nl Q σ pc lv st := fun H locs ls hP hS hl => lv_iload C.1 C.2.1 hd (lv_at hl j hk) (k H locs ls hP hS hl)
theorem q_lload_n (C : qC S X G own cc nl d ret) {f : Fin 4} {i : Nat} {x : Int64} (j : Nat) (hk : lv[j]? = some (i, .long x)) (hd : decode cc pc = .ok (.lload_n f, 1)) (hi : (f : Nat) = i) (k : qY S X G nl Q σ (pc + 1) lv (.long x :: st)) : qY S X G nl Q σ pc lv st := fun H locs ls hP hS hl => lv_lload_n C.1 C.2.1 hd hi (lv_at hl j hk) (k H locs ls hP hS hl)
theorem q_lload (C : qC S X G own cc nl d ret) {i : Nat} {x : Int64} (j : Nat) (hk : lv[j]? = some (i, .long x)) (hd : decode cc pc = .ok (.lload i, 2)) (k : qY S X G nl Q σ (pc + 2) lv (.long x :: st)) : qY S X G nl Q σ pc lv st := fun H locs ls hP hS hl => lv_lload C.1 C.2.1 hd (lv_at hl j hk) (k H locs ls hP hS hl)
theorem q_aload_n (C : qC S X G own cc nl d ret) {f : Fin 4} {i x : Nat} (j : Nat) (hk : lv[j]? = some (i, .ref x)) (hd : decode cc pc = .ok (.aload_n f, 1)) (hi : (f : Nat) = i) (k : qY S X G nl Q σ (pc + 1) lv (.ref x :: st)) : qY S X G nl Q σ pc lv st := fun H locs ls hP hS hl => lv_aload_n C.1 C.2.1 hd hi (lv_at hl j hk) (k H locs ls hP hS hl)
theorem q_aload (C : qC S X G own cc nl d ret) {i x : Nat} (j : Nat) (hk : lv[j]? = some (i, .ref x)) (hd : decode cc pc = .ok (.aload i, 2)) (k : qY S X G nl Q σ (pc + 2) lv (.ref x :: st)) : qY S X G nl Q σ pc lv st := fun H locs ls hP hS hl => lv_aload C.1 C.2.1 hd (lv_at hl j hk) (k H locs ls hP hS hl)
theorem q_istore_n (C : qC S X G own cc nl d ret) {f : Fin 4} {i : Nat} {x : Int32} (hd : decode cc pc = .ok (.istore_n f, 1)) (hi : (f : Nat) = i) (hn : i < nl) (hl0 : (i, Value.int x) :: lv.filter (fun q => !(q.1 == i) && !(q.1 + 1 == i && q.2.category == 2)) = lv') (k : qY S X G nl Q σ (pc + 1) lv' st) : qY S X G nl Q σ pc lv (.int x :: st) := fun H locs ls hP hS hl => lv_istore_n C.1 C.2.1 hd hi hl hn hl0 (fun ls hl => k H locs ls hP hS hl)
theorem q_istore (C : qC S X G own cc nl d ret) {i : Nat} {x : Int32} (hd : decode cc pc = .ok (.istore i, 2)) (hn : i < nl) (hl0 : (i, Value.int x) :: lv.filter (fun q => !(q.1 == i) && !(q.1 + 1 == i && q.2.category == 2)) = lv') (k : qY S X G nl Q σ (pc + 2) lv' st) : qY S X G nl Q σ pc lv (.int x :: st) := fun H locs ls hP hS hl => lv_istore C.1 C.2.1 hd hl hn hl0 (fun ls hl => k H locs ls hP hS hl)
theorem q_lstore_n (C : qC S X G own cc nl d ret) {f : Fin 4} {i : Nat} {x : Int64} (hd : decode cc pc = .ok (.lstore_n f, 1)) (hi : (f : Nat) = i) (hn : i + 1 < nl) (hl0 : (i, Value.long x) :: lv.filter (fun q => !(q.1 == i) && (!(q.1 == i + 1) && !(q.1 + 1 == i && q.2.category == 2))) = lv') (k : qY S X G nl Q σ (pc + 1) lv' st) : qY S X G nl Q σ pc lv (.long x :: st) := fun H locs ls hP hS hl => lv_lstore_n C.1 C.2.1 hd hi hl hn hl0 (fun ls hl => k H locs ls hP hS hl)
theorem q_lstore (C : qC S X G own cc nl d ret) {i : Nat} {x : Int64} (hd : decode cc pc = .ok (.lstore i, 2)) (hn : i + 1 < nl) (hl0 : (i, Value.long x) :: lv.filter (fun q => !(q.1 == i) && (!(q.1 == i + 1) && !(q.1 + 1 == i && q.2.category == 2))) = lv') (k : qY S X G nl Q σ (pc + 2) lv' st) : qY S X G nl Q σ pc lv (.long x :: st) := fun H locs ls hP hS hl => lv_lstore C.1 C.2.1 hd hl hn hl0 (fun ls hl => k H locs ls hP hS hl)
theorem q_astore_n (C : qC S X G own cc nl d ret) {f : Fin 4} {i x : Nat} (hd : decode cc pc = .ok (.astore_n f, 1)) (hi : (f : Nat) = i) (hn : i < nl) (hl0 : (i, Value.ref x) :: lv.filter (fun q => !(q.1 == i) && !(q.1 + 1 == i && q.2.category == 2)) = lv') (k : qY S X G nl Q σ (pc + 1) lv' st) : qY S X G nl Q σ pc lv (.ref x :: st) := fun H locs ls hP hS hl => lv_astore_n C.1 C.2.1 hd hi hl hn hl0 (fun ls hl => k H locs ls hP hS hl)
theorem q_astore (C : qC S X G own cc nl d ret) {i x : Nat} (hd : decode cc pc = .ok (.astore i, 2)) (hn : i < nl) (hl0 : (i, Value.ref x) :: lv.filter (fun q => !(q.1 == i) && !(q.1 + 1 == i && q.2.category == 2)) = lv') (k : qY S X G nl Q σ (pc + 2) lv' st) : qY S X G nl Q σ pc lv (.ref x :: st) := fun H locs ls hP hS hl => lv_astore C.1 C.2.1 hd hl hn hl0 (fun ls hl => k H locs ls hP hS hl)
theorem q_iinc (C : qC S X G own cc nl d ret) {i : Nat} {n : Int} {x v : Int32} (j : Nat) (hk : lv[j]? = some (i, .int x)) (hd : decode cc pc = .ok (.iinc i n, 3)) (hv : x + Int32.ofInt n = v) (hn : i < nl) (hl0 : (i, Value.int v) :: lv.filter (fun q => !(q.1 == i) && !(q.1 + 1 == i && q.2.category == 2)) = lv') (k : qY S X G nl Q σ (pc + 3) lv' st) : qY S X G nl Q σ pc lv st := fun H locs ls hP hS hl => lv_iinc C.1 C.2.1 hd hl hk hv hn hl0 (fun ls hl => k H locs ls hP hS hl)
theorem q_iadd (C : qC S X G own cc nl d ret) {x y : Int32} (hd : decode cc pc = .ok (.iadd, 1)) (k : qY S X G nl Q σ (pc + 1) lv (.int (x + y) :: st)) : qY S X G nl Q σ pc lv (.int y :: .int x :: st) := fun H locs ls hP hS hl => lv_iadd C.1 C.2.1 hd (k H locs ls hP hS hl)
theorem q_isub (C : qC S X G own cc nl d ret) {x y : Int32} (hd : decode cc pc = .ok (.isub, 1)) (k : qY S X G nl Q σ (pc + 1) lv (.int (x - y) :: st)) : qY S X G nl Q σ pc lv (.int y :: .int x :: st) := fun H locs ls hP hS hl => lv_isub C.1 C.2.1 hd (k H locs ls hP hS hl)
theorem q_imul (C : qC S X G own cc nl d ret) {x y : Int32} (hd : decode cc pc = .ok (.imul, 1)) (k : qY S X G nl Q σ (pc + 1) lv (.int (x * y) :: st)) : qY S X G nl Q σ pc lv (.int y :: .int x :: st) := fun H locs ls hP hS hl => lv_imul C.1 C.2.1 hd (k H locs ls hP hS hl)
theorem q_iand (C : qC S X G own cc nl d ret) {x y : Int32} (hd : decode cc pc = .ok (.iand, 1)) (k : qY S X G nl Q σ (pc + 1) lv (.int (x &&& y) :: st)) : qY S X G nl Q σ pc lv (.int y :: .int x :: st) := fun H locs ls hP hS hl => lv_iand C.1 C.2.1 hd (k H locs ls hP hS hl)
theorem q_ior (C : qC S X G own cc nl d ret) {x y : Int32} (hd : decode cc pc = .ok (.ior, 1)) (k : qY S X G nl Q σ (pc + 1) lv (.int (x ||| y) :: st)) : qY S X G nl Q σ pc lv (.int y :: .int x :: st) := fun H locs ls hP hS hl => lv_ior C.1 C.2.1 hd (k H locs ls hP hS hl)
theorem q_ixor (C : qC S X G own cc nl d ret) {x y : Int32} (hd : decode cc pc = .ok (.ixor, 1)) (k : qY S X G nl Q σ (pc + 1) lv (.int (x ^^^ y) :: st)) : qY S X G nl Q σ pc lv (.int y :: .int x :: st) := fun H locs ls hP hS hl => lv_ixor C.1 C.2.1 hd (k H locs ls hP hS hl)
theorem q_idiv (C : qC S X G own cc nl d ret) {x y : Int32} (hd : decode cc pc = .ok (.idiv, 1)) (hne : ¬ y = 0) (k : qY S X G nl Q σ (pc + 1) lv (.int (x / y) :: st)) : qY S X G nl Q σ pc lv (.int y :: .int x :: st) := fun H locs ls hP hS hl => lv_idiv C.1 C.2.1 hd hne (k H locs ls hP hS hl)
theorem q_irem (C : qC S X G own cc nl d ret) {x y : Int32} (hd : decode cc pc = .ok (.irem, 1)) (hne : ¬ y = 0) (k : qY S X G nl Q σ (pc + 1) lv (.int (x - x / y * y) :: st)) : qY S X G nl Q σ pc lv (.int y :: .int x :: st) := fun H locs ls hP hS hl => lv_irem C.1 C.2.1 hd hne (k H locs ls hP hS hl)
theorem q_ineg (C : qC S X G own cc nl d ret) {x : Int32} (hd : decode cc pc = .ok (.ineg, 1)) (k : qY S X G nl Q σ (pc + 1) lv (.int (-x) :: st)) : qY S X G nl Q σ pc lv (.int x :: st) := fun H locs ls hP hS hl => lv_ineg C.1 C.2.1 hd (k H locs ls hP hS hl)
theorem q_ladd (C : qC S X G own cc nl d ret) {x y : Int64} (hd : decode cc pc = .ok (.ladd, 1)) (k : qY S X G nl Q σ (pc + 1) lv (.long (x + y) :: st)) : qY S X G nl Q σ pc lv (.long y :: .long x :: st) := fun H locs ls hP hS hl => lv_ladd C.1 C.2.1 hd (k H locs ls hP hS hl)
theorem q_lsub (C : qC S X G own cc nl d ret) {x y : Int64} (hd : decode cc pc = .ok (.lsub, 1)) (k : qY S X G nl Q σ (pc + 1) lv (.long (x - y) :: st)) : qY S X G nl Q σ pc lv (.long y :: .long x :: st) := fun H locs ls hP hS hl => lv_lsub C.1 C.2.1 hd (k H locs ls hP hS hl)
theorem q_lmul (C : qC S X G own cc nl d ret) {x y : Int64} (hd : decode cc pc = .ok (.lmul, 1)) (k : qY S X G nl Q σ (pc + 1) lv (.long (x * y) :: st)) : qY S X G nl Q σ pc lv (.long y :: .long x :: st) := fun H locs ls hP hS hl => lv_lmul C.1 C.2.1 hd (k H locs ls hP hS hl)
theorem q_ldiv (C : qC S X G own cc nl d ret) {x y : Int64} (hd : decode cc pc = .ok (.ldiv, 1)) (hne : ¬ y = 0) (k : qY S X G nl Q σ (pc + 1) lv (.long (x / y) :: st)) : qY S X G nl Q σ pc lv (.long y :: .long x :: st) := fun H locs ls hP hS hl => lv_ldiv C.1 C.2.1 hd hne (k H locs ls hP hS hl)
theorem q_lrem (C : qC S X G own cc nl d ret) {x y : Int64} (hd : decode cc pc = .ok (.lrem, 1)) (hne : ¬ y = 0) (k : qY S X G nl Q σ (pc + 1) lv (.long (x - x / y * y) :: st)) : qY S X G nl Q σ pc lv (.long y :: .long x :: st) := fun H locs ls hP hS hl => lv_lrem C.1 C.2.1 hd hne (k H locs ls hP hS hl)
theorem q_ishl (C : qC S X G own cc nl d ret) {x y : Int32} (hd : decode cc pc = .ok (.ishl, 1)) (k : qY S X G nl Q σ (pc + 1) lv (.int (x <<< (y &&& 31)) :: st)) : qY S X G nl Q σ pc lv (.int y :: .int x :: st) := fun H locs ls hP hS hl => lv_ishl C.1 C.2.1 hd (k H locs ls hP hS hl)
theorem q_ishr (C : qC S X G own cc nl d ret) {x y : Int32} (hd : decode cc pc = .ok (.ishr, 1)) (k : qY S X G nl Q σ (pc + 1) lv (.int (x >>> (y &&& 31)) :: st)) : qY S X G nl Q σ pc lv (.int y :: .int x :: st) := fun H locs ls hP hS hl => lv_ishr C.1 C.2.1 hd (k H locs ls hP hS hl)
/-- >>> of ints, shifts of longs: the machine's own words, named -/
def jushr (x y : Int32) : Int32 := (x.toUInt32 >>> (y.toUInt32 &&& Int32.toUInt32 31)).toInt32
def jlshl (x : Int64) (y : Int32) : Int64 := x <<< (y.toInt64 &&& 63)
def jlshr (x : Int64) (y : Int32) : Int64 := x >>> (y.toInt64 &&& 63)
def jlushr (x : Int64) (y : Int32) : Int64 := (x.toUInt64 >>> (y.toInt64.toUInt64 &&& Int64.toUInt64 63)).toInt64
def ji2c (x : Int32) : Int32 := (x.toUInt32 % 65536).toInt32
theorem q_iushr (C : qC S X G own cc nl d ret) {x y : Int32} (hd : decode cc pc = .ok (.iushr, 1)) (k : qY S X G nl Q σ (pc + 1) lv (.int (jushr x y) :: st)) : qY S X G nl Q σ pc lv (.int y :: .int x :: st) := fun H locs ls hP hS hl => lv_iushr C.1 C.2.1 hd rfl (k H locs ls hP hS hl)
theorem q_lshl (C : qC S X G own cc nl d ret) {x : Int64} {y : Int32} (hd : decode cc pc = .ok (.lshl, 1)) (k : qY S X G nl Q σ (pc + 1) lv (.long (jlshl x y) :: st)) : qY S X G nl Q σ pc lv (.int y :: .long x :: st) := fun H locs ls hP hS hl => lv_lshl C.1 C.2.1 hd rfl (k H locs ls hP hS hl)
theorem q_lshr (C : qC S X G own cc nl d ret) {x : Int64} {y : Int32} (hd : decode cc pc = .ok (.lshr, 1)) (k : qY S X G nl Q σ (pc + 1) lv (.long (jlshr x y) :: st)) : qY S X G nl Q σ pc lv (.int y :: .long x :: st) := fun H locs ls hP hS hl => lv_lshr C.1 C.2.1 hd rfl (k H locs ls hP hS hl)
theorem q_lushr (C : qC S X G own cc nl d ret) {x : Int64} {y : Int32} (hd : decode cc pc = .ok (.lushr, 1)) (k : qY S X G nl Q σ (pc + 1) lv (.long (jlushr x y) :: st)) : qY S X G nl Q σ pc lv (.int y :: .long x :: st) := fun H locs ls hP hS hl => lv_lushr C.1 C.2.1 hd rfl (k H locs ls hP hS hl)
theorem q_i2l (C : qC S X G own cc nl d ret) {x : Int32} (hd : decode cc pc = .ok (.i2l, 1)) (k : qY S X G nl Q σ (pc + 1) lv (.long x.toInt64 :: st)) : qY S X G nl Q σ pc lv (.int x :: st) := fun H locs ls hP hS hl => lv_i2l C.1 C.2.1 hd rfl (k H locs ls hP hS hl)
theorem q_l2i (C : qC S X G own cc nl d ret) {x : Int64} (hd : decode cc pc = .ok (.l2i, 1)) (k : qY S X G nl Q σ (pc + 1) lv (.int x.toInt32 :: st)) : qY S X G nl Q σ pc lv (.long x :: st) := fun H locs ls hP hS hl => lv_l2i C.1 C.2.1 hd rfl (k H locs ls hP hS hl)
theorem q_i2b (C : qC S X G own cc nl d ret) {x : Int32} (hd : decode cc pc = .ok (.i2b, 1)) (k : qY S X G nl Q σ (pc + 1) lv (.int x.toInt8.toInt32 :: st)) : qY S X G nl Q σ pc lv (.int x :: st) := fun H locs ls hP hS hl => lv_i2b C.1 C.2.1 hd rfl (k H locs ls hP hS hl)
theorem q_i2s (C : qC S X G own cc nl d ret) {x : Int32} (hd : decode cc pc = .ok (.i2s, 1)) (k : qY S X G nl Q σ (pc + 1) lv (.int x.toInt16.toInt32 :: st)) : qY S X G nl Q σ pc lv (.int x :: st) := fun H locs ls hP hS hl => lv_i2s C.1 C.2.1 hd rfl (k H locs ls hP hS hl)
theorem q_i2c (C : qC S X G own cc nl d ret) {x : Int32} (hd : decode cc pc = .ok (.i2c, 1)) (k : qY S X G nl Q σ (pc + 1) lv (.int (ji2c x) :: st)) : qY S X G nl Q σ pc lv (.int x :: st) := fun H locs ls hP hS hl => lv_i2c C.1 C.2.1 hd rfl (k H locs ls hP hS hl)
theorem q_lcmp (C : qC S X G own cc nl d ret) {x y : Int64} (hd : decode cc pc = .ok (.lcmp, 1)) (k : qY S X G nl Q σ (pc + 1) lv (.int (lg_cmp x y) :: st)) : qY S X G nl Q σ pc lv (.long y :: .long x :: st) := fun H locs ls hP hS hl => W.lcmp C.1 C.2.1 hd (k H locs ls hP hS hl)
theorem q_dup (C : qC S X G own cc nl d ret) {v : Value} (hd : decode cc pc = .ok (.dup, 1)) (hv : v.category = 1) (k : qY S X G nl Q σ (pc + 1) lv (v :: v :: st)) : qY S X G nl Q σ pc lv (v :: st) := fun H locs ls hP hS hl => lv_dup C.1 C.2.1 hd hv (k H locs ls hP hS hl)
theorem q_pop (C : qC S X G own cc nl d ret) {v : Value} (hd : decode cc pc = .ok (.pop, 1)) (hv : v.category = 1) (k : qY S X G nl Q σ (pc + 1) lv st) : qY S X G nl Q σ pc lv (v :: st) := fun H locs ls hP hS hl => lv_pop C.1 C.2.1 hd hv (k H locs ls hP hS hl)
theorem q_dup2 (C : qC S X G own cc nl d ret) {v w : Value} (hd : decode cc pc = .ok (.dup2, 1)) (hv : v.category = 1) (hw : w.category = 1) (k : qY S X G nl Q σ (pc + 1) lv (v :: w :: v :: w :: st)) : qY S X G nl Q σ pc lv (v :: w :: st) := fun H locs ls hP hS hl => lv_dup2_11 C.1 C.2.1 hd hv hw (k H locs ls hP hS hl)
theorem q_goto (C : qC S X G own cc nl d ret) {off : Int} (tgt : Nat) (hd : decode cc pc = .ok (.goto off, 3)) (ht : (pc : Int) + off = (tgt : Int)) (k : qY S X G nl Q σ tgt lv st) : qY S X G nl Q σ pc lv st := fun H locs ls hP hS hl => lv_goto C.1 C.2.1 hd ht (k H locs ls hP hS hl)
theorem q_if_eq (C : qC S X G own cc nl d ret) {x : Int32} {off : Int} (tgt : Nat) (hd : decode cc pc = .ok (.ifCond .eq off, 3)) (ht : (pc : Int) + off = (tgt : Int)) (kt : x = 0 → qY S X G nl Q σ tgt lv st) (kf : ¬ x = 0 → qY S X G nl Q σ (pc + 3) lv st) : qY S X G nl Q σ pc lv (.int x :: st) := fun H locs ls hP hS hl => lv_if_eq C.1 C.2.1 hd ht (fun h => kt h H locs ls hP hS hl) (fun h => kf h H locs ls hP hS hl)
theorem q_if_ne (C : qC S X G own cc nl d ret) {x : Int32} {off : Int} (tgt : Nat) (hd : decode cc pc = .ok (.ifCond .ne off, 3)) (ht : (pc : Int) + off = (tgt : Int)) (kt : ¬ x = 0 → qY S X G nl Q σ tgt lv st) (kf : x = 0 → qY S X G nl Q σ (pc + 3) lv st) : qY S X G nl Q σ pc lv (.int x :: st) := fun H locs ls hP hS hl => lv_if_ne C.1 C.2.1 hd ht (fun h => kt h H locs ls hP hS hl) (fun h => kf h H locs ls hP hS hl)
theorem q_if_lt (C : qC S X G own cc nl d ret) {x : Int32} {off : Int} (tgt : Nat) (hd : decode cc pc = .ok (.ifCond .lt off, 3)) (ht : (pc : Int) + off = (tgt : Int)) (kt : x < 0 → qY S X G nl Q σ tgt lv st) (kf : ¬ x < 0 → qY S X G nl Q σ (pc + 3) lv st) : qY S X G nl Q σ pc lv (.int x :: st) := fun H locs ls hP hS hl => lv_if_lt C.1 C.2.1 hd ht (fun h => kt h H locs ls hP hS hl) (fun h => kf h H locs ls hP hS hl)
theorem q_if_ge (C : qC S X G own cc nl d ret) {x : Int32} {off : Int} (tgt : Nat) (hd : decode cc pc = .ok (.ifCond .ge off, 3)) (ht : (pc : Int) + off = (tgt : Int)) (kt : 0 ≤ x → qY S X G nl Q σ tgt lv st) (kf : ¬ 0 ≤ x → qY S X G nl Q σ (pc + 3) lv st) : qY S X G nl Q σ pc lv (.int x :: st) := fun H locs ls hP hS hl => lv_if_ge C.1 C.2.1 hd ht (fun h => kt h H locs ls hP hS hl) (fun h => kf h H locs ls hP hS hl)
theorem q_if_gt (C : qC S X G own cc nl d ret) {x : Int32} {off : Int} (tgt : Nat) (hd : decode cc pc = .ok (.ifCond .gt off, 3)) (ht : (pc : Int) + off = (tgt : Int)) (kt : 0 < x → qY S X G nl Q σ tgt lv st) (kf : ¬ 0 < x → qY S X G nl Q σ (pc + 3) lv st) : qY S X G nl Q σ pc lv (.int x :: st) := fun H locs ls hP hS hl => lv_if_gt C.1 C.2.1 hd ht (fun h => kt h H locs ls hP hS hl) (fun h => kf h H locs ls hP hS hl)
theorem q_if_le (C : qC S X G own cc nl d ret) {x : Int32} {off : Int} (tgt : Nat) (hd : decode cc pc = .ok (.ifCond .le off, 3)) (ht : (pc : Int) + off = (tgt : Int)) (kt : x ≤ 0 → qY S X G nl Q σ tgt lv st) (kf : ¬ x ≤ 0 → qY S X G nl Q σ (pc + 3) lv st) : qY S X G nl Q σ pc lv (.int x :: st) := fun H locs ls hP hS hl => lv_if_le C.1 C.2.1 hd ht (fun h => kt h H locs ls hP hS hl) (fun h => kf h H locs ls hP hS hl)
theorem q_ic_eq (C : qC S X G own cc nl d ret) {x y : Int32} {off : Int} (tgt : Nat) (hd : decode cc pc = .ok (.if_icmp .eq off, 3)) (ht : (pc : Int) + off = (tgt : Int)) (kt : x = y → qY S X G nl Q σ tgt lv st) (kf : ¬ x = y → qY S X G nl Q σ (pc + 3) lv st) : qY S X G nl Q σ pc lv (.int y :: .int x :: st) := fun H locs ls hP hS hl => lv_icmp_eq C.1 C.2.1 hd ht (fun h => kt h H locs ls hP hS hl) (fun h => kf h H locs ls hP hS hl)
theorem q_ic_ne (C : qC S X G own cc nl d ret) {x y : Int32} {off : Int} (tgt : Nat) (hd : decode cc pc = .ok (.if_icmp .ne off, 3)) (ht : (pc : Int) + off = (tgt : Int)) (kt : ¬ x = y → qY S X G nl Q σ tgt lv st) (kf : x = y → qY S X G nl Q σ (pc + 3) lv st) : qY S X G nl Q σ pc lv (.int y :: .int x :: st) := fun H locs ls hP hS hl => lv_icmp_ne C.1 C.2.1 hd ht (fun h => kt h H locs ls hP hS hl) (fun h => kf h H locs ls hP hS hl)
theorem q_ic_lt (C : qC S X G own cc nl d ret) {x y : Int32} {off : Int} (tgt : Nat) (hd : decode cc pc = .ok (.if_icmp .lt off, 3)) (ht : (pc : Int) + off = (tgt : Int)) (kt : x < y → qY S X G nl Q σ tgt lv st) (kf : ¬ x < y → qY S X G nl Q σ (pc + 3) lv st) : qY S X G nl Q σ pc lv (.int y :: .int x :: st) := fun H locs ls hP hS hl => lv_icmp_lt C.1 C.2.1 hd ht (fun h => kt h H locs ls hP hS hl) (fun h => kf h H locs ls hP hS hl)
theorem q_ic_ge (C : qC S X G own cc nl d ret) {x y : Int32} {off : Int} (tgt : Nat) (hd : decode cc pc = .ok (.if_icmp .ge off, 3)) (ht : (pc : Int) + off = (tgt : Int)) (kt : y ≤ x → qY S X G nl Q σ tgt lv st) (kf : ¬ y ≤ x → qY S X G nl Q σ (pc + 3) lv st) : qY S X G nl Q σ pc lv (.int y :: .int x :: st) := fun H locs ls hP hS hl => lv_icmp_ge C.1 C.2.1 hd ht (fun h => kt h H locs ls hP hS hl) (fun h => kf h H locs ls hP hS hl)
theorem q_ic_gt (C : qC S X G own cc nl d ret) {x y : Int32} {off : Int} (tgt : Nat) (hd : decode cc pc = .ok (.if_icmp .gt off, 3)) (ht : (pc : Int) + off = (tgt : Int)) (kt : y < x → qY S X G nl Q σ tgt lv st) (kf : ¬ y < x → qY S X G nl Q σ (pc + 3) lv st) : qY S X G nl Q σ pc lv (.int y :: .int x :: st) := fun H locs ls hP hS hl => lv_icmp_gt C.1 C.2.1 hd ht (fun h => kt h H locs ls hP hS hl) (fun h => kf h H locs ls hP hS hl)
theorem q_ic_le (C : qC S X G own cc nl d ret) {x y : Int32} {off : Int} (tgt : Nat) (hd : decode cc pc = .ok (.if_icmp .le off, 3)) (ht : (pc : Int) + off = (tgt : Int)) (kt : x ≤ y → qY S X G nl Q σ tgt lv st) (kf : ¬ x ≤ y → qY S X G nl Q σ (pc + 3) lv st) : qY S X G nl Q σ pc lv (.int y :: .int x :: st) := fun H locs ls hP hS hl => lv_icmp_le C.1 C.2.1 hd ht (fun h => kt h H locs ls hP hS hl) (fun h => kf h H locs ls hP hS hl)
theorem q_lookup (C : qC S X G own cc nl d ret) {dflt : Int} {ps : Array (Int × Int)} {len : Nat} {x : Int32} {off : Int} (tgt : Nat) (hd : decode cc pc = .ok (.lookupswitch dflt ps, len)) (hp : (ps.toList.zip (ps.toList.drop 1)).all (fun (a, next) => a.1 < next.1) = true) (ho : Op.lookupswitch.offset ps.toList dflt x.toInt = off) (ht : (pc : Int) + off = (tgt : Int)) (k : qY S X G nl Q σ tgt lv st) : qY S X G nl Q σ pc lv (.int x :: st) := fun H locs ls hP hS hl => lv_lookup C.1 C.2.1 hd hp ho ht (k H locs ls hP hS hl)
theorem q_tableOut (C : qC S X G own cc nl d ret) {dflt lo hi : Int} {offs : Array Int} {len : Nat} {x : Int32} (tgt : Nat) (hd : decode cc pc = .ok (.tableswitch dflt lo hi offs, len)) (h : x.toInt < lo ∨ hi < x.toInt) (ht : (pc : Int) + dflt = (tgt : Int)) (k : qY S X G nl Q σ tgt lv st) : qY S X G nl Q σ pc lv (.int x :: st) := fun H locs ls hP hS hl => lv_tableOut C.1 C.2.1 hd h ht (k H locs ls hP hS hl)
theorem q_tableIn (C : qC S X G own cc nl d ret) {dflt lo hi : Int} {offs : Array Int} {len : Nat} {x : Int32} {off : Int} (tgt : Nat) (hd : decode cc pc = .ok (.tableswitch dflt lo hi offs, len)) (h1 : ¬ x.toInt < lo) (h2 : ¬ hi < x.toInt) (ho : offs[(x.toInt - lo).toNat]? = some off) (ht : (pc : Int) + off = (tgt : Int)) (k : qY S X G nl Q σ tgt lv st) : qY S X G nl Q σ pc lv (.int x :: st) := fun H locs ls hP hS hl => lv_tableIn C.1 C.2.1 hd h1 h2 ho ht (k H locs ls hP hS hl)
/-! returns -/
theorem q_iret (C : qC S X G own cc nl d (some .int)) {v : Int32} (hd : decode cc pc = .ok (.ireturn, 1)) : qY S X G nl (q_Q S X G (some (.int v)) σ) σ pc lv [.int v] := fun H locs ls hP hS hl => W.iret C.1 C.2.1 C.2.2.2.2.2.2.2.2.2.1 (fun t ht hW => ⟨rfl, by rw [ht]; exact hP, hS.F ht⟩) hS.2.2 hd C.2.2.2.2.2.2.2.2.2.2
theorem q_zret (C : qC S X G own cc nl d (some .boolean)) {v : Int32} (hv : v = 0 ∨ v = 1) (hd : decode cc pc = .ok (.ireturn, 1)) : qY S X G nl (q_Q S X G (some (.int v)) σ) σ pc lv [.int v] := fun H locs ls hP hS hl => W.zret C.1 C.2.1 C.2.2.2.2.2.2.2.2.2.1 (by rcases hv with rfl | rfl <;> rfl) (fun t ht hW => ⟨rfl, by rw [ht]; exact hP, hS.F ht⟩) hS.2.2 hd C.2.2.2.2.2.2.2.2.2.2
theorem q_lret (C : qC S X G own cc nl d (some .long)) {v : Int64} (hd : decode cc pc = .ok (.lreturn, 1)) : qY S X G nl (q_Q S X G (some (.long v)) σ) σ pc lv [.long v] := fun H locs ls hP hS hl => W.lret C.1 C.2.1 C.2.2.2.2.2.2.2.2.2.1 (fun t ht hW => ⟨rfl, by rw [ht]; exact hP, hS.F ht⟩) hS.2.2 hd C.2.2.2.2.2.2.2.2.2.2
theorem q_vret (C : qC S X G own cc nl d none) (hd : decode cc pc = .ok (.return_, 1)) : qY S X G nl (q_Q S X G none σ) σ pc lv [] := fun H locs ls hP hS hl => W.vret C.1 C.2.1 C.2.2.2.2.2.2.2.2.2.1 (fun t ht hW => ⟨rfl, by rw [ht]; exact hP, hS.F ht⟩) hS.2.2 hd C.2.2.2.2.2.2.2.2.2.2
theorem q_aret {cn : String} (C : qC S X G own cc nl d (some (.object cn))) {a : Nat} (hd : decode cc pc = .ok (.areturn, 1)) : qY S X G nl (q_Q S X G (some (.ref a)) σ) σ pc lv [.ref a] := fun H locs ls hP hS hl => W.aret C.1 C.2.1 C.2.2.2.2.2.2.2.2.2.1 (Or.inl ⟨_, rfl⟩) (Or.inr ⟨_, rfl⟩) (fun t ht hW => ⟨rfl, by rw [ht]; exact hP, hS.F ht⟩) hS.2.2 hd C.2.2.2.2.2.2.2.2.2.2
end QR
end
section
/-! ===== rows over a static world: fields, arrays, calls ===== -/
/-- a field's link: own's entry idx is field k of class ci -/
def q_FL (own : String) (idx ci k : Nat) (ty : FieldType) (fin : Bool) : Prop :=
  ∃ (cn : String) (T : u_T) (ty0 : Nat → FieldType), vwCl[ci]? = some (cn, T, q_nf ci) ∧ k < q_nf ci ∧ ci < 6 ∧ Cond.fieldLink own idx (T k).1 (T k).2.1 (T k).2.2.1 ∈ gw ∧ (T k).2.2.2 = fin ∧ (∀ j, j < q_nf ci → parseFieldDescriptor (T j).2.2.1 = some (ty0 j)) ∧ (∀ a, a < q_nf ci → ∀ b, b < q_nf ci → a ≠ b → (T a).2.1 ≠ (T b).2.1) ∧ ty0 k = ty ∧ ∀ w ∈ u_ws cn T (q_nf ci), w ∈ gw
/-- a method that is called on an object -/
def q_YI (y : MethodName) (cc : ByteArray) (nl : Nat) (ret : Option FieldType) (ci n : Nat) : Prop :=
  Cond.instanceMethod y ∈ gw ∧ Cond.selects y.cls y y ∈ gw ∧ Cond.initialized y.cls ∈ gw ∧ Cond.code y cc nl ret ∈ gw ∧ (y.cls ≠ "java/lang/invoke/MethodHandle" ∧ y.cls ≠ "java/lang/invoke/VarHandle" ∧ (parseMethodDescriptor y.desc).map (fun d => d.parameters.length) = some n) ∧ nl ≤ 19 ∧ ci < 6 ∧ (vwCl[ci]?).map (fun q => q.1) = some y.cls
def q_YS (y : MethodName) (cc : ByteArray) (nl : Nat) (ret : Option FieldType) (n : Nat) : Prop :=
  Cond.static y ∈ gw ∧ Cond.initialized y.cls ∈ gw ∧ Cond.code y cc nl ret ∈ gw ∧ (y.cls ≠ "java/lang/invoke/MethodHandle" ∧ y.cls ≠ "java/lang/invoke/VarHandle" ∧ (parseMethodDescriptor y.desc).map (fun d => d.parameters.length) = some n) ∧ nl ≤ 19
theorem q_good {y : MethodName} {cc : ByteArray} {nl : Nat} {ret : Option FieldType} (h : Cond.code y cc nl ret ∈ gw) : GoodIn gw (Cond.code y cc nl ret :: gw) := by
  intro w hw
  rcases List.mem_cons.mp hw with rfl | h1
  · exact ⟨h, gw_good h⟩
  · exact ⟨h1, gw_good h1⟩
theorem q_blind {S : qS} {G : qG} {σ : qM} {av : List Value} : FrameBlind (va_Pc av (q_Pre S G σ)) := by
  intro a U g mk h
  obtain ⟨h0, hP, hK, hI, hT⟩ := h
  exact ⟨h0, hP, va_K.moved (u := U) (U := U.calling g mk a) (Vm.Alike.refl U.vm) hK, hI, hT.call⟩
section QH
variable {S : qS} {X : qX} {G : qG} {own : String} {cc : ByteArray} {nl d : Nat} {ret : Option FieldType} {Q : State → Prop} {σ : qM} {pc : Nat} {lv lv' : List (Nat × Value)} {st : List Value}
theorem q_getI (C : qC S X G own cc nl d ret) {idx ci k o : Nat} {ty : FieldType} {fin : Bool} (F : q_FL own idx ci k ty fin) (ho : q_kd S o = ci) (hr : q_isr ci k = false) (hd : decode cc pc = .ok (.getfield idx, 3)) (kk : qY S X G nl Q σ (pc + 3) lv (.int (σ o k) :: st)) : qY S X G nl Q σ pc lv (.ref (q_ad G o) :: st) := by
  intro H locs ls hP hS hl
  obtain ⟨cn, T, ty0, h1, h2, h3, h4, h5, h6, h7, h8, h9⟩ := F
  have hN : o < q_N S := C.2.2.2.2.2.2.1.2 o (by omega)
  exact va_get (D := q_D G) (cl := vwCl) (ci := ci) (C := cn) (T := T) (N := q_nf ci) C.1 C.2.1 C.2.2.2.2.1 h9 C.2.2.2.1 C.2.2.2.2.2.1 hP o (by rw [q_at hN, q_en_obj ho h3]) h1 k h2 (C.2.2.2.2.1 _ h4) (fun _ h => h) (v := .int (σ o k)) (by rw [q_fs_at h2]; simp [q_fv, hr]) hd (kk H locs ls hP hS hl)
theorem q_getR (C : qC S X G own cc nl d ret) {idx ci k o t : Nat} {ty : FieldType} {fin : Bool} (F : q_FL own idx ci k ty fin) (ho : q_kd S o = ci) (hr : q_isr ci k = true) (ht : q_rf S o k = t) (hd : decode cc pc = .ok (.getfield idx, 3)) (kk : qY S X G nl Q σ (pc + 3) lv (.ref (q_ad G t) :: st)) : qY S X G nl Q σ pc lv (.ref (q_ad G o) :: st) := by
  intro H locs ls hP hS hl
  subst ht
  obtain ⟨cn, T, ty0, h1, h2, h3, h4, h5, h6, h7, h8, h9⟩ := F
  have hN : o < q_N S := C.2.2.2.2.2.2.1.2 o (by omega)
  exact va_get (D := q_D G) (cl := vwCl) (ci := ci) (C := cn) (T := T) (N := q_nf ci) C.1 C.2.1 C.2.2.2.2.1 h9 C.2.2.2.1 C.2.2.2.2.2.1 hP o (by rw [q_at hN, q_en_obj ho h3]) h1 k h2 (C.2.2.2.2.1 _ h4) (fun _ h => h) (v := .ref (q_ad G (q_rf S o k))) (by rw [q_fs_at h2]; simp [q_fv, hr]) hd (kk H locs ls hP hS hl)
theorem q_putI (C : qC S X G own cc nl d ret) {idx ci k o : Nat} {ty : FieldType} {v : Int32} (F : q_FL own idx ci k ty false) (ho : q_kd S o = ci) (hr : q_isr ci k = false) (hn : narrow ty (.int v) = .int v) (hf : fits ty (.int v) = true) (hd : decode cc pc = .ok (.putfield idx, 3)) (kk : qY S X G nl Q (qup σ o k v) (pc + 3) lv st) : qY S X G nl Q σ pc lv (.int v :: .ref (q_ad G o) :: st) := by
  intro H locs ls hP hS hl
  obtain ⟨cn, T, ty0, h1, h2, h3, h4, h5, h6, h7, h8, h9⟩ := F
  have hN : o < q_N S := C.2.2.2.2.2.2.1.2 o (by omega)
  have he : (q_ws S G σ)[o]? = some (q_ad G o, .inr (ci, q_fs S G (σ o) o ci)) := by rw [q_at hN, q_en_obj ho h3]
  refine va_put (D := q_D G) (cl := vwCl) (ci := ci) (C := cn) (T := T) (N := q_nf ci) (v := .int v) (ty := ty) C.1 C.2.1 C.2.2.2.2.1 h9 ty0 h6 h7 C.2.2.2.1 C.2.2.2.2.2.1 hP (q_dis σ C.2.2.2.2.2.2.1) hS o he h1 k h2 (C.2.2.2.2.1 _ h4) (fun _ h => h) h5 (by rw [h6 k h2, h8]) hn hf (by simpa [q_fs] using h2) hd (fun H1 locs1 hP1 hD1 hS1 => ?_)
  refine kk H1 locs1 ls ?_ hS1 hl
  rw [q_fs_set h2 hr, ← q_en_obj (G := G) (f := upd (σ o) k v) ho h3, q_wset] at hP1
  exact hP1
theorem q_iald (C : qC S X G own cc nl d ret) {o n : Nat} {i : Int32} (ho : q_kd S o = 6) (hn : q_ln S o = n) (hi : vp_in i n) (hd : decode cc pc = .ok (.iaload, 1)) (kk : qY S X G nl Q σ (pc + 1) lv (.int (σ o i.toNatClampNeg) :: st)) : qY S X G nl Q σ pc lv (.int i :: .ref (q_ad G o) :: st) := by
  intro H locs ls hP hS hl
  subst hn
  have hN : o < q_N S := C.2.2.2.2.2.2.1.2 o (by omega)
  exact va_iald (D := q_D G) (cl := vwCl) C.1 C.2.1 C.2.2.2.2.2.1 hP o 0 (by rw [q_at hN, q_en_6 ho]) rfl hi hd (kk H locs ls hP hS hl)
theorem q_iast (C : qC S X G own cc nl d ret) {o n : Nat} {i v : Int32} (ho : q_kd S o = 6) (hn : q_ln S o = n) (hi : vp_in i n) (hd : decode cc pc = .ok (.iastore, 1)) (kk : qY S X G nl Q (qup σ o i.toNatClampNeg v) (pc + 1) lv st) : qY S X G nl Q σ pc lv (.int v :: .int i :: .ref (q_ad G o) :: st) := by
  intro H locs ls hP hS hl
  subst hn
  have hN : o < q_N S := C.2.2.2.2.2.2.1.2 o (by omega)
  refine va_iast (D := q_D G) (cl := vwCl) C.1 C.2.1 C.2.2.2.2.2.1 hP (q_dis σ C.2.2.2.2.2.2.1) hS o 0 (by rw [q_at hN, q_en_6 ho]) rfl hi hd (fun H1 locs1 hP1 hD1 hS1 => ?_)
  refine kk H1 locs1 ls ?_ hS1 hl
  rw [← q_en_6 (G := G) (f := upd (σ o) i.toNatClampNeg v) ho, q_wset] at hP1
  exact hP1
theorem q_alen (C : qC S X G own cc nl d ret) {o n : Nat} (ho : q_kd S o = 6) (hn : q_ln S o = n) (hd : decode cc pc = .ok (.arraylength, 1)) (kk : qY S X G nl Q σ (pc + 1) lv (.int (Int32.ofNat n) :: st)) : qY S X G nl Q σ pc lv (.ref (q_ad G o) :: st) := by
  intro H locs ls hP hS hl
  subst hn
  have hN : o < q_N S := C.2.2.2.2.2.2.1.2 o (by omega)
  have ha : (q_ws S G σ)[o]? = some (q_ad G o, .inl (q_cI G, q_ln S o, .inl (σ o))) := by rw [q_at hN, q_en_6 ho]
  exact va_alen (D := q_D G) (cl := vwCl) (x := (q_ln S o, .inl (σ o))) C.1 C.2.1 C.2.2.2.2.2.1 hP o 0 ha rfl rfl hd (kk H locs ls hP hS hl)
theorem q_aald (C : qC S X G own cc nl d ret) {o n t : Nat} {i : Int32} (ho : q_kd S o = 7 ∨ q_kd S o = 8) (hn : q_ln S o = n) (hi : vp_in i n) (ht : q_rf S o i.toNatClampNeg = t) (hd : decode cc pc = .ok (.aaload, 1)) (kk : qY S X G nl Q σ (pc + 1) lv (.ref (q_ad G t) :: st)) : qY S X G nl Q σ pc lv (.int i :: .ref (q_ad G o) :: st) := by
  intro H locs ls hP hS hl
  subst hn
  subst ht
  have hN : o < q_N S := C.2.2.2.2.2.2.1.2 o (by omega)
  have hlt : i.toNatClampNeg < q_ln S o := Nat.not_le.mp fun q => hi (Or.inr q)
  rcases ho with ho | ho
  · have ha : (q_ws S G σ)[o]? = some (q_ad G o, .inl (q_cII G, q_ln S o, .inr (.inr (.inr (.inr (fun j => some (q_ad G (q_rf S o j)))))))) := by rw [q_at hN, q_en_7 ho]
    exact W.aald (v := .ref (q_ad G (q_rf S o i.toNatClampNeg))) (ty := .array .int) C.1 C.2.1 (hP o _ ha) ((C.2.2.2.2.2.1.2 1 (q_cII G, .array .int) rfl).1 (q_ln S o) (fun j => va_rf (some (q_ad G (q_rf S o j))))) rfl (fun q => by cases q) (by show ¬ (i < 0 ∨ (arrV _ _ _).slots.size ≤ _); rw [arrV_size]; exact hi) (by show (arrV _ _ _).slots[_]? = _; rw [arrV_read _ _ hlt]; rfl) rfl rfl hd (kk H locs ls hP hS hl)
  · have ha : (q_ws S G σ)[o]? = some (q_ad G o, .inl (q_cS G, q_ln S o, .inr (.inr (.inr (.inr (fun j => some (q_ad G (q_rf S o j)))))))) := by rw [q_at hN, q_en_8 ho]
    exact va_aldq (D := q_D G) (cl := vwCl) (f := fun j => some (q_ad G (q_rf S o j))) C.1 C.2.1 C.2.2.2.2.2.1 hP o 2 ha rfl hi hd (kk H locs ls hP hS hl)
theorem q_copy (C : qC S X G own cc nl d ret) {idx o0 o1 n0 n1 : Nat} {sp dp n : Int32} (hk : Cond.methodLink own idx arraycopyName ∈ gw) (hnt : Cond.native arraycopyName ∈ gw) (hst : Cond.static arraycopyName ∈ gw) (hin : Cond.initialized "java/lang/System" ∈ gw) (h0 : q_kd S o0 = 6) (h1 : q_kd S o1 = 6) (e0 : q_ln S o0 = n0) (e1 : q_ln S o1 = n1) (hg : ¬ sp < 0 ∧ ¬ dp < 0 ∧ ¬ n < 0 ∧ sp.toNatClampNeg + n.toNatClampNeg ≤ n0 ∧ dp.toNatClampNeg + n.toNatClampNeg ≤ n1) (hdd : 1 ≤ d) (hW : (st.map fun v => v.category).sum + (nativeFrameWords "java/lang/System" "arraycopy" 5 + 11) ≤ 38) (hd : decode cc pc = .ok (.invokestatic idx, 3))
    (kk : qY S X G nl Q (qset σ o1 (va_cpy (σ o0) (σ o1) sp.toNatClampNeg dp.toNatClampNeg n.toNatClampNeg)) (pc + 3) lv st) : qY S X G nl Q σ pc lv (.int n :: .int dp :: .ref (q_ad G o1) :: .int sp :: .ref (q_ad G o0) :: st) := by
  intro H locs ls hP hS hl
  subst e0
  subst e1
  have hN0 : o0 < q_N S := C.2.2.2.2.2.2.1.2 o0 (by omega)
  have hN1 : o1 < q_N S := C.2.2.2.2.2.2.1.2 o1 (by omega)
  have hR : x_R X = q_Rm d := C.2.2.2.2.2.2.2.1
  refine va_copyi (D := q_D G) (cl := vwCl) (ty := .int) C.1 C.2.1 (C.2.2.1.trans hl.1.symm) C.2.2.2.1 (C.2.2.2.2.1 _ hk) (C.2.2.2.2.1 _ hnt) (C.2.2.2.2.1 _ hst) (C.2.2.2.2.1 _ hin) C.2.2.2.2.2.1 hP (q_dis σ C.2.2.2.2.2.2.1) hS o0 o1 0 0 (by rw [q_at hN0, q_en_6 h0]) (by rw [q_at hN1, q_en_6 h1]) rfl rfl rfl hg.1 hg.2.1 hg.2.2.1 hg.2.2.2.1 hg.2.2.2.2 (fun i _ => rfl) ?_ ?_ hd (fun H1 locs1 hP1 hD1 hS1 => ?_)
  · show 1 ≤ (x_R X).frames
    rw [hR]
    exact hdd
  · show _ ≤ (x_R X).locals
    rw [hR]
    show _ ≤ 38 * d
    omega
  · refine kk H1 locs1 ls ?_ hS1 hl
    rw [← q_en_6 (G := G) (f := va_cpy (σ o0) (σ o1) sp.toNatClampNeg dp.toNatClampNeg n.toNatClampNeg) h1, q_wset] at hP1
    exact hP1
theorem q_fin {σ' : qM} {r : Option Value} {a : Array Value} {H : Heap} {locs : List Loc} {ls : Array Slot} {st0 : List Value} (hS : va_S (q_A S G) (x_s X).heap H locs) (hl : lv_has ls nl lv)
    (hrun : va_Run X.1 X.2.1 X.2.2.1 X.2.2.2.1 X.2.2.2.2.1 X.2.2.2.2.2.1 X.2.2.2.2.2.2.1 X.2.2.2.2.2.2.2.1 X.2.2.2.2.2.2.2.2.1 X.2.2.2.2.2.2.2.2.2 H locs 0 0 0 0 (F0 (x_m X) pc ls st0) st (q_Qc S G r σ' a) (q_A S G)) (k : qY S X G nl Q σ' (pc + 3) lv (r.toList ++ st)) : qW X H locs Q (F0 (x_m X) pc ls st0) := by
  intro T hT XX
  obtain ⟨v, st₀, t, T', L, h0, X', hL, e1, e2, ⟨hv, hP1, hz, hk⟩, stp⟩ := hrun T hT XX
  cases hv
  rw [h0] at hz hk
  obtain ⟨t2, a1, b1⟩ := k T'.heap (locs ++ L) ls (by rw [e1]; exact hP1)
    ⟨Nat.le_trans hS.1 (by rw [e1]; exact hz), fun q h1 h2 => by rw [e1, hk q (Nat.lt_of_lt_of_le h1 hS.1) h2]; exact hS.2.1 q h1 h2, fun q hq => by
      rcases List.mem_append.mp hq with h | h
      · exact hS.2.2 q h
      · exact hL q h⟩ hl T' rfl X'
  exact ⟨t2, stp t2 a1, b1⟩
theorem q_callV (C : qC S X G own cc nl d ret) {y : MethodName} {cc' : ByteArray} {nl' idx ci n o d' : Nat} {ret' : Option FieldType} {As st0 : List Value} {r : Option Value} {σ' : qM} (hc : qCon S G (x_l X) y cc' nl' ret' d' (.ref (q_ad G o) :: As) σ r σ') (hY : q_YI y cc' nl' ret' ci n) (hk : Cond.methodLink own idx y ∈ gw) (ho : q_kd S o = ci) (hn : As.length = n) (hdd : d' < d) (hst : st0 = As.reverse ++ .ref (q_ad G o) :: st) (hW : (st.map fun v => v.category).sum ≤ 8) (hd : decode cc pc = .ok (.invokevirtual idx, 3)) (k : qY S X G nl Q σ' (pc + 3) lv (r.toList ++ st)) : qY S X G nl Q σ pc lv st0 := by
  intro H locs ls hP hS hl
  obtain ⟨y1, y2, y3, y4, y5, y6, y7, y8⟩ := hY
  have hts := C.2.2.2.2.1
  have hN : o < q_N S := C.2.2.2.2.2.2.1.2 o (by omega)
  have hR : x_R X = q_Rm d := C.2.2.2.2.2.2.2.1
  have he : (q_ws S G σ)[o]? = some (q_ad G o, .inr (ci, q_fs S G (σ o) o ci)) := by rw [q_at hN, q_en_obj ho y7]
  obtain ⟨q, hq, hq1⟩ : ∃ q, vwCl[ci]? = some q ∧ q.1 = y.cls := by
    cases hv : vwCl[ci]? with
    | none => rw [hv] at y8; cases y8
    | some q => rw [hv] at y8; exact ⟨q, rfl, Option.some.inj y8⟩
  have hrec := va_recv C.2.2.2.2.2.1 hP hq he
  rw [hq1] at hrec
  refine q_fin hS hl (va_runV (As := As) (rest := st) (b := q_ad G o) (Ts := gw) (own := own) (cc := cc) (nL := nl) ⟨C.1, C.2.1, C.2.2.1, C.2.2.2.1, hts⟩ hc (cwV n hts ?_ rfl rfl rfl ⟨rfl, y5⟩ ?_) ⟨q_blind, hrec, fun U hU hW => ⟨rfl, by rw [hU]; exact hP, va_K.moved hW.alike C.2.2.2.2.2.1, C.2.2.2.2.2.2.1, C.2.2.2.2.2.2.2.2.1.go hW (by rw [hU]; exact hS)⟩⟩ rfl hn hl.1 hst (lv_room hW) hd ⟨Nat.zero_le _, Nat.zero_le _⟩) k
  · intro w hw
    simp only [wsV, List.mem_append, List.mem_cons, List.not_mem_nil, or_false] at hw
    rcases hw with (rfl | rfl | rfl | rfl) | h
    · exact ⟨hk, gw_good hk⟩
    · exact ⟨y1, gw_good y1⟩
    · exact ⟨y2, gw_good y2⟩
    · exact ⟨y3, gw_good y3⟩
    · exact q_good y4 w (List.mem_cons.mpr h)
  · show d' + 1 ≤ (x_R X).frames ∧ 8 + (nl' + 11) + 38 * d' ≤ (x_R X).locals
    rw [hR]
    show d' + 1 ≤ d ∧ 8 + (nl' + 11) + 38 * d' ≤ 38 * d
    omega
theorem q_callS (C : qC S X G own cc nl d ret) {y : MethodName} {cc' : ByteArray} {nl' idx n d' : Nat} {ret' : Option FieldType} {As st0 : List Value} {r : Option Value} {σ' : qM} (hc : qCon S G (x_l X) y cc' nl' ret' d' As σ r σ') (hY : q_YS y cc' nl' ret' n) (hk : Cond.methodLink own idx y ∈ gw) (hn : As.length = n) (hdd : d' < d) (hst : st0 = As.reverse ++ st) (hW : (st.map fun v => v.category).sum ≤ 8) (hd : decode cc pc = .ok (.invokestatic idx, 3)) (k : qY S X G nl Q σ' (pc + 3) lv (r.toList ++ st)) : qY S X G nl Q σ pc lv st0 := by
  intro H locs ls hP hS hl
  obtain ⟨y1, y3, y4, y5, y6⟩ := hY
  have hts := C.2.2.2.2.1
  have hR : x_R X = q_Rm d := C.2.2.2.2.2.2.2.1
  refine q_fin hS hl (va_runS (As := As) (rest := st) (Ts := gw) (own := own) (cc := cc) (nL := nl) ⟨C.1, C.2.1, C.2.2.1, C.2.2.2.1, hts⟩ hc ⟨callB_of n hts (q_good y4) rfl rfl rfl (hts _ y3) (hts _ hk) y5 ?_, hts _ y1⟩ ⟨q_blind, fun U hU hW => ⟨rfl, by rw [hU]; exact hP, va_K.moved hW.alike C.2.2.2.2.2.1, C.2.2.2.2.2.2.1, C.2.2.2.2.2.2.2.2.1.go hW (by rw [hU]; exact hS)⟩⟩ rfl hn hl.1 hst (lv_room hW) hd ⟨Nat.zero_le _, Nat.zero_le _⟩) k
  show d' + 1 ≤ (x_R X).frames ∧ 8 + (nl' + 11) + 38 * d' ≤ (x_R X).locals
  rw [hR]
  show d' + 1 ≤ d ∧ 8 + (nl' + 11) + 38 * d' ≤ 38 * d
  omega
end QH
/-! guards, calls and loops of the pure texts -/
theorem q_guard {α : Type} {c : Prop} [Decidable c] {x : Option α} {r : α} (h : (if c then x else none) = some r) : c ∧ x = some r := by
  by_cases hc : c
  · rw [if_pos hc] at h; exact ⟨hc, h⟩
  · rw [if_neg hc] at h; cases h
theorem q_bind {α β : Type} {x : Option α} {g : α → Option β} {r : β} (h : x.bind g = some r) : ∃ q, x = some q ∧ g q = some r := by
  cases x with
  | none => cases h
  | some q => exact ⟨q, rfl, h⟩
def qlp {F : Type} (z : F) (b : F → F) : Nat → F
  | 0 => z
  | n + 1 => b (qlp z b n)
def qFU : Nat := 5000
end
section
/-! ===== the two shapes ===== -/
def kdC (o : Nat) : Nat := [4, 3, 6, 6, 3, 6, 6, 1, 6, 6, 1, 6, 6, 1, 6, 6, 0, 7, 6, 6, 6, 6, 7, 6, 6, 6, 6, 6, 6, 6, 7, 6, 6, 6, 6, 7, 6, 6, 6, 6, 6, 6, 6, 8, 2, 6, 2, 6, 2, 6, 2, 6].getD o 9
def lnC (o : Nat) : Nat := [0, 0, 47, 36, 0, 59, 50, 0, 8, 8, 0, 12, 12, 0, 8, 8, 0, 4, 12, 12, 12, 12, 4, 12, 12, 12, 12, 4, 4, 4, 4, 144, 144, 144, 144, 4, 9, 9, 9, 9, 1024, 4096, 13, 4, 0, 60, 0, 60, 0, 60, 0, 60].getD o 0
def rfC (o k : Nat) : Nat := if kdC o = 3 then o + (k - 1) else if kdC o = 1 then o + (k + 1) else if kdC o = 2 then o + 1 else if kdC o = 7 then o + 1 + k else if kdC o = 8 then 44 + 2 * k else if kdC o = 4 then [1, 4, 7, 10, 13, 16, 43].getD k 0 else [1, 4, 7, 17, 22, 27, 28, 29, 30, 35, 40, 41, 0, 42].getD k 0
def sC : qS := (kdC, lnC, rfC, 52)
def kdM (o : Nat) : Nat := [5, 6, 6, 6, 6, 6, 6, 6, 6, 6, 6, 6, 6, 6, 6, 6].getD o 9
def lnM (o : Nat) : Nat := [0, 4, 4, 240, 60, 120, 2, 39, 50, 16, 24, 2, 13, 13, 130, 16].getD o 0
def rfM (_ k : Nat) : Nat := [1, 2, 3, 4, 0, 5, 6, 0, 0, 7, 0, 8, 0, 9, 0, 10, 11, 12, 13, 14, 0, 0, 0, 0, 0, 15].getD k 0
def sM : qS := (kdM, lnM, rfM, 16)
theorem kC_0 : q_kd sC 0 = 4 := rfl
theorem kC_1 : q_kd sC 1 = 3 := rfl
theorem kC_2 : q_kd sC 2 = 6 := rfl
theorem lC_2 : q_ln sC 2 = 47 := rfl
theorem kC_3 : q_kd sC 3 = 6 := rfl
theorem lC_3 : q_ln sC 3 = 36 := rfl
theorem kC_4 : q_kd sC 4 = 3 := rfl
theorem kC_5 : q_kd sC 5 = 6 := rfl
theorem lC_5 : q_ln sC 5 = 59 := rfl
theorem kC_6 : q_kd sC 6 = 6 := rfl
theorem lC_6 : q_ln sC 6 = 50 := rfl
theorem kC_7 : q_kd sC 7 = 1 := rfl
theorem kC_8 : q_kd sC 8 = 6 := rfl
theorem lC_8 : q_ln sC 8 = 8 := rfl
theorem kC_9 : q_kd sC 9 = 6 := rfl
theorem lC_9 : q_ln sC 9 = 8 := rfl
theorem kC_10 : q_kd sC 10 = 1 := rfl
theorem kC_11 : q_kd sC 11 = 6 := rfl
theorem lC_11 : q_ln sC 11 = 12 := rfl
theorem kC_12 : q_kd sC 12 = 6 := rfl
theorem lC_12 : q_ln sC 12 = 12 := rfl
theorem kC_13 : q_kd sC 13 = 1 := rfl
theorem kC_14 : q_kd sC 14 = 6 := rfl
theorem lC_14 : q_ln sC 14 = 8 := rfl
theorem kC_15 : q_kd sC 15 = 6 := rfl
theorem lC_15 : q_ln sC 15 = 8 := rfl
theorem kC_16 : q_kd sC 16 = 0 := rfl
theorem kC_17 : q_kd sC 17 = 7 := rfl
theorem lC_17 : q_ln sC 17 = 4 := rfl
theorem kC_18 : q_kd sC 18 = 6 := rfl
theorem lC_18 : q_ln sC 18 = 12 := rfl
theorem kC_19 : q_kd sC 19 = 6 := rfl
theorem lC_19 : q_ln sC 19 = 12 := rfl
theorem kC_20 : q_kd sC 20 = 6 := rfl
theorem lC_20 : q_ln sC 20 = 12 := rfl
theorem kC_21 : q_kd sC 21 = 6 := rfl
theorem lC_21 : q_ln sC 21 = 12 := rfl
theorem kC_22 : q_kd sC 22 = 7 := rfl
theorem lC_22 : q_ln sC 22 = 4 := rfl
theorem kC_23 : q_kd sC 23 = 6 := rfl
theorem lC_23 : q_ln sC 23 = 12 := rfl
theorem kC_24 : q_kd sC 24 = 6 := rfl
theorem lC_24 : q_ln sC 24 = 12 := rfl
theorem kC_25 : q_kd sC 25 = 6 := rfl
theorem lC_25 : q_ln sC 25 = 12 := rfl
theorem kC_26 : q_kd sC 26 = 6 := rfl
theorem lC_26 : q_ln sC 26 = 12 := rfl
theorem kC_27 : q_kd sC 27 = 6 := rfl
theorem lC_27 : q_ln sC 27 = 4 := rfl
theorem kC_28 : q_kd sC 28 = 6 := rfl
theorem lC_28 : q_ln sC 28 = 4 := rfl
theorem kC_29 : q_kd sC 29 = 6 := rfl
theorem lC_29 : q_ln sC 29 = 4 := rfl
theorem kC_30 : q_kd sC 30 = 7 := rfl
theorem lC_30 : q_ln sC 30 = 4 := rfl
theorem kC_31 : q_kd sC 31 = 6 := rfl
theorem lC_31 : q_ln sC 31 = 144 := rfl
theorem kC_32 : q_kd sC 32 = 6 := rfl
theorem lC_32 : q_ln sC 32 = 144 := rfl
theorem kC_33 : q_kd sC 33 = 6 := rfl
theorem lC_33 : q_ln sC 33 = 144 := rfl
theorem kC_34 : q_kd sC 34 = 6 := rfl
theorem lC_34 : q_ln sC 34 = 144 := rfl
theorem kC_35 : q_kd sC 35 = 7 := rfl
theorem lC_35 : q_ln sC 35 = 4 := rfl
theorem kC_36 : q_kd sC 36 = 6 := rfl
theorem lC_36 : q_ln sC 36 = 9 := rfl
theorem kC_37 : q_kd sC 37 = 6 := rfl
theorem lC_37 : q_ln sC 37 = 9 := rfl
theorem kC_38 : q_kd sC 38 = 6 := rfl
theorem lC_38 : q_ln sC 38 = 9 := rfl
theorem kC_39 : q_kd sC 39 = 6 := rfl
theorem lC_39 : q_ln sC 39 = 9 := rfl
theorem kC_40 : q_kd sC 40 = 6 := rfl
theorem lC_40 : q_ln sC 40 = 1024 := rfl
theorem kC_41 : q_kd sC 41 = 6 := rfl
theorem lC_41 : q_ln sC 41 = 4096 := rfl
theorem kC_42 : q_kd sC 42 = 6 := rfl
theorem lC_42 : q_ln sC 42 = 13 := rfl
theorem kC_43 : q_kd sC 43 = 8 := rfl
theorem lC_43 : q_ln sC 43 = 4 := rfl
theorem kC_44 : q_kd sC 44 = 2 := rfl
theorem kC_45 : q_kd sC 45 = 6 := rfl
theorem lC_45 : q_ln sC 45 = 60 := rfl
theorem kC_46 : q_kd sC 46 = 2 := rfl
theorem kC_47 : q_kd sC 47 = 6 := rfl
theorem lC_47 : q_ln sC 47 = 60 := rfl
theorem kC_48 : q_kd sC 48 = 2 := rfl
theorem kC_49 : q_kd sC 49 = 6 := rfl
theorem lC_49 : q_ln sC 49 = 60 := rfl
theorem kC_50 : q_kd sC 50 = 2 := rfl
theorem kC_51 : q_kd sC 51 = 6 := rfl
theorem lC_51 : q_ln sC 51 = 60 := rfl
theorem kM_0 : q_kd sM 0 = 5 := rfl
theorem kM_1 : q_kd sM 1 = 6 := rfl
theorem lM_1 : q_ln sM 1 = 4 := rfl
theorem kM_2 : q_kd sM 2 = 6 := rfl
theorem lM_2 : q_ln sM 2 = 4 := rfl
theorem kM_3 : q_kd sM 3 = 6 := rfl
theorem lM_3 : q_ln sM 3 = 240 := rfl
theorem kM_4 : q_kd sM 4 = 6 := rfl
theorem lM_4 : q_ln sM 4 = 60 := rfl
theorem kM_5 : q_kd sM 5 = 6 := rfl
theorem lM_5 : q_ln sM 5 = 120 := rfl
theorem kM_6 : q_kd sM 6 = 6 := rfl
theorem lM_6 : q_ln sM 6 = 2 := rfl
theorem kM_7 : q_kd sM 7 = 6 := rfl
theorem lM_7 : q_ln sM 7 = 39 := rfl
theorem kM_8 : q_kd sM 8 = 6 := rfl
theorem lM_8 : q_ln sM 8 = 50 := rfl
theorem kM_9 : q_kd sM 9 = 6 := rfl
theorem lM_9 : q_ln sM 9 = 16 := rfl
theorem kM_10 : q_kd sM 10 = 6 := rfl
theorem lM_10 : q_ln sM 10 = 24 := rfl
theorem kM_11 : q_kd sM 11 = 6 := rfl
theorem lM_11 : q_ln sM 11 = 2 := rfl
theorem kM_12 : q_kd sM 12 = 6 := rfl
theorem lM_12 : q_ln sM 12 = 13 := rfl
theorem kM_13 : q_kd sM 13 = 6 := rfl
theorem lM_13 : q_ln sM 13 = 13 := rfl
theorem kM_14 : q_kd sM 14 = 6 := rfl
theorem lM_14 : q_ln sM 14 = 130 := rfl
theorem kM_15 : q_kd sM 15 = 6 := rfl
theorem lM_15 : q_ln sM 15 = 16 := rfl
theorem rC_0_0 : q_rf sC 0 0 = 1 := rfl
theorem rC_0_1 : q_rf sC 0 1 = 4 := rfl
theorem rC_0_2 : q_rf sC 0 2 = 7 := rfl
theorem rC_0_3 : q_rf sC 0 3 = 10 := rfl
theorem rC_0_4 : q_rf sC 0 4 = 13 := rfl
theorem rC_0_5 : q_rf sC 0 5 = 16 := rfl
theorem rC_0_6 : q_rf sC 0 6 = 43 := rfl
theorem rC_16_0 : q_rf sC 16 0 = 1 := rfl
theorem rC_16_1 : q_rf sC 16 1 = 4 := rfl
theorem rC_16_2 : q_rf sC 16 2 = 7 := rfl
theorem rC_16_3 : q_rf sC 16 3 = 17 := rfl
theorem rC_16_4 : q_rf sC 16 4 = 22 := rfl
theorem rC_16_5 : q_rf sC 16 5 = 27 := rfl
theorem rC_16_6 : q_rf sC 16 6 = 28 := rfl
theorem rC_16_7 : q_rf sC 16 7 = 29 := rfl
theorem rC_16_8 : q_rf sC 16 8 = 30 := rfl
theorem rC_16_9 : q_rf sC 16 9 = 35 := rfl
theorem rC_16_10 : q_rf sC 16 10 = 40 := rfl
theorem rC_16_11 : q_rf sC 16 11 = 41 := rfl
theorem rC_16_12 : q_rf sC 16 12 = 0 := rfl
theorem rC_16_13 : q_rf sC 16 13 = 42 := rfl
theorem rM_0_0 : q_rf sM 0 0 = 1 := rfl
theorem rM_0_1 : q_rf sM 0 1 = 2 := rfl
theorem rM_0_2 : q_rf sM 0 2 = 3 := rfl
theorem rM_0_3 : q_rf sM 0 3 = 4 := rfl
theorem rM_0_4 : q_rf sM 0 4 = 0 := rfl
theorem rM_0_5 : q_rf sM 0 5 = 5 := rfl
theorem rM_0_6 : q_rf sM 0 6 = 6 := rfl
theorem rM_0_7 : q_rf sM 0 7 = 0 := rfl
theorem rM_0_8 : q_rf sM 0 8 = 0 := rfl
theorem rM_0_9 : q_rf sM 0 9 = 7 := rfl
theorem rM_0_10 : q_rf sM 0 10 = 0 := rfl
theorem rM_0_11 : q_rf sM 0 11 = 8 := rfl
theorem rM_0_12 : q_rf sM 0 12 = 0 := rfl
theorem rM_0_13 : q_rf sM 0 13 = 9 := rfl
theorem rM_0_14 : q_rf sM 0 14 = 0 := rfl
theorem rM_0_15 : q_rf sM 0 15 = 10 := rfl
theorem rM_0_16 : q_rf sM 0 16 = 11 := rfl
theorem rM_0_17 : q_rf sM 0 17 = 12 := rfl
theorem rM_0_18 : q_rf sM 0 18 = 13 := rfl
theorem rM_0_19 : q_rf sM 0 19 = 14 := rfl
theorem rM_0_20 : q_rf sM 0 20 = 0 := rfl
theorem rM_0_21 : q_rf sM 0 21 = 0 := rfl
theorem rM_0_22 : q_rf sM 0 22 = 0 := rfl
theorem rM_0_23 : q_rf sM 0 23 = 0 := rfl
theorem rM_0_24 : q_rf sM 0 24 = 0 := rfl
theorem rM_0_25 : q_rf sM 0 25 = 15 := rfl
theorem kdC_big {o : Nat} (h : 52 ≤ o) : kdC o = 9 := by unfold kdC; rw [List.getD_eq_getElem?_getD, List.getElem?_eq_none (by simpa using h)]; rfl
theorem kdC_lt {o : Nat} (h : kdC o < 9) : o < 52 := by rcases Nat.lt_or_ge o 52 with q | q; exact q; rw [kdC_big q] at h; omega
theorem kdM_big {o : Nat} (h : 16 ≤ o) : kdM o = 9 := by unfold kdM; rw [List.getD_eq_getElem?_getD, List.getElem?_eq_none (by simpa using h)]; rfl
theorem kdM_lt {o : Nat} (h : kdM o < 9) : o < 16 := by rcases Nat.lt_or_ge o 16 with q | q; exact q; rw [kdM_big q] at h; omega
theorem is_text {o : Nat} (h : q_kd sC o = 3) : o = 1 ∨ o = 4 := by have h1 : o < 52 := kdC_lt (by show q_kd sC o < 9; omega); have key : ∀ o, o < 52 → kdC o = 3 → o = 1 ∨ o = 4 := by decide; exact key o h1 h
theorem is_pairs {o : Nat} (h : q_kd sC o = 1) : o = 7 ∨ o = 10 ∨ o = 13 := by have h1 : o < 52 := kdC_lt (by show q_kd sC o < 9; omega); have key : ∀ o, o < 52 → kdC o = 1 → o = 7 ∨ o = 10 ∨ o = 13 := by decide; exact key o h1 h
theorem is_sheet {o : Nat} (h : q_kd sC o = 2) : o = 44 ∨ o = 46 ∨ o = 48 ∨ o = 50 := by have h1 : o < 52 := kdC_lt (by show q_kd sC o < 9; omega); have key : ∀ o, o < 52 → kdC o = 2 → o = 44 ∨ o = 46 ∨ o = 48 ∨ o = 50 := by decide; exact key o h1 h
theorem rT_2 {o : Nat} (h : q_kd sC o = 3) : q_rf sC o 2 = o + 1 := by rcases is_text h with rfl | rfl <;> rfl
theorem rT_3 {o : Nat} (h : q_kd sC o = 3) : q_rf sC o 3 = o + 2 := by rcases is_text h with rfl | rfl <;> rfl
theorem kT_1 {o : Nat} (h : q_kd sC o = 3) : q_kd sC (o + 1) = 6 := by rcases is_text h with rfl | rfl <;> rfl
theorem kT_2 {o : Nat} (h : q_kd sC o = 3) : q_kd sC (o + 2) = 6 := by rcases is_text h with rfl | rfl <;> rfl
theorem rP_0 {o : Nat} (h : q_kd sC o = 1) : q_rf sC o 0 = o + 1 := by rcases is_pairs h with rfl | rfl | rfl <;> rfl
theorem rP_1 {o : Nat} (h : q_kd sC o = 1) : q_rf sC o 1 = o + 2 := by rcases is_pairs h with rfl | rfl | rfl <;> rfl
theorem kP_1 {o : Nat} (h : q_kd sC o = 1) : q_kd sC (o + 1) = 6 := by rcases is_pairs h with rfl | rfl | rfl <;> rfl
theorem kP_2 {o : Nat} (h : q_kd sC o = 1) : q_kd sC (o + 2) = 6 := by rcases is_pairs h with rfl | rfl | rfl <;> rfl
theorem rH_0 {o : Nat} (h : q_kd sC o = 2) : q_rf sC o 0 = o + 1 := by rcases is_sheet h with rfl | rfl | rfl | rfl <;> rfl
theorem kH_1 {o : Nat} (h : q_kd sC o = 2) : q_kd sC (o + 1) = 6 := by rcases is_sheet h with rfl | rfl | rfl | rfl <;> rfl
theorem lH_1 {o : Nat} (h : q_kd sC o = 2) : q_ln sC (o + 1) = 60 := by rcases is_sheet h with rfl | rfl | rfl | rfl <;> rfl
theorem vp_lt {i : Int32} {n : Nat} (h : vp_in i n) : i.toNatClampNeg < n := Nat.not_le.mp fun q => h (Or.inr q)
theorem rR_17 (j : Nat) : q_rf sC 17 j = 18 + j := rfl
theorem kR_17 {i : Int32} (h : vp_in i 4) : q_kd sC (18 + i.toNatClampNeg) = 6 := by have h1 := vp_lt h; generalize i.toNatClampNeg = j at h1; have key : ∀ j, j < 4 → q_kd sC (18 + j) = 6 := by decide; exact key j h1
theorem lR_17 {i : Int32} (h : vp_in i 4) : q_ln sC (18 + i.toNatClampNeg) = 12 := by have h1 := vp_lt h; generalize i.toNatClampNeg = j at h1; have key : ∀ j, j < 4 → q_ln sC (18 + j) = 12 := by decide; exact key j h1
theorem rR_22 (j : Nat) : q_rf sC 22 j = 23 + j := rfl
theorem kR_22 {i : Int32} (h : vp_in i 4) : q_kd sC (23 + i.toNatClampNeg) = 6 := by have h1 := vp_lt h; generalize i.toNatClampNeg = j at h1; have key : ∀ j, j < 4 → q_kd sC (23 + j) = 6 := by decide; exact key j h1
theorem lR_22 {i : Int32} (h : vp_in i 4) : q_ln sC (23 + i.toNatClampNeg) = 12 := by have h1 := vp_lt h; generalize i.toNatClampNeg = j at h1; have key : ∀ j, j < 4 → q_ln sC (23 + j) = 12 := by decide; exact key j h1
theorem rR_30 (j : Nat) : q_rf sC 30 j = 31 + j := rfl
theorem kR_30 {i : Int32} (h : vp_in i 4) : q_kd sC (31 + i.toNatClampNeg) = 6 := by have h1 := vp_lt h; generalize i.toNatClampNeg = j at h1; have key : ∀ j, j < 4 → q_kd sC (31 + j) = 6 := by decide; exact key j h1
theorem lR_30 {i : Int32} (h : vp_in i 4) : q_ln sC (31 + i.toNatClampNeg) = 144 := by have h1 := vp_lt h; generalize i.toNatClampNeg = j at h1; have key : ∀ j, j < 4 → q_ln sC (31 + j) = 144 := by decide; exact key j h1
theorem rR_35 (j : Nat) : q_rf sC 35 j = 36 + j := rfl
theorem kR_35 {i : Int32} (h : vp_in i 4) : q_kd sC (36 + i.toNatClampNeg) = 6 := by have h1 := vp_lt h; generalize i.toNatClampNeg = j at h1; have key : ∀ j, j < 4 → q_kd sC (36 + j) = 6 := by decide; exact key j h1
theorem lR_35 {i : Int32} (h : vp_in i 4) : q_ln sC (36 + i.toNatClampNeg) = 9 := by have h1 := vp_lt h; generalize i.toNatClampNeg = j at h1; have key : ∀ j, j < 4 → q_ln sC (36 + j) = 9 := by decide; exact key j h1
theorem rR_43 (j : Nat) : q_rf sC 43 j = 44 + 2 * j := rfl
theorem kR_43 {i : Int32} (h : vp_in i 4) : q_kd sC (44 + 2 * i.toNatClampNeg) = 2 := by have h1 := vp_lt h; generalize i.toNatClampNeg = j at h1; have key : ∀ j, j < 4 → q_kd sC (44 + 2 * j) = 2 := by decide; exact key j h1
/-! ===== the tables' facts ===== -/
theorem inX_0 : ∀ w ∈ u_ws RX0 TX0 15, w ∈ gw := by
  have h : ∀ w ∈ u_ws RX0 TX0 15, w ∈ tables_1 ∧ goodWord w = true := by
    intro w hw
    obtain ⟨k, hk, rfl⟩ := List.mem_map.mp hw
    have hk := List.mem_range.mp hk
    match k, hk with
    | 0, _ => exact ⟨List.mem_of_getElem? (i := 108) (by decide +kernel), by decide +kernel⟩
    | 1, _ => exact ⟨List.mem_of_getElem? (i := 110) (by decide +kernel), by decide +kernel⟩
    | 2, _ => exact ⟨List.mem_of_getElem? (i := 112) (by decide +kernel), by decide +kernel⟩
    | 3, _ => exact ⟨List.mem_of_getElem? (i := 114) (by decide +kernel), by decide +kernel⟩
    | 4, _ => exact ⟨List.mem_of_getElem? (i := 116) (by decide +kernel), by decide +kernel⟩
    | 5, _ => exact ⟨List.mem_of_getElem? (i := 118) (by decide +kernel), by decide +kernel⟩
    | 6, _ => exact ⟨List.mem_of_getElem? (i := 120) (by decide +kernel), by decide +kernel⟩
    | 7, _ => exact ⟨List.mem_of_getElem? (i := 122) (by decide +kernel), by decide +kernel⟩
    | 8, _ => exact ⟨List.mem_of_getElem? (i := 124) (by decide +kernel), by decide +kernel⟩
    | 9, _ => exact ⟨List.mem_of_getElem? (i := 126) (by decide +kernel), by decide +kernel⟩
    | 10, _ => exact ⟨List.mem_of_getElem? (i := 128) (by decide +kernel), by decide +kernel⟩
    | 11, _ => exact ⟨List.mem_of_getElem? (i := 130) (by decide +kernel), by decide +kernel⟩
    | 12, _ => exact ⟨List.mem_of_getElem? (i := 132) (by decide +kernel), by decide +kernel⟩
    | 13, _ => exact ⟨List.mem_of_getElem? (i := 134) (by decide +kernel), by decide +kernel⟩
    | 14, _ => exact ⟨List.mem_of_getElem? (i := 136) (by decide +kernel), by decide +kernel⟩
    | k + 15, h => omega
  exact fun w hw => gw_mem (h w hw).1 (h w hw).2
theorem inX_1 : ∀ w ∈ u_ws RX1 TX1 3, w ∈ gw := by
  have h : ∀ w ∈ u_ws RX1 TX1 3, w ∈ tables_1 ∧ goodWord w = true := by
    intro w hw
    obtain ⟨k, hk, rfl⟩ := List.mem_map.mp hw
    have hk := List.mem_range.mp hk
    match k, hk with
    | 0, _ => exact ⟨List.mem_of_getElem? (i := 72) (by decide +kernel), by decide +kernel⟩
    | 1, _ => exact ⟨List.mem_of_getElem? (i := 74) (by decide +kernel), by decide +kernel⟩
    | 2, _ => exact ⟨List.mem_of_getElem? (i := 76) (by decide +kernel), by decide +kernel⟩
    | k + 3, h => omega
  exact fun w hw => gw_mem (h w hw).1 (h w hw).2
theorem inX_2 : ∀ w ∈ u_ws RX2 TX2 3, w ∈ gw := by
  have h : ∀ w ∈ u_ws RX2 TX2 3, w ∈ tables_1 ∧ goodWord w = true := by
    intro w hw
    obtain ⟨k, hk, rfl⟩ := List.mem_map.mp hw
    have hk := List.mem_range.mp hk
    match k, hk with
    | 0, _ => exact ⟨List.mem_of_getElem? (i := 152) (by decide +kernel), by decide +kernel⟩
    | 1, _ => exact ⟨List.mem_of_getElem? (i := 154) (by decide +kernel), by decide +kernel⟩
    | 2, _ => exact ⟨List.mem_of_getElem? (i := 156) (by decide +kernel), by decide +kernel⟩
    | k + 3, h => omega
  exact fun w hw => gw_mem (h w hw).1 (h w hw).2
theorem inX_3 : ∀ w ∈ u_ws RX3 TX3 7, w ∈ gw := by
  have h : ∀ w ∈ u_ws RX3 TX3 7, w ∈ tables_1 ∧ goodWord w = true := by
    intro w hw
    obtain ⟨k, hk, rfl⟩ := List.mem_map.mp hw
    have hk := List.mem_range.mp hk
    match k, hk with
    | 0, _ => exact ⟨List.mem_of_getElem? (i := 41) (by decide +kernel), by decide +kernel⟩
    | 1, _ => exact ⟨List.mem_of_getElem? (i := 43) (by decide +kernel), by decide +kernel⟩
    | 2, _ => exact ⟨List.mem_of_getElem? (i := 45) (by decide +kernel), by decide +kernel⟩
    | 3, _ => exact ⟨List.mem_of_getElem? (i := 47) (by decide +kernel), by decide +kernel⟩
    | 4, _ => exact ⟨List.mem_of_getElem? (i := 49) (by decide +kernel), by decide +kernel⟩
    | 5, _ => exact ⟨List.mem_of_getElem? (i := 51) (by decide +kernel), by decide +kernel⟩
    | 6, _ => exact ⟨List.mem_of_getElem? (i := 53) (by decide +kernel), by decide +kernel⟩
    | k + 7, h => omega
  exact fun w hw => gw_mem (h w hw).1 (h w hw).2
theorem inX_4 : ∀ w ∈ u_ws RX4 TX4 10, w ∈ gw := by
  have h : ∀ w ∈ u_ws RX4 TX4 10, w ∈ tables_1 ∧ goodWord w = true := by
    intro w hw
    obtain ⟨k, hk, rfl⟩ := List.mem_map.mp hw
    have hk := List.mem_range.mp hk
    match k, hk with
    | 0, _ => exact ⟨List.mem_of_getElem? (i := 169) (by decide +kernel), by decide +kernel⟩
    | 1, _ => exact ⟨List.mem_of_getElem? (i := 171) (by decide +kernel), by decide +kernel⟩
    | 2, _ => exact ⟨List.mem_of_getElem? (i := 173) (by decide +kernel), by decide +kernel⟩
    | 3, _ => exact ⟨List.mem_of_getElem? (i := 175) (by decide +kernel), by decide +kernel⟩
    | 4, _ => exact ⟨List.mem_of_getElem? (i := 177) (by decide +kernel), by decide +kernel⟩
    | 5, _ => exact ⟨List.mem_of_getElem? (i := 179) (by decide +kernel), by decide +kernel⟩
    | 6, _ => exact ⟨List.mem_of_getElem? (i := 181) (by decide +kernel), by decide +kernel⟩
    | 7, _ => exact ⟨List.mem_of_getElem? (i := 183) (by decide +kernel), by decide +kernel⟩
    | 8, _ => exact ⟨List.mem_of_getElem? (i := 185) (by decide +kernel), by decide +kernel⟩
    | 9, _ => exact ⟨List.mem_of_getElem? (i := 187) (by decide +kernel), by decide +kernel⟩
    | k + 10, h => omega
  exact fun w hw => gw_mem (h w hw).1 (h w hw).2
theorem inX_5 : ∀ w ∈ u_ws RX5 TX5 26, w ∈ gw := by
  have h : ∀ w ∈ u_ws RX5 TX5 26, w ∈ tables_1 ∧ goodWord w = true := by
    intro w hw
    obtain ⟨k, hk, rfl⟩ := List.mem_map.mp hw
    have hk := List.mem_range.mp hk
    match k, hk with
    | 0, _ => exact ⟨List.mem_of_getElem? (i := 719) (by decide +kernel), by decide +kernel⟩
    | 1, _ => exact ⟨List.mem_of_getElem? (i := 721) (by decide +kernel), by decide +kernel⟩
    | 2, _ => exact ⟨List.mem_of_getElem? (i := 723) (by decide +kernel), by decide +kernel⟩
    | 3, _ => exact ⟨List.mem_of_getElem? (i := 725) (by decide +kernel), by decide +kernel⟩
    | 4, _ => exact ⟨List.mem_of_getElem? (i := 727) (by decide +kernel), by decide +kernel⟩
    | 5, _ => exact ⟨List.mem_of_getElem? (i := 729) (by decide +kernel), by decide +kernel⟩
    | 6, _ => exact ⟨List.mem_of_getElem? (i := 731) (by decide +kernel), by decide +kernel⟩
    | 7, _ => exact ⟨List.mem_of_getElem? (i := 733) (by decide +kernel), by decide +kernel⟩
    | 8, _ => exact ⟨List.mem_of_getElem? (i := 735) (by decide +kernel), by decide +kernel⟩
    | 9, _ => exact ⟨List.mem_of_getElem? (i := 737) (by decide +kernel), by decide +kernel⟩
    | 10, _ => exact ⟨List.mem_of_getElem? (i := 739) (by decide +kernel), by decide +kernel⟩
    | 11, _ => exact ⟨List.mem_of_getElem? (i := 741) (by decide +kernel), by decide +kernel⟩
    | 12, _ => exact ⟨List.mem_of_getElem? (i := 743) (by decide +kernel), by decide +kernel⟩
    | 13, _ => exact ⟨List.mem_of_getElem? (i := 745) (by decide +kernel), by decide +kernel⟩
    | 14, _ => exact ⟨List.mem_of_getElem? (i := 747) (by decide +kernel), by decide +kernel⟩
    | 15, _ => exact ⟨List.mem_of_getElem? (i := 749) (by decide +kernel), by decide +kernel⟩
    | 16, _ => exact ⟨List.mem_of_getElem? (i := 751) (by decide +kernel), by decide +kernel⟩
    | 17, _ => exact ⟨List.mem_of_getElem? (i := 753) (by decide +kernel), by decide +kernel⟩
    | 18, _ => exact ⟨List.mem_of_getElem? (i := 755) (by decide +kernel), by decide +kernel⟩
    | 19, _ => exact ⟨List.mem_of_getElem? (i := 757) (by decide +kernel), by decide +kernel⟩
    | 20, _ => exact ⟨List.mem_of_getElem? (i := 759) (by decide +kernel), by decide +kernel⟩
    | 21, _ => exact ⟨List.mem_of_getElem? (i := 761) (by decide +kernel), by decide +kernel⟩
    | 22, _ => exact ⟨List.mem_of_getElem? (i := 763) (by decide +kernel), by decide +kernel⟩
    | 23, _ => exact ⟨List.mem_of_getElem? (i := 765) (by decide +kernel), by decide +kernel⟩
    | 24, _ => exact ⟨List.mem_of_getElem? (i := 767) (by decide +kernel), by decide +kernel⟩
    | 25, _ => exact ⟨List.mem_of_getElem? (i := 769) (by decide +kernel), by decide +kernel⟩
    | k + 26, h => omega
  exact fun w hw => gw_mem (h w hw).1 (h w hw).2
theorem fl_RX4_14 : q_FL RX4 14 4 0 (tyX4 0) true := ⟨RX4, TX4, tyX4, rfl, by decide, by decide, gw_mem (List.mem_of_getElem? (i := 159) (by decide +kernel)) (by decide +kernel), rfl, tyX4_ok, nmX4, rfl, inX_4⟩
theorem fl_RX4_18 : q_FL RX4 18 4 1 (tyX4 1) true := ⟨RX4, TX4, tyX4, rfl, by decide, by decide, gw_mem (List.mem_of_getElem? (i := 160) (by decide +kernel)) (by decide +kernel), rfl, tyX4_ok, nmX4, rfl, inX_4⟩
theorem fl_RX4_26 : q_FL RX4 26 4 2 (tyX4 2) true := ⟨RX4, TX4, tyX4, rfl, by decide, by decide, gw_mem (List.mem_of_getElem? (i := 161) (by decide +kernel)) (by decide +kernel), rfl, tyX4_ok, nmX4, rfl, inX_4⟩
theorem fl_RX4_30 : q_FL RX4 30 4 3 (tyX4 3) true := ⟨RX4, TX4, tyX4, rfl, by decide, by decide, gw_mem (List.mem_of_getElem? (i := 162) (by decide +kernel)) (by decide +kernel), rfl, tyX4_ok, nmX4, rfl, inX_4⟩
theorem fl_RX4_33 : q_FL RX4 33 4 4 (tyX4 4) true := ⟨RX4, TX4, tyX4, rfl, by decide, by decide, gw_mem (List.mem_of_getElem? (i := 163) (by decide +kernel)) (by decide +kernel), rfl, tyX4_ok, nmX4, rfl, inX_4⟩
theorem fl_RX4_41 : q_FL RX4 41 4 5 (tyX4 5) true := ⟨RX4, TX4, tyX4, rfl, by decide, by decide, gw_mem (List.mem_of_getElem? (i := 164) (by decide +kernel)) (by decide +kernel), rfl, tyX4_ok, nmX4, rfl, inX_4⟩
theorem fl_RX4_47 : q_FL RX4 47 4 6 (tyX4 6) true := ⟨RX4, TX4, tyX4, rfl, by decide, by decide, gw_mem (List.mem_of_getElem? (i := 165) (by decide +kernel)) (by decide +kernel), rfl, tyX4_ok, nmX4, rfl, inX_4⟩
theorem fl_RX4_51 : q_FL RX4 51 4 7 (tyX4 7) false := ⟨RX4, TX4, tyX4, rfl, by decide, by decide, gw_mem (List.mem_of_getElem? (i := 166) (by decide +kernel)) (by decide +kernel), rfl, tyX4_ok, nmX4, rfl, inX_4⟩
theorem fl_RX4_55 : q_FL RX4 55 4 8 (tyX4 8) false := ⟨RX4, TX4, tyX4, rfl, by decide, by decide, gw_mem (List.mem_of_getElem? (i := 167) (by decide +kernel)) (by decide +kernel), rfl, tyX4_ok, nmX4, rfl, inX_4⟩
theorem fl_RX4_58 : q_FL RX4 58 4 9 (tyX4 9) false := ⟨RX4, TX4, tyX4, rfl, by decide, by decide, gw_mem (List.mem_of_getElem? (i := 168) (by decide +kernel)) (by decide +kernel), rfl, tyX4_ok, nmX4, rfl, inX_4⟩
theorem fl_RX4_66 : q_FL RX4 66 0 14 (tyX0 14) false := ⟨RX0, TX0, tyX0, rfl, by decide, by decide, gw_mem (List.mem_of_getElem? (i := 107) (by decide +kernel)) (by decide +kernel), rfl, tyX0_ok, nmX0, rfl, inX_0⟩
theorem fl_RX4_85 : q_FL RX4 85 3 6 (tyX3 6) false := ⟨RX3, TX3, tyX3, rfl, by decide, by decide, gw_mem (List.mem_of_getElem? (i := 40) (by decide +kernel)) (by decide +kernel), rfl, tyX3_ok, nmX3, rfl, inX_3⟩
theorem fl_RX4_88 : q_FL RX4 88 3 5 (tyX3 5) false := ⟨RX3, TX3, tyX3, rfl, by decide, by decide, gw_mem (List.mem_of_getElem? (i := 38) (by decide +kernel)) (by decide +kernel), rfl, tyX3_ok, nmX3, rfl, inX_3⟩
theorem fl_RX4_102 : q_FL RX4 102 0 3 (tyX0 3) true := ⟨RX0, TX0, tyX0, rfl, by decide, by decide, gw_mem (List.mem_of_getElem? (i := 91) (by decide +kernel)) (by decide +kernel), rfl, tyX0_ok, nmX0, rfl, inX_0⟩
theorem fl_RX4_106 : q_FL RX4 106 0 4 (tyX0 4) true := ⟨RX0, TX0, tyX0, rfl, by decide, by decide, gw_mem (List.mem_of_getElem? (i := 93) (by decide +kernel)) (by decide +kernel), rfl, tyX0_ok, nmX0, rfl, inX_0⟩
theorem fl_RX4_109 : q_FL RX4 109 0 5 (tyX0 5) true := ⟨RX0, TX0, tyX0, rfl, by decide, by decide, gw_mem (List.mem_of_getElem? (i := 95) (by decide +kernel)) (by decide +kernel), rfl, tyX0_ok, nmX0, rfl, inX_0⟩
theorem fl_RX4_113 : q_FL RX4 113 0 6 (tyX0 6) true := ⟨RX0, TX0, tyX0, rfl, by decide, by decide, gw_mem (List.mem_of_getElem? (i := 97) (by decide +kernel)) (by decide +kernel), rfl, tyX0_ok, nmX0, rfl, inX_0⟩
theorem fl_RX4_116 : q_FL RX4 116 0 7 (tyX0 7) true := ⟨RX0, TX0, tyX0, rfl, by decide, by decide, gw_mem (List.mem_of_getElem? (i := 99) (by decide +kernel)) (by decide +kernel), rfl, tyX0_ok, nmX0, rfl, inX_0⟩
theorem fl_RX4_168 : q_FL RX4 168 2 2 (tyX2 2) false := ⟨RX2, TX2, tyX2, rfl, by decide, by decide, gw_mem (List.mem_of_getElem? (i := 151) (by decide +kernel)) (by decide +kernel), rfl, tyX2_ok, nmX2, rfl, inX_2⟩
theorem fl_RX4_171 : q_FL RX4 171 2 0 (tyX2 0) true := ⟨RX2, TX2, tyX2, rfl, by decide, by decide, gw_mem (List.mem_of_getElem? (i := 147) (by decide +kernel)) (by decide +kernel), rfl, tyX2_ok, nmX2, rfl, inX_2⟩
theorem fl_RX4_214 : q_FL RX4 214 2 1 (tyX2 1) false := ⟨RX2, TX2, tyX2, rfl, by decide, by decide, gw_mem (List.mem_of_getElem? (i := 149) (by decide +kernel)) (by decide +kernel), rfl, tyX2_ok, nmX2, rfl, inX_2⟩
theorem fl_RX4_226 : q_FL RX4 226 3 4 (tyX3 4) false := ⟨RX3, TX3, tyX3, rfl, by decide, by decide, gw_mem (List.mem_of_getElem? (i := 35) (by decide +kernel)) (by decide +kernel), rfl, tyX3_ok, nmX3, rfl, inX_3⟩
theorem fl_RX4_229 : q_FL RX4 229 1 2 (tyX1 2) false := ⟨RX1, TX1, tyX1, rfl, by decide, by decide, gw_mem (List.mem_of_getElem? (i := 71) (by decide +kernel)) (by decide +kernel), rfl, tyX1_ok, nmX1, rfl, inX_1⟩
theorem fl_RX4_298 : q_FL RX4 298 1 0 (tyX1 0) true := ⟨RX1, TX1, tyX1, rfl, by decide, by decide, gw_mem (List.mem_of_getElem? (i := 65) (by decide +kernel)) (by decide +kernel), rfl, tyX1_ok, nmX1, rfl, inX_1⟩
theorem fl_RX4_301 : q_FL RX4 301 1 1 (tyX1 1) true := ⟨RX1, TX1, tyX1, rfl, by decide, by decide, gw_mem (List.mem_of_getElem? (i := 68) (by decide +kernel)) (by decide +kernel), rfl, tyX1_ok, nmX1, rfl, inX_1⟩
theorem fl_RX0_11 : q_FL RX0 11 0 3 (tyX0 3) true := ⟨RX0, TX0, tyX0, rfl, by decide, by decide, gw_mem (List.mem_of_getElem? (i := 90) (by decide +kernel)) (by decide +kernel), rfl, tyX0_ok, nmX0, rfl, inX_0⟩
theorem fl_RX0_16 : q_FL RX0 16 0 4 (tyX0 4) true := ⟨RX0, TX0, tyX0, rfl, by decide, by decide, gw_mem (List.mem_of_getElem? (i := 92) (by decide +kernel)) (by decide +kernel), rfl, tyX0_ok, nmX0, rfl, inX_0⟩
theorem fl_RX0_19 : q_FL RX0 19 0 5 (tyX0 5) true := ⟨RX0, TX0, tyX0, rfl, by decide, by decide, gw_mem (List.mem_of_getElem? (i := 94) (by decide +kernel)) (by decide +kernel), rfl, tyX0_ok, nmX0, rfl, inX_0⟩
theorem fl_RX0_23 : q_FL RX0 23 0 6 (tyX0 6) true := ⟨RX0, TX0, tyX0, rfl, by decide, by decide, gw_mem (List.mem_of_getElem? (i := 96) (by decide +kernel)) (by decide +kernel), rfl, tyX0_ok, nmX0, rfl, inX_0⟩
theorem fl_RX0_26 : q_FL RX0 26 0 7 (tyX0 7) true := ⟨RX0, TX0, tyX0, rfl, by decide, by decide, gw_mem (List.mem_of_getElem? (i := 98) (by decide +kernel)) (by decide +kernel), rfl, tyX0_ok, nmX0, rfl, inX_0⟩
theorem fl_RX0_29 : q_FL RX0 29 0 8 (tyX0 8) true := ⟨RX0, TX0, tyX0, rfl, by decide, by decide, gw_mem (List.mem_of_getElem? (i := 100) (by decide +kernel)) (by decide +kernel), rfl, tyX0_ok, nmX0, rfl, inX_0⟩
theorem fl_RX0_32 : q_FL RX0 32 0 9 (tyX0 9) true := ⟨RX0, TX0, tyX0, rfl, by decide, by decide, gw_mem (List.mem_of_getElem? (i := 101) (by decide +kernel)) (by decide +kernel), rfl, tyX0_ok, nmX0, rfl, inX_0⟩
theorem fl_RX0_35 : q_FL RX0 35 0 10 (tyX0 10) true := ⟨RX0, TX0, tyX0, rfl, by decide, by decide, gw_mem (List.mem_of_getElem? (i := 102) (by decide +kernel)) (by decide +kernel), rfl, tyX0_ok, nmX0, rfl, inX_0⟩
theorem fl_RX0_38 : q_FL RX0 38 0 11 (tyX0 11) true := ⟨RX0, TX0, tyX0, rfl, by decide, by decide, gw_mem (List.mem_of_getElem? (i := 103) (by decide +kernel)) (by decide +kernel), rfl, tyX0_ok, nmX0, rfl, inX_0⟩
theorem fl_RX0_41 : q_FL RX0 41 0 12 (tyX0 12) false := ⟨RX0, TX0, tyX0, rfl, by decide, by decide, gw_mem (List.mem_of_getElem? (i := 104) (by decide +kernel)) (by decide +kernel), rfl, tyX0_ok, nmX0, rfl, inX_0⟩
theorem fl_RX0_45 : q_FL RX0 45 0 13 (tyX0 13) true := ⟨RX0, TX0, tyX0, rfl, by decide, by decide, gw_mem (List.mem_of_getElem? (i := 105) (by decide +kernel)) (by decide +kernel), rfl, tyX0_ok, nmX0, rfl, inX_0⟩
theorem fl_RX0_48 : q_FL RX0 48 0 14 (tyX0 14) false := ⟨RX0, TX0, tyX0, rfl, by decide, by decide, gw_mem (List.mem_of_getElem? (i := 106) (by decide +kernel)) (by decide +kernel), rfl, tyX0_ok, nmX0, rfl, inX_0⟩
theorem fl_RX0_52 : q_FL RX0 52 0 0 (tyX0 0) true := ⟨RX0, TX0, tyX0, rfl, by decide, by decide, gw_mem (List.mem_of_getElem? (i := 87) (by decide +kernel)) (by decide +kernel), rfl, tyX0_ok, nmX0, rfl, inX_0⟩
theorem fl_RX0_56 : q_FL RX0 56 0 1 (tyX0 1) true := ⟨RX0, TX0, tyX0, rfl, by decide, by decide, gw_mem (List.mem_of_getElem? (i := 88) (by decide +kernel)) (by decide +kernel), rfl, tyX0_ok, nmX0, rfl, inX_0⟩
theorem fl_RX0_59 : q_FL RX0 59 0 2 (tyX0 2) true := ⟨RX0, TX0, tyX0, rfl, by decide, by decide, gw_mem (List.mem_of_getElem? (i := 89) (by decide +kernel)) (by decide +kernel), rfl, tyX0_ok, nmX0, rfl, inX_0⟩
theorem fl_RX0_76 : q_FL RX0 76 3 5 (tyX3 5) false := ⟨RX3, TX3, tyX3, rfl, by decide, by decide, gw_mem (List.mem_of_getElem? (i := 37) (by decide +kernel)) (by decide +kernel), rfl, tyX3_ok, nmX3, rfl, inX_3⟩
theorem fl_RX0_89 : q_FL RX0 89 1 2 (tyX1 2) false := ⟨RX1, TX1, tyX1, rfl, by decide, by decide, gw_mem (List.mem_of_getElem? (i := 70) (by decide +kernel)) (by decide +kernel), rfl, tyX1_ok, nmX1, rfl, inX_1⟩
theorem fl_RX0_94 : q_FL RX0 94 1 0 (tyX1 0) true := ⟨RX1, TX1, tyX1, rfl, by decide, by decide, gw_mem (List.mem_of_getElem? (i := 64) (by decide +kernel)) (by decide +kernel), rfl, tyX1_ok, nmX1, rfl, inX_1⟩
theorem fl_RX0_97 : q_FL RX0 97 1 1 (tyX1 1) true := ⟨RX1, TX1, tyX1, rfl, by decide, by decide, gw_mem (List.mem_of_getElem? (i := 67) (by decide +kernel)) (by decide +kernel), rfl, tyX1_ok, nmX1, rfl, inX_1⟩
theorem fl_RX1_9 : q_FL RX1 9 1 2 (tyX1 2) false := ⟨RX1, TX1, tyX1, rfl, by decide, by decide, gw_mem (List.mem_of_getElem? (i := 69) (by decide +kernel)) (by decide +kernel), rfl, tyX1_ok, nmX1, rfl, inX_1⟩
theorem fl_RX1_15 : q_FL RX1 15 1 0 (tyX1 0) true := ⟨RX1, TX1, tyX1, rfl, by decide, by decide, gw_mem (List.mem_of_getElem? (i := 63) (by decide +kernel)) (by decide +kernel), rfl, tyX1_ok, nmX1, rfl, inX_1⟩
theorem fl_RX1_19 : q_FL RX1 19 1 1 (tyX1 1) true := ⟨RX1, TX1, tyX1, rfl, by decide, by decide, gw_mem (List.mem_of_getElem? (i := 66) (by decide +kernel)) (by decide +kernel), rfl, tyX1_ok, nmX1, rfl, inX_1⟩
theorem fl_RX2_9 : q_FL RX2 9 2 0 (tyX2 0) true := ⟨RX2, TX2, tyX2, rfl, by decide, by decide, gw_mem (List.mem_of_getElem? (i := 146) (by decide +kernel)) (by decide +kernel), rfl, tyX2_ok, nmX2, rfl, inX_2⟩
theorem fl_RX2_15 : q_FL RX2 15 2 1 (tyX2 1) false := ⟨RX2, TX2, tyX2, rfl, by decide, by decide, gw_mem (List.mem_of_getElem? (i := 148) (by decide +kernel)) (by decide +kernel), rfl, tyX2_ok, nmX2, rfl, inX_2⟩
theorem fl_RX2_19 : q_FL RX2 19 2 2 (tyX2 2) false := ⟨RX2, TX2, tyX2, rfl, by decide, by decide, gw_mem (List.mem_of_getElem? (i := 150) (by decide +kernel)) (by decide +kernel), rfl, tyX2_ok, nmX2, rfl, inX_2⟩
theorem fl_RX3_9 : q_FL RX3 9 3 4 (tyX3 4) false := ⟨RX3, TX3, tyX3, rfl, by decide, by decide, gw_mem (List.mem_of_getElem? (i := 34) (by decide +kernel)) (by decide +kernel), rfl, tyX3_ok, nmX3, rfl, inX_3⟩
theorem fl_RX3_15 : q_FL RX3 15 3 5 (tyX3 5) false := ⟨RX3, TX3, tyX3, rfl, by decide, by decide, gw_mem (List.mem_of_getElem? (i := 36) (by decide +kernel)) (by decide +kernel), rfl, tyX3_ok, nmX3, rfl, inX_3⟩
theorem fl_RX3_18 : q_FL RX3 18 3 6 (tyX3 6) false := ⟨RX3, TX3, tyX3, rfl, by decide, by decide, gw_mem (List.mem_of_getElem? (i := 39) (by decide +kernel)) (by decide +kernel), rfl, tyX3_ok, nmX3, rfl, inX_3⟩
theorem fl_RX3_21 : q_FL RX3 21 3 0 (tyX3 0) true := ⟨RX3, TX3, tyX3, rfl, by decide, by decide, gw_mem (List.mem_of_getElem? (i := 30) (by decide +kernel)) (by decide +kernel), rfl, tyX3_ok, nmX3, rfl, inX_3⟩
theorem fl_RX3_25 : q_FL RX3 25 3 1 (tyX3 1) true := ⟨RX3, TX3, tyX3, rfl, by decide, by decide, gw_mem (List.mem_of_getElem? (i := 31) (by decide +kernel)) (by decide +kernel), rfl, tyX3_ok, nmX3, rfl, inX_3⟩
theorem fl_RX3_28 : q_FL RX3 28 3 2 (tyX3 2) true := ⟨RX3, TX3, tyX3, rfl, by decide, by decide, gw_mem (List.mem_of_getElem? (i := 32) (by decide +kernel)) (by decide +kernel), rfl, tyX3_ok, nmX3, rfl, inX_3⟩
theorem fl_RX3_32 : q_FL RX3 32 3 3 (tyX3 3) true := ⟨RX3, TX3, tyX3, rfl, by decide, by decide, gw_mem (List.mem_of_getElem? (i := 33) (by decide +kernel)) (by decide +kernel), rfl, tyX3_ok, nmX3, rfl, inX_3⟩
theorem fl_RX5_7 : q_FL RX5 7 5 0 (tyX5 0) true := ⟨RX5, TX5, tyX5, rfl, by decide, by decide, gw_mem (List.mem_of_getElem? (i := 693) (by decide +kernel)) (by decide +kernel), rfl, tyX5_ok, nmX5, rfl, inX_5⟩
theorem fl_RX5_13 : q_FL RX5 13 5 1 (tyX5 1) true := ⟨RX5, TX5, tyX5, rfl, by decide, by decide, gw_mem (List.mem_of_getElem? (i := 694) (by decide +kernel)) (by decide +kernel), rfl, tyX5_ok, nmX5, rfl, inX_5⟩
theorem fl_RX5_16 : q_FL RX5 16 5 2 (tyX5 2) true := ⟨RX5, TX5, tyX5, rfl, by decide, by decide, gw_mem (List.mem_of_getElem? (i := 695) (by decide +kernel)) (by decide +kernel), rfl, tyX5_ok, nmX5, rfl, inX_5⟩
theorem fl_RX5_19 : q_FL RX5 19 5 3 (tyX5 3) true := ⟨RX5, TX5, tyX5, rfl, by decide, by decide, gw_mem (List.mem_of_getElem? (i := 696) (by decide +kernel)) (by decide +kernel), rfl, tyX5_ok, nmX5, rfl, inX_5⟩
theorem fl_RX5_22 : q_FL RX5 22 5 5 (tyX5 5) true := ⟨RX5, TX5, tyX5, rfl, by decide, by decide, gw_mem (List.mem_of_getElem? (i := 698) (by decide +kernel)) (by decide +kernel), rfl, tyX5_ok, nmX5, rfl, inX_5⟩
theorem fl_RX5_25 : q_FL RX5 25 5 6 (tyX5 6) true := ⟨RX5, TX5, tyX5, rfl, by decide, by decide, gw_mem (List.mem_of_getElem? (i := 699) (by decide +kernel)) (by decide +kernel), rfl, tyX5_ok, nmX5, rfl, inX_5⟩
theorem fl_RX5_28 : q_FL RX5 28 5 9 (tyX5 9) true := ⟨RX5, TX5, tyX5, rfl, by decide, by decide, gw_mem (List.mem_of_getElem? (i := 702) (by decide +kernel)) (by decide +kernel), rfl, tyX5_ok, nmX5, rfl, inX_5⟩
theorem fl_RX5_31 : q_FL RX5 31 5 11 (tyX5 11) true := ⟨RX5, TX5, tyX5, rfl, by decide, by decide, gw_mem (List.mem_of_getElem? (i := 704) (by decide +kernel)) (by decide +kernel), rfl, tyX5_ok, nmX5, rfl, inX_5⟩
theorem fl_RX5_34 : q_FL RX5 34 5 13 (tyX5 13) true := ⟨RX5, TX5, tyX5, rfl, by decide, by decide, gw_mem (List.mem_of_getElem? (i := 706) (by decide +kernel)) (by decide +kernel), rfl, tyX5_ok, nmX5, rfl, inX_5⟩
theorem fl_RX5_37 : q_FL RX5 37 5 15 (tyX5 15) true := ⟨RX5, TX5, tyX5, rfl, by decide, by decide, gw_mem (List.mem_of_getElem? (i := 708) (by decide +kernel)) (by decide +kernel), rfl, tyX5_ok, nmX5, rfl, inX_5⟩
theorem fl_RX5_40 : q_FL RX5 40 5 16 (tyX5 16) true := ⟨RX5, TX5, tyX5, rfl, by decide, by decide, gw_mem (List.mem_of_getElem? (i := 709) (by decide +kernel)) (by decide +kernel), rfl, tyX5_ok, nmX5, rfl, inX_5⟩
theorem fl_RX5_43 : q_FL RX5 43 5 17 (tyX5 17) true := ⟨RX5, TX5, tyX5, rfl, by decide, by decide, gw_mem (List.mem_of_getElem? (i := 710) (by decide +kernel)) (by decide +kernel), rfl, tyX5_ok, nmX5, rfl, inX_5⟩
theorem fl_RX5_46 : q_FL RX5 46 5 18 (tyX5 18) true := ⟨RX5, TX5, tyX5, rfl, by decide, by decide, gw_mem (List.mem_of_getElem? (i := 711) (by decide +kernel)) (by decide +kernel), rfl, tyX5_ok, nmX5, rfl, inX_5⟩
theorem fl_RX5_49 : q_FL RX5 49 5 19 (tyX5 19) true := ⟨RX5, TX5, tyX5, rfl, by decide, by decide, gw_mem (List.mem_of_getElem? (i := 712) (by decide +kernel)) (by decide +kernel), rfl, tyX5_ok, nmX5, rfl, inX_5⟩
theorem fl_RX5_52 : q_FL RX5 52 5 25 (tyX5 25) true := ⟨RX5, TX5, tyX5, rfl, by decide, by decide, gw_mem (List.mem_of_getElem? (i := 718) (by decide +kernel)) (by decide +kernel), rfl, tyX5_ok, nmX5, rfl, inX_5⟩
theorem fl_RX5_55 : q_FL RX5 55 5 23 (tyX5 23) false := ⟨RX5, TX5, tyX5, rfl, by decide, by decide, gw_mem (List.mem_of_getElem? (i := 716) (by decide +kernel)) (by decide +kernel), rfl, tyX5_ok, nmX5, rfl, inX_5⟩
theorem fl_RX5_65 : q_FL RX5 65 5 4 (tyX5 4) false := ⟨RX5, TX5, tyX5, rfl, by decide, by decide, gw_mem (List.mem_of_getElem? (i := 697) (by decide +kernel)) (by decide +kernel), rfl, tyX5_ok, nmX5, rfl, inX_5⟩
theorem fl_RX5_103 : q_FL RX5 103 5 8 (tyX5 8) false := ⟨RX5, TX5, tyX5, rfl, by decide, by decide, gw_mem (List.mem_of_getElem? (i := 701) (by decide +kernel)) (by decide +kernel), rfl, tyX5_ok, nmX5, rfl, inX_5⟩
theorem fl_RX5_106 : q_FL RX5 106 5 10 (tyX5 10) false := ⟨RX5, TX5, tyX5, rfl, by decide, by decide, gw_mem (List.mem_of_getElem? (i := 703) (by decide +kernel)) (by decide +kernel), rfl, tyX5_ok, nmX5, rfl, inX_5⟩
theorem fl_RX5_109 : q_FL RX5 109 5 7 (tyX5 7) false := ⟨RX5, TX5, tyX5, rfl, by decide, by decide, gw_mem (List.mem_of_getElem? (i := 700) (by decide +kernel)) (by decide +kernel), rfl, tyX5_ok, nmX5, rfl, inX_5⟩
theorem fl_RX5_139 : q_FL RX5 139 5 12 (tyX5 12) false := ⟨RX5, TX5, tyX5, rfl, by decide, by decide, gw_mem (List.mem_of_getElem? (i := 705) (by decide +kernel)) (by decide +kernel), rfl, tyX5_ok, nmX5, rfl, inX_5⟩
theorem fl_RX5_148 : q_FL RX5 148 5 14 (tyX5 14) false := ⟨RX5, TX5, tyX5, rfl, by decide, by decide, gw_mem (List.mem_of_getElem? (i := 707) (by decide +kernel)) (by decide +kernel), rfl, tyX5_ok, nmX5, rfl, inX_5⟩
theorem fl_RX5_154 : q_FL RX5 154 5 20 (tyX5 20) false := ⟨RX5, TX5, tyX5, rfl, by decide, by decide, gw_mem (List.mem_of_getElem? (i := 713) (by decide +kernel)) (by decide +kernel), rfl, tyX5_ok, nmX5, rfl, inX_5⟩
theorem fl_RX5_161 : q_FL RX5 161 5 21 (tyX5 21) false := ⟨RX5, TX5, tyX5, rfl, by decide, by decide, gw_mem (List.mem_of_getElem? (i := 714) (by decide +kernel)) (by decide +kernel), rfl, tyX5_ok, nmX5, rfl, inX_5⟩
theorem fl_RX5_181 : q_FL RX5 181 5 22 (tyX5 22) false := ⟨RX5, TX5, tyX5, rfl, by decide, by decide, gw_mem (List.mem_of_getElem? (i := 715) (by decide +kernel)) (by decide +kernel), rfl, tyX5_ok, nmX5, rfl, inX_5⟩
theorem fl_RX5_248 : q_FL RX5 248 5 24 (tyX5 24) false := ⟨RX5, TX5, tyX5, rfl, by decide, by decide, gw_mem (List.mem_of_getElem? (i := 717) (by decide +kernel)) (by decide +kernel), rfl, tyX5_ok, nmX5, rfl, inX_5⟩
theorem ys_X4_areLaws : q_YS yX4_areLaws cX4_areLaws 1 (some .boolean) 1 := ⟨gw_mem (List.mem_of_getElem? (i := 467) (by decide +kernel)) (by decide +kernel), gw_mem (List.mem_of_getElem? (i := 1) (by decide +kernel)) (by decide +kernel), gw_mem (List.mem_of_getElem? (i := 468) (by decide +kernel)) (by decide +kernel), by decide +kernel, by decide⟩
theorem yi_X4_back : q_YI yX4_back cX4_back 2 (some .int) 4 1 := ⟨gw_mem (List.mem_of_getElem? (i := 354) (by decide +kernel)) (by decide +kernel), gw_mem (List.mem_of_getElem? (i := 355) (by decide +kernel)) (by decide +kernel), gw_mem (List.mem_of_getElem? (i := 1) (by decide +kernel)) (by decide +kernel), gw_mem (List.mem_of_getElem? (i := 356) (by decide +kernel)) (by decide +kernel), by decide +kernel, by decide, by decide, by decide +kernel⟩
theorem ys_X4_below : q_YS yX4_below cX4_below 2 (some .boolean) 2 := ⟨gw_mem (List.mem_of_getElem? (i := 195) (by decide +kernel)) (by decide +kernel), gw_mem (List.mem_of_getElem? (i := 1) (by decide +kernel)) (by decide +kernel), gw_mem (List.mem_of_getElem? (i := 196) (by decide +kernel)) (by decide +kernel), by decide +kernel, by decide⟩
theorem yi_X4_broken : q_YI yX4_broken cX4_broken 3 (some .int) 4 1 := ⟨gw_mem (List.mem_of_getElem? (i := 423) (by decide +kernel)) (by decide +kernel), gw_mem (List.mem_of_getElem? (i := 424) (by decide +kernel)) (by decide +kernel), gw_mem (List.mem_of_getElem? (i := 1) (by decide +kernel)) (by decide +kernel), gw_mem (List.mem_of_getElem? (i := 425) (by decide +kernel)) (by decide +kernel), by decide +kernel, by decide, by decide, by decide +kernel⟩
theorem yi_X4_brokenDeeds : q_YI yX4_brokenDeeds cX4_brokenDeeds 4 (some .int) 4 1 := ⟨gw_mem (List.mem_of_getElem? (i := 428) (by decide +kernel)) (by decide +kernel), gw_sel (q := (yX4_brokenDeeds, 10)) (List.mem_of_getElem? (i := 12) (by decide +kernel)) (by decide +kernel), gw_mem (List.mem_of_getElem? (i := 1) (by decide +kernel)) (by decide +kernel), gw_mem (List.mem_of_getElem? (i := 429) (by decide +kernel)) (by decide +kernel), by decide +kernel, by decide, by decide, by decide +kernel⟩
theorem yi_X4_clash : q_YI yX4_clash cX4_clash 2 (some .int) 4 1 := ⟨gw_mem (List.mem_of_getElem? (i := 443) (by decide +kernel)) (by decide +kernel), gw_mem (List.mem_of_getElem? (i := 444) (by decide +kernel)) (by decide +kernel), gw_mem (List.mem_of_getElem? (i := 1) (by decide +kernel)) (by decide +kernel), gw_mem (List.mem_of_getElem? (i := 445) (by decide +kernel)) (by decide +kernel), by decide +kernel, by decide, by decide, by decide +kernel⟩
theorem yi_X4_copy : q_YI yX4_copy cX4_copy 8 (some .int) 4 5 := ⟨gw_mem (List.mem_of_getElem? (i := 631) (by decide +kernel)) (by decide +kernel), gw_mem (List.mem_of_getElem? (i := 632) (by decide +kernel)) (by decide +kernel), gw_mem (List.mem_of_getElem? (i := 1) (by decide +kernel)) (by decide +kernel), gw_mem (List.mem_of_getElem? (i := 633) (by decide +kernel)) (by decide +kernel), by decide +kernel, by decide, by decide, by decide +kernel⟩
theorem yi_X4_count : q_YI yX4_count cX4_count 2 (some .int) 4 1 := ⟨gw_mem (List.mem_of_getElem? (i := 646) (by decide +kernel)) (by decide +kernel), gw_mem (List.mem_of_getElem? (i := 647) (by decide +kernel)) (by decide +kernel), gw_mem (List.mem_of_getElem? (i := 1) (by decide +kernel)) (by decide +kernel), gw_mem (List.mem_of_getElem? (i := 648) (by decide +kernel)) (by decide +kernel), by decide +kernel, by decide, by decide, by decide +kernel⟩
theorem yi_X4_crack : q_YI yX4_crack cX4_crack 3 (some .int) 4 2 := ⟨gw_mem (List.mem_of_getElem? (i := 342) (by decide +kernel)) (by decide +kernel), gw_mem (List.mem_of_getElem? (i := 343) (by decide +kernel)) (by decide +kernel), gw_mem (List.mem_of_getElem? (i := 1) (by decide +kernel)) (by decide +kernel), gw_mem (List.mem_of_getElem? (i := 344) (by decide +kernel)) (by decide +kernel), by decide +kernel, by decide, by decide, by decide +kernel⟩
theorem yi_X4_day : q_YI yX4_day cX4_day 2 (some .int) 4 1 := ⟨gw_mem (List.mem_of_getElem? (i := 415) (by decide +kernel)) (by decide +kernel), gw_mem (List.mem_of_getElem? (i := 416) (by decide +kernel)) (by decide +kernel), gw_mem (List.mem_of_getElem? (i := 1) (by decide +kernel)) (by decide +kernel), gw_mem (List.mem_of_getElem? (i := 417) (by decide +kernel)) (by decide +kernel), by decide +kernel, by decide, by decide, by decide +kernel⟩
theorem yi_X4_deed : q_YI yX4_deed cX4_deed 3 (some .int) 4 2 := ⟨gw_mem (List.mem_of_getElem? (i := 350) (by decide +kernel)) (by decide +kernel), gw_mem (List.mem_of_getElem? (i := 351) (by decide +kernel)) (by decide +kernel), gw_mem (List.mem_of_getElem? (i := 1) (by decide +kernel)) (by decide +kernel), gw_mem (List.mem_of_getElem? (i := 352) (by decide +kernel)) (by decide +kernel), by decide +kernel, by decide, by decide, by decide +kernel⟩
theorem yi_X4_digest : q_YI yX4_digest cX4_digest 4 (some .long) 4 0 := ⟨gw_mem (List.mem_of_getElem? (i := 654) (by decide +kernel)) (by decide +kernel), gw_mem (List.mem_of_getElem? (i := 655) (by decide +kernel)) (by decide +kernel), gw_mem (List.mem_of_getElem? (i := 1) (by decide +kernel)) (by decide +kernel), gw_mem (List.mem_of_getElem? (i := 656) (by decide +kernel)) (by decide +kernel), by decide +kernel, by decide, by decide, by decide +kernel⟩
theorem yi_X4_digestOfLaw : q_YI yX4_digestOfLaw cX4_digestOfLaw 6 (some .long) 4 2 := ⟨gw_mem (List.mem_of_getElem? (i := 678) (by decide +kernel)) (by decide +kernel), gw_sel (q := (yX4_digestOfLaw, 10)) (List.mem_of_getElem? (i := 27) (by decide +kernel)) (by decide +kernel), gw_mem (List.mem_of_getElem? (i := 1) (by decide +kernel)) (by decide +kernel), gw_mem (List.mem_of_getElem? (i := 679) (by decide +kernel)) (by decide +kernel), by decide +kernel, by decide, by decide, by decide +kernel⟩
theorem yi_X4_digestOfTexts : q_YI yX4_digestOfTexts cX4_digestOfTexts 7 (some .long) 4 1 := ⟨gw_mem (List.mem_of_getElem? (i := 662) (by decide +kernel)) (by decide +kernel), gw_sel (q := (yX4_digestOfTexts, 10)) (List.mem_of_getElem? (i := 25) (by decide +kernel)) (by decide +kernel), gw_mem (List.mem_of_getElem? (i := 1) (by decide +kernel)) (by decide +kernel), gw_mem (List.mem_of_getElem? (i := 663) (by decide +kernel)) (by decide +kernel), by decide +kernel, by decide, by decide, by decide +kernel⟩
theorem yi_X4_digestOfTurns : q_YI yX4_digestOfTurns cX4_digestOfTurns 7 (some .long) 4 2 := ⟨gw_mem (List.mem_of_getElem? (i := 669) (by decide +kernel)) (by decide +kernel), gw_sel (q := (yX4_digestOfTurns, 10)) (List.mem_of_getElem? (i := 26) (by decide +kernel)) (by decide +kernel), gw_mem (List.mem_of_getElem? (i := 1) (by decide +kernel)) (by decide +kernel), gw_mem (List.mem_of_getElem? (i := 670) (by decide +kernel)) (by decide +kernel), by decide +kernel, by decide, by decide, by decide +kernel⟩
theorem yi_X4_earliestDeed : q_YI yX4_earliestDeed cX4_earliestDeed 5 (some .int) 4 1 := ⟨gw_mem (List.mem_of_getElem? (i := 436) (by decide +kernel)) (by decide +kernel), gw_sel (q := (yX4_earliestDeed, 10)) (List.mem_of_getElem? (i := 13) (by decide +kernel)) (by decide +kernel), gw_mem (List.mem_of_getElem? (i := 1) (by decide +kernel)) (by decide +kernel), gw_mem (List.mem_of_getElem? (i := 437) (by decide +kernel)) (by decide +kernel), by decide +kernel, by decide, by decide, by decide +kernel⟩
theorem yi_X4_fault : q_YI yX4_fault cX4_fault 2 (some .int) 4 1 := ⟨gw_mem (List.mem_of_getElem? (i := 326) (by decide +kernel)) (by decide +kernel), gw_mem (List.mem_of_getElem? (i := 327) (by decide +kernel)) (by decide +kernel), gw_mem (List.mem_of_getElem? (i := 1) (by decide +kernel)) (by decide +kernel), gw_mem (List.mem_of_getElem? (i := 328) (by decide +kernel)) (by decide +kernel), by decide +kernel, by decide, by decide, by decide +kernel⟩
theorem yi_X4_find : q_YI yX4_find cX4_find 2 (some .int) 4 1 := ⟨gw_mem (List.mem_of_getElem? (i := 549) (by decide +kernel)) (by decide +kernel), gw_sel (q := (yX4_find, 10)) (List.mem_of_getElem? (i := 19) (by decide +kernel)) (by decide +kernel), gw_mem (List.mem_of_getElem? (i := 1) (by decide +kernel)) (by decide +kernel), gw_mem (List.mem_of_getElem? (i := 550) (by decide +kernel)) (by decide +kernel), by decide +kernel, by decide, by decide, by decide +kernel⟩
theorem yi_X4_fits : q_YI yX4_fits cX4_fits 6 (some .int) 4 1 := ⟨gw_mem (List.mem_of_getElem? (i := 553) (by decide +kernel)) (by decide +kernel), gw_mem (List.mem_of_getElem? (i := 554) (by decide +kernel)) (by decide +kernel), gw_mem (List.mem_of_getElem? (i := 1) (by decide +kernel)) (by decide +kernel), gw_mem (List.mem_of_getElem? (i := 555) (by decide +kernel)) (by decide +kernel), by decide +kernel, by decide, by decide, by decide +kernel⟩
theorem yi_X4_forget : q_YI yX4_forget cX4_forget 1 (some .int) 4 0 := ⟨gw_mem (List.mem_of_getElem? (i := 532) (by decide +kernel)) (by decide +kernel), gw_mem (List.mem_of_getElem? (i := 533) (by decide +kernel)) (by decide +kernel), gw_mem (List.mem_of_getElem? (i := 1) (by decide +kernel)) (by decide +kernel), gw_mem (List.mem_of_getElem? (i := 534) (by decide +kernel)) (by decide +kernel), by decide +kernel, by decide, by decide, by decide +kernel⟩
theorem yi_X4_free : q_YI yX4_free cX4_free 5 (some .int) 4 1 := ⟨gw_mem (List.mem_of_getElem? (i := 439) (by decide +kernel)) (by decide +kernel), gw_mem (List.mem_of_getElem? (i := 440) (by decide +kernel)) (by decide +kernel), gw_mem (List.mem_of_getElem? (i := 1) (by decide +kernel)) (by decide +kernel), gw_mem (List.mem_of_getElem? (i := 441) (by decide +kernel)) (by decide +kernel), by decide +kernel, by decide, by decide, by decide +kernel⟩
theorem yi_X4_get : q_YI yX4_get cX4_get 5 (some .int) 4 3 := ⟨gw_mem (List.mem_of_getElem? (i := 626) (by decide +kernel)) (by decide +kernel), gw_mem (List.mem_of_getElem? (i := 627) (by decide +kernel)) (by decide +kernel), gw_mem (List.mem_of_getElem? (i := 1) (by decide +kernel)) (by decide +kernel), gw_mem (List.mem_of_getElem? (i := 628) (by decide +kernel)) (by decide +kernel), by decide +kernel, by decide, by decide, by decide +kernel⟩
theorem ys_X4_howManyOrBits : q_YS yX4_howManyOrBits cX4_howManyOrBits 2 (some .int) 2 := ⟨gw_mem (List.mem_of_getElem? (i := 496) (by decide +kernel)) (by decide +kernel), gw_mem (List.mem_of_getElem? (i := 1) (by decide +kernel)) (by decide +kernel), gw_mem (List.mem_of_getElem? (i := 497) (by decide +kernel)) (by decide +kernel), by decide +kernel, by decide⟩
theorem ys_X4_itemFinding : q_YS yX4_itemFinding cX4_itemFinding 3 (some .int) 3 := ⟨gw_mem (List.mem_of_getElem? (i := 619) (by decide +kernel)) (by decide +kernel), gw_mem (List.mem_of_getElem? (i := 1) (by decide +kernel)) (by decide +kernel), gw_mem (List.mem_of_getElem? (i := 620) (by decide +kernel)) (by decide +kernel), by decide +kernel, by decide⟩
theorem yi_X4_lay : q_YI yX4_lay cX4_lay 6 (some .int) 4 4 := ⟨gw_mem (List.mem_of_getElem? (i := 615) (by decide +kernel)) (by decide +kernel), gw_mem (List.mem_of_getElem? (i := 616) (by decide +kernel)) (by decide +kernel), gw_mem (List.mem_of_getElem? (i := 1) (by decide +kernel)) (by decide +kernel), gw_mem (List.mem_of_getElem? (i := 617) (by decide +kernel)) (by decide +kernel), by decide +kernel, by decide, by decide, by decide +kernel⟩
theorem yi_X4_leaf : q_YI yX4_leaf cX4_leaf 3 (some .int) 4 2 := ⟨gw_mem (List.mem_of_getElem? (i := 330) (by decide +kernel)) (by decide +kernel), gw_mem (List.mem_of_getElem? (i := 331) (by decide +kernel)) (by decide +kernel), gw_mem (List.mem_of_getElem? (i := 1) (by decide +kernel)) (by decide +kernel), gw_mem (List.mem_of_getElem? (i := 332) (by decide +kernel)) (by decide +kernel), by decide +kernel, by decide, by decide, by decide +kernel⟩
theorem yi_X4_lies : q_YI yX4_lies cX4_lies 5 (some .int) 4 3 := ⟨gw_mem (List.mem_of_getElem? (i := 366) (by decide +kernel)) (by decide +kernel), gw_mem (List.mem_of_getElem? (i := 367) (by decide +kernel)) (by decide +kernel), gw_mem (List.mem_of_getElem? (i := 1) (by decide +kernel)) (by decide +kernel), gw_mem (List.mem_of_getElem? (i := 368) (by decide +kernel)) (by decide +kernel), by decide +kernel, by decide, by decide, by decide +kernel⟩
theorem yi_X4_lose : q_YI yX4_lose cX4_lose 2 (some .int) 4 1 := ⟨gw_mem (List.mem_of_getElem? (i := 607) (by decide +kernel)) (by decide +kernel), gw_mem (List.mem_of_getElem? (i := 608) (by decide +kernel)) (by decide +kernel), gw_mem (List.mem_of_getElem? (i := 1) (by decide +kernel)) (by decide +kernel), gw_mem (List.mem_of_getElem? (i := 609) (by decide +kernel)) (by decide +kernel), by decide +kernel, by decide, by decide, by decide +kernel⟩
theorem yi_X4_mornings : q_YI yX4_mornings cX4_mornings 8 (some .int) 4 3 := ⟨gw_mem (List.mem_of_getElem? (i := 594) (by decide +kernel)) (by decide +kernel), gw_mem (List.mem_of_getElem? (i := 595) (by decide +kernel)) (by decide +kernel), gw_mem (List.mem_of_getElem? (i := 1) (by decide +kernel)) (by decide +kernel), gw_mem (List.mem_of_getElem? (i := 596) (by decide +kernel)) (by decide +kernel), by decide +kernel, by decide, by decide, by decide +kernel⟩
theorem yi_X4_place : q_YI yX4_place cX4_place 3 (some .int) 4 2 := ⟨gw_mem (List.mem_of_getElem? (i := 507) (by decide +kernel)) (by decide +kernel), gw_mem (List.mem_of_getElem? (i := 508) (by decide +kernel)) (by decide +kernel), gw_mem (List.mem_of_getElem? (i := 1) (by decide +kernel)) (by decide +kernel), gw_mem (List.mem_of_getElem? (i := 509) (by decide +kernel)) (by decide +kernel), by decide +kernel, by decide, by decide, by decide +kernel⟩
theorem yi_X4_pour : q_YI yX4_pour cX4_pour 8 (some .int) 4 1 := ⟨gw_mem (List.mem_of_getElem? (i := 463) (by decide +kernel)) (by decide +kernel), gw_mem (List.mem_of_getElem? (i := 464) (by decide +kernel)) (by decide +kernel), gw_mem (List.mem_of_getElem? (i := 1) (by decide +kernel)) (by decide +kernel), gw_mem (List.mem_of_getElem? (i := 465) (by decide +kernel)) (by decide +kernel), by decide +kernel, by decide, by decide, by decide +kernel⟩
theorem yi_X4_read : q_YI yX4_read cX4_read 3 (some .int) 4 2 := ⟨gw_mem (List.mem_of_getElem? (i := 528) (by decide +kernel)) (by decide +kernel), gw_mem (List.mem_of_getElem? (i := 529) (by decide +kernel)) (by decide +kernel), gw_mem (List.mem_of_getElem? (i := 1) (by decide +kernel)) (by decide +kernel), gw_mem (List.mem_of_getElem? (i := 530) (by decide +kernel)) (by decide +kernel), by decide +kernel, by decide, by decide, by decide +kernel⟩
theorem yi_X4_reading : q_YI yX4_reading cX4_reading 4 (some .int) 4 2 := ⟨gw_mem (List.mem_of_getElem? (i := 411) (by decide +kernel)) (by decide +kernel), gw_mem (List.mem_of_getElem? (i := 412) (by decide +kernel)) (by decide +kernel), gw_mem (List.mem_of_getElem? (i := 1) (by decide +kernel)) (by decide +kernel), gw_mem (List.mem_of_getElem? (i := 413) (by decide +kernel)) (by decide +kernel), by decide +kernel, by decide, by decide, by decide +kernel⟩
theorem yi_X4_rule : q_YI yX4_rule cX4_rule 3 (some .int) 4 2 := ⟨gw_mem (List.mem_of_getElem? (i := 338) (by decide +kernel)) (by decide +kernel), gw_mem (List.mem_of_getElem? (i := 339) (by decide +kernel)) (by decide +kernel), gw_mem (List.mem_of_getElem? (i := 1) (by decide +kernel)) (by decide +kernel), gw_mem (List.mem_of_getElem? (i := 340) (by decide +kernel)) (by decide +kernel), by decide +kernel, by decide, by decide, by decide +kernel⟩
theorem yi_X4_rulesWithPlus : q_YI yX4_rulesWithPlus cX4_rulesWithPlus 3 (some .int) 4 0 := ⟨gw_mem (List.mem_of_getElem? (i := 651) (by decide +kernel)) (by decide +kernel), gw_sel (q := (yX4_rulesWithPlus, 10)) (List.mem_of_getElem? (i := 24) (by decide +kernel)) (by decide +kernel), gw_mem (List.mem_of_getElem? (i := 1) (by decide +kernel)) (by decide +kernel), gw_mem (List.mem_of_getElem? (i := 652) (by decide +kernel)) (by decide +kernel), by decide +kernel, by decide, by decide, by decide +kernel⟩
theorem yi_X4_set : q_YI yX4_set cX4_set 4 (some .int) 4 2 := ⟨gw_mem (List.mem_of_getElem? (i := 362) (by decide +kernel)) (by decide +kernel), gw_mem (List.mem_of_getElem? (i := 363) (by decide +kernel)) (by decide +kernel), gw_mem (List.mem_of_getElem? (i := 1) (by decide +kernel)) (by decide +kernel), gw_mem (List.mem_of_getElem? (i := 364) (by decide +kernel)) (by decide +kernel), by decide +kernel, by decide, by decide, by decide +kernel⟩
theorem yi_X4_sheet : q_YI yX4_sheet cX4_sheet 4 (some .int) 4 3 := ⟨gw_mem (List.mem_of_getElem? (i := 599) (by decide +kernel)) (by decide +kernel), gw_mem (List.mem_of_getElem? (i := 600) (by decide +kernel)) (by decide +kernel), gw_mem (List.mem_of_getElem? (i := 1) (by decide +kernel)) (by decide +kernel), gw_mem (List.mem_of_getElem? (i := 601) (by decide +kernel)) (by decide +kernel), by decide +kernel, by decide, by decide, by decide +kernel⟩
theorem yi_X4_sides : q_YI yX4_sides cX4_sides 4 (some .int) 4 2 := ⟨gw_mem (List.mem_of_getElem? (i := 519) (by decide +kernel)) (by decide +kernel), gw_mem (List.mem_of_getElem? (i := 520) (by decide +kernel)) (by decide +kernel), gw_mem (List.mem_of_getElem? (i := 1) (by decide +kernel)) (by decide +kernel), gw_mem (List.mem_of_getElem? (i := 521) (by decide +kernel)) (by decide +kernel), by decide +kernel, by decide, by decide, by decide +kernel⟩
theorem yi_X4_sinks : q_YI yX4_sinks cX4_sinks 9 (some .long) 4 4 := ⟨gw_mem (List.mem_of_getElem? (i := 573) (by decide +kernel)) (by decide +kernel), gw_mem (List.mem_of_getElem? (i := 574) (by decide +kernel)) (by decide +kernel), gw_mem (List.mem_of_getElem? (i := 1) (by decide +kernel)) (by decide +kernel), gw_mem (List.mem_of_getElem? (i := 575) (by decide +kernel)) (by decide +kernel), by decide +kernel, by decide, by decide, by decide +kernel⟩
theorem yi_X4_strain : q_YI yX4_strain cX4_strain 5 (some .int) 4 4 := ⟨gw_mem (List.mem_of_getElem? (i := 476) (by decide +kernel)) (by decide +kernel), gw_mem (List.mem_of_getElem? (i := 477) (by decide +kernel)) (by decide +kernel), gw_mem (List.mem_of_getElem? (i := 1) (by decide +kernel)) (by decide +kernel), gw_mem (List.mem_of_getElem? (i := 478) (by decide +kernel)) (by decide +kernel), by decide +kernel, by decide, by decide, by decide +kernel⟩
theorem yi_X4_strike : q_YI yX4_strike cX4_strike 4 (some .int) 4 3 := ⟨gw_mem (List.mem_of_getElem? (i := 499) (by decide +kernel)) (by decide +kernel), gw_mem (List.mem_of_getElem? (i := 500) (by decide +kernel)) (by decide +kernel), gw_mem (List.mem_of_getElem? (i := 1) (by decide +kernel)) (by decide +kernel), gw_mem (List.mem_of_getElem? (i := 501) (by decide +kernel)) (by decide +kernel), by decide +kernel, by decide, by decide, by decide +kernel⟩
theorem yi_X4_take : q_YI yX4_take cX4_take 5 (some .int) 4 1 := ⟨gw_mem (List.mem_of_getElem? (i := 540) (by decide +kernel)) (by decide +kernel), gw_mem (List.mem_of_getElem? (i := 541) (by decide +kernel)) (by decide +kernel), gw_mem (List.mem_of_getElem? (i := 1) (by decide +kernel)) (by decide +kernel), gw_mem (List.mem_of_getElem? (i := 542) (by decide +kernel)) (by decide +kernel), by decide +kernel, by decide, by decide, by decide +kernel⟩
theorem yi_X4_textOf : q_YI yX4_textOf cX4_textOf 2 (some (.object "TeaLaws$Text")) 4 1 := ⟨gw_mem (List.mem_of_getElem? (i := 199) (by decide +kernel)) (by decide +kernel), gw_sel (q := (yX4_textOf, 10)) (List.mem_of_getElem? (i := 0) (by decide +kernel)) (by decide +kernel), gw_mem (List.mem_of_getElem? (i := 1) (by decide +kernel)) (by decide +kernel), gw_mem (List.mem_of_getElem? (i := 200) (by decide +kernel)) (by decide +kernel), by decide +kernel, by decide, by decide, by decide +kernel⟩
theorem yi_X4_turnsOn : q_YI yX4_turnsOn cX4_turnsOn 2 (some .int) 4 1 := ⟨gw_mem (List.mem_of_getElem? (i := 420) (by decide +kernel)) (by decide +kernel), gw_sel (q := (yX4_turnsOn, 10)) (List.mem_of_getElem? (i := 11) (by decide +kernel)) (by decide +kernel), gw_mem (List.mem_of_getElem? (i := 1) (by decide +kernel)) (by decide +kernel), gw_mem (List.mem_of_getElem? (i := 421) (by decide +kernel)) (by decide +kernel), by decide +kernel, by decide, by decide, by decide +kernel⟩
theorem yi_X4_type : q_YI yX4_type cX4_type 3 (some .int) 4 2 := ⟨gw_mem (List.mem_of_getElem? (i := 191) (by decide +kernel)) (by decide +kernel), gw_mem (List.mem_of_getElem? (i := 192) (by decide +kernel)) (by decide +kernel), gw_mem (List.mem_of_getElem? (i := 1) (by decide +kernel)) (by decide +kernel), gw_mem (List.mem_of_getElem? (i := 193) (by decide +kernel)) (by decide +kernel), by decide +kernel, by decide, by decide, by decide +kernel⟩
theorem yi_X4_undo : q_YI yX4_undo cX4_undo 2 (some .int) 4 1 := ⟨gw_mem (List.mem_of_getElem? (i := 318) (by decide +kernel)) (by decide +kernel), gw_mem (List.mem_of_getElem? (i := 319) (by decide +kernel)) (by decide +kernel), gw_mem (List.mem_of_getElem? (i := 1) (by decide +kernel)) (by decide +kernel), gw_mem (List.mem_of_getElem? (i := 320) (by decide +kernel)) (by decide +kernel), by decide +kernel, by decide, by decide, by decide +kernel⟩
theorem yi_X4_wipe : q_YI yX4_wipe cX4_wipe 2 (some .int) 4 1 := ⟨gw_mem (List.mem_of_getElem? (i := 310) (by decide +kernel)) (by decide +kernel), gw_mem (List.mem_of_getElem? (i := 311) (by decide +kernel)) (by decide +kernel), gw_mem (List.mem_of_getElem? (i := 1) (by decide +kernel)) (by decide +kernel), gw_mem (List.mem_of_getElem? (i := 312) (by decide +kernel)) (by decide +kernel), by decide +kernel, by decide, by decide, by decide +kernel⟩
theorem yi_X4_wouldFit : q_YI yX4_wouldFit cX4_wouldFit 5 (some .boolean) 4 3 := ⟨gw_mem (List.mem_of_getElem? (i := 558) (by decide +kernel)) (by decide +kernel), gw_sel (q := (yX4_wouldFit, 10)) (List.mem_of_getElem? (i := 20) (by decide +kernel)) (by decide +kernel), gw_mem (List.mem_of_getElem? (i := 1) (by decide +kernel)) (by decide +kernel), gw_mem (List.mem_of_getElem? (i := 559) (by decide +kernel)) (by decide +kernel), by decide +kernel, by decide, by decide, by decide +kernel⟩
theorem yi_X4_write : q_YI yX4_write cX4_write 6 (some .int) 4 1 := ⟨gw_mem (List.mem_of_getElem? (i := 642) (by decide +kernel)) (by decide +kernel), gw_mem (List.mem_of_getElem? (i := 643) (by decide +kernel)) (by decide +kernel), gw_mem (List.mem_of_getElem? (i := 1) (by decide +kernel)) (by decide +kernel), gw_mem (List.mem_of_getElem? (i := 644) (by decide +kernel)) (by decide +kernel), by decide +kernel, by decide, by decide, by decide +kernel⟩
theorem yi_X0_alike : q_YI yX0_alike cX0_alike 4 (some .boolean) 0 3 := ⟨gw_mem (List.mem_of_getElem? (i := 460) (by decide +kernel)) (by decide +kernel), gw_sel (q := (yX0_alike, 15)) (List.mem_of_getElem? (i := 16) (by decide +kernel)) (by decide +kernel), gw_mem (List.mem_of_getElem? (i := 4) (by decide +kernel)) (by decide +kernel), gw_mem (List.mem_of_getElem? (i := 461) (by decide +kernel)) (by decide +kernel), by decide +kernel, by decide, by decide, by decide +kernel⟩
theorem yi_X0_applies : q_YI yX0_applies cX0_applies 3 (some .boolean) 0 2 := ⟨gw_mem (List.mem_of_getElem? (i := 452) (by decide +kernel)) (by decide +kernel), gw_sel (q := (yX0_applies, 15)) (List.mem_of_getElem? (i := 14) (by decide +kernel)) (by decide +kernel), gw_mem (List.mem_of_getElem? (i := 4) (by decide +kernel)) (by decide +kernel), gw_mem (List.mem_of_getElem? (i := 453) (by decide +kernel)) (by decide +kernel), by decide +kernel, by decide, by decide, by decide +kernel⟩
theorem yi_X0_chanceAbove : q_YI yX0_chanceAbove cX0_chanceAbove 7 (some .long) 0 3 := ⟨gw_mem (List.mem_of_getElem? (i := 578) (by decide +kernel)) (by decide +kernel), gw_mem (List.mem_of_getElem? (i := 579) (by decide +kernel)) (by decide +kernel), gw_mem (List.mem_of_getElem? (i := 4) (by decide +kernel)) (by decide +kernel), gw_mem (List.mem_of_getElem? (i := 580) (by decide +kernel)) (by decide +kernel), by decide +kernel, by decide, by decide, by decide +kernel⟩
theorem yi_X0_changes : q_YI yX0_changes cX0_changes 8 (some .boolean) 0 5 := ⟨gw_mem (List.mem_of_getElem? (i := 516) (by decide +kernel)) (by decide +kernel), gw_sel (q := (yX0_changes, 15)) (List.mem_of_getElem? (i := 18) (by decide +kernel)) (by decide +kernel), gw_mem (List.mem_of_getElem? (i := 4) (by decide +kernel)) (by decide +kernel), gw_mem (List.mem_of_getElem? (i := 517) (by decide +kernel)) (by decide +kernel), by decide +kernel, by decide, by decide, by decide +kernel⟩
theorem yi_X0_contradictsEarlier : q_YI yX0_contradictsEarlier cX0_contradictsEarlier 4 (some .boolean) 0 2 := ⟨gw_mem (List.mem_of_getElem? (i := 456) (by decide +kernel)) (by decide +kernel), gw_sel (q := (yX0_contradictsEarlier, 15)) (List.mem_of_getElem? (i := 15) (by decide +kernel)) (by decide +kernel), gw_mem (List.mem_of_getElem? (i := 4) (by decide +kernel)) (by decide +kernel), gw_mem (List.mem_of_getElem? (i := 457) (by decide +kernel)) (by decide +kernel), by decide +kernel, by decide, by decide, by decide +kernel⟩
theorem yi_X0_countChoices : q_YI yX0_countChoices cX0_countChoices 5 none 0 2 := ⟨gw_mem (List.mem_of_getElem? (i := 583) (by decide +kernel)) (by decide +kernel), gw_sel (q := (yX0_countChoices, 15)) (List.mem_of_getElem? (i := 23) (by decide +kernel)) (by decide +kernel), gw_mem (List.mem_of_getElem? (i := 4) (by decide +kernel)) (by decide +kernel), gw_mem (List.mem_of_getElem? (i := 584) (by decide +kernel)) (by decide +kernel), by decide +kernel, by decide, by decide, by decide +kernel⟩
theorem yi_X0_counts : q_YI yX0_counts cX0_counts 3 (some .boolean) 0 2 := ⟨gw_mem (List.mem_of_getElem? (i := 396) (by decide +kernel)) (by decide +kernel), gw_sel (q := (yX0_counts, 15)) (List.mem_of_getElem? (i := 8) (by decide +kernel)) (by decide +kernel), gw_mem (List.mem_of_getElem? (i := 4) (by decide +kernel)) (by decide +kernel), gw_mem (List.mem_of_getElem? (i := 397) (by decide +kernel)) (by decide +kernel), by decide +kernel, by decide, by decide, by decide +kernel⟩
theorem yi_X0_fewestLeavesOut : q_YI yX0_fewestLeavesOut cX0_fewestLeavesOut 9 (some .int) 0 3 := ⟨gw_mem (List.mem_of_getElem? (i := 480) (by decide +kernel)) (by decide +kernel), gw_mem (List.mem_of_getElem? (i := 481) (by decide +kernel)) (by decide +kernel), gw_mem (List.mem_of_getElem? (i := 4) (by decide +kernel)) (by decide +kernel), gw_mem (List.mem_of_getElem? (i := 482) (by decide +kernel)) (by decide +kernel), by decide +kernel, by decide, by decide, by decide +kernel⟩
theorem yi_X0_fewestRulesStruck : q_YI yX0_fewestRulesStruck cX0_fewestRulesStruck 8 (some .int) 0 2 := ⟨gw_mem (List.mem_of_getElem? (i := 503) (by decide +kernel)) (by decide +kernel), gw_mem (List.mem_of_getElem? (i := 504) (by decide +kernel)) (by decide +kernel), gw_mem (List.mem_of_getElem? (i := 4) (by decide +kernel)) (by decide +kernel), gw_mem (List.mem_of_getElem? (i := 505) (by decide +kernel)) (by decide +kernel), by decide +kernel, by decide, by decide, by decide +kernel⟩
theorem yi_X0_fillRulesByLeaves : q_YI yX0_fillRulesByLeaves cX0_fillRulesByLeaves 6 none 0 1 := ⟨gw_mem (List.mem_of_getElem? (i := 485) (by decide +kernel)) (by decide +kernel), gw_sel (q := (yX0_fillRulesByLeaves, 15)) (List.mem_of_getElem? (i := 17) (by decide +kernel)) (by decide +kernel), gw_mem (List.mem_of_getElem? (i := 4) (by decide +kernel)) (by decide +kernel), gw_mem (List.mem_of_getElem? (i := 486) (by decide +kernel)) (by decide +kernel), by decide +kernel, by decide, by decide, by decide +kernel⟩
theorem yi_X0_firstClash : q_YI yX0_firstClash cX0_firstClash 3 (some .int) 0 1 := ⟨gw_mem (List.mem_of_getElem? (i := 447) (by decide +kernel)) (by decide +kernel), gw_mem (List.mem_of_getElem? (i := 448) (by decide +kernel)) (by decide +kernel), gw_mem (List.mem_of_getElem? (i := 4) (by decide +kernel)) (by decide +kernel), gw_mem (List.mem_of_getElem? (i := 449) (by decide +kernel)) (by decide +kernel), by decide +kernel, by decide, by decide, by decide +kernel⟩
theorem yi_X0_inForceHad : q_YI yX0_inForceHad cX0_inForceHad 4 (some .int) 0 3 := ⟨gw_mem (List.mem_of_getElem? (i := 561) (by decide +kernel)) (by decide +kernel), gw_mem (List.mem_of_getElem? (i := 562) (by decide +kernel)) (by decide +kernel), gw_mem (List.mem_of_getElem? (i := 4) (by decide +kernel)) (by decide +kernel), gw_mem (List.mem_of_getElem? (i := 563) (by decide +kernel)) (by decide +kernel), by decide +kernel, by decide, by decide, by decide +kernel⟩
theorem yi_X0_inForceWithTurnedRule : q_YI yX0_inForceWithTurnedRule cX0_inForceWithTurnedRule 4 (some .int) 0 2 := ⟨gw_mem (List.mem_of_getElem? (i := 570) (by decide +kernel)) (by decide +kernel), gw_sel (q := (yX0_inForceWithTurnedRule, 15)) (List.mem_of_getElem? (i := 22) (by decide +kernel)) (by decide +kernel), gw_mem (List.mem_of_getElem? (i := 4) (by decide +kernel)) (by decide +kernel), gw_mem (List.mem_of_getElem? (i := 571) (by decide +kernel)) (by decide +kernel), by decide +kernel, by decide, by decide, by decide +kernel⟩
theorem yi_X0_inForceWithoutLeaf : q_YI yX0_inForceWithoutLeaf cX0_inForceWithoutLeaf 6 (some .int) 0 2 := ⟨gw_mem (List.mem_of_getElem? (i := 566) (by decide +kernel)) (by decide +kernel), gw_sel (q := (yX0_inForceWithoutLeaf, 15)) (List.mem_of_getElem? (i := 21) (by decide +kernel)) (by decide +kernel), gw_mem (List.mem_of_getElem? (i := 4) (by decide +kernel)) (by decide +kernel), gw_mem (List.mem_of_getElem? (i := 567) (by decide +kernel)) (by decide +kernel), by decide +kernel, by decide, by decide, by decide +kernel⟩
theorem yi_X0_isCracked : q_YI yX0_isCracked cX0_isCracked 4 (some .boolean) 0 2 := ⟨gw_mem (List.mem_of_getElem? (i := 388) (by decide +kernel)) (by decide +kernel), gw_sel (q := (yX0_isCracked, 15)) (List.mem_of_getElem? (i := 6) (by decide +kernel)) (by decide +kernel), gw_mem (List.mem_of_getElem? (i := 4) (by decide +kernel)) (by decide +kernel), gw_mem (List.mem_of_getElem? (i := 389) (by decide +kernel)) (by decide +kernel), by decide +kernel, by decide, by decide, by decide +kernel⟩
theorem yi_X0_isInForce : q_YI yX0_isInForce cX0_isInForce 3 (some .boolean) 0 2 := ⟨gw_mem (List.mem_of_getElem? (i := 431) (by decide +kernel)) (by decide +kernel), gw_mem (List.mem_of_getElem? (i := 432) (by decide +kernel)) (by decide +kernel), gw_mem (List.mem_of_getElem? (i := 4) (by decide +kernel)) (by decide +kernel), gw_mem (List.mem_of_getElem? (i := 433) (by decide +kernel)) (by decide +kernel), by decide +kernel, by decide, by decide, by decide +kernel⟩
theorem yi_X0_layLeaves : q_YI yX0_layLeaves cX0_layLeaves 7 none 0 1 := ⟨gw_mem (List.mem_of_getElem? (i := 384) (by decide +kernel)) (by decide +kernel), gw_sel (q := (yX0_layLeaves, 15)) (List.mem_of_getElem? (i := 5) (by decide +kernel)) (by decide +kernel), gw_mem (List.mem_of_getElem? (i := 4) (by decide +kernel)) (by decide +kernel), gw_mem (List.mem_of_getElem? (i := 385) (by decide +kernel)) (by decide +kernel), by decide +kernel, by decide, by decide, by decide +kernel⟩
theorem yi_X0_leastLeafThatChanges : q_YI yX0_leastLeafThatChanges cX0_leastLeafThatChanges 6 (some .int) 0 2 := ⟨gw_mem (List.mem_of_getElem? (i := 511) (by decide +kernel)) (by decide +kernel), gw_mem (List.mem_of_getElem? (i := 512) (by decide +kernel)) (by decide +kernel), gw_mem (List.mem_of_getElem? (i := 4) (by decide +kernel)) (by decide +kernel), gw_mem (List.mem_of_getElem? (i := 513) (by decide +kernel)) (by decide +kernel), by decide +kernel, by decide, by decide, by decide +kernel⟩
theorem yi_X0_madeInOrder : q_YI yX0_madeInOrder cX0_madeInOrder 7 (some .int) 0 4 := ⟨gw_mem (List.mem_of_getElem? (i := 408) (by decide +kernel)) (by decide +kernel), gw_sel (q := (yX0_madeInOrder, 15)) (List.mem_of_getElem? (i := 10) (by decide +kernel)) (by decide +kernel), gw_mem (List.mem_of_getElem? (i := 4) (by decide +kernel)) (by decide +kernel), gw_mem (List.mem_of_getElem? (i := 409) (by decide +kernel)) (by decide +kernel), by decide +kernel, by decide, by decide, by decide +kernel⟩
theorem yi_X0_madeWith : q_YI yX0_madeWith cX0_madeWith 10 (some .int) 0 5 := ⟨gw_mem (List.mem_of_getElem? (i := 400) (by decide +kernel)) (by decide +kernel), gw_sel (q := (yX0_madeWith, 15)) (List.mem_of_getElem? (i := 9) (by decide +kernel)) (by decide +kernel), gw_mem (List.mem_of_getElem? (i := 4) (by decide +kernel)) (by decide +kernel), gw_mem (List.mem_of_getElem? (i := 401) (by decide +kernel)) (by decide +kernel), by decide +kernel, by decide, by decide, by decide +kernel⟩
theorem yi_X0_pairLeaves : q_YI yX0_pairLeaves cX0_pairLeaves 8 none 0 1 := ⟨gw_mem (List.mem_of_getElem? (i := 392) (by decide +kernel)) (by decide +kernel), gw_sel (q := (yX0_pairLeaves, 15)) (List.mem_of_getElem? (i := 7) (by decide +kernel)) (by decide +kernel), gw_mem (List.mem_of_getElem? (i := 4) (by decide +kernel)) (by decide +kernel), gw_mem (List.mem_of_getElem? (i := 393) (by decide +kernel)) (by decide +kernel), by decide +kernel, by decide, by decide, by decide +kernel⟩
theorem ys_X0_power : q_YS yX0_power cX0_power 6 (some .long) 2 := ⟨gw_mem (List.mem_of_getElem? (i := 586) (by decide +kernel)) (by decide +kernel), gw_mem (List.mem_of_getElem? (i := 4) (by decide +kernel)) (by decide +kernel), gw_mem (List.mem_of_getElem? (i := 587) (by decide +kernel)) (by decide +kernel), by decide +kernel, by decide⟩
theorem yi_X0_readRules : q_YI yX0_readRules cX0_readRules 7 none 0 0 := ⟨gw_mem (List.mem_of_getElem? (i := 380) (by decide +kernel)) (by decide +kernel), gw_sel (q := (yX0_readRules, 15)) (List.mem_of_getElem? (i := 4) (by decide +kernel)) (by decide +kernel), gw_mem (List.mem_of_getElem? (i := 4) (by decide +kernel)) (by decide +kernel), gw_mem (List.mem_of_getElem? (i := 381) (by decide +kernel)) (by decide +kernel), by decide +kernel, by decide, by decide, by decide +kernel⟩
theorem yi_X0_settled : q_YI yX0_settled cX0_settled 2 (some (.object "TeaLaws$Cup")) 0 0 := ⟨gw_mem (List.mem_of_getElem? (i := 370) (by decide +kernel)) (by decide +kernel), gw_mem (List.mem_of_getElem? (i := 371) (by decide +kernel)) (by decide +kernel), gw_mem (List.mem_of_getElem? (i := 4) (by decide +kernel)) (by decide +kernel), gw_mem (List.mem_of_getElem? (i := 372) (by decide +kernel)) (by decide +kernel), by decide +kernel, by decide, by decide, by decide +kernel⟩
theorem yi_X0_sortRules : q_YI yX0_sortRules cX0_sortRules 3 none 0 0 := ⟨gw_mem (List.mem_of_getElem? (i := 375) (by decide +kernel)) (by decide +kernel), gw_sel (q := (yX0_sortRules, 15)) (List.mem_of_getElem? (i := 3) (by decide +kernel)) (by decide +kernel), gw_mem (List.mem_of_getElem? (i := 4) (by decide +kernel)) (by decide +kernel), gw_mem (List.mem_of_getElem? (i := 376) (by decide +kernel)) (by decide +kernel), by decide +kernel, by decide, by decide, by decide +kernel⟩
theorem yi_X0_turnsThatHold : q_YI yX0_turnsThatHold cX0_turnsThatHold 3 (some .int) 0 1 := ⟨gw_mem (List.mem_of_getElem? (i := 523) (by decide +kernel)) (by decide +kernel), gw_mem (List.mem_of_getElem? (i := 524) (by decide +kernel)) (by decide +kernel), gw_mem (List.mem_of_getElem? (i := 4) (by decide +kernel)) (by decide +kernel), gw_mem (List.mem_of_getElem? (i := 525) (by decide +kernel)) (by decide +kernel), by decide +kernel, by decide, by decide, by decide +kernel⟩
theorem yi_X1_append : q_YI yX1_append cX1_append 3 (some .int) 1 2 := ⟨gw_mem (List.mem_of_getElem? (i := 346) (by decide +kernel)) (by decide +kernel), gw_mem (List.mem_of_getElem? (i := 347) (by decide +kernel)) (by decide +kernel), gw_mem (List.mem_of_getElem? (i := 3) (by decide +kernel)) (by decide +kernel), gw_mem (List.mem_of_getElem? (i := 348) (by decide +kernel)) (by decide +kernel), by decide +kernel, by decide, by decide, by decide +kernel⟩
theorem yi_X1_dropLast : q_YI yX1_dropLast cX1_dropLast 1 (some .int) 1 0 := ⟨gw_mem (List.mem_of_getElem? (i := 358) (by decide +kernel)) (by decide +kernel), gw_mem (List.mem_of_getElem? (i := 359) (by decide +kernel)) (by decide +kernel), gw_mem (List.mem_of_getElem? (i := 3) (by decide +kernel)) (by decide +kernel), gw_mem (List.mem_of_getElem? (i := 360) (by decide +kernel)) (by decide +kernel), by decide +kernel, by decide, by decide, by decide +kernel⟩
theorem yi_X1_empty : q_YI yX1_empty cX1_empty 2 (some .int) 1 0 := ⟨gw_mem (List.mem_of_getElem? (i := 536) (by decide +kernel)) (by decide +kernel), gw_mem (List.mem_of_getElem? (i := 537) (by decide +kernel)) (by decide +kernel), gw_mem (List.mem_of_getElem? (i := 3) (by decide +kernel)) (by decide +kernel), gw_mem (List.mem_of_getElem? (i := 538) (by decide +kernel)) (by decide +kernel), by decide +kernel, by decide, by decide, by decide +kernel⟩
theorem yi_X2_begin : q_YI yX2_begin cX2_begin 4 none 2 2 := ⟨gw_mem (List.mem_of_getElem? (i := 603) (by decide +kernel)) (by decide +kernel), gw_mem (List.mem_of_getElem? (i := 604) (by decide +kernel)) (by decide +kernel), gw_mem (List.mem_of_getElem? (i := 5) (by decide +kernel)) (by decide +kernel), gw_mem (List.mem_of_getElem? (i := 605) (by decide +kernel)) (by decide +kernel), by decide +kernel, by decide, by decide, by decide +kernel⟩
theorem yi_X2_end : q_YI yX2_end cX2_end 2 (some .int) 2 0 := ⟨gw_mem (List.mem_of_getElem? (i := 611) (by decide +kernel)) (by decide +kernel), gw_mem (List.mem_of_getElem? (i := 612) (by decide +kernel)) (by decide +kernel), gw_mem (List.mem_of_getElem? (i := 5) (by decide +kernel)) (by decide +kernel), gw_mem (List.mem_of_getElem? (i := 613) (by decide +kernel)) (by decide +kernel), by decide +kernel, by decide, by decide, by decide +kernel⟩
theorem yi_X2_has : q_YI yX2_has cX2_has 3 (some .boolean) 2 2 := ⟨gw_mem (List.mem_of_getElem? (i := 635) (by decide +kernel)) (by decide +kernel), gw_mem (List.mem_of_getElem? (i := 636) (by decide +kernel)) (by decide +kernel), gw_mem (List.mem_of_getElem? (i := 5) (by decide +kernel)) (by decide +kernel), gw_mem (List.mem_of_getElem? (i := 637) (by decide +kernel)) (by decide +kernel), by decide +kernel, by decide, by decide, by decide +kernel⟩
theorem yi_X2_isLost : q_YI yX2_isLost cX2_isLost 1 (some .boolean) 2 0 := ⟨gw_mem (List.mem_of_getElem? (i := 544) (by decide +kernel)) (by decide +kernel), gw_mem (List.mem_of_getElem? (i := 545) (by decide +kernel)) (by decide +kernel), gw_mem (List.mem_of_getElem? (i := 5) (by decide +kernel)) (by decide +kernel), gw_mem (List.mem_of_getElem? (i := 546) (by decide +kernel)) (by decide +kernel), by decide +kernel, by decide, by decide, by decide +kernel⟩
theorem yi_X2_put : q_YI yX2_put cX2_put 3 none 2 2 := ⟨gw_mem (List.mem_of_getElem? (i := 622) (by decide +kernel)) (by decide +kernel), gw_mem (List.mem_of_getElem? (i := 623) (by decide +kernel)) (by decide +kernel), gw_mem (List.mem_of_getElem? (i := 5) (by decide +kernel)) (by decide +kernel), gw_mem (List.mem_of_getElem? (i := 624) (by decide +kernel)) (by decide +kernel), by decide +kernel, by decide, by decide, by decide +kernel⟩
theorem yi_X3_append : q_YI yX3_append cX3_append 2 (some .int) 3 1 := ⟨gw_mem (List.mem_of_getElem? (i := 202) (by decide +kernel)) (by decide +kernel), gw_mem (List.mem_of_getElem? (i := 203) (by decide +kernel)) (by decide +kernel), gw_mem (List.mem_of_getElem? (i := 2) (by decide +kernel)) (by decide +kernel), gw_mem (List.mem_of_getElem? (i := 204) (by decide +kernel)) (by decide +kernel), by decide +kernel, by decide, by decide, by decide +kernel⟩
theorem yi_X3_dropLast : q_YI yX3_dropLast cX3_dropLast 1 (some .int) 3 0 := ⟨gw_mem (List.mem_of_getElem? (i := 322) (by decide +kernel)) (by decide +kernel), gw_mem (List.mem_of_getElem? (i := 323) (by decide +kernel)) (by decide +kernel), gw_mem (List.mem_of_getElem? (i := 2) (by decide +kernel)) (by decide +kernel), gw_mem (List.mem_of_getElem? (i := 324) (by decide +kernel)) (by decide +kernel), by decide +kernel, by decide, by decide, by decide +kernel⟩
theorem yi_X3_empty : q_YI yX3_empty cX3_empty 2 (some .int) 3 0 := ⟨gw_mem (List.mem_of_getElem? (i := 314) (by decide +kernel)) (by decide +kernel), gw_mem (List.mem_of_getElem? (i := 315) (by decide +kernel)) (by decide +kernel), gw_mem (List.mem_of_getElem? (i := 2) (by decide +kernel)) (by decide +kernel), gw_mem (List.mem_of_getElem? (i := 316) (by decide +kernel)) (by decide +kernel), by decide +kernel, by decide, by decide, by decide +kernel⟩
theorem yi_X3_parse : q_YI yX3_parse cX3_parse 5 none 3 0 := ⟨gw_mem (List.mem_of_getElem? (i := 207) (by decide +kernel)) (by decide +kernel), gw_sel (q := (yX3_parse, 7)) (List.mem_of_getElem? (i := 1) (by decide +kernel)) (by decide +kernel), gw_mem (List.mem_of_getElem? (i := 2) (by decide +kernel)) (by decide +kernel), gw_mem (List.mem_of_getElem? (i := 208) (by decide +kernel)) (by decide +kernel), by decide +kernel, by decide, by decide, by decide +kernel⟩
theorem yi_X3_part : q_YI yX3_part cX3_part 3 (some .int) 3 2 := ⟨gw_mem (List.mem_of_getElem? (i := 334) (by decide +kernel)) (by decide +kernel), gw_mem (List.mem_of_getElem? (i := 335) (by decide +kernel)) (by decide +kernel), gw_mem (List.mem_of_getElem? (i := 2) (by decide +kernel)) (by decide +kernel), gw_mem (List.mem_of_getElem? (i := 336) (by decide +kernel)) (by decide +kernel), by decide +kernel, by decide, by decide, by decide +kernel⟩
theorem ys_X3_separator : q_YS yX3_separator cX3_separator 1 (some .int) 1 := ⟨gw_mem (List.mem_of_getElem? (i := 210) (by decide +kernel)) (by decide +kernel), gw_mem (List.mem_of_getElem? (i := 2) (by decide +kernel)) (by decide +kernel), gw_mem (List.mem_of_getElem? (i := 211) (by decide +kernel)) (by decide +kernel), by decide +kernel, by decide⟩
theorem yi_X3_signs : q_YI yX3_signs cX3_signs 2 (some (.object "java/lang/String")) 3 1 := ⟨gw_mem (List.mem_of_getElem? (i := 214) (by decide +kernel)) (by decide +kernel), gw_sel (q := (yX3_signs, 7)) (List.mem_of_getElem? (i := 2) (by decide +kernel)) (by decide +kernel), gw_mem (List.mem_of_getElem? (i := 2) (by decide +kernel)) (by decide +kernel), gw_mem (List.mem_of_getElem? (i := 215) (by decide +kernel)) (by decide +kernel), by decide +kernel, by decide, by decide, by decide +kernel⟩
theorem ys_X5_amount : q_YS yX5_amount cX5_amount 1 (some .int) 1 := ⟨gw_mem (List.mem_of_getElem? (i := 938) (by decide +kernel)) (by decide +kernel), gw_mem (List.mem_of_getElem? (i := 6) (by decide +kernel)) (by decide +kernel), gw_mem (List.mem_of_getElem? (i := 939) (by decide +kernel)) (by decide +kernel), by decide +kernel, by decide⟩
theorem yi_X5_applies : q_YI yX5_applies cX5_applies 5 (some .boolean) 5 2 := ⟨gw_mem (List.mem_of_getElem? (i := 946) (by decide +kernel)) (by decide +kernel), gw_sel (q := (yX5_applies, 26)) (List.mem_of_getElem? (i := 43) (by decide +kernel)) (by decide +kernel), gw_mem (List.mem_of_getElem? (i := 6) (by decide +kernel)) (by decide +kernel), gw_mem (List.mem_of_getElem? (i := 947) (by decide +kernel)) (by decide +kernel), by decide +kernel, by decide, by decide, by decide +kernel⟩
theorem yi_X5_appliesNow : q_YI yX5_appliesNow cX5_appliesNow 3 (some .int) 5 0 := ⟨gw_mem (List.mem_of_getElem? (i := 942) (by decide +kernel)) (by decide +kernel), gw_sel (q := (yX5_appliesNow, 26)) (List.mem_of_getElem? (i := 42) (by decide +kernel)) (by decide +kernel), gw_mem (List.mem_of_getElem? (i := 6) (by decide +kernel)) (by decide +kernel), gw_mem (List.mem_of_getElem? (i := 943) (by decide +kernel)) (by decide +kernel), by decide +kernel, by decide, by decide, by decide +kernel⟩
theorem ys_X5_areLaws : q_YS yX5_areLaws cX5_areLaws 1 (some .boolean) 1 := ⟨gw_mem (List.mem_of_getElem? (i := 1000) (by decide +kernel)) (by decide +kernel), gw_mem (List.mem_of_getElem? (i := 6) (by decide +kernel)) (by decide +kernel), gw_mem (List.mem_of_getElem? (i := 1001) (by decide +kernel)) (by decide +kernel), by decide +kernel, by decide⟩
theorem ys_X5_areTurns : q_YS yX5_areTurns cX5_areTurns 1 (some .boolean) 1 := ⟨gw_mem (List.mem_of_getElem? (i := 903) (by decide +kernel)) (by decide +kernel), gw_mem (List.mem_of_getElem? (i := 6) (by decide +kernel)) (by decide +kernel), gw_mem (List.mem_of_getElem? (i := 904) (by decide +kernel)) (by decide +kernel), by decide +kernel, by decide⟩
theorem yi_X5_back : q_YI yX5_back cX5_back 3 (some .int) 5 1 := ⟨gw_mem (List.mem_of_getElem? (i := 891) (by decide +kernel)) (by decide +kernel), gw_mem (List.mem_of_getElem? (i := 892) (by decide +kernel)) (by decide +kernel), gw_mem (List.mem_of_getElem? (i := 6) (by decide +kernel)) (by decide +kernel), gw_mem (List.mem_of_getElem? (i := 893) (by decide +kernel)) (by decide +kernel), by decide +kernel, by decide, by decide, by decide +kernel⟩
theorem yi_X5_broken : q_YI yX5_broken cX5_broken 2 (some .int) 5 1 := ⟨gw_mem (List.mem_of_getElem? (i := 968) (by decide +kernel)) (by decide +kernel), gw_mem (List.mem_of_getElem? (i := 969) (by decide +kernel)) (by decide +kernel), gw_mem (List.mem_of_getElem? (i := 6) (by decide +kernel)) (by decide +kernel), gw_mem (List.mem_of_getElem? (i := 970) (by decide +kernel)) (by decide +kernel), by decide +kernel, by decide, by decide, by decide +kernel⟩
theorem yi_X5_brokenNow : q_YI yX5_brokenNow cX5_brokenNow 3 (some .int) 5 0 := ⟨gw_mem (List.mem_of_getElem? (i := 973) (by decide +kernel)) (by decide +kernel), gw_sel (q := (yX5_brokenNow, 26)) (List.mem_of_getElem? (i := 47) (by decide +kernel)) (by decide +kernel), gw_mem (List.mem_of_getElem? (i := 6) (by decide +kernel)) (by decide +kernel), gw_mem (List.mem_of_getElem? (i := 974) (by decide +kernel)) (by decide +kernel), by decide +kernel, by decide, by decide, by decide +kernel⟩
theorem yi_X5_clash : q_YI yX5_clash cX5_clash 2 (some .int) 5 1 := ⟨gw_mem (List.mem_of_getElem? (i := 988) (by decide +kernel)) (by decide +kernel), gw_mem (List.mem_of_getElem? (i := 989) (by decide +kernel)) (by decide +kernel), gw_mem (List.mem_of_getElem? (i := 6) (by decide +kernel)) (by decide +kernel), gw_mem (List.mem_of_getElem? (i := 990) (by decide +kernel)) (by decide +kernel), by decide +kernel, by decide, by decide, by decide +kernel⟩
theorem yi_X5_clashOf : q_YI yX5_clashOf cX5_clashOf 6 (some .int) 5 1 := ⟨gw_mem (List.mem_of_getElem? (i := 993) (by decide +kernel)) (by decide +kernel), gw_sel (q := (yX5_clashOf, 26)) (List.mem_of_getElem? (i := 50) (by decide +kernel)) (by decide +kernel), gw_mem (List.mem_of_getElem? (i := 6) (by decide +kernel)) (by decide +kernel), gw_mem (List.mem_of_getElem? (i := 994) (by decide +kernel)) (by decide +kernel), by decide +kernel, by decide, by decide, by decide +kernel⟩
theorem yi_X5_copy : q_YI yX5_copy cX5_copy 7 (some .int) 5 5 := ⟨gw_mem (List.mem_of_getElem? (i := 809) (by decide +kernel)) (by decide +kernel), gw_mem (List.mem_of_getElem? (i := 810) (by decide +kernel)) (by decide +kernel), gw_mem (List.mem_of_getElem? (i := 6) (by decide +kernel)) (by decide +kernel), gw_mem (List.mem_of_getElem? (i := 811) (by decide +kernel)) (by decide +kernel), by decide +kernel, by decide, by decide, by decide +kernel⟩
theorem yi_X5_count : q_YI yX5_count cX5_count 4 (some .int) 5 1 := ⟨gw_mem (List.mem_of_getElem? (i := 1104) (by decide +kernel)) (by decide +kernel), gw_mem (List.mem_of_getElem? (i := 1105) (by decide +kernel)) (by decide +kernel), gw_mem (List.mem_of_getElem? (i := 6) (by decide +kernel)) (by decide +kernel), gw_mem (List.mem_of_getElem? (i := 1106) (by decide +kernel)) (by decide +kernel), by decide +kernel, by decide, by decide, by decide +kernel⟩
theorem yi_X5_crack : q_YI yX5_crack cX5_crack 3 (some .int) 5 2 := ⟨gw_mem (List.mem_of_getElem? (i := 874) (by decide +kernel)) (by decide +kernel), gw_mem (List.mem_of_getElem? (i := 875) (by decide +kernel)) (by decide +kernel), gw_mem (List.mem_of_getElem? (i := 6) (by decide +kernel)) (by decide +kernel), gw_mem (List.mem_of_getElem? (i := 876) (by decide +kernel)) (by decide +kernel), by decide +kernel, by decide, by decide, by decide +kernel⟩
theorem ys_X5_cut : q_YS yX5_cut cX5_cut 2 (some .int) 2 := ⟨gw_mem (List.mem_of_getElem? (i := 801) (by decide +kernel)) (by decide +kernel), gw_mem (List.mem_of_getElem? (i := 6) (by decide +kernel)) (by decide +kernel), gw_mem (List.mem_of_getElem? (i := 802) (by decide +kernel)) (by decide +kernel), by decide +kernel, by decide⟩
theorem yi_X5_day : q_YI yX5_day cX5_day 2 (some .int) 5 1 := ⟨gw_mem (List.mem_of_getElem? (i := 956) (by decide +kernel)) (by decide +kernel), gw_mem (List.mem_of_getElem? (i := 957) (by decide +kernel)) (by decide +kernel), gw_mem (List.mem_of_getElem? (i := 6) (by decide +kernel)) (by decide +kernel), gw_mem (List.mem_of_getElem? (i := 958) (by decide +kernel)) (by decide +kernel), by decide +kernel, by decide, by decide, by decide +kernel⟩
theorem yi_X5_dayOf : q_YI yX5_dayOf cX5_dayOf 2 (some .int) 5 1 := ⟨gw_mem (List.mem_of_getElem? (i := 961) (by decide +kernel)) (by decide +kernel), gw_sel (q := (yX5_dayOf, 26)) (List.mem_of_getElem? (i := 45) (by decide +kernel)) (by decide +kernel), gw_mem (List.mem_of_getElem? (i := 6) (by decide +kernel)) (by decide +kernel), gw_mem (List.mem_of_getElem? (i := 962) (by decide +kernel)) (by decide +kernel), by decide +kernel, by decide, by decide, by decide +kernel⟩
theorem yi_X5_deed : q_YI yX5_deed cX5_deed 3 (some .int) 5 2 := ⟨gw_mem (List.mem_of_getElem? (i := 879) (by decide +kernel)) (by decide +kernel), gw_mem (List.mem_of_getElem? (i := 880) (by decide +kernel)) (by decide +kernel), gw_mem (List.mem_of_getElem? (i := 6) (by decide +kernel)) (by decide +kernel), gw_mem (List.mem_of_getElem? (i := 881) (by decide +kernel)) (by decide +kernel), by decide +kernel, by decide, by decide, by decide +kernel⟩
theorem yi_X5_digest : q_YI yX5_digest cX5_digest 5 (some .long) 5 0 := ⟨gw_mem (List.mem_of_getElem? (i := 1108) (by decide +kernel)) (by decide +kernel), gw_mem (List.mem_of_getElem? (i := 1109) (by decide +kernel)) (by decide +kernel), gw_mem (List.mem_of_getElem? (i := 6) (by decide +kernel)) (by decide +kernel), gw_mem (List.mem_of_getElem? (i := 1110) (by decide +kernel)) (by decide +kernel), by decide +kernel, by decide, by decide, by decide +kernel⟩
theorem yi_X5_empty : q_YI yX5_empty cX5_empty 2 none 5 1 := ⟨gw_mem (List.mem_of_getElem? (i := 838) (by decide +kernel)) (by decide +kernel), gw_sel (q := (yX5_empty, 26)) (List.mem_of_getElem? (i := 31) (by decide +kernel)) (by decide +kernel), gw_mem (List.mem_of_getElem? (i := 6) (by decide +kernel)) (by decide +kernel), gw_mem (List.mem_of_getElem? (i := 839) (by decide +kernel)) (by decide +kernel), by decide +kernel, by decide, by decide, by decide +kernel⟩
theorem yi_X5_fault : q_YI yX5_fault cX5_fault 2 (some .int) 5 1 := ⟨gw_mem (List.mem_of_getElem? (i := 829) (by decide +kernel)) (by decide +kernel), gw_mem (List.mem_of_getElem? (i := 830) (by decide +kernel)) (by decide +kernel), gw_mem (List.mem_of_getElem? (i := 6) (by decide +kernel)) (by decide +kernel), gw_mem (List.mem_of_getElem? (i := 831) (by decide +kernel)) (by decide +kernel), by decide +kernel, by decide, by decide, by decide +kernel⟩
theorem yi_X5_finds : q_YI yX5_finds cX5_finds 2 (some .int) 5 1 := ⟨gw_mem (List.mem_of_getElem? (i := 786) (by decide +kernel)) (by decide +kernel), gw_sel (q := (yX5_finds, 26)) (List.mem_of_getElem? (i := 28) (by decide +kernel)) (by decide +kernel), gw_mem (List.mem_of_getElem? (i := 6) (by decide +kernel)) (by decide +kernel), gw_mem (List.mem_of_getElem? (i := 787) (by decide +kernel)) (by decide +kernel), by decide +kernel, by decide, by decide, by decide +kernel⟩
theorem yi_X5_firstBroken : q_YI yX5_firstBroken cX5_firstBroken 4 (some .int) 5 0 := ⟨gw_mem (List.mem_of_getElem? (i := 977) (by decide +kernel)) (by decide +kernel), gw_sel (q := (yX5_firstBroken, 26)) (List.mem_of_getElem? (i := 48) (by decide +kernel)) (by decide +kernel), gw_mem (List.mem_of_getElem? (i := 6) (by decide +kernel)) (by decide +kernel), gw_mem (List.mem_of_getElem? (i := 978) (by decide +kernel)) (by decide +kernel), by decide +kernel, by decide, by decide, by decide +kernel⟩
theorem yi_X5_fits : q_YI yX5_fits cX5_fits 2 (some .int) 5 1 := ⟨gw_mem (List.mem_of_getElem? (i := 1062) (by decide +kernel)) (by decide +kernel), gw_mem (List.mem_of_getElem? (i := 1063) (by decide +kernel)) (by decide +kernel), gw_mem (List.mem_of_getElem? (i := 6) (by decide +kernel)) (by decide +kernel), gw_mem (List.mem_of_getElem? (i := 1064) (by decide +kernel)) (by decide +kernel), by decide +kernel, by decide, by decide, by decide +kernel⟩
theorem yi_X5_fitsOf : q_YI yX5_fitsOf cX5_fitsOf 4 (some .int) 5 1 := ⟨gw_mem (List.mem_of_getElem? (i := 1067) (by decide +kernel)) (by decide +kernel), gw_sel (q := (yX5_fitsOf, 26)) (List.mem_of_getElem? (i := 57) (by decide +kernel)) (by decide +kernel), gw_mem (List.mem_of_getElem? (i := 6) (by decide +kernel)) (by decide +kernel), gw_mem (List.mem_of_getElem? (i := 1068) (by decide +kernel)) (by decide +kernel), by decide +kernel, by decide, by decide, by decide +kernel⟩
theorem yi_X5_forget : q_YI yX5_forget cX5_forget 2 (some .int) 5 0 := ⟨gw_mem (List.mem_of_getElem? (i := 1053) (by decide +kernel)) (by decide +kernel), gw_mem (List.mem_of_getElem? (i := 1054) (by decide +kernel)) (by decide +kernel), gw_mem (List.mem_of_getElem? (i := 6) (by decide +kernel)) (by decide +kernel), gw_mem (List.mem_of_getElem? (i := 1055) (by decide +kernel)) (by decide +kernel), by decide +kernel, by decide, by decide, by decide +kernel⟩
theorem yi_X5_free : q_YI yX5_free cX5_free 2 (some .int) 5 1 := ⟨gw_mem (List.mem_of_getElem? (i := 980) (by decide +kernel)) (by decide +kernel), gw_mem (List.mem_of_getElem? (i := 981) (by decide +kernel)) (by decide +kernel), gw_mem (List.mem_of_getElem? (i := 6) (by decide +kernel)) (by decide +kernel), gw_mem (List.mem_of_getElem? (i := 982) (by decide +kernel)) (by decide +kernel), by decide +kernel, by decide, by decide, by decide +kernel⟩
theorem yi_X5_freeOf : q_YI yX5_freeOf cX5_freeOf 4 (some .int) 5 1 := ⟨gw_mem (List.mem_of_getElem? (i := 985) (by decide +kernel)) (by decide +kernel), gw_sel (q := (yX5_freeOf, 26)) (List.mem_of_getElem? (i := 49) (by decide +kernel)) (by decide +kernel), gw_mem (List.mem_of_getElem? (i := 6) (by decide +kernel)) (by decide +kernel), gw_mem (List.mem_of_getElem? (i := 986) (by decide +kernel)) (by decide +kernel), by decide +kernel, by decide, by decide, by decide +kernel⟩
theorem yi_X5_get : q_YI yX5_get cX5_get 4 (some .int) 5 3 := ⟨gw_mem (List.mem_of_getElem? (i := 804) (by decide +kernel)) (by decide +kernel), gw_mem (List.mem_of_getElem? (i := 805) (by decide +kernel)) (by decide +kernel), gw_mem (List.mem_of_getElem? (i := 6) (by decide +kernel)) (by decide +kernel), gw_mem (List.mem_of_getElem? (i := 806) (by decide +kernel)) (by decide +kernel), by decide +kernel, by decide, by decide, by decide +kernel⟩
theorem ys_X5_in : q_YS yX5_in cX5_in 6 (some .boolean) 3 := ⟨gw_mem (List.mem_of_getElem? (i := 781) (by decide +kernel)) (by decide +kernel), gw_mem (List.mem_of_getElem? (i := 6) (by decide +kernel)) (by decide +kernel), gw_mem (List.mem_of_getElem? (i := 782) (by decide +kernel)) (by decide +kernel), by decide +kernel, by decide⟩
theorem yi_X5_isCracked : q_YI yX5_isCracked cX5_isCracked 5 (some .boolean) 5 2 := ⟨gw_mem (List.mem_of_getElem? (i := 927) (by decide +kernel)) (by decide +kernel), gw_sel (q := (yX5_isCracked, 26)) (List.mem_of_getElem? (i := 39) (by decide +kernel)) (by decide +kernel), gw_mem (List.mem_of_getElem? (i := 6) (by decide +kernel)) (by decide +kernel), gw_mem (List.mem_of_getElem? (i := 928) (by decide +kernel)) (by decide +kernel), by decide +kernel, by decide, by decide, by decide +kernel⟩
theorem ys_X5_isDay : q_YS yX5_isDay cX5_isDay 1 (some .boolean) 1 := ⟨gw_mem (List.mem_of_getElem? (i := 883) (by decide +kernel)) (by decide +kernel), gw_mem (List.mem_of_getElem? (i := 6) (by decide +kernel)) (by decide +kernel), gw_mem (List.mem_of_getElem? (i := 884) (by decide +kernel)) (by decide +kernel), by decide +kernel, by decide⟩
theorem yi_X5_isFree : q_YI yX5_isFree cX5_isFree 5 (some .boolean) 5 2 := ⟨gw_mem (List.mem_of_getElem? (i := 1038) (by decide +kernel)) (by decide +kernel), gw_sel (q := (yX5_isFree, 26)) (List.mem_of_getElem? (i := 55) (by decide +kernel)) (by decide +kernel), gw_mem (List.mem_of_getElem? (i := 6) (by decide +kernel)) (by decide +kernel), gw_mem (List.mem_of_getElem? (i := 1039) (by decide +kernel)) (by decide +kernel), by decide +kernel, by decide, by decide, by decide +kernel⟩
theorem ys_X5_isIn : q_YS yX5_isIn cX5_isIn 2 (some .boolean) 2 := ⟨gw_mem (List.mem_of_getElem? (i := 949) (by decide +kernel)) (by decide +kernel), gw_mem (List.mem_of_getElem? (i := 6) (by decide +kernel)) (by decide +kernel), gw_mem (List.mem_of_getElem? (i := 950) (by decide +kernel)) (by decide +kernel), by decide +kernel, by decide⟩
theorem ys_X5_isLaw : q_YS yX5_isLaw cX5_isLaw 1 (some .boolean) 1 := ⟨gw_mem (List.mem_of_getElem? (i := 887) (by decide +kernel)) (by decide +kernel), gw_mem (List.mem_of_getElem? (i := 6) (by decide +kernel)) (by decide +kernel), gw_mem (List.mem_of_getElem? (i := 888) (by decide +kernel)) (by decide +kernel), by decide +kernel, by decide⟩
theorem yi_X5_isLeaf : q_YI yX5_isLeaf cX5_isLeaf 2 (some .boolean) 5 1 := ⟨gw_mem (List.mem_of_getElem? (i := 866) (by decide +kernel)) (by decide +kernel), gw_sel (q := (yX5_isLeaf, 26)) (List.mem_of_getElem? (i := 34) (by decide +kernel)) (by decide +kernel), gw_mem (List.mem_of_getElem? (i := 6) (by decide +kernel)) (by decide +kernel), gw_mem (List.mem_of_getElem? (i := 867) (by decide +kernel)) (by decide +kernel), by decide +kernel, by decide, by decide, by decide +kernel⟩
theorem yi_X5_isRead : q_YI yX5_isRead cX5_isRead 4 (some .boolean) 5 1 := ⟨gw_mem (List.mem_of_getElem? (i := 1071) (by decide +kernel)) (by decide +kernel), gw_sel (q := (yX5_isRead, 26)) (List.mem_of_getElem? (i := 58) (by decide +kernel)) (by decide +kernel), gw_mem (List.mem_of_getElem? (i := 6) (by decide +kernel)) (by decide +kernel), gw_mem (List.mem_of_getElem? (i := 1072) (by decide +kernel)) (by decide +kernel), by decide +kernel, by decide, by decide, by decide +kernel⟩
theorem ys_X5_isSheet : q_YS yX5_isSheet cX5_isSheet 1 (some .boolean) 1 := ⟨gw_mem (List.mem_of_getElem? (i := 777) (by decide +kernel)) (by decide +kernel), gw_mem (List.mem_of_getElem? (i := 6) (by decide +kernel)) (by decide +kernel), gw_mem (List.mem_of_getElem? (i := 778) (by decide +kernel)) (by decide +kernel), by decide +kernel, by decide⟩
theorem ys_X5_isTwo : q_YS yX5_isTwo cX5_isTwo 1 (some .boolean) 1 := ⟨gw_mem (List.mem_of_getElem? (i := 817) (by decide +kernel)) (by decide +kernel), gw_mem (List.mem_of_getElem? (i := 6) (by decide +kernel)) (by decide +kernel), gw_mem (List.mem_of_getElem? (i := 818) (by decide +kernel)) (by decide +kernel), by decide +kernel, by decide⟩
theorem yi_X5_lacks : q_YI yX5_lacks cX5_lacks 4 (some .int) 5 3 := ⟨gw_mem (List.mem_of_getElem? (i := 798) (by decide +kernel)) (by decide +kernel), gw_sel (q := (yX5_lacks, 26)) (List.mem_of_getElem? (i := 29) (by decide +kernel)) (by decide +kernel), gw_mem (List.mem_of_getElem? (i := 6) (by decide +kernel)) (by decide +kernel), gw_mem (List.mem_of_getElem? (i := 799) (by decide +kernel)) (by decide +kernel), by decide +kernel, by decide, by decide, by decide +kernel⟩
theorem yi_X5_lay : q_YI yX5_lay cX5_lay 6 (some .int) 5 4 := ⟨gw_mem (List.mem_of_getElem? (i := 793) (by decide +kernel)) (by decide +kernel), gw_mem (List.mem_of_getElem? (i := 794) (by decide +kernel)) (by decide +kernel), gw_mem (List.mem_of_getElem? (i := 6) (by decide +kernel)) (by decide +kernel), gw_mem (List.mem_of_getElem? (i := 795) (by decide +kernel)) (by decide +kernel), by decide +kernel, by decide, by decide, by decide +kernel⟩
theorem yi_X5_laysOut : q_YI yX5_laysOut cX5_laysOut 2 none 5 0 := ⟨gw_mem (List.mem_of_getElem? (i := 923) (by decide +kernel)) (by decide +kernel), gw_sel (q := (yX5_laysOut, 26)) (List.mem_of_getElem? (i := 38) (by decide +kernel)) (by decide +kernel), gw_mem (List.mem_of_getElem? (i := 6) (by decide +kernel)) (by decide +kernel), gw_mem (List.mem_of_getElem? (i := 924) (by decide +kernel)) (by decide +kernel), by decide +kernel, by decide, by decide, by decide +kernel⟩
theorem yi_X5_leaf : q_YI yX5_leaf cX5_leaf 3 (some .int) 5 2 := ⟨gw_mem (List.mem_of_getElem? (i := 857) (by decide +kernel)) (by decide +kernel), gw_mem (List.mem_of_getElem? (i := 858) (by decide +kernel)) (by decide +kernel), gw_mem (List.mem_of_getElem? (i := 6) (by decide +kernel)) (by decide +kernel), gw_mem (List.mem_of_getElem? (i := 859) (by decide +kernel)) (by decide +kernel), by decide +kernel, by decide, by decide, by decide +kernel⟩
theorem ys_X5_lieOf : q_YS yX5_lieOf cX5_lieOf 1 (some .int) 1 := ⟨gw_mem (List.mem_of_getElem? (i := 854) (by decide +kernel)) (by decide +kernel), gw_mem (List.mem_of_getElem? (i := 6) (by decide +kernel)) (by decide +kernel), gw_mem (List.mem_of_getElem? (i := 855) (by decide +kernel)) (by decide +kernel), by decide +kernel, by decide⟩
theorem yi_X5_lieSo : q_YI yX5_lieSo cX5_lieSo 6 (some .boolean) 5 3 := ⟨gw_mem (List.mem_of_getElem? (i := 935) (by decide +kernel)) (by decide +kernel), gw_sel (q := (yX5_lieSo, 26)) (List.mem_of_getElem? (i := 41) (by decide +kernel)) (by decide +kernel), gw_mem (List.mem_of_getElem? (i := 6) (by decide +kernel)) (by decide +kernel), gw_mem (List.mem_of_getElem? (i := 936) (by decide +kernel)) (by decide +kernel), by decide +kernel, by decide, by decide, by decide +kernel⟩
theorem yi_X5_lies : q_YI yX5_lies cX5_lies 4 (some .int) 5 3 := ⟨gw_mem (List.mem_of_getElem? (i := 899) (by decide +kernel)) (by decide +kernel), gw_mem (List.mem_of_getElem? (i := 900) (by decide +kernel)) (by decide +kernel), gw_mem (List.mem_of_getElem? (i := 6) (by decide +kernel)) (by decide +kernel), gw_mem (List.mem_of_getElem? (i := 901) (by decide +kernel)) (by decide +kernel), by decide +kernel, by decide, by decide, by decide +kernel⟩
theorem yi_X5_lose : q_YI yX5_lose cX5_lose 2 (some .int) 5 1 := ⟨gw_mem (List.mem_of_getElem? (i := 789) (by decide +kernel)) (by decide +kernel), gw_mem (List.mem_of_getElem? (i := 790) (by decide +kernel)) (by decide +kernel), gw_mem (List.mem_of_getElem? (i := 6) (by decide +kernel)) (by decide +kernel), gw_mem (List.mem_of_getElem? (i := 791) (by decide +kernel)) (by decide +kernel), by decide +kernel, by decide, by decide, by decide +kernel⟩
theorem yi_X5_mornings : q_YI yX5_mornings cX5_mornings 4 (some .int) 5 3 := ⟨gw_mem (List.mem_of_getElem? (i := 1090) (by decide +kernel)) (by decide +kernel), gw_mem (List.mem_of_getElem? (i := 1091) (by decide +kernel)) (by decide +kernel), gw_mem (List.mem_of_getElem? (i := 6) (by decide +kernel)) (by decide +kernel), gw_mem (List.mem_of_getElem? (i := 1092) (by decide +kernel)) (by decide +kernel), by decide +kernel, by decide, by decide, by decide +kernel⟩
theorem yi_X5_morningsOf : q_YI yX5_morningsOf cX5_morningsOf 7 (some .int) 5 3 := ⟨gw_mem (List.mem_of_getElem? (i := 1096) (by decide +kernel)) (by decide +kernel), gw_sel (q := (yX5_morningsOf, 26)) (List.mem_of_getElem? (i := 60) (by decide +kernel)) (by decide +kernel), gw_mem (List.mem_of_getElem? (i := 6) (by decide +kernel)) (by decide +kernel), gw_mem (List.mem_of_getElem? (i := 1097) (by decide +kernel)) (by decide +kernel), by decide +kernel, by decide, by decide, by decide +kernel⟩
theorem ys_X5_no : q_YS yX5_no cX5_no 1 (some .long) 1 := ⟨gw_mem (List.mem_of_getElem? (i := 1086) (by decide +kernel)) (by decide +kernel), gw_mem (List.mem_of_getElem? (i := 6) (by decide +kernel)) (by decide +kernel), gw_mem (List.mem_of_getElem? (i := 1087) (by decide +kernel)) (by decide +kernel), by decide +kernel, by decide⟩
theorem ys_X5_ones : q_YS yX5_ones cX5_ones 3 (some .int) 1 := ⟨gw_mem (List.mem_of_getElem? (i := 1007) (by decide +kernel)) (by decide +kernel), gw_mem (List.mem_of_getElem? (i := 6) (by decide +kernel)) (by decide +kernel), gw_mem (List.mem_of_getElem? (i := 1008) (by decide +kernel)) (by decide +kernel), by decide +kernel, by decide⟩
theorem yi_X5_pairs : q_YI yX5_pairs cX5_pairs 6 none 5 1 := ⟨gw_mem (List.mem_of_getElem? (i := 931) (by decide +kernel)) (by decide +kernel), gw_sel (q := (yX5_pairs, 26)) (List.mem_of_getElem? (i := 40) (by decide +kernel)) (by decide +kernel), gw_mem (List.mem_of_getElem? (i := 6) (by decide +kernel)) (by decide +kernel), gw_mem (List.mem_of_getElem? (i := 932) (by decide +kernel)) (by decide +kernel), by decide +kernel, by decide, by decide, by decide +kernel⟩
theorem ys_X5_part : q_YS yX5_part cX5_part 11 (some .long) 3 := ⟨gw_mem (List.mem_of_getElem? (i := 1083) (by decide +kernel)) (by decide +kernel), gw_mem (List.mem_of_getElem? (i := 6) (by decide +kernel)) (by decide +kernel), gw_mem (List.mem_of_getElem? (i := 1084) (by decide +kernel)) (by decide +kernel), by decide +kernel, by decide⟩
theorem yi_X5_place : q_YI yX5_place cX5_place 3 (some .int) 5 2 := ⟨gw_mem (List.mem_of_getElem? (i := 1029) (by decide +kernel)) (by decide +kernel), gw_mem (List.mem_of_getElem? (i := 1030) (by decide +kernel)) (by decide +kernel), gw_mem (List.mem_of_getElem? (i := 6) (by decide +kernel)) (by decide +kernel), gw_mem (List.mem_of_getElem? (i := 1031) (by decide +kernel)) (by decide +kernel), by decide +kernel, by decide, by decide, by decide +kernel⟩
theorem yi_X5_placeOf : q_YI yX5_placeOf cX5_placeOf 7 (some .int) 5 2 := ⟨gw_mem (List.mem_of_getElem? (i := 1034) (by decide +kernel)) (by decide +kernel), gw_sel (q := (yX5_placeOf, 26)) (List.mem_of_getElem? (i := 54) (by decide +kernel)) (by decide +kernel), gw_mem (List.mem_of_getElem? (i := 6) (by decide +kernel)) (by decide +kernel), gw_mem (List.mem_of_getElem? (i := 1035) (by decide +kernel)) (by decide +kernel), by decide +kernel, by decide, by decide, by decide +kernel⟩
theorem yi_X5_pour : q_YI yX5_pour cX5_pour 2 (some .int) 5 1 := ⟨gw_mem (List.mem_of_getElem? (i := 996) (by decide +kernel)) (by decide +kernel), gw_mem (List.mem_of_getElem? (i := 997) (by decide +kernel)) (by decide +kernel), gw_mem (List.mem_of_getElem? (i := 6) (by decide +kernel)) (by decide +kernel), gw_mem (List.mem_of_getElem? (i := 998) (by decide +kernel)) (by decide +kernel), by decide +kernel, by decide, by decide, by decide +kernel⟩
theorem yi_X5_pourOf : q_YI yX5_pourOf cX5_pourOf 7 (some .int) 5 1 := ⟨gw_mem (List.mem_of_getElem? (i := 1004) (by decide +kernel)) (by decide +kernel), gw_sel (q := (yX5_pourOf, 26)) (List.mem_of_getElem? (i := 51) (by decide +kernel)) (by decide +kernel), gw_mem (List.mem_of_getElem? (i := 6) (by decide +kernel)) (by decide +kernel), gw_mem (List.mem_of_getElem? (i := 1005) (by decide +kernel)) (by decide +kernel), by decide +kernel, by decide, by decide, by decide +kernel⟩
theorem yi_X5_read : q_YI yX5_read cX5_read 3 (some .int) 5 2 := ⟨gw_mem (List.mem_of_getElem? (i := 1049) (by decide +kernel)) (by decide +kernel), gw_mem (List.mem_of_getElem? (i := 1050) (by decide +kernel)) (by decide +kernel), gw_mem (List.mem_of_getElem? (i := 6) (by decide +kernel)) (by decide +kernel), gw_mem (List.mem_of_getElem? (i := 1051) (by decide +kernel)) (by decide +kernel), by decide +kernel, by decide, by decide, by decide +kernel⟩
theorem yi_X5_readBy : q_YI yX5_readBy cX5_readBy 6 (some .int) 5 1 := ⟨gw_mem (List.mem_of_getElem? (i := 953) (by decide +kernel)) (by decide +kernel), gw_sel (q := (yX5_readBy, 26)) (List.mem_of_getElem? (i := 44) (by decide +kernel)) (by decide +kernel), gw_mem (List.mem_of_getElem? (i := 6) (by decide +kernel)) (by decide +kernel), gw_mem (List.mem_of_getElem? (i := 954) (by decide +kernel)) (by decide +kernel), by decide +kernel, by decide, by decide, by decide +kernel⟩
theorem yi_X5_readNow : q_YI yX5_readNow cX5_readNow 2 (some .int) 5 1 := ⟨gw_mem (List.mem_of_getElem? (i := 965) (by decide +kernel)) (by decide +kernel), gw_sel (q := (yX5_readNow, 26)) (List.mem_of_getElem? (i := 46) (by decide +kernel)) (by decide +kernel), gw_mem (List.mem_of_getElem? (i := 6) (by decide +kernel)) (by decide +kernel), gw_mem (List.mem_of_getElem? (i := 966) (by decide +kernel)) (by decide +kernel), by decide +kernel, by decide, by decide, by decide +kernel⟩
theorem yi_X5_reading : q_YI yX5_reading cX5_reading 3 (some .int) 5 2 := ⟨gw_mem (List.mem_of_getElem? (i := 910) (by decide +kernel)) (by decide +kernel), gw_mem (List.mem_of_getElem? (i := 911) (by decide +kernel)) (by decide +kernel), gw_mem (List.mem_of_getElem? (i := 6) (by decide +kernel)) (by decide +kernel), gw_mem (List.mem_of_getElem? (i := 912) (by decide +kernel)) (by decide +kernel), by decide +kernel, by decide, by decide, by decide +kernel⟩
theorem yi_X5_readingOf : q_YI yX5_readingOf cX5_readingOf 3 (some .int) 5 2 := ⟨gw_mem (List.mem_of_getElem? (i := 915) (by decide +kernel)) (by decide +kernel), gw_sel (q := (yX5_readingOf, 26)) (List.mem_of_getElem? (i := 36) (by decide +kernel)) (by decide +kernel), gw_mem (List.mem_of_getElem? (i := 6) (by decide +kernel)) (by decide +kernel), gw_mem (List.mem_of_getElem? (i := 916) (by decide +kernel)) (by decide +kernel), by decide +kernel, by decide, by decide, by decide +kernel⟩
theorem yi_X5_reads : q_YI yX5_reads cX5_reads 1 none 5 0 := ⟨gw_mem (List.mem_of_getElem? (i := 862) (by decide +kernel)) (by decide +kernel), gw_sel (q := (yX5_reads, 26)) (List.mem_of_getElem? (i := 33) (by decide +kernel)) (by decide +kernel), gw_mem (List.mem_of_getElem? (i := 6) (by decide +kernel)) (by decide +kernel), gw_mem (List.mem_of_getElem? (i := 863) (by decide +kernel)) (by decide +kernel), by decide +kernel, by decide, by decide, by decide +kernel⟩
theorem yi_X5_readsText : q_YI yX5_readsText cX5_readsText 4 (some .int) 5 1 := ⟨gw_mem (List.mem_of_getElem? (i := 834) (by decide +kernel)) (by decide +kernel), gw_sel (q := (yX5_readsText, 26)) (List.mem_of_getElem? (i := 30) (by decide +kernel)) (by decide +kernel), gw_mem (List.mem_of_getElem? (i := 6) (by decide +kernel)) (by decide +kernel), gw_mem (List.mem_of_getElem? (i := 835) (by decide +kernel)) (by decide +kernel), by decide +kernel, by decide, by decide, by decide +kernel⟩
theorem yi_X5_readsThing : q_YI yX5_readsThing cX5_readsThing 5 (some .boolean) 5 1 := ⟨gw_mem (List.mem_of_getElem? (i := 842) (by decide +kernel)) (by decide +kernel), gw_sel (q := (yX5_readsThing, 26)) (List.mem_of_getElem? (i := 32) (by decide +kernel)) (by decide +kernel), gw_mem (List.mem_of_getElem? (i := 6) (by decide +kernel)) (by decide +kernel), gw_mem (List.mem_of_getElem? (i := 843) (by decide +kernel)) (by decide +kernel), by decide +kernel, by decide, by decide, by decide +kernel⟩
theorem yi_X5_rule : q_YI yX5_rule cX5_rule 3 (some .int) 5 2 := ⟨gw_mem (List.mem_of_getElem? (i := 869) (by decide +kernel)) (by decide +kernel), gw_mem (List.mem_of_getElem? (i := 870) (by decide +kernel)) (by decide +kernel), gw_mem (List.mem_of_getElem? (i := 6) (by decide +kernel)) (by decide +kernel), gw_mem (List.mem_of_getElem? (i := 871) (by decide +kernel)) (by decide +kernel), by decide +kernel, by decide, by decide, by decide +kernel⟩
theorem yi_X5_set : q_YI yX5_set cX5_set 4 (some .int) 5 2 := ⟨gw_mem (List.mem_of_getElem? (i := 895) (by decide +kernel)) (by decide +kernel), gw_mem (List.mem_of_getElem? (i := 896) (by decide +kernel)) (by decide +kernel), gw_mem (List.mem_of_getElem? (i := 6) (by decide +kernel)) (by decide +kernel), gw_mem (List.mem_of_getElem? (i := 897) (by decide +kernel)) (by decide +kernel), by decide +kernel, by decide, by decide, by decide +kernel⟩
theorem ys_X5_shapeOf : q_YS yX5_shapeOf cX5_shapeOf 1 (some .int) 1 := ⟨gw_mem (List.mem_of_getElem? (i := 851) (by decide +kernel)) (by decide +kernel), gw_mem (List.mem_of_getElem? (i := 6) (by decide +kernel)) (by decide +kernel), gw_mem (List.mem_of_getElem? (i := 852) (by decide +kernel)) (by decide +kernel), by decide +kernel, by decide⟩
theorem yi_X5_sheet : q_YI yX5_sheet cX5_sheet 5 (some .int) 5 3 := ⟨gw_mem (List.mem_of_getElem? (i := 773) (by decide +kernel)) (by decide +kernel), gw_mem (List.mem_of_getElem? (i := 774) (by decide +kernel)) (by decide +kernel), gw_mem (List.mem_of_getElem? (i := 6) (by decide +kernel)) (by decide +kernel), gw_mem (List.mem_of_getElem? (i := 775) (by decide +kernel)) (by decide +kernel), by decide +kernel, by decide, by decide, by decide +kernel⟩
theorem yi_X5_sides : q_YI yX5_sides cX5_sides 3 (some .int) 5 2 := ⟨gw_mem (List.mem_of_getElem? (i := 1041) (by decide +kernel)) (by decide +kernel), gw_mem (List.mem_of_getElem? (i := 1042) (by decide +kernel)) (by decide +kernel), gw_mem (List.mem_of_getElem? (i := 6) (by decide +kernel)) (by decide +kernel), gw_mem (List.mem_of_getElem? (i := 1043) (by decide +kernel)) (by decide +kernel), by decide +kernel, by decide, by decide, by decide +kernel⟩
theorem yi_X5_sidesOf : q_YI yX5_sidesOf cX5_sidesOf 4 (some .int) 5 2 := ⟨gw_mem (List.mem_of_getElem? (i := 1046) (by decide +kernel)) (by decide +kernel), gw_sel (q := (yX5_sidesOf, 26)) (List.mem_of_getElem? (i := 56) (by decide +kernel)) (by decide +kernel), gw_mem (List.mem_of_getElem? (i := 6) (by decide +kernel)) (by decide +kernel), gw_mem (List.mem_of_getElem? (i := 1047) (by decide +kernel)) (by decide +kernel), by decide +kernel, by decide, by decide, by decide +kernel⟩
theorem yi_X5_sinks : q_YI yX5_sinks cX5_sinks 5 (some .long) 5 4 := ⟨gw_mem (List.mem_of_getElem? (i := 1074) (by decide +kernel)) (by decide +kernel), gw_mem (List.mem_of_getElem? (i := 1075) (by decide +kernel)) (by decide +kernel), gw_mem (List.mem_of_getElem? (i := 6) (by decide +kernel)) (by decide +kernel), gw_mem (List.mem_of_getElem? (i := 1076) (by decide +kernel)) (by decide +kernel), by decide +kernel, by decide, by decide, by decide +kernel⟩
theorem yi_X5_sinksOf : q_YI yX5_sinksOf cX5_sinksOf 13 (some .long) 5 4 := ⟨gw_mem (List.mem_of_getElem? (i := 1080) (by decide +kernel)) (by decide +kernel), gw_sel (q := (yX5_sinksOf, 26)) (List.mem_of_getElem? (i := 59) (by decide +kernel)) (by decide +kernel), gw_mem (List.mem_of_getElem? (i := 6) (by decide +kernel)) (by decide +kernel), gw_mem (List.mem_of_getElem? (i := 1081) (by decide +kernel)) (by decide +kernel), by decide +kernel, by decide, by decide, by decide +kernel⟩
theorem yi_X5_strain : q_YI yX5_strain cX5_strain 6 (some .int) 5 4 := ⟨gw_mem (List.mem_of_getElem? (i := 1010) (by decide +kernel)) (by decide +kernel), gw_mem (List.mem_of_getElem? (i := 1011) (by decide +kernel)) (by decide +kernel), gw_mem (List.mem_of_getElem? (i := 6) (by decide +kernel)) (by decide +kernel), gw_mem (List.mem_of_getElem? (i := 1012) (by decide +kernel)) (by decide +kernel), by decide +kernel, by decide, by decide, by decide +kernel⟩
theorem yi_X5_strainOf : q_YI yX5_strainOf cX5_strainOf 7 (some .int) 5 3 := ⟨gw_mem (List.mem_of_getElem? (i := 1015) (by decide +kernel)) (by decide +kernel), gw_sel (q := (yX5_strainOf, 26)) (List.mem_of_getElem? (i := 52) (by decide +kernel)) (by decide +kernel), gw_mem (List.mem_of_getElem? (i := 6) (by decide +kernel)) (by decide +kernel), gw_mem (List.mem_of_getElem? (i := 1016) (by decide +kernel)) (by decide +kernel), by decide +kernel, by decide, by decide, by decide +kernel⟩
theorem yi_X5_strike : q_YI yX5_strike cX5_strike 4 (some .int) 5 3 := ⟨gw_mem (List.mem_of_getElem? (i := 1021) (by decide +kernel)) (by decide +kernel), gw_mem (List.mem_of_getElem? (i := 1022) (by decide +kernel)) (by decide +kernel), gw_mem (List.mem_of_getElem? (i := 6) (by decide +kernel)) (by decide +kernel), gw_mem (List.mem_of_getElem? (i := 1023) (by decide +kernel)) (by decide +kernel), by decide +kernel, by decide, by decide, by decide +kernel⟩
theorem yi_X5_strikeOf : q_YI yX5_strikeOf cX5_strikeOf 5 (some .int) 5 2 := ⟨gw_mem (List.mem_of_getElem? (i := 1026) (by decide +kernel)) (by decide +kernel), gw_sel (q := (yX5_strikeOf, 26)) (List.mem_of_getElem? (i := 53) (by decide +kernel)) (by decide +kernel), gw_mem (List.mem_of_getElem? (i := 6) (by decide +kernel)) (by decide +kernel), gw_mem (List.mem_of_getElem? (i := 1027) (by decide +kernel)) (by decide +kernel), by decide +kernel, by decide, by decide, by decide +kernel⟩
theorem yi_X5_take : q_YI yX5_take cX5_take 4 (some .int) 5 1 := ⟨gw_mem (List.mem_of_getElem? (i := 1057) (by decide +kernel)) (by decide +kernel), gw_mem (List.mem_of_getElem? (i := 1058) (by decide +kernel)) (by decide +kernel), gw_mem (List.mem_of_getElem? (i := 6) (by decide +kernel)) (by decide +kernel), gw_mem (List.mem_of_getElem? (i := 1059) (by decide +kernel)) (by decide +kernel), by decide +kernel, by decide, by decide, by decide +kernel⟩
theorem ys_X5_tells : q_YS yX5_tells cX5_tells 2 (some .int) 2 := ⟨gw_mem (List.mem_of_getElem? (i := 1018) (by decide +kernel)) (by decide +kernel), gw_mem (List.mem_of_getElem? (i := 6) (by decide +kernel)) (by decide +kernel), gw_mem (List.mem_of_getElem? (i := 1019) (by decide +kernel)) (by decide +kernel), by decide +kernel, by decide⟩
theorem yi_X5_tellsLaw : q_YI yX5_tellsLaw cX5_tellsLaw 6 (some .long) 5 2 := ⟨gw_mem (List.mem_of_getElem? (i := 1120) (by decide +kernel)) (by decide +kernel), gw_sel (q := (yX5_tellsLaw, 26)) (List.mem_of_getElem? (i := 62) (by decide +kernel)) (by decide +kernel), gw_mem (List.mem_of_getElem? (i := 6) (by decide +kernel)) (by decide +kernel), gw_mem (List.mem_of_getElem? (i := 1121) (by decide +kernel)) (by decide +kernel), by decide +kernel, by decide, by decide, by decide +kernel⟩
theorem ys_X5_tellsOf : q_YS yX5_tellsOf cX5_tellsOf 3 (some .int) 3 := ⟨gw_mem (List.mem_of_getElem? (i := 845) (by decide +kernel)) (by decide +kernel), gw_mem (List.mem_of_getElem? (i := 6) (by decide +kernel)) (by decide +kernel), gw_mem (List.mem_of_getElem? (i := 846) (by decide +kernel)) (by decide +kernel), by decide +kernel, by decide⟩
theorem yi_X5_tellsTurns : q_YI yX5_tellsTurns cX5_tellsTurns 8 (some .long) 5 2 := ⟨gw_mem (List.mem_of_getElem? (i := 1116) (by decide +kernel)) (by decide +kernel), gw_sel (q := (yX5_tellsTurns, 26)) (List.mem_of_getElem? (i := 61) (by decide +kernel)) (by decide +kernel), gw_mem (List.mem_of_getElem? (i := 6) (by decide +kernel)) (by decide +kernel), gw_mem (List.mem_of_getElem? (i := 1117) (by decide +kernel)) (by decide +kernel), by decide +kernel, by decide, by decide, by decide +kernel⟩
theorem yi_X5_turnsCup : q_YI yX5_turnsCup cX5_turnsCup 3 none 5 1 := ⟨gw_mem (List.mem_of_getElem? (i := 919) (by decide +kernel)) (by decide +kernel), gw_sel (q := (yX5_turnsCup, 26)) (List.mem_of_getElem? (i := 37) (by decide +kernel)) (by decide +kernel), gw_mem (List.mem_of_getElem? (i := 6) (by decide +kernel)) (by decide +kernel), gw_mem (List.mem_of_getElem? (i := 920) (by decide +kernel)) (by decide +kernel), by decide +kernel, by decide, by decide, by decide +kernel⟩
theorem yi_X5_turnsOne : q_YI yX5_turnsOne cX5_turnsOne 7 none 5 2 := ⟨gw_mem (List.mem_of_getElem? (i := 907) (by decide +kernel)) (by decide +kernel), gw_sel (q := (yX5_turnsOne, 26)) (List.mem_of_getElem? (i := 35) (by decide +kernel)) (by decide +kernel), gw_mem (List.mem_of_getElem? (i := 6) (by decide +kernel)) (by decide +kernel), gw_mem (List.mem_of_getElem? (i := 908) (by decide +kernel)) (by decide +kernel), by decide +kernel, by decide, by decide, by decide +kernel⟩
theorem yi_X5_type : q_YI yX5_type cX5_type 3 (some .int) 5 2 := ⟨gw_mem (List.mem_of_getElem? (i := 813) (by decide +kernel)) (by decide +kernel), gw_mem (List.mem_of_getElem? (i := 814) (by decide +kernel)) (by decide +kernel), gw_mem (List.mem_of_getElem? (i := 6) (by decide +kernel)) (by decide +kernel), gw_mem (List.mem_of_getElem? (i := 815) (by decide +kernel)) (by decide +kernel), by decide +kernel, by decide, by decide, by decide +kernel⟩
theorem yi_X5_undo : q_YI yX5_undo cX5_undo 2 (some .int) 5 1 := ⟨gw_mem (List.mem_of_getElem? (i := 825) (by decide +kernel)) (by decide +kernel), gw_mem (List.mem_of_getElem? (i := 826) (by decide +kernel)) (by decide +kernel), gw_mem (List.mem_of_getElem? (i := 6) (by decide +kernel)) (by decide +kernel), gw_mem (List.mem_of_getElem? (i := 827) (by decide +kernel)) (by decide +kernel), by decide +kernel, by decide, by decide, by decide +kernel⟩
theorem yi_X5_wipe : q_YI yX5_wipe cX5_wipe 3 (some .int) 5 1 := ⟨gw_mem (List.mem_of_getElem? (i := 821) (by decide +kernel)) (by decide +kernel), gw_mem (List.mem_of_getElem? (i := 822) (by decide +kernel)) (by decide +kernel), gw_mem (List.mem_of_getElem? (i := 6) (by decide +kernel)) (by decide +kernel), gw_mem (List.mem_of_getElem? (i := 823) (by decide +kernel)) (by decide +kernel), by decide +kernel, by decide, by decide, by decide +kernel⟩
theorem ys_X5_within : q_YS yX5_within cX5_within 3 (some .int) 3 := ⟨gw_mem (List.mem_of_getElem? (i := 848) (by decide +kernel)) (by decide +kernel), gw_mem (List.mem_of_getElem? (i := 6) (by decide +kernel)) (by decide +kernel), gw_mem (List.mem_of_getElem? (i := 849) (by decide +kernel)) (by decide +kernel), by decide +kernel, by decide⟩
theorem yi_X5_write : q_YI yX5_write cX5_write 4 (some .int) 5 1 := ⟨gw_mem (List.mem_of_getElem? (i := 1100) (by decide +kernel)) (by decide +kernel), gw_mem (List.mem_of_getElem? (i := 1101) (by decide +kernel)) (by decide +kernel), gw_mem (List.mem_of_getElem? (i := 6) (by decide +kernel)) (by decide +kernel), gw_mem (List.mem_of_getElem? (i := 1102) (by decide +kernel)) (by decide +kernel), by decide +kernel, by decide, by decide, by decide +kernel⟩
theorem ys_J6_bitCount_0f7a4 : q_YS yJ6_bitCount_0f7a4 cJ6_bitCount_0f7a4 1 (some .int) 1 := ⟨gw_mem (List.mem_of_getElem? (i := 470) (by decide +kernel)) (by decide +kernel), gw_mem (List.mem_of_getElem? (i := 13) (by decide +kernel)) (by decide +kernel), gw_mem (List.mem_of_getElem? (i := 471) (by decide +kernel)) (by decide +kernel), by decide +kernel, by decide⟩
theorem ys_J6_numberOfLeadingZeros_0f7a4 : q_YS yJ6_numberOfLeadingZeros_0f7a4 cJ6_numberOfLeadingZeros_0f7a4 2 (some .int) 1 := ⟨gw_mem (List.mem_of_getElem? (i := 492) (by decide +kernel)) (by decide +kernel), gw_mem (List.mem_of_getElem? (i := 13) (by decide +kernel)) (by decide +kernel), gw_mem (List.mem_of_getElem? (i := 493) (by decide +kernel)) (by decide +kernel), by decide +kernel, by decide⟩
theorem ys_J6_numberOfTrailingZeros_0f7a4 : q_YS yJ6_numberOfTrailingZeros_0f7a4 cJ6_numberOfTrailingZeros_0f7a4 2 (some .int) 1 := ⟨gw_mem (List.mem_of_getElem? (i := 488) (by decide +kernel)) (by decide +kernel), gw_mem (List.mem_of_getElem? (i := 13) (by decide +kernel)) (by decide +kernel), gw_mem (List.mem_of_getElem? (i := 489) (by decide +kernel)) (by decide +kernel), by decide +kernel, by decide⟩
theorem ys_J13_numberOfTrailingZeros_95d88 : q_YS yJ13_numberOfTrailingZeros_95d88 cJ13_numberOfTrailingZeros_95d88 3 (some .int) 1 := ⟨gw_mem (List.mem_of_getElem? (i := 589) (by decide +kernel)) (by decide +kernel), gw_mem (List.mem_of_getElem? (i := 14) (by decide +kernel)) (by decide +kernel), gw_mem (List.mem_of_getElem? (i := 590) (by decide +kernel)) (by decide +kernel), by decide +kernel, by decide⟩
theorem ys_J9_abs_0f7a4 : q_YS yJ9_abs_0f7a4 cJ9_abs_0f7a4 1 (some .int) 1 := ⟨gw_mem (List.mem_of_getElem? (i := 403) (by decide +kernel)) (by decide +kernel), gw_mem (List.mem_of_getElem? (i := 9) (by decide +kernel)) (by decide +kernel), gw_mem (List.mem_of_getElem? (i := 404) (by decide +kernel)) (by decide +kernel), by decide +kernel, by decide⟩
theorem ys_J9_max_7cf53 : q_YS yJ9_max_7cf53 cJ9_max_7cf53 2 (some .int) 2 := ⟨gw_mem (List.mem_of_getElem? (i := 251) (by decide +kernel)) (by decide +kernel), gw_mem (List.mem_of_getElem? (i := 9) (by decide +kernel)) (by decide +kernel), gw_mem (List.mem_of_getElem? (i := 252) (by decide +kernel)) (by decide +kernel), by decide +kernel, by decide⟩
theorem ys_J9_min_7cf53 : q_YS yJ9_min_7cf53 cJ9_min_7cf53 2 (some .int) 2 := ⟨gw_mem (List.mem_of_getElem? (i := 254) (by decide +kernel)) (by decide +kernel), gw_mem (List.mem_of_getElem? (i := 9) (by decide +kernel)) (by decide +kernel), gw_mem (List.mem_of_getElem? (i := 255) (by decide +kernel)) (by decide +kernel), by decide +kernel, by decide⟩
theorem ys_J0_checkBoundsBeginEnd_23922 : q_YS yJ0_checkBoundsBeginEnd_23922 cJ0_checkBoundsBeginEnd_23922 3 none 3 := ⟨gw_mem (List.mem_of_getElem? (i := 275) (by decide +kernel)) (by decide +kernel), gw_mem (List.mem_of_getElem? (i := 7) (by decide +kernel)) (by decide +kernel), gw_mem (List.mem_of_getElem? (i := 276) (by decide +kernel)) (by decide +kernel), by decide +kernel, by decide⟩
theorem ys_J1_canEncode_9a6ad : q_YS yJ1_canEncode_9a6ad cJ1_canEncode_9a6ad 1 (some .boolean) 1 := ⟨gw_mem (List.mem_of_getElem? (i := 248) (by decide +kernel)) (by decide +kernel), gw_mem (List.mem_of_getElem? (i := 8) (by decide +kernel)) (by decide +kernel), gw_mem (List.mem_of_getElem? (i := 249) (by decide +kernel)) (by decide +kernel), by decide +kernel, by decide⟩
theorem ys_J1_indexOf_4cfef : q_YS yJ1_indexOf_4cfef cJ1_indexOf_4cfef 4 (some .int) 4 := ⟨gw_mem (List.mem_of_getElem? (i := 245) (by decide +kernel)) (by decide +kernel), gw_mem (List.mem_of_getElem? (i := 8) (by decide +kernel)) (by decide +kernel), gw_mem (List.mem_of_getElem? (i := 246) (by decide +kernel)) (by decide +kernel), by decide +kernel, by decide⟩
theorem ys_J1_indexOfChar_4cfef : q_YS yJ1_indexOfChar_4cfef cJ1_indexOfChar_4cfef 6 (some .int) 4 := ⟨gw_mem (List.mem_of_getElem? (i := 257) (by decide +kernel)) (by decide +kernel), gw_mem (List.mem_of_getElem? (i := 8) (by decide +kernel)) (by decide +kernel), gw_mem (List.mem_of_getElem? (i := 258) (by decide +kernel)) (by decide +kernel), by decide +kernel, by decide⟩
theorem ml_RX4_11 : Cond.methodLink RX4 11 yX3_init ∈ gw := gw_mem (List.mem_of_getElem? (i := 26) (by decide +kernel)) (by decide +kernel)
theorem ml_RX4_23 : Cond.methodLink RX4 23 yX1_init ∈ gw := gw_mem (List.mem_of_getElem? (i := 59) (by decide +kernel)) (by decide +kernel)
theorem ml_RX4_38 : Cond.methodLink RX4 38 yX0_init ∈ gw := gw_mem (List.mem_of_getElem? (i := 81) (by decide +kernel)) (by decide +kernel)
theorem ml_RX4_62 : Cond.methodLink RX4 62 yX4_below ∈ gw := gw_mem (List.mem_of_getElem? (i := 194) (by decide +kernel)) (by decide +kernel)
theorem ml_RX4_70 : Cond.methodLink RX4 70 yX4_textOf ∈ gw := gw_mem (List.mem_of_getElem? (i := 197) (by decide +kernel)) (by decide +kernel)
theorem ml_RX4_74 : Cond.methodLink RX4 74 yX3_append ∈ gw := gw_mem (List.mem_of_getElem? (i := 201) (by decide +kernel)) (by decide +kernel)
theorem ml_RX4_78 : Cond.methodLink RX4 78 yX3_empty ∈ gw := gw_mem (List.mem_of_getElem? (i := 313) (by decide +kernel)) (by decide +kernel)
theorem ml_RX4_82 : Cond.methodLink RX4 82 yX3_dropLast ∈ gw := gw_mem (List.mem_of_getElem? (i := 321) (by decide +kernel)) (by decide +kernel)
theorem ml_RX4_91 : Cond.methodLink RX4 91 yX3_part ∈ gw := gw_mem (List.mem_of_getElem? (i := 333) (by decide +kernel)) (by decide +kernel)
theorem ml_RX4_95 : Cond.methodLink RX4 95 yX1_append ∈ gw := gw_mem (List.mem_of_getElem? (i := 345) (by decide +kernel)) (by decide +kernel)
theorem ml_RX4_97 : Cond.methodLink RX4 97 yX1_dropLast ∈ gw := gw_mem (List.mem_of_getElem? (i := 357) (by decide +kernel)) (by decide +kernel)
theorem ml_RX4_98 : Cond.methodLink RX4 98 yX0_settled ∈ gw := gw_mem (List.mem_of_getElem? (i := 369) (by decide +kernel)) (by decide +kernel)
theorem ml_RX4_119 : Cond.methodLink RX4 119 yX4_turnsOn ∈ gw := gw_mem (List.mem_of_getElem? (i := 418) (by decide +kernel)) (by decide +kernel)
theorem ml_RX4_122 : Cond.methodLink RX4 122 yX4_brokenDeeds ∈ gw := gw_mem (List.mem_of_getElem? (i := 426) (by decide +kernel)) (by decide +kernel)
theorem ml_RX4_126 : Cond.methodLink RX4 126 yX4_earliestDeed ∈ gw := gw_mem (List.mem_of_getElem? (i := 434) (by decide +kernel)) (by decide +kernel)
theorem ml_RX4_129 : Cond.methodLink RX4 129 yX0_isInForce ∈ gw := gw_mem (List.mem_of_getElem? (i := 430) (by decide +kernel)) (by decide +kernel)
theorem ml_RX4_132 : Cond.methodLink RX4 132 yX0_firstClash ∈ gw := gw_mem (List.mem_of_getElem? (i := 446) (by decide +kernel)) (by decide +kernel)
theorem ml_RX4_135 : Cond.methodLink RX4 135 yX4_areLaws ∈ gw := gw_mem (List.mem_of_getElem? (i := 466) (by decide +kernel)) (by decide +kernel)
theorem ml_RX4_139 : Cond.methodLink RX4 139 yJ6_bitCount_0f7a4 ∈ gw := gw_mem (List.mem_of_getElem? (i := 469) (by decide +kernel)) (by decide +kernel)
theorem ml_RX4_144 : Cond.methodLink RX4 144 yX0_fewestLeavesOut ∈ gw := gw_mem (List.mem_of_getElem? (i := 479) (by decide +kernel)) (by decide +kernel)
theorem ml_RX4_148 : Cond.methodLink RX4 148 yX4_howManyOrBits ∈ gw := gw_mem (List.mem_of_getElem? (i := 495) (by decide +kernel)) (by decide +kernel)
theorem ml_RX4_151 : Cond.methodLink RX4 151 yX0_fewestRulesStruck ∈ gw := gw_mem (List.mem_of_getElem? (i := 502) (by decide +kernel)) (by decide +kernel)
theorem ml_RX4_154 : Cond.methodLink RX4 154 yX0_leastLeafThatChanges ∈ gw := gw_mem (List.mem_of_getElem? (i := 510) (by decide +kernel)) (by decide +kernel)
theorem ml_RX4_157 : Cond.methodLink RX4 157 yX0_turnsThatHold ∈ gw := gw_mem (List.mem_of_getElem? (i := 522) (by decide +kernel)) (by decide +kernel)
theorem ml_RX4_160 : Cond.methodLink RX4 160 yX1_empty ∈ gw := gw_mem (List.mem_of_getElem? (i := 535) (by decide +kernel)) (by decide +kernel)
theorem ml_RX4_161 : Cond.methodLink RX4 161 yX2_isLost ∈ gw := gw_mem (List.mem_of_getElem? (i := 543) (by decide +kernel)) (by decide +kernel)
theorem ml_RX4_165 : Cond.methodLink RX4 165 yX4_find ∈ gw := gw_mem (List.mem_of_getElem? (i := 547) (by decide +kernel)) (by decide +kernel)
theorem ml_RX4_174 : Cond.methodLink RX4 174 yX4_read ∈ gw := gw_mem (List.mem_of_getElem? (i := 551) (by decide +kernel)) (by decide +kernel)
theorem ml_RX4_177 : Cond.methodLink RX4 177 yX4_wouldFit ∈ gw := gw_mem (List.mem_of_getElem? (i := 556) (by decide +kernel)) (by decide +kernel)
theorem ml_RX4_183 : Cond.methodLink RX4 183 yX0_chanceAbove ∈ gw := gw_mem (List.mem_of_getElem? (i := 577) (by decide +kernel)) (by decide +kernel)
theorem ml_RX4_187 : Cond.methodLink RX4 187 yJ13_numberOfTrailingZeros_95d88 ∈ gw := gw_mem (List.mem_of_getElem? (i := 588) (by decide +kernel)) (by decide +kernel)
theorem ml_RX4_193 : Cond.methodLink RX4 193 yJ9_min_7cf53 ∈ gw := gw_mem (List.mem_of_getElem? (i := 592) (by decide +kernel)) (by decide +kernel)
theorem ml_RX4_199 : Cond.methodLink RX4 199 yX2_begin ∈ gw := gw_mem (List.mem_of_getElem? (i := 602) (by decide +kernel)) (by decide +kernel)
theorem ml_RX4_203 : Cond.methodLink RX4 203 yX2_end ∈ gw := gw_mem (List.mem_of_getElem? (i := 610) (by decide +kernel)) (by decide +kernel)
theorem ml_RX4_206 : Cond.methodLink RX4 206 yX4_itemFinding ∈ gw := gw_mem (List.mem_of_getElem? (i := 618) (by decide +kernel)) (by decide +kernel)
theorem ml_RX4_210 : Cond.methodLink RX4 210 yX2_put ∈ gw := gw_mem (List.mem_of_getElem? (i := 621) (by decide +kernel)) (by decide +kernel)
theorem ml_RX4_217 : Cond.methodLink RX4 217 yX2_has ∈ gw := gw_mem (List.mem_of_getElem? (i := 634) (by decide +kernel)) (by decide +kernel)
theorem ml_RX4_230 : Cond.methodLink RX4 230 yX4_rulesWithPlus ∈ gw := gw_mem (List.mem_of_getElem? (i := 649) (by decide +kernel)) (by decide +kernel)
theorem ml_RX4_237 : Cond.methodLink RX4 237 yX4_count ∈ gw := gw_mem (List.mem_of_getElem? (i := 659) (by decide +kernel)) (by decide +kernel)
theorem ml_RX4_240 : Cond.methodLink RX4 240 yX4_digestOfTexts ∈ gw := gw_mem (List.mem_of_getElem? (i := 660) (by decide +kernel)) (by decide +kernel)
theorem ml_RX4_244 : Cond.methodLink RX4 244 yX4_digestOfTurns ∈ gw := gw_mem (List.mem_of_getElem? (i := 667) (by decide +kernel)) (by decide +kernel)
theorem ml_RX4_248 : Cond.methodLink RX4 248 yX4_digestOfLaw ∈ gw := gw_mem (List.mem_of_getElem? (i := 676) (by decide +kernel)) (by decide +kernel)
theorem ml_RX4_251 : Cond.methodLink RX4 251 yX4_broken ∈ gw := gw_mem (List.mem_of_getElem? (i := 684) (by decide +kernel)) (by decide +kernel)
theorem ml_RX4_254 : Cond.methodLink RX4 254 yX4_pour ∈ gw := gw_mem (List.mem_of_getElem? (i := 685) (by decide +kernel)) (by decide +kernel)
theorem ml_RX4_257 : Cond.methodLink RX4 257 yX4_fits ∈ gw := gw_mem (List.mem_of_getElem? (i := 686) (by decide +kernel)) (by decide +kernel)
theorem ml_RX4_260 : Cond.methodLink RX4 260 yX4_fault ∈ gw := gw_mem (List.mem_of_getElem? (i := 664) (by decide +kernel)) (by decide +kernel)
theorem ml_RX4_263 : Cond.methodLink RX4 263 yX4_leaf ∈ gw := gw_mem (List.mem_of_getElem? (i := 665) (by decide +kernel)) (by decide +kernel)
theorem ml_RX4_266 : Cond.methodLink RX4 266 yX4_rule ∈ gw := gw_mem (List.mem_of_getElem? (i := 666) (by decide +kernel)) (by decide +kernel)
theorem ml_RX4_269 : Cond.methodLink RX4 269 yX4_reading ∈ gw := gw_mem (List.mem_of_getElem? (i := 671) (by decide +kernel)) (by decide +kernel)
theorem ml_RX4_272 : Cond.methodLink RX4 272 yX4_clash ∈ gw := gw_mem (List.mem_of_getElem? (i := 672) (by decide +kernel)) (by decide +kernel)
theorem ml_RX4_275 : Cond.methodLink RX4 275 yX4_strain ∈ gw := gw_mem (List.mem_of_getElem? (i := 673) (by decide +kernel)) (by decide +kernel)
theorem ml_RX4_279 : Cond.methodLink RX4 279 yX4_strike ∈ gw := gw_mem (List.mem_of_getElem? (i := 674) (by decide +kernel)) (by decide +kernel)
theorem ml_RX4_282 : Cond.methodLink RX4 282 yX4_place ∈ gw := gw_mem (List.mem_of_getElem? (i := 675) (by decide +kernel)) (by decide +kernel)
theorem ml_RX4_285 : Cond.methodLink RX4 285 yX4_free ∈ gw := gw_mem (List.mem_of_getElem? (i := 680) (by decide +kernel)) (by decide +kernel)
theorem ml_RX4_288 : Cond.methodLink RX4 288 yX4_sides ∈ gw := gw_mem (List.mem_of_getElem? (i := 681) (by decide +kernel)) (by decide +kernel)
theorem ml_RX4_291 : Cond.methodLink RX4 291 yX4_sinks ∈ gw := gw_mem (List.mem_of_getElem? (i := 682) (by decide +kernel)) (by decide +kernel)
theorem ml_RX4_295 : Cond.methodLink RX4 295 yX4_mornings ∈ gw := gw_mem (List.mem_of_getElem? (i := 683) (by decide +kernel)) (by decide +kernel)
theorem ml_RX4_304 : Cond.methodLink RX4 304 yX0_inForceHad ∈ gw := gw_mem (List.mem_of_getElem? (i := 560) (by decide +kernel)) (by decide +kernel)
theorem ml_RX0_63 : Cond.methodLink RX0 63 yX0_sortRules ∈ gw := gw_mem (List.mem_of_getElem? (i := 373) (by decide +kernel)) (by decide +kernel)
theorem ml_RX0_66 : Cond.methodLink RX0 66 yX0_readRules ∈ gw := gw_mem (List.mem_of_getElem? (i := 378) (by decide +kernel)) (by decide +kernel)
theorem ml_RX0_69 : Cond.methodLink RX0 69 yX0_layLeaves ∈ gw := gw_mem (List.mem_of_getElem? (i := 382) (by decide +kernel)) (by decide +kernel)
theorem ml_RX0_73 : Cond.methodLink RX0 73 yX0_pairLeaves ∈ gw := gw_mem (List.mem_of_getElem? (i := 390) (by decide +kernel)) (by decide +kernel)
theorem ml_RX0_81 : Cond.methodLink RX0 81 yX3_part ∈ gw := gw_mem (List.mem_of_getElem? (i := 377) (by decide +kernel)) (by decide +kernel)
theorem ml_RX0_85 : Cond.methodLink RX0 85 yX0_isCracked ∈ gw := gw_mem (List.mem_of_getElem? (i := 386) (by decide +kernel)) (by decide +kernel)
theorem ml_RX0_100 : Cond.methodLink RX0 100 yX0_counts ∈ gw := gw_mem (List.mem_of_getElem? (i := 394) (by decide +kernel)) (by decide +kernel)
theorem ml_RX0_103 : Cond.methodLink RX0 103 yX0_madeWith ∈ gw := gw_mem (List.mem_of_getElem? (i := 398) (by decide +kernel)) (by decide +kernel)
theorem ml_RX0_107 : Cond.methodLink RX0 107 yJ9_abs_0f7a4 ∈ gw := gw_mem (List.mem_of_getElem? (i := 402) (by decide +kernel)) (by decide +kernel)
theorem ml_RX0_113 : Cond.methodLink RX0 113 yJ9_max_7cf53 ∈ gw := gw_mem (List.mem_of_getElem? (i := 405) (by decide +kernel)) (by decide +kernel)
theorem ml_RX0_116 : Cond.methodLink RX0 116 yX0_madeInOrder ∈ gw := gw_mem (List.mem_of_getElem? (i := 406) (by decide +kernel)) (by decide +kernel)
theorem ml_RX0_120 : Cond.methodLink RX0 120 yX0_applies ∈ gw := gw_mem (List.mem_of_getElem? (i := 450) (by decide +kernel)) (by decide +kernel)
theorem ml_RX0_123 : Cond.methodLink RX0 123 yX0_contradictsEarlier ∈ gw := gw_mem (List.mem_of_getElem? (i := 454) (by decide +kernel)) (by decide +kernel)
theorem ml_RX0_126 : Cond.methodLink RX0 126 yX0_alike ∈ gw := gw_mem (List.mem_of_getElem? (i := 458) (by decide +kernel)) (by decide +kernel)
theorem ml_RX0_130 : Cond.methodLink RX0 130 yJ6_numberOfTrailingZeros_0f7a4 ∈ gw := gw_mem (List.mem_of_getElem? (i := 487) (by decide +kernel)) (by decide +kernel)
theorem ml_RX0_135 : Cond.methodLink RX0 135 yJ6_numberOfLeadingZeros_0f7a4 ∈ gw := gw_mem (List.mem_of_getElem? (i := 491) (by decide +kernel)) (by decide +kernel)
theorem ml_RX0_138 : Cond.methodLink RX0 138 yX0_fillRulesByLeaves ∈ gw := gw_mem (List.mem_of_getElem? (i := 483) (by decide +kernel)) (by decide +kernel)
theorem ml_RX0_141 : Cond.methodLink RX0 141 yJ6_bitCount_0f7a4 ∈ gw := gw_mem (List.mem_of_getElem? (i := 494) (by decide +kernel)) (by decide +kernel)
theorem ml_RX0_144 : Cond.methodLink RX0 144 yX0_changes ∈ gw := gw_mem (List.mem_of_getElem? (i := 514) (by decide +kernel)) (by decide +kernel)
theorem ml_RX0_148 : Cond.methodLink RX0 148 yX0_isInForce ∈ gw := gw_mem (List.mem_of_getElem? (i := 526) (by decide +kernel)) (by decide +kernel)
theorem ml_RX0_151 : Cond.methodLink RX0 151 yX0_inForceWithoutLeaf ∈ gw := gw_mem (List.mem_of_getElem? (i := 564) (by decide +kernel)) (by decide +kernel)
theorem ml_RX0_154 : Cond.methodLink RX0 154 yX0_inForceWithTurnedRule ∈ gw := gw_mem (List.mem_of_getElem? (i := 568) (by decide +kernel)) (by decide +kernel)
theorem ml_RX0_157 : Cond.methodLink RX0 157 yX0_countChoices ∈ gw := gw_mem (List.mem_of_getElem? (i := 581) (by decide +kernel)) (by decide +kernel)
theorem ml_RX0_161 : Cond.methodLink RX0 161 yX0_power ∈ gw := gw_mem (List.mem_of_getElem? (i := 585) (by decide +kernel)) (by decide +kernel)
theorem ml_RX3_35 : Cond.methodLink RX3 35 yX3_parse ∈ gw := gw_mem (List.mem_of_getElem? (i := 205) (by decide +kernel)) (by decide +kernel)
theorem ml_RX3_38 : Cond.methodLink RX3 38 yX3_separator ∈ gw := gw_mem (List.mem_of_getElem? (i := 209) (by decide +kernel)) (by decide +kernel)
theorem ml_RX3_42 : Cond.methodLink RX3 42 yX3_signs ∈ gw := gw_mem (List.mem_of_getElem? (i := 212) (by decide +kernel)) (by decide +kernel)
theorem ml_RX3_46 : Cond.methodLink RX3 46 yJ0_indexOf_0f7a4 ∈ gw := gw_mem (List.mem_of_getElem? (i := 222) (by decide +kernel)) (by decide +kernel)
theorem ml_RL_9 : Cond.methodLink RL 9 yX4_init ∈ gw := gw_mem (List.mem_of_getElem? (i := 18) (by decide +kernel)) (by decide +kernel)
theorem ml_RL_12 : Cond.methodLink RL 12 yX5_init ∈ gw := gw_mem (List.mem_of_getElem? (i := 689) (by decide +kernel)) (by decide +kernel)
theorem ml_RL_13 : Cond.methodLink RL 13 yX4_type ∈ gw := gw_mem (List.mem_of_getElem? (i := 190) (by decide +kernel)) (by decide +kernel)
theorem ml_RL_17 : Cond.methodLink RL 17 yX5_type ∈ gw := gw_mem (List.mem_of_getElem? (i := 812) (by decide +kernel)) (by decide +kernel)
theorem ml_RL_18 : Cond.methodLink RL 18 yX4_wipe ∈ gw := gw_mem (List.mem_of_getElem? (i := 309) (by decide +kernel)) (by decide +kernel)
theorem ml_RL_22 : Cond.methodLink RL 22 yX5_wipe ∈ gw := gw_mem (List.mem_of_getElem? (i := 820) (by decide +kernel)) (by decide +kernel)
theorem ml_RL_23 : Cond.methodLink RL 23 yX4_undo ∈ gw := gw_mem (List.mem_of_getElem? (i := 317) (by decide +kernel)) (by decide +kernel)
theorem ml_RL_26 : Cond.methodLink RL 26 yX5_undo ∈ gw := gw_mem (List.mem_of_getElem? (i := 824) (by decide +kernel)) (by decide +kernel)
theorem ml_RL_27 : Cond.methodLink RL 27 yX4_fault ∈ gw := gw_mem (List.mem_of_getElem? (i := 325) (by decide +kernel)) (by decide +kernel)
theorem ml_RL_30 : Cond.methodLink RL 30 yX5_fault ∈ gw := gw_mem (List.mem_of_getElem? (i := 828) (by decide +kernel)) (by decide +kernel)
theorem ml_RL_31 : Cond.methodLink RL 31 yX4_leaf ∈ gw := gw_mem (List.mem_of_getElem? (i := 329) (by decide +kernel)) (by decide +kernel)
theorem ml_RL_34 : Cond.methodLink RL 34 yX5_leaf ∈ gw := gw_mem (List.mem_of_getElem? (i := 856) (by decide +kernel)) (by decide +kernel)
theorem ml_RL_35 : Cond.methodLink RL 35 yX4_rule ∈ gw := gw_mem (List.mem_of_getElem? (i := 337) (by decide +kernel)) (by decide +kernel)
theorem ml_RL_38 : Cond.methodLink RL 38 yX5_rule ∈ gw := gw_mem (List.mem_of_getElem? (i := 868) (by decide +kernel)) (by decide +kernel)
theorem ml_RL_39 : Cond.methodLink RL 39 yX4_crack ∈ gw := gw_mem (List.mem_of_getElem? (i := 341) (by decide +kernel)) (by decide +kernel)
theorem ml_RL_42 : Cond.methodLink RL 42 yX5_crack ∈ gw := gw_mem (List.mem_of_getElem? (i := 873) (by decide +kernel)) (by decide +kernel)
theorem ml_RL_43 : Cond.methodLink RL 43 yX4_deed ∈ gw := gw_mem (List.mem_of_getElem? (i := 349) (by decide +kernel)) (by decide +kernel)
theorem ml_RL_46 : Cond.methodLink RL 46 yX5_deed ∈ gw := gw_mem (List.mem_of_getElem? (i := 878) (by decide +kernel)) (by decide +kernel)
theorem ml_RL_47 : Cond.methodLink RL 47 yX4_back ∈ gw := gw_mem (List.mem_of_getElem? (i := 353) (by decide +kernel)) (by decide +kernel)
theorem ml_RL_50 : Cond.methodLink RL 50 yX5_back ∈ gw := gw_mem (List.mem_of_getElem? (i := 890) (by decide +kernel)) (by decide +kernel)
theorem ml_RL_51 : Cond.methodLink RL 51 yX4_set ∈ gw := gw_mem (List.mem_of_getElem? (i := 361) (by decide +kernel)) (by decide +kernel)
theorem ml_RL_54 : Cond.methodLink RL 54 yX5_set ∈ gw := gw_mem (List.mem_of_getElem? (i := 894) (by decide +kernel)) (by decide +kernel)
theorem ml_RL_55 : Cond.methodLink RL 55 yX4_lies ∈ gw := gw_mem (List.mem_of_getElem? (i := 365) (by decide +kernel)) (by decide +kernel)
theorem ml_RL_59 : Cond.methodLink RL 59 yX5_lies ∈ gw := gw_mem (List.mem_of_getElem? (i := 898) (by decide +kernel)) (by decide +kernel)
theorem ml_RL_60 : Cond.methodLink RL 60 yX4_reading ∈ gw := gw_mem (List.mem_of_getElem? (i := 410) (by decide +kernel)) (by decide +kernel)
theorem ml_RL_63 : Cond.methodLink RL 63 yX5_reading ∈ gw := gw_mem (List.mem_of_getElem? (i := 909) (by decide +kernel)) (by decide +kernel)
theorem ml_RL_64 : Cond.methodLink RL 64 yX4_day ∈ gw := gw_mem (List.mem_of_getElem? (i := 414) (by decide +kernel)) (by decide +kernel)
theorem ml_RL_67 : Cond.methodLink RL 67 yX5_day ∈ gw := gw_mem (List.mem_of_getElem? (i := 955) (by decide +kernel)) (by decide +kernel)
theorem ml_RL_68 : Cond.methodLink RL 68 yX4_broken ∈ gw := gw_mem (List.mem_of_getElem? (i := 422) (by decide +kernel)) (by decide +kernel)
theorem ml_RL_71 : Cond.methodLink RL 71 yX5_broken ∈ gw := gw_mem (List.mem_of_getElem? (i := 967) (by decide +kernel)) (by decide +kernel)
theorem ml_RL_72 : Cond.methodLink RL 72 yX4_free ∈ gw := gw_mem (List.mem_of_getElem? (i := 438) (by decide +kernel)) (by decide +kernel)
theorem ml_RL_75 : Cond.methodLink RL 75 yX5_free ∈ gw := gw_mem (List.mem_of_getElem? (i := 979) (by decide +kernel)) (by decide +kernel)
theorem ml_RL_76 : Cond.methodLink RL 76 yX4_clash ∈ gw := gw_mem (List.mem_of_getElem? (i := 442) (by decide +kernel)) (by decide +kernel)
theorem ml_RL_79 : Cond.methodLink RL 79 yX5_clash ∈ gw := gw_mem (List.mem_of_getElem? (i := 987) (by decide +kernel)) (by decide +kernel)
theorem ml_RL_80 : Cond.methodLink RL 80 yX4_pour ∈ gw := gw_mem (List.mem_of_getElem? (i := 462) (by decide +kernel)) (by decide +kernel)
theorem ml_RL_83 : Cond.methodLink RL 83 yX5_pour ∈ gw := gw_mem (List.mem_of_getElem? (i := 995) (by decide +kernel)) (by decide +kernel)
theorem ml_RL_84 : Cond.methodLink RL 84 yX4_strain ∈ gw := gw_mem (List.mem_of_getElem? (i := 475) (by decide +kernel)) (by decide +kernel)
theorem ml_RL_88 : Cond.methodLink RL 88 yX5_strain ∈ gw := gw_mem (List.mem_of_getElem? (i := 1009) (by decide +kernel)) (by decide +kernel)
theorem ml_RL_89 : Cond.methodLink RL 89 yX4_strike ∈ gw := gw_mem (List.mem_of_getElem? (i := 498) (by decide +kernel)) (by decide +kernel)
theorem ml_RL_92 : Cond.methodLink RL 92 yX5_strike ∈ gw := gw_mem (List.mem_of_getElem? (i := 1020) (by decide +kernel)) (by decide +kernel)
theorem ml_RL_93 : Cond.methodLink RL 93 yX4_place ∈ gw := gw_mem (List.mem_of_getElem? (i := 506) (by decide +kernel)) (by decide +kernel)
theorem ml_RL_96 : Cond.methodLink RL 96 yX5_place ∈ gw := gw_mem (List.mem_of_getElem? (i := 1028) (by decide +kernel)) (by decide +kernel)
theorem ml_RL_97 : Cond.methodLink RL 97 yX4_sides ∈ gw := gw_mem (List.mem_of_getElem? (i := 518) (by decide +kernel)) (by decide +kernel)
theorem ml_RL_100 : Cond.methodLink RL 100 yX5_sides ∈ gw := gw_mem (List.mem_of_getElem? (i := 1040) (by decide +kernel)) (by decide +kernel)
theorem ml_RL_101 : Cond.methodLink RL 101 yX4_read ∈ gw := gw_mem (List.mem_of_getElem? (i := 527) (by decide +kernel)) (by decide +kernel)
theorem ml_RL_104 : Cond.methodLink RL 104 yX5_read ∈ gw := gw_mem (List.mem_of_getElem? (i := 1048) (by decide +kernel)) (by decide +kernel)
theorem ml_RL_105 : Cond.methodLink RL 105 yX4_forget ∈ gw := gw_mem (List.mem_of_getElem? (i := 531) (by decide +kernel)) (by decide +kernel)
theorem ml_RL_109 : Cond.methodLink RL 109 yX5_forget ∈ gw := gw_mem (List.mem_of_getElem? (i := 1052) (by decide +kernel)) (by decide +kernel)
theorem ml_RL_110 : Cond.methodLink RL 110 yX4_take ∈ gw := gw_mem (List.mem_of_getElem? (i := 539) (by decide +kernel)) (by decide +kernel)
theorem ml_RL_113 : Cond.methodLink RL 113 yX5_take ∈ gw := gw_mem (List.mem_of_getElem? (i := 1056) (by decide +kernel)) (by decide +kernel)
theorem ml_RL_114 : Cond.methodLink RL 114 yX4_fits ∈ gw := gw_mem (List.mem_of_getElem? (i := 552) (by decide +kernel)) (by decide +kernel)
theorem ml_RL_117 : Cond.methodLink RL 117 yX5_fits ∈ gw := gw_mem (List.mem_of_getElem? (i := 1061) (by decide +kernel)) (by decide +kernel)
theorem ml_RL_118 : Cond.methodLink RL 118 yX4_sinks ∈ gw := gw_mem (List.mem_of_getElem? (i := 572) (by decide +kernel)) (by decide +kernel)
theorem ml_RL_122 : Cond.methodLink RL 122 yX5_sinks ∈ gw := gw_mem (List.mem_of_getElem? (i := 1073) (by decide +kernel)) (by decide +kernel)
theorem ml_RL_123 : Cond.methodLink RL 123 yX4_mornings ∈ gw := gw_mem (List.mem_of_getElem? (i := 593) (by decide +kernel)) (by decide +kernel)
theorem ml_RL_126 : Cond.methodLink RL 126 yX5_mornings ∈ gw := gw_mem (List.mem_of_getElem? (i := 1089) (by decide +kernel)) (by decide +kernel)
theorem ml_RL_127 : Cond.methodLink RL 127 yX4_sheet ∈ gw := gw_mem (List.mem_of_getElem? (i := 598) (by decide +kernel)) (by decide +kernel)
theorem ml_RL_130 : Cond.methodLink RL 130 yX5_sheet ∈ gw := gw_mem (List.mem_of_getElem? (i := 772) (by decide +kernel)) (by decide +kernel)
theorem ml_RL_131 : Cond.methodLink RL 131 yX4_lose ∈ gw := gw_mem (List.mem_of_getElem? (i := 606) (by decide +kernel)) (by decide +kernel)
theorem ml_RL_134 : Cond.methodLink RL 134 yX5_lose ∈ gw := gw_mem (List.mem_of_getElem? (i := 788) (by decide +kernel)) (by decide +kernel)
theorem ml_RL_135 : Cond.methodLink RL 135 yX4_lay ∈ gw := gw_mem (List.mem_of_getElem? (i := 614) (by decide +kernel)) (by decide +kernel)
theorem ml_RL_138 : Cond.methodLink RL 138 yX5_lay ∈ gw := gw_mem (List.mem_of_getElem? (i := 792) (by decide +kernel)) (by decide +kernel)
theorem ml_RL_139 : Cond.methodLink RL 139 yX4_get ∈ gw := gw_mem (List.mem_of_getElem? (i := 625) (by decide +kernel)) (by decide +kernel)
theorem ml_RL_142 : Cond.methodLink RL 142 yX5_get ∈ gw := gw_mem (List.mem_of_getElem? (i := 803) (by decide +kernel)) (by decide +kernel)
theorem ml_RL_143 : Cond.methodLink RL 143 yX4_copy ∈ gw := gw_mem (List.mem_of_getElem? (i := 630) (by decide +kernel)) (by decide +kernel)
theorem ml_RL_147 : Cond.methodLink RL 147 yX5_copy ∈ gw := gw_mem (List.mem_of_getElem? (i := 808) (by decide +kernel)) (by decide +kernel)
theorem ml_RL_148 : Cond.methodLink RL 148 yX4_write ∈ gw := gw_mem (List.mem_of_getElem? (i := 641) (by decide +kernel)) (by decide +kernel)
theorem ml_RL_151 : Cond.methodLink RL 151 yX5_write ∈ gw := gw_mem (List.mem_of_getElem? (i := 1099) (by decide +kernel)) (by decide +kernel)
theorem ml_RL_152 : Cond.methodLink RL 152 yX4_count ∈ gw := gw_mem (List.mem_of_getElem? (i := 645) (by decide +kernel)) (by decide +kernel)
theorem ml_RL_155 : Cond.methodLink RL 155 yX5_count ∈ gw := gw_mem (List.mem_of_getElem? (i := 1103) (by decide +kernel)) (by decide +kernel)
theorem ml_RL_156 : Cond.methodLink RL 156 yX4_digest ∈ gw := gw_mem (List.mem_of_getElem? (i := 653) (by decide +kernel)) (by decide +kernel)
theorem ml_RL_160 : Cond.methodLink RL 160 yX5_digest ∈ gw := gw_mem (List.mem_of_getElem? (i := 1107) (by decide +kernel)) (by decide +kernel)
theorem ml_RX5_61 : Cond.methodLink RX5 61 yX5_in ∈ gw := gw_mem (List.mem_of_getElem? (i := 780) (by decide +kernel)) (by decide +kernel)
theorem ml_RX5_70 : Cond.methodLink RX5 70 yX5_isSheet ∈ gw := gw_mem (List.mem_of_getElem? (i := 776) (by decide +kernel)) (by decide +kernel)
theorem ml_RX5_76 : Cond.methodLink RX5 76 yX5_finds ∈ gw := gw_mem (List.mem_of_getElem? (i := 784) (by decide +kernel)) (by decide +kernel)
theorem ml_RX5_80 : Cond.methodLink RX5 80 yX5_lacks ∈ gw := gw_mem (List.mem_of_getElem? (i := 796) (by decide +kernel)) (by decide +kernel)
theorem ml_RX5_84 : Cond.methodLink RX5 84 yX5_cut ∈ gw := gw_mem (List.mem_of_getElem? (i := 800) (by decide +kernel)) (by decide +kernel)
theorem ml_RX5_89 : Cond.methodLink RX5 89 yX5_isTwo ∈ gw := gw_mem (List.mem_of_getElem? (i := 816) (by decide +kernel)) (by decide +kernel)
theorem ml_RX5_94 : Cond.methodLink RX5 94 yX5_within ∈ gw := gw_mem (List.mem_of_getElem? (i := 847) (by decide +kernel)) (by decide +kernel)
theorem ml_RX5_97 : Cond.methodLink RX5 97 yX5_shapeOf ∈ gw := gw_mem (List.mem_of_getElem? (i := 850) (by decide +kernel)) (by decide +kernel)
theorem ml_RX5_100 : Cond.methodLink RX5 100 yX5_lieOf ∈ gw := gw_mem (List.mem_of_getElem? (i := 853) (by decide +kernel)) (by decide +kernel)
theorem ml_RX5_112 : Cond.methodLink RX5 112 yX5_tellsOf ∈ gw := gw_mem (List.mem_of_getElem? (i := 844) (by decide +kernel)) (by decide +kernel)
theorem ml_RX5_115 : Cond.methodLink RX5 115 yX5_empty ∈ gw := gw_mem (List.mem_of_getElem? (i := 836) (by decide +kernel)) (by decide +kernel)
theorem ml_RX5_119 : Cond.methodLink RX5 119 yX5_readsThing ∈ gw := gw_mem (List.mem_of_getElem? (i := 840) (by decide +kernel)) (by decide +kernel)
theorem ml_RX5_122 : Cond.methodLink RX5 122 yX5_readsText ∈ gw := gw_mem (List.mem_of_getElem? (i := 832) (by decide +kernel)) (by decide +kernel)
theorem ml_RX5_129 : Cond.methodLink RX5 129 yX5_reads ∈ gw := gw_mem (List.mem_of_getElem? (i := 860) (by decide +kernel)) (by decide +kernel)
theorem ml_RX5_132 : Cond.methodLink RX5 132 yX5_isLeaf ∈ gw := gw_mem (List.mem_of_getElem? (i := 864) (by decide +kernel)) (by decide +kernel)
theorem ml_RX5_142 : Cond.methodLink RX5 142 yX5_isDay ∈ gw := gw_mem (List.mem_of_getElem? (i := 882) (by decide +kernel)) (by decide +kernel)
theorem ml_RX5_145 : Cond.methodLink RX5 145 yX5_isLaw ∈ gw := gw_mem (List.mem_of_getElem? (i := 886) (by decide +kernel)) (by decide +kernel)
theorem ml_RX5_151 : Cond.methodLink RX5 151 yX5_amount ∈ gw := gw_mem (List.mem_of_getElem? (i := 937) (by decide +kernel)) (by decide +kernel)
theorem ml_RX5_157 : Cond.methodLink RX5 157 yX5_lieSo ∈ gw := gw_mem (List.mem_of_getElem? (i := 933) (by decide +kernel)) (by decide +kernel)
theorem ml_RX5_164 : Cond.methodLink RX5 164 yX5_isCracked ∈ gw := gw_mem (List.mem_of_getElem? (i := 925) (by decide +kernel)) (by decide +kernel)
theorem ml_RX5_168 : Cond.methodLink RX5 168 yX5_pairs ∈ gw := gw_mem (List.mem_of_getElem? (i := 929) (by decide +kernel)) (by decide +kernel)
theorem ml_RX5_171 : Cond.methodLink RX5 171 yX5_turnsOne ∈ gw := gw_mem (List.mem_of_getElem? (i := 905) (by decide +kernel)) (by decide +kernel)
theorem ml_RX5_175 : Cond.methodLink RX5 175 yX5_laysOut ∈ gw := gw_mem (List.mem_of_getElem? (i := 921) (by decide +kernel)) (by decide +kernel)
theorem ml_RX5_178 : Cond.methodLink RX5 178 yX5_isIn ∈ gw := gw_mem (List.mem_of_getElem? (i := 948) (by decide +kernel)) (by decide +kernel)
theorem ml_RX5_184 : Cond.methodLink RX5 184 yX5_applies ∈ gw := gw_mem (List.mem_of_getElem? (i := 944) (by decide +kernel)) (by decide +kernel)
theorem ml_RX5_187 : Cond.methodLink RX5 187 yX5_turnsCup ∈ gw := gw_mem (List.mem_of_getElem? (i := 917) (by decide +kernel)) (by decide +kernel)
theorem ml_RX5_190 : Cond.methodLink RX5 190 yX5_readBy ∈ gw := gw_mem (List.mem_of_getElem? (i := 951) (by decide +kernel)) (by decide +kernel)
theorem ml_RX5_193 : Cond.methodLink RX5 193 yX5_areTurns ∈ gw := gw_mem (List.mem_of_getElem? (i := 902) (by decide +kernel)) (by decide +kernel)
theorem ml_RX5_196 : Cond.methodLink RX5 196 yX5_appliesNow ∈ gw := gw_mem (List.mem_of_getElem? (i := 940) (by decide +kernel)) (by decide +kernel)
theorem ml_RX5_200 : Cond.methodLink RX5 200 yX5_readingOf ∈ gw := gw_mem (List.mem_of_getElem? (i := 913) (by decide +kernel)) (by decide +kernel)
theorem ml_RX5_203 : Cond.methodLink RX5 203 yX5_readNow ∈ gw := gw_mem (List.mem_of_getElem? (i := 963) (by decide +kernel)) (by decide +kernel)
theorem ml_RX5_206 : Cond.methodLink RX5 206 yX5_dayOf ∈ gw := gw_mem (List.mem_of_getElem? (i := 959) (by decide +kernel)) (by decide +kernel)
theorem ml_RX5_209 : Cond.methodLink RX5 209 yX5_brokenNow ∈ gw := gw_mem (List.mem_of_getElem? (i := 971) (by decide +kernel)) (by decide +kernel)
theorem ml_RX5_212 : Cond.methodLink RX5 212 yX5_firstBroken ∈ gw := gw_mem (List.mem_of_getElem? (i := 975) (by decide +kernel)) (by decide +kernel)
theorem ml_RX5_215 : Cond.methodLink RX5 215 yX5_freeOf ∈ gw := gw_mem (List.mem_of_getElem? (i := 983) (by decide +kernel)) (by decide +kernel)
theorem ml_RX5_218 : Cond.methodLink RX5 218 yX5_clashOf ∈ gw := gw_mem (List.mem_of_getElem? (i := 991) (by decide +kernel)) (by decide +kernel)
theorem ml_RX5_221 : Cond.methodLink RX5 221 yX5_ones ∈ gw := gw_mem (List.mem_of_getElem? (i := 1006) (by decide +kernel)) (by decide +kernel)
theorem ml_RX5_224 : Cond.methodLink RX5 224 yX5_areLaws ∈ gw := gw_mem (List.mem_of_getElem? (i := 999) (by decide +kernel)) (by decide +kernel)
theorem ml_RX5_227 : Cond.methodLink RX5 227 yX5_pourOf ∈ gw := gw_mem (List.mem_of_getElem? (i := 1002) (by decide +kernel)) (by decide +kernel)
theorem ml_RX5_230 : Cond.methodLink RX5 230 yX5_strainOf ∈ gw := gw_mem (List.mem_of_getElem? (i := 1013) (by decide +kernel)) (by decide +kernel)
theorem ml_RX5_233 : Cond.methodLink RX5 233 yX5_tells ∈ gw := gw_mem (List.mem_of_getElem? (i := 1017) (by decide +kernel)) (by decide +kernel)
theorem ml_RX5_236 : Cond.methodLink RX5 236 yX5_strikeOf ∈ gw := gw_mem (List.mem_of_getElem? (i := 1024) (by decide +kernel)) (by decide +kernel)
theorem ml_RX5_239 : Cond.methodLink RX5 239 yX5_isFree ∈ gw := gw_mem (List.mem_of_getElem? (i := 1036) (by decide +kernel)) (by decide +kernel)
theorem ml_RX5_242 : Cond.methodLink RX5 242 yX5_placeOf ∈ gw := gw_mem (List.mem_of_getElem? (i := 1032) (by decide +kernel)) (by decide +kernel)
theorem ml_RX5_245 : Cond.methodLink RX5 245 yX5_sidesOf ∈ gw := gw_mem (List.mem_of_getElem? (i := 1044) (by decide +kernel)) (by decide +kernel)
theorem ml_RX5_251 : Cond.methodLink RX5 251 yX5_read ∈ gw := gw_mem (List.mem_of_getElem? (i := 1060) (by decide +kernel)) (by decide +kernel)
theorem ml_RX5_254 : Cond.methodLink RX5 254 yX5_isRead ∈ gw := gw_mem (List.mem_of_getElem? (i := 1069) (by decide +kernel)) (by decide +kernel)
theorem ml_RX5_257 : Cond.methodLink RX5 257 yX5_fitsOf ∈ gw := gw_mem (List.mem_of_getElem? (i := 1065) (by decide +kernel)) (by decide +kernel)
theorem ml_RX5_262 : Cond.methodLink RX5 262 yX5_part ∈ gw := gw_mem (List.mem_of_getElem? (i := 1082) (by decide +kernel)) (by decide +kernel)
theorem ml_RX5_266 : Cond.methodLink RX5 266 yX5_sinksOf ∈ gw := gw_mem (List.mem_of_getElem? (i := 1078) (by decide +kernel)) (by decide +kernel)
theorem ml_RX5_270 : Cond.methodLink RX5 270 yX5_no ∈ gw := gw_mem (List.mem_of_getElem? (i := 1085) (by decide +kernel)) (by decide +kernel)
theorem ml_RX5_277 : Cond.methodLink RX5 277 yX5_morningsOf ∈ gw := gw_mem (List.mem_of_getElem? (i := 1094) (by decide +kernel)) (by decide +kernel)
theorem ml_RX5_284 : Cond.methodLink RX5 284 yX5_count ∈ gw := gw_mem (List.mem_of_getElem? (i := 1113) (by decide +kernel)) (by decide +kernel)
theorem ml_RX5_287 : Cond.methodLink RX5 287 yX5_tellsTurns ∈ gw := gw_mem (List.mem_of_getElem? (i := 1114) (by decide +kernel)) (by decide +kernel)
theorem ml_RX5_291 : Cond.methodLink RX5 291 yX5_tellsLaw ∈ gw := gw_mem (List.mem_of_getElem? (i := 1118) (by decide +kernel)) (by decide +kernel)
theorem ml_RJ13_311 : Cond.methodLink RJ13 311 yJ6_numberOfTrailingZeros_0f7a4 ∈ gw := gw_mem (List.mem_of_getElem? (i := 591) (by decide +kernel)) (by decide +kernel)
theorem ml_RJ0_335 : Cond.methodLink RJ0 335 yJ0_coder_7d493 ∈ gw := gw_mem (List.mem_of_getElem? (i := 240) (by decide +kernel)) (by decide +kernel)
theorem ml_RJ0_492 : Cond.methodLink RJ0 492 yJ0_isLatin1_aae02 ∈ gw := gw_mem (List.mem_of_getElem? (i := 230) (by decide +kernel)) (by decide +kernel)
theorem ml_RJ0_505 : Cond.methodLink RJ0 505 yJ0_length_8abf5 ∈ gw := gw_mem (List.mem_of_getElem? (i := 236) (by decide +kernel)) (by decide +kernel)
theorem ml_RJ0_633 : Cond.methodLink RJ0 633 yJ0_indexOf_7cf53 ∈ gw := gw_mem (List.mem_of_getElem? (i := 226) (by decide +kernel)) (by decide +kernel)
theorem ml_RJ0_637 : Cond.methodLink RJ0 637 yJ1_indexOf_4cfef ∈ gw := gw_mem (List.mem_of_getElem? (i := 244) (by decide +kernel)) (by decide +kernel)
theorem ml_RJ0_640 : Cond.methodLink RJ0 640 yJ2_indexOf_4cfef ∈ gw := gw_mem (List.mem_of_getElem? (i := 259) (by decide +kernel)) (by decide +kernel)
theorem ml_RJ0_1062 : Cond.methodLink RJ0 1062 yJ3_checkFromToIndex_8c36e ∈ gw := gw_mem (List.mem_of_getElem? (i := 279) (by decide +kernel)) (by decide +kernel)
theorem ml_RJ1_38 : Cond.methodLink RJ1 38 yJ9_min_7cf53 ∈ gw := gw_mem (List.mem_of_getElem? (i := 253) (by decide +kernel)) (by decide +kernel)
theorem ml_RJ1_88 : Cond.methodLink RJ1 88 yJ1_canEncode_9a6ad ∈ gw := gw_mem (List.mem_of_getElem? (i := 247) (by decide +kernel)) (by decide +kernel)
theorem ml_RJ1_92 : Cond.methodLink RJ1 92 yJ9_max_7cf53 ∈ gw := gw_mem (List.mem_of_getElem? (i := 250) (by decide +kernel)) (by decide +kernel)
theorem ml_RJ1_95 : Cond.methodLink RJ1 95 yJ1_indexOfChar_4cfef ∈ gw := gw_mem (List.mem_of_getElem? (i := 256) (by decide +kernel)) (by decide +kernel)
theorem kn_RX4_181 : Cond.constantLong RX4 181 (-9223372036854775806) ∈ gw := gw_mem (List.mem_of_getElem? (i := 576) (by decide +kernel)) (by decide +kernel)
theorem kn_RX4_198 : Cond.constant RX4 198 (1103515245) ∈ gw := gw_mem (List.mem_of_getElem? (i := 597) (by decide +kernel)) (by decide +kernel)
theorem kn_RX4_213 : Cond.constant RX4 213 (-2147483648) ∈ gw := gw_mem (List.mem_of_getElem? (i := 629) (by decide +kernel)) (by decide +kernel)
theorem kn_RX4_233 : Cond.constantLong RX4 233 (17) ∈ gw := gw_mem (List.mem_of_getElem? (i := 657) (by decide +kernel)) (by decide +kernel)
theorem kn_RX4_235 : Cond.constantLong RX4 235 (31) ∈ gw := gw_mem (List.mem_of_getElem? (i := 658) (by decide +kernel)) (by decide +kernel)
theorem kn_RX5_59 : Cond.constantLong RX5 59 (-9223372036854775808) ∈ gw := gw_mem (List.mem_of_getElem? (i := 1088) (by decide +kernel)) (by decide +kernel)
theorem kn_RX5_68 : Cond.constantLong RX5 68 (3) ∈ gw := gw_mem (List.mem_of_getElem? (i := 779) (by decide +kernel)) (by decide +kernel)
theorem kn_RX5_74 : Cond.constantLong RX5 74 (2) ∈ gw := gw_mem (List.mem_of_getElem? (i := 783) (by decide +kernel)) (by decide +kernel)
theorem kn_RX5_88 : Cond.constant RX5 88 (-2147483648) ∈ gw := gw_mem (List.mem_of_getElem? (i := 807) (by decide +kernel)) (by decide +kernel)
theorem kn_RX5_92 : Cond.constantLong RX5 92 (255) ∈ gw := gw_mem (List.mem_of_getElem? (i := 819) (by decide +kernel)) (by decide +kernel)
theorem kn_RX5_125 : Cond.constantLong RX5 125 (7) ∈ gw := gw_mem (List.mem_of_getElem? (i := 889) (by decide +kernel)) (by decide +kernel)
theorem kn_RX5_127 : Cond.constantLong RX5 127 (27) ∈ gw := gw_mem (List.mem_of_getElem? (i := 885) (by decide +kernel)) (by decide +kernel)
theorem kn_RX5_135 : Cond.constantLong RX5 135 (4) ∈ gw := gw_mem (List.mem_of_getElem? (i := 872) (by decide +kernel)) (by decide +kernel)
theorem kn_RX5_137 : Cond.constantLong RX5 137 (5) ∈ gw := gw_mem (List.mem_of_getElem? (i := 877) (by decide +kernel)) (by decide +kernel)
theorem kn_RX5_260 : Cond.constantLong RX5 260 (16) ∈ gw := gw_mem (List.mem_of_getElem? (i := 1077) (by decide +kernel)) (by decide +kernel)
theorem kn_RX5_274 : Cond.constant RX5 274 (1103515245) ∈ gw := gw_mem (List.mem_of_getElem? (i := 1098) (by decide +kernel)) (by decide +kernel)
theorem kn_RX5_275 : Cond.constantLong RX5 275 (99) ∈ gw := gw_mem (List.mem_of_getElem? (i := 1093) (by decide +kernel)) (by decide +kernel)
theorem kn_RX5_280 : Cond.constantLong RX5 280 (31) ∈ gw := gw_mem (List.mem_of_getElem? (i := 1112) (by decide +kernel)) (by decide +kernel)
theorem kn_RX5_282 : Cond.constantLong RX5 282 (17) ∈ gw := gw_mem (List.mem_of_getElem? (i := 1111) (by decide +kernel)) (by decide +kernel)
theorem kn_RJ11_76 : Cond.constant RJ11 76 (56320) ∈ gw := gw_mem (List.mem_of_getElem? (i := 307) (by decide +kernel)) (by decide +kernel)
theorem kn_RJ11_110 : Cond.constant RJ11 110 (55232) ∈ gw := gw_mem (List.mem_of_getElem? (i := 303) (by decide +kernel)) (by decide +kernel)
theorem kn_RJ6_264 : Cond.constant RJ6 264 (65536) ∈ gw := gw_mem (List.mem_of_getElem? (i := 490) (by decide +kernel)) (by decide +kernel)
theorem kn_RJ6_265 : Cond.constant RJ6 265 (1431655765) ∈ gw := gw_mem (List.mem_of_getElem? (i := 472) (by decide +kernel)) (by decide +kernel)
theorem kn_RJ6_266 : Cond.constant RJ6 266 (858993459) ∈ gw := gw_mem (List.mem_of_getElem? (i := 473) (by decide +kernel)) (by decide +kernel)
theorem kn_RJ6_267 : Cond.constant RJ6 267 (252645135) ∈ gw := gw_mem (List.mem_of_getElem? (i := 474) (by decide +kernel)) (by decide +kernel)
theorem kn_RJ2_227 : Cond.constant RJ2 227 (65536) ∈ gw := gw_mem (List.mem_of_getElem? (i := 264) (by decide +kernel)) (by decide +kernel)
theorem ml_RX4_220 : Cond.methodLink RX4 220 arraycopyName ∈ gw := gw_mem (List.mem_of_getElem? (i := 638) (by decide +kernel)) (by decide +kernel)
theorem ac_native : Cond.native arraycopyName ∈ gw := gw_mem (List.mem_of_getElem? (i := 640) (by decide +kernel)) (by decide +kernel)
theorem ac_static : Cond.static arraycopyName ∈ gw := gw_mem (List.mem_of_getElem? (i := 639) (by decide +kernel)) (by decide +kernel)
theorem ac_init : Cond.initialized "java/lang/System" ∈ gw := gw_mem (List.mem_of_getElem? (i := 15) (by decide +kernel)) (by decide +kernel)
end
